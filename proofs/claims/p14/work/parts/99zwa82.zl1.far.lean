section
/-! turn and back leave every cell from 100 on -/
def farP (A : pm_A) (r : pm_R) : Prop := ∀ r_z j_z : Int, 100 ≤ r_z → r.2 r_z j_z = A r_z j_z
theorem se_h1 {A C : pm_A} {k : Int} (h : StE A) (hP : sePX A 1 4 k (none, C)) {r : Int} (hr : 100 ≤ r) (j : Int) : C r j = A r j := by
  have m8_z : A 1 2 = 2 := (h.2.2.2.2.2.1 1 (by omega) kk1).1
  obtain ⟨_, c1_z, c2_z, c3_z⟩ := hP
  simp only at c1_z c2_z c3_z
  rw [c2_z r j (by rw [m8_z]; omega)]
  exact swp_ne (by omega) (by omega)
theorem tn_52f {s : cx_Sd 12} {ks : List (Fin 12)} {A C : pm_A} {f : Fin 12} (hk : (f.1 : Int) < A 1 0) (hok : A 0 4 < 100 ∧ ¬ spB s ks f ∧ itA A f.1) (hTC : TrX s (ks ++ [f]) C 1) (hSC : StE C) (e0 : ∀ j_z : Int, C 0 j_z = A 0 j_z) (e46 : ∀ j_z : Int, C 46 j_z = A 46 j_z) (e1 : ∀ j_z : Int, C 1 j_z = A 1 j_z) (eH : ∀ r_z j_z : Int, 100 ≤ r_z → C r_z j_z = A r_z j_z) : Tm pmt (an_sh wX) o_X9_turn 52 ([(2, 0), (0, (f.1 : Int))], [], C) (farP A) := by
  have t4_z := fX_0_4 hSC.1 z0 kk0
  have m46 := hSC.2.2.1.2.2.2.2
  have a1_z := hSC.2.1.1.1
  have a5 := hSC.2.1.1.2.2.2.2.1
  have p6_z := fX_1_0 hSC.1 (r := 1) (by omega) kk1
  have e04 := e0 4
  have ep := e1 0
  refine wq_ok srt_turn (fr := []) (cuts := [72]) (J := fun pc st_z => pc = 72 ∧ st_z = ([(2, 0), (0, (f.1 : Int))], [], pm_upd (pm_upd C (C 0 3) (C 0 4) (f.1 : Int)) 0 4 (pm_upd C (C 0 3) (C 0 4) (f.1 : Int) 0 4 + 1))) ?_ 20 52 _ ?_
  · rintro pc st_z ⟨rfl, rfl⟩
    rw [m46]
    have u04 : pm_upd C 46 (C 0 4) (f.1 : Int) 0 4 = C 0 4 := upd_ne (by omega)
    rw [u04]
    have hD : gH wX (pm_upd C 46 (C 0 4) (f.1 : Int)) := uX_19 hSC.1 kk46 (by omega) (by omega)
    have hE : gH wX (pm_upd (pm_upd C 46 (C 0 4) (f.1 : Int)) 0 4 (C 0 4 + 1)) := put_t hD (by omega) (by omega)
    have hne : ∀ r_z j_z : Int, ¬ (r_z = 0 ∧ j_z = 4) → ¬ r_z = 46 → pm_upd (pm_upd C 46 (C 0 4) (f.1 : Int)) 0 4 (C 0 4 + 1) r_z j_z = C r_z j_z := fun r_z j_z h1 h2 => by
      rw [upd_o h1, upd_ne h2]
    have h04 : pm_upd (pm_upd C 46 (C 0 4) (f.1 : Int)) 0 4 (C 0 4 + 1) 0 4 = C 0 4 + 1 := upd_at
    have h46 : ∀ d_z : Int, pm_upd (pm_upd C 46 (C 0 4) (f.1 : Int)) 0 4 (C 0 4 + 1) 46 d_z = if d_z = C 0 4 then (f.1 : Int) else C 46 d_z := fun d_z => by
      rw [upd_ne (by omega)]
      by_cases e_z : d_z = C 0 4
      · rw [if_pos e_z, e_z, upd_at]
      · rw [if_neg e_z, upd_n2 e_z]
    generalize pm_upd (pm_upd C 46 (C 0 4) (f.1 : Int)) 0 4 (C 0 4 + 1) = E_z at hE hne h04 h46
    have hSE_z := hSC.far hE hne
    have hTE := hTC.far hE (fun r_z j_z h1 h2 => hne r_z j_z (fun q_z => h1 q_z.1) h2)
    have f1_z : E_z 0 0 = 1 := hSE_z.2.1.1.1
    have f4_z : E_z 1 4 = 4 := hSE_z.2.1.1.2.2.2.2.1
    have el := eX_12 hSE_z.1 (r := 4) (by omega) kk4 (j := (f.1 : Int)) (by omega) (by omega)
    refine wq_ok srt_turn (fr := []) (cuts := []) (J := fun pc st_z => False) (fun _ _ h_z => h_z.elim) 20 72 _ ?_
    refine ⟨oX_0 z0 kk0 0 rfl, ?_⟩
    refine ⟨oX_1 (by rw [f1_z]; omega) (by rw [f1_z]; exact kk1) 4 rfl, ?_⟩
    refine ⟨aX_12 (by rw [f1_z, f4_z]; omega) (by rw [f1_z, f4_z]; exact kk4) (by omega) (by omega), ?_⟩
    refine ⟨oX_2 (by rw [f1_z, f4_z]; exact el.1) (by rw [f1_z, f4_z]; exact el.2) 1 rfl, ?_⟩
    refine ⟨rfl, fun r_z j_z hr => ?_⟩
    show E_z r_z j_z = A r_z j_z
    rw [hne r_z j_z (by omega) (by omega)]
    exact eH r_z j_z hr
  · refine ⟨oX_0 z0 kk0 3 rfl, ?_⟩
    refine ⟨oX_0 z0 kk0 4 rfl, ?_⟩
    refine ⟨tX_19 (by rw [m46]; omega) (by rw [m46]; exact kk46) t4_z.1 (by omega) rfl, ?_⟩
    refine ⟨oX_0 z0 kk0 4 rfl, ?_⟩
    have u04 : pm_upd C (C 0 3) (C 0 4) (f.1 : Int) 0 4 = C 0 4 := by rw [m46]; exact upd_ne (by omega)
    refine ⟨(show r32 (pm_upd C (C 0 3) (C 0 4) (f.1 : Int) 0 4 + 1) by rw [u04]; exact ⟨by omega, by omega⟩), ?_⟩
    refine ⟨oX_0 z0 kk0 4 rfl, ?_⟩
    exact ⟨rfl, rfl⟩
theorem turn_far {s : cx_Sd 12} {ks : List (Fin 12)} {A : pm_A} {k : Int} (hS : StE A) (hT : TrX s ks A 1) (hk : r32 k) : Cl pmt (an_sh wX) 115 [(2, 0), (0, k)] A (farP A) := by
  have a1_z := hS.2.1.1.1
  have a2 := hS.2.1.1.2.1
  have p6_z := fX_1_0 hS.1 (r := 1) (by omega) kk1
  have h3 := hS.ex own1
  refine Cl.of (Nat.le_of_ble_eq_true rfl) ?_
  refine wq_ok (full := o_X9_turn) srt_turn (fr := []) (cuts := [10]) (J := fun pc st_z => pc = 10 ∧ (0 ≤ k ∧ k < A 1 0) ∧ st_z = ([(2, 0), (0, k)], [], A)) ?_ 20 0 _ ?_
  · rintro pc st_z ⟨rfl, hkk, rfl⟩
    obtain ⟨f_z, rfl⟩ : ∃ f_z : Fin 12, k = (f_z.1 : Int) := ⟨⟨k.toNat, by omega⟩, by show k = ((k.toNat : Nat) : Int); omega⟩
    refine wq_ok srt_turn (fr := []) (cuts := [28]) (J := fun pc st_z => pc = 28 ∧ ∃ B_z, exPX s ks f_z A 28 1 (some (0, 1), B_z) ∧ st_z = ([(2, 0), (0, (f_z.1 : Int))], [], B_z)) ?_ 20 10 _ ?_
    · rintro pc st_z ⟨rfl, B_z, ⟨hF, hB_z⟩, rfl⟩
      simp only at hF hB_z
      rcases hB_z with ⟨q_z, _⟩ | ⟨_, hok, c0_z, cs, cc, cv⟩
      · cases q_z
      · have hSB := hS.keep hF
        have hTB := hT.keep h3 hF
        obtain ⟨e28_z, eg, et, el⟩ := hF.gs hS.1 h3
        have eB0 : ∀ j_z : Int, B_z 0 j_z = A 0 j_z := fun j_z => hF.2.1 0 j_z (ml_no hS.1 ⟨by omega, kk28⟩ kk0 (by decide) (by decide) (by decide) (by decide))
        have eB46 : ∀ j_z : Int, B_z 46 j_z = A 46 j_z := fun j_z => hF.2.1 46 j_z (ml_no hS.1 ⟨by omega, kk28⟩ kk46 (by decide) (by decide) (by decide) (by decide))
        refine wq_ok srt_turn (fr := []) (cuts := [40]) (J := fun pc st_z => pc = 40 ∧ A 0 4 < 100 ∧ st_z = ([(2, 0), (0, (f_z.1 : Int))], [], B_z)) ?_ 20 28 _ ?_
        · rintro pc st_z ⟨rfl, ht, rfl⟩
          refine wq_ok srt_turn (fr := []) (cuts := [52]) (J := fun pc st_z => pc = 52 ∧ ∃ C_z, sePX B_z 1 4 f_z.1 (none, C_z) ∧ st_z = ([(2, 0), (0, (f_z.1 : Int))], [], C_z)) ?_ 20 40 _ ?_
          · rintro pc st_z ⟨rfl, C_z, hC, rfl⟩
            obtain ⟨k1_z, k2_z, k3_z⟩ := se_keep hSB own1 hC
            exact tn_52f hkk.2 ⟨ht, hok.1, hok.2⟩ (hT.next hS own1 hkk.2 hF hok.2 c0_z cs cc cv hC) (hSB.swap own1 (by omega) (by omega) hC.2.1 hC.2.2.1) (fun j_z => by rw [k1_z j_z]; exact eB0 j_z) (fun j_z => by rw [k2_z j_z]; exact eB46 j_z) (fun j_z => by rw [k3_z j_z]; exact eg j_z) (fun r_z j_z hr => by rw [se_h1 hSB hC hr]; exact exF.hi hS hF hr j_z)
          · refine ⟨oX_0 z0 kk0 2 rfl, ?_⟩
            refine ⟨oX_0 z0 kk0 0 rfl, ?_⟩
            have b1 := hSB.2.1.1.1
            have b2 := hSB.2.1.1.2.1
            refine ⟨rX_4 (r := B_z 0 2) (by rw [b2]; omega) (by rw [b2]; exact kk28), ?_⟩
            show Cl pmt (an_sh wX) 47 [(2, B_z 0 2), (2, B_z 0 0), (0, (f_z.1 : Int))] B_z _
            rw [b1, b2]
            refine (settle_exX hSB own1 (by omega) (by rw [eg 0]; exact hkk.2) hTB.2.2.2.2.2.2.1).imp ?_
            rintro ⟨r1_z, C_z⟩ hC
            have hr1 : r1_z = none := hC.1
            subst hr1
            exact ⟨rfl, C_z, hC, rfl⟩
        · refine ⟨oX_0 z0 kk0 4 rfl, ?_⟩
          refine ⟨fun h_z => ⟨rfl, by rw [eB0 4] at h_z; exact h_z, rfl⟩, fun h_z => ?_⟩
          rw [eB0 4] at h_z
          exact ⟨rfl, fun r_z j_z hr => exF.hi hS hF hr j_z⟩
    · refine ⟨oX_0 z0 kk0 2 rfl, ?_⟩
      refine ⟨oX_0 z0 kk0 0 rfl, ?_⟩
      refine ⟨rX_4 (r := A 0 2) (by rw [a2]; omega) (by rw [a2]; exact kk28), ?_⟩
      show Cl pmt (an_sh wX) 42 [(2, A 0 2), (2, A 0 0), (0, (f_z.1 : Int))] A _
      rw [a1_z, a2]
      refine (exchange_exX hT h3 hkk.2).imp ?_
      rintro ⟨r1_z, B_z⟩ hB_z
      have hB0 := hB_z
      obtain ⟨hF, hB_z⟩ := hB_z
      simp only at hF hB_z
      rcases hB_z with ⟨rfl, h9⟩ | ⟨rfl, _⟩
      · refine ⟨fun hh => absurd rfl hh, fun _ => ?_⟩
        exact ⟨rfl, fun r_z j_z hr => exF.hi hS hF hr j_z⟩
      · refine ⟨fun _ => ?_, fun hh => absurd hh (by decide)⟩
        exact ⟨rfl, B_z, hB0, rfl⟩
  · refine ⟨rX_0 z0 kk0, ?_⟩
    refine (isPlace_ex hS hk).imp ?_
    rintro ⟨r1_z, C_z⟩ ⟨g1, g2⟩
    simp only at g1 g2
    subst g1
    rcases g2 with ⟨rfl, g3_z⟩ | ⟨rfl, g3_z⟩
    · refine ⟨fun _ => ?_, fun hh => absurd hh (by decide)⟩
      exact ⟨rfl, g3_z, rfl⟩
    · refine ⟨fun hh => absurd rfl hh, fun _ => ?_⟩
      exact ⟨rfl, fun _ _ _ => rfl⟩
theorem bk_68f {s : cx_Sd 12} {ks : List (Fin 12)} {A C : pm_A} {f : Fin 12} (hok : ¬ spB s ks f ∧ itA A f.1) (h4 : 1 ≤ A 0 4) (hTC : TrX s (ks ++ [f]) C 1) (hSC : StE C) (e0 : ∀ j_z : Int, C 0 j_z = A 0 j_z) (e46 : ∀ j_z : Int, C 46 j_z = A 46 j_z) (e1 : ∀ j_z : Int, C 1 j_z = A 1 j_z) (eH : ∀ r_z j_z : Int, 100 ≤ r_z → C r_z j_z = A r_z j_z) : Tm pmt (an_sh wX) o_X9_back 68 ([(2, 0), (0, (f.1 : Int))], [], C) (farP A) := by
  have t4_z := fX_0_4 hSC.1 z0 kk0
  have e04 := e0 4
  have hE : gH wX (pm_upd C 0 4 (C 0 4 - 1)) := put_t hSC.1 (by omega) (by omega)
  have hne : ∀ r_z j_z : Int, ¬ (r_z = 0 ∧ j_z = 4) → pm_upd C 0 4 (C 0 4 - 1) r_z j_z = C r_z j_z := fun r_z j_z h1 => upd_o h1
  have h04 : pm_upd C 0 4 (C 0 4 - 1) 0 4 = C 0 4 - 1 := upd_at
  have hSE_z := hSC.far hE (fun r_z j_z h1 _ => hne r_z j_z h1)
  have hTE := hTC.far hE (fun r_z j_z h1 _ => hne r_z j_z (fun q_z => h1 q_z.1))
  refine wq_ok srt_back (fr := []) (cuts := []) (J := fun pc st_z => False) (fun _ _ h_z => h_z.elim) 20 68 _ ?_
  refine ⟨oX_0 z0 kk0 4 rfl, ?_⟩
  refine ⟨⟨by omega, by omega⟩, ?_⟩
  refine ⟨oX_0 z0 kk0 4 rfl, ?_⟩
  refine ⟨rfl, fun r_z j_z hr => ?_⟩
  show pm_upd C 0 4 (C 0 4 - 1) r_z j_z = A r_z j_z
  rw [hne r_z j_z (by omega)]
  exact eH r_z j_z hr
theorem back_far {s : cx_Sd 12} {ks : List (Fin 12)} {A : pm_A} {f : Fin 12} (hS : StE A) (hT : TrX s ks A 1) (h4 : 1 ≤ A 0 4) (hf : A 46 (A 0 4 - 1) = (f.1 : Int)) (hk : (f.1 : Int) < A 1 0) : Cl pmt (an_sh wX) 86 [(2, 0)] A (farP A) := by
  have a1_z := hS.2.1.1.1
  have a2 := hS.2.1.1.2.1
  have m46 := hS.2.2.1.2.2.2.2
  have t4_z := fX_0_4 hS.1 z0 kk0
  have p6_z := fX_1_0 hS.1 (r := 1) (by omega) kk1
  have h3 := hS.ex own1
  have ef : A (A 0 3) (A 0 4 - 1) = (f.1 : Int) := by rw [m46]; exact hf
  refine Cl.of (Nat.le_of_ble_eq_true rfl) ?_
  refine wq_ok (full := o_X9_back) srt_back (fr := []) (cuts := [31]) (J := fun pc st_z => pc = 31 ∧ st_z = ([(2, 0), (0, A (A 0 3) (A 0 4 - 1))], [], A)) ?_ 20 0 _ ?_
  · rintro pc st_z ⟨rfl, rfl⟩
    rw [ef]
    refine wq_ok srt_back (fr := []) (cuts := [39]) (J := fun pc st_z => pc = 39 ∧ st_z = ([(2, 0), (0, (f.1 : Int))], [], A)) ?_ 20 31 _ ?_
    · rintro pc st_z ⟨rfl, rfl⟩
      refine wq_ok srt_back (fr := []) (cuts := [56]) (J := fun pc st_z => pc = 56 ∧ ∃ B_z, exPX s ks f A 28 1 (some (0, 1), B_z) ∧ st_z = ([(2, 0), (0, (f.1 : Int))], [], B_z)) ?_ 20 39 _ ?_
      · rintro pc st_z ⟨rfl, B_z, ⟨hF, hB_z⟩, rfl⟩
        simp only at hF hB_z
        rcases hB_z with ⟨q_z, _⟩ | ⟨_, hok, c0_z, cs, cc, cv⟩
        · cases q_z
        · have hSB := hS.keep hF
          have hTB := hT.keep h3 hF
          obtain ⟨e28_z, eg, et, el⟩ := hF.gs hS.1 h3
          have eB0 : ∀ j_z : Int, B_z 0 j_z = A 0 j_z := fun j_z => hF.2.1 0 j_z (ml_no hS.1 ⟨by omega, kk28⟩ kk0 (by decide) (by decide) (by decide) (by decide))
          have eB46 : ∀ j_z : Int, B_z 46 j_z = A 46 j_z := fun j_z => hF.2.1 46 j_z (ml_no hS.1 ⟨by omega, kk28⟩ kk46 (by decide) (by decide) (by decide) (by decide))
          refine wq_ok srt_back (fr := []) (cuts := [68]) (J := fun pc st_z => pc = 68 ∧ ∃ C_z, sePX B_z 1 4 f.1 (none, C_z) ∧ st_z = ([(2, 0), (0, (f.1 : Int))], [], C_z)) ?_ 20 56 _ ?_
          · rintro pc st_z ⟨rfl, C_z, hC, rfl⟩
            obtain ⟨k1_z, k2_z, k3_z⟩ := se_keep hSB own1 hC
            exact bk_68f hok h4 (hT.next hS own1 hk hF hok.2 c0_z cs cc cv hC) (hSB.swap own1 (by omega) (by omega) hC.2.1 hC.2.2.1) (fun j_z => by rw [k1_z j_z]; exact eB0 j_z) (fun j_z => by rw [k2_z j_z]; exact eB46 j_z) (fun j_z => by rw [k3_z j_z]; exact eg j_z) (fun r_z j_z hr => by rw [se_h1 hSB hC hr]; exact exF.hi hS hF hr j_z)
          · refine ⟨oX_0 z0 kk0 2 rfl, ?_⟩
            refine ⟨oX_0 z0 kk0 0 rfl, ?_⟩
            have b1 := hSB.2.1.1.1
            have b2 := hSB.2.1.1.2.1
            refine ⟨rX_4 (r := B_z 0 2) (by rw [b2]; omega) (by rw [b2]; exact kk28), ?_⟩
            show Cl pmt (an_sh wX) 47 [(2, B_z 0 2), (2, B_z 0 0), (0, (f.1 : Int))] B_z _
            rw [b1, b2]
            refine (settle_exX hSB own1 (by omega) (by rw [eg 0]; exact hk) hTB.2.2.2.2.2.2.1).imp ?_
            rintro ⟨r1_z, C_z⟩ hC
            have hr1 : r1_z = none := hC.1
            subst hr1
            exact ⟨rfl, C_z, hC, rfl⟩
      · refine ⟨oX_0 z0 kk0 2 rfl, ?_⟩
        refine ⟨oX_0 z0 kk0 0 rfl, ?_⟩
        refine ⟨rX_4 (r := A 0 2) (by rw [a2]; omega) (by rw [a2]; exact kk28), ?_⟩
        show Cl pmt (an_sh wX) 42 [(2, A 0 2), (2, A 0 0), (0, (f.1 : Int))] A _
        rw [a1_z, a2]
        refine (exchange_exX hT h3 hk).imp ?_
        rintro ⟨r1_z, B_z⟩ hB_z
        have hB0 := hB_z
        obtain ⟨hF, hB_z⟩ := hB_z
        simp only at hF hB_z
        rcases hB_z with ⟨rfl, h9⟩ | ⟨rfl, _⟩
        · refine ⟨fun hh => absurd rfl hh, fun _ => ?_⟩
          exact ⟨rfl, fun r_z j_z hr => exF.hi hS hF hr j_z⟩
        · refine ⟨fun _ => ?_, fun hh => absurd hh (by decide)⟩
          exact ⟨rfl, B_z, hB0, rfl⟩
    · refine ⟨rX_0 z0 kk0, ?_⟩
      refine (isPlace_ex hS (k := (f.1 : Int)) ⟨by omega, by omega⟩).imp ?_
      rintro ⟨r1_z, C_z⟩ ⟨g1, g2⟩
      simp only at g1 g2
      subst g1
      rcases g2 with ⟨rfl, g3_z⟩ | ⟨rfl, g3_z⟩
      · refine ⟨fun hh => absurd hh (by decide), fun _ => ?_⟩
        exact ⟨rfl, rfl⟩
      · exact absurd ⟨by omega, hk⟩ g3_z
  · refine ⟨oX_0 z0 kk0 4 rfl, ?_⟩
    refine ⟨fun h_z => absurd h_z (by omega), fun h_z => ?_⟩
    refine ⟨oX_0 z0 kk0 4 rfl, ?_⟩
    refine ⟨fun h5 => ?_, fun h5 => absurd h5 (by omega)⟩
    refine ⟨oX_0 z0 kk0 3 rfl, ?_⟩
    refine ⟨oX_0 z0 kk0 4 rfl, ?_⟩
    refine ⟨⟨by omega, by omega⟩, ?_⟩
    refine ⟨aX_19 (by rw [m46]; omega) (by rw [m46]; exact kk46) (by omega) (by omega), ?_⟩
    exact ⟨rfl, rfl⟩
end

section
/-! the reference's same, exactly -/
abbrev mdQ (A : pm_A) (q : Int) : Prop := mdM A (6 + 6 * q) (fun x_z => A 15 (72 * q + x_z))
def sQm (A : pm_A) (q : Int) (r : pm_R) : Prop := boF A r.2 ∧ ((r.1 = some (0, 1) ∧ mdQ A q) ∨ (r.1 = some (0, 0) ∧ ¬ mdQ A q))
theorem ip_140 {A B : pm_A} {q i : Int} (hA : gH wM A) (q0 : 0 ≤ q) (q1 : q ≤ 3) (hB : boF A B) (ho : ∀ d_z : Int, 0 ≤ d_z → d_z < A 0 7 → ¬ B 16 d_z = -1 ∧ lstM A (6 + 6 * q) d_z (A 0 7) (B 16 d_z)) (i0 : 0 ≤ i) (i1 : i < A 0 7 + A 0 8) (H : (∀ j_z : Int, 0 ≤ j_z → j_z < A 0 7 → A 5 (6 * i + j_z) = A 15 (72 * q + (6 * rwS (A 0 7) (B 16) i + B 16 j_z))) → ∀ v3 v4_z, Tm pmt (an_sh wM) o_X10_same 212 ([(2, 0), (0, q), (0, i), v3, v4_z], [], B) (sQm A q)) : ∀ (n_z : Nat) (j_z : Int) (v4_z : pm_V), (6 - j_z).toNat < n_z → 0 ≤ j_z → j_z ≤ A 0 7 → (∀ d_z : Int, 0 ≤ d_z → d_z < j_z → A 5 (6 * i + d_z) = A 15 (72 * q + (6 * rwS (A 0 7) (B 16) i + B 16 d_z))) → Tm pmt (an_sh wM) o_X10_same 140 ([(2, 0), (0, q), (0, i), (0, j_z), v4_z], [], B) (sQm A q) := by
  have p6_z := fM_0_7 hA (r := 0) (by omega) km0
  have p8 := fM_0_8 hA (r := 0) (by omega) km0
  have c9_z := pM_9 hB.1
  have c22_z := pM_22 hB.1
  have c23_z := pM_23 hB.1
  have e7_z : B 0 7 = A 0 7 := hB.2 0 7 (by omega)
  have hS_z : ∀ d_z : Int, 0 ≤ d_z → d_z < A 0 7 → 0 ≤ B 16 d_z ∧ B 16 d_z < A 0 7 := fun d_z d0_z d1_z => by
    rcases ho d_z d0_z d1_z with ⟨h1, ⟨h2, _⟩ | ⟨h2, _⟩⟩
    · exact absurd h2 h1
    · exact h2
  have hrd : rwS (A 0 7) (B 16) i = if i < A 0 7 then B 16 i else i := rfl
  have hr : 0 ≤ rwS (A 0 7) (B 16) i ∧ rwS (A 0 7) (B 16) i ≤ 11 := by
    rw [hrd]
    by_cases q_z : i < A 0 7
    · rw [if_pos q_z]; have := hS_z i i0 q_z; omega
    · rw [if_neg q_z]; omega
  have hno : ∀ j_z : Int, 0 ≤ j_z → j_z < A 0 7 → ¬ A 5 (6 * i + j_z) = A 15 (72 * q + (6 * rwS (A 0 7) (B 16) i + B 16 j_z)) → ¬ mdQ A q := fun j_z j0 j1 hne ⟨S_z, hS1, hS2⟩ => hne (mtc_cong (fun d_z d0_z d1_z => lstM_u (hS1 d_z d0_z d1_z).2 (ho d_z d0_z d1_z).2) hS2 i j_z i0 i1 j0 j1)
  intro n_z
  induction n_z with
  | zero => intro j_z v4_z h_z; omega
  | succ n_z ih_z =>
    intro j_z v4_z hn j0 j1 hd_z
    have h168 : j_z < A 0 7 → Tm pmt (an_sh wM) o_X10_same 168 ([(2, 0), (0, q), (0, i), (0, j_z), (0, rwS (A 0 7) (B 16) i)], [], B) (sQm A q) := fun hj => by
      generalize rwS (A 0 7) (B 16) i = r_z at H hr hno hd_z ih_z
      refine wq_ok srt_sameR (fr := []) (cuts := [140]) (J := fun pc st_z => pc = 140 ∧ A 5 (6 * i + j_z) = A 15 (72 * q + (6 * r_z + B 16 j_z)) ∧ st_z = ([(2, 0), (0, q), (0, i), (0, j_z + 1), (0, r_z)], [], B)) ?_ 60 168 _ ?_
      · rintro pc st_z ⟨rfl, he, rfl⟩
        refine ih_z (j_z + 1) _ (by omega) (by omega) (by omega) (fun d_z d0_z d1_z => ?_)
        by_cases e_z : d_z = j_z
        · rw [e_z]; exact he
        · exact hd_z d_z d0_z (by omega)
      · have oj := hS_z j_z j0 hj
        have e23_z : B (B 0 23) j_z = B 16 j_z := by rw [c23_z]
        refine ⟨oM_0 (by omega) km0 9 rfl, ?_⟩
        refine ⟨⟨by omega, by omega⟩, ?_⟩
        refine ⟨⟨by omega, by omega⟩, ?_⟩
        refine ⟨aM_5 (r := B 0 9) (by rw [c9_z]; omega) (by rw [c9_z]; exact km5) (by omega) (by omega), ?_⟩
        refine ⟨oM_0 (by omega) km0 22 rfl, ?_⟩
        refine ⟨⟨by omega, by omega⟩, ?_⟩
        refine ⟨⟨by omega, by omega⟩, ?_⟩
        refine ⟨⟨by omega, by omega⟩, ?_⟩
        refine ⟨oM_0 (by omega) km0 23 rfl, ?_⟩
        refine ⟨aM_16 (r := B 0 23) (by rw [c23_z]; omega) (by rw [c23_z]; exact km16) j0 (by omega), ?_⟩
        refine ⟨by show r32 (72 * q + 6 * r_z + B (B 0 23) j_z); rw [e23_z]; exact ⟨by omega, by omega⟩, ?_⟩
        refine ⟨aM_15 (r := B 0 22) (by rw [c22_z]; omega) (by rw [c22_z]; exact kn15) (by show 0 ≤ 72 * q + 6 * r_z + B (B 0 23) j_z; rw [e23_z]; omega) (by show 72 * q + 6 * r_z + B (B 0 23) j_z < 288; rw [e23_z]; omega), ?_⟩
        have ea : B (B 0 9) (6 * i + j_z) = A 5 (6 * i + j_z) := by rw [c9_z]; exact hB.2 5 _ (by omega)
        have eb : B (B 0 22) (72 * q + 6 * r_z + B (B 0 23) j_z) = A 15 (72 * q + (6 * r_z + B 16 j_z)) := by rw [c22_z, e23_z, Int.add_assoc]; exact hB.2 15 _ (by omega)
        refine ⟨fun h2 => ?_, fun h2 => ?_⟩
        · rw [ea, eb] at h2
          refine ⟨⟨by omega, by omega⟩, ?_⟩
          exact ⟨rfl, h2, rfl⟩
        · rw [ea, eb] at h2
          exact ⟨rfl, hB, Or.inr ⟨rfl, hno j_z j0 hj h2⟩⟩
    refine wq_ok srt_sameR (fr := []) (cuts := [168, 212]) (J := fun pc st_z => (pc = 212 ∧ j_z = A 0 7 ∧ st_z = ([(2, 0), (0, q), (0, i), (0, j_z), v4_z], [], B)) ∨ (pc = 168 ∧ j_z < A 0 7 ∧ st_z = ([(2, 0), (0, q), (0, i), (0, j_z), (0, rwS (A 0 7) (B 16) i)], [], B))) ?_ 40 140 _ ?_
    · rintro pc st_z (⟨rfl, hj, rfl⟩ | ⟨rfl, hj, rfl⟩)
      · exact H (fun d_z d0_z d1_z => hd_z d_z d0_z (by omega)) _ _
      · exact h168 hj
    · refine ⟨oM_0 (by omega) km0 7 rfl, ?_⟩
      refine ⟨fun h_z => Or.inl ⟨rfl, by omega, rfl⟩, fun h_z => ?_⟩
      have hj : j_z < A 0 7 := by omega
      refine ⟨oM_0 (by omega) km0 7 rfl, ?_⟩
      refine ⟨fun h2 => ?_, fun h2 => ?_⟩
      · refine Or.inr ⟨rfl, hj, ?_⟩
        rw [show rwS (A 0 7) (B 16) i = i from if_neg (by omega)]
        rfl
      · refine ⟨oM_0 (by omega) km0 23 rfl, ?_⟩
        refine ⟨aM_16 (r := B 0 23) (by rw [c23_z]; omega) (by rw [c23_z]; exact km16) i0 (by omega), ?_⟩
        refine Or.inr ⟨rfl, hj, ?_⟩
        rw [show rwS (A 0 7) (B 16) i = B (B 0 23) i by rw [c23_z]; exact if_pos (by omega)]
        rfl
theorem ip_125 {A B : pm_A} {q : Int} (hA : gH wM A) (q0 : 0 ≤ q) (q1 : q ≤ 3) (hB : boF A B) (ho : ∀ d_z : Int, 0 ≤ d_z → d_z < A 0 7 → ¬ B 16 d_z = -1 ∧ lstM A (6 + 6 * q) d_z (A 0 7) (B 16 d_z)) : ∀ (n_z : Nat) (i_z : Int) (v3 v4_z : pm_V), (12 - i_z).toNat < n_z → 0 ≤ i_z → i_z ≤ A 0 7 + A 0 8 → (∀ a_z j_z : Int, 0 ≤ a_z → a_z < i_z → 0 ≤ j_z → j_z < A 0 7 → A 5 (6 * a_z + j_z) = A 15 (72 * q + (6 * rwS (A 0 7) (B 16) a_z + B 16 j_z))) → Tm pmt (an_sh wM) o_X10_same 125 ([(2, 0), (0, q), (0, i_z), v3, v4_z], [], B) (sQm A q) := by
  have p6_z := fM_0_7 hA (r := 0) (by omega) km0
  have h6 := fM_0_8 hA (r := 0) (by omega) km0
  have e7_z : B 0 7 = A 0 7 := hB.2 0 7 (by omega)
  have e8 : B 0 8 = A 0 8 := hB.2 0 8 (by omega)
  intro n_z
  induction n_z with
  | zero => intro i_z v3 v4_z h_z; omega
  | succ n_z ih_z =>
    intro i_z v3 v4_z hn i0_z i1_z hd_z
    refine wq_ok srt_sameR (fr := []) (cuts := [140]) (J := fun pc st_z => pc = 140 ∧ i_z < A 0 7 + A 0 8 ∧ st_z = ([(2, 0), (0, q), (0, i_z), (0, 0), v4_z], [], B)) ?_ 40 125 _ ?_
    · rintro pc st_z ⟨rfl, hi_z, rfl⟩
      refine ip_140 hA q0 q1 hB ho i0_z hi_z (fun hrow w3_z w4_z => ?_) _ 0 _ (Nat.lt_succ_self _) (by omega) p6_z.1 (fun d_z d0_z d1_z => by omega)
      refine wq_ok srt_sameR (fr := []) (cuts := [125]) (J := fun pc st_z => pc = 125 ∧ st_z = ([(2, 0), (0, q), (0, i_z + 1), w3_z, w4_z], [], B)) ?_ 20 212 _ ?_
      · rintro pc st_z ⟨rfl, rfl⟩
        refine ih_z (i_z + 1) _ _ (by omega) (by omega) (by omega) (fun a_z j_z a0_z a1_z j0 j1 => ?_)
        by_cases e_z : a_z = i_z
        · rw [e_z]; exact hrow j_z j0 j1
        · exact hd_z a_z j_z a0_z (by omega) j0 j1
      · refine ⟨⟨by omega, by omega⟩, ?_⟩
        exact ⟨rfl, rfl⟩
    · refine ⟨oM_0 (by omega) km0 7 rfl, ?_⟩
      refine ⟨oM_0 (by omega) km0 8 rfl, ?_⟩
      refine ⟨⟨by omega, by omega⟩, ?_⟩
      refine ⟨fun h_z => ?_, fun h_z => ?_⟩
      · exact ⟨rfl, hB, Or.inl ⟨rfl, B 16, ho, fun a_z j_z a0_z a1_z j0 j1 => hd_z a_z j_z a0_z (by omega) j0 j1⟩⟩
      · exact ⟨rfl, by omega, rfl⟩
theorem ip_67 {A : pm_A} {q i : Int} {v4 : pm_V} (hA : gH wM A) (q0 : 0 ≤ q) (q1 : q ≤ 3) (i0 : 0 ≤ i) (i1 : i < A 0 7) (H : ∀ B_z v3, boF A B_z → (∀ d_z : Int, 0 ≤ d_z → d_z < i → ¬ B_z 16 d_z = -1 ∧ lstM A (6 + 6 * q) d_z (A 0 7) (B_z 16 d_z)) → lstM A (6 + 6 * q) i (A 0 7) (B_z 16 i) → Tm pmt (an_sh wM) o_X10_same 105 ([(2, 0), (0, q), (0, i), v3, v4], [], B_z) (sQm A q)) : ∀ (n_z : Nat) (l : Int) (B_z : pm_A), (6 - l).toNat < n_z → 0 ≤ l → l ≤ A 0 7 → boF A B_z → (∀ d_z : Int, 0 ≤ d_z → d_z < i → ¬ B_z 16 d_z = -1 ∧ lstM A (6 + 6 * q) d_z (A 0 7) (B_z 16 d_z)) → lstM A (6 + 6 * q) i l (B_z 16 i) → Tm pmt (an_sh wM) o_X10_same 67 ([(2, 0), (0, q), (0, i), (0, l), v4], [], B_z) (sQm A q) := by
  have p6_z := fM_0_7 hA (r := 0) (by omega) km0
  intro n_z
  induction n_z with
  | zero => intro l B_z h_z; omega
  | succ n_z ih_z =>
    intro l B_z hn l0 l1 hB_z ho hl
    have e7_z : B_z 0 7 = A 0 7 := hB_z.2 0 7 (by omega)
    have c23_z := pM_23 hB_z.1
    refine wq_ok srt_sameR (fr := []) (cuts := [67, 105]) (J := fun pc st_z => (pc = 105 ∧ l = A 0 7 ∧ st_z = ([(2, 0), (0, q), (0, i), (0, l), v4], [], B_z)) ∨ (pc = 67 ∧ (l < A 0 7 ∧ ¬ LSm A i = LSm A (6 + 6 * q + l)) ∧ st_z = ([(2, 0), (0, q), (0, i), (0, l + 1), v4], [], B_z)) ∨ (pc = 67 ∧ (l < A 0 7 ∧ LSm A i = LSm A (6 + 6 * q + l)) ∧ st_z = ([(2, 0), (0, q), (0, i), (0, l + 1), v4], [], pm_upd B_z (B_z 0 23) i l))) ?_ 40 67 _ ?_
    · rintro pc st_z (⟨rfl, h1, rfl⟩ | ⟨rfl, h1, rfl⟩ | ⟨rfl, h1, rfl⟩)
      · rw [h1] at hl
        exact H B_z _ hB_z ho hl
      · refine ih_z (l + 1) B_z (by omega) (by omega) (by omega) hB_z ho ?_
        rcases hl with ⟨a1_z, a2⟩ | ⟨a1_z, a2, a3⟩
        · refine Or.inl ⟨a1_z, fun d_z d0_z d1_z => ?_⟩
          by_cases e_z : d_z = l
          · rw [e_z]; exact h1.2
          · exact a2 d_z d0_z (by omega)
        · refine Or.inr ⟨⟨a1_z.1, by omega⟩, a2, fun d_z d0_z d1_z => ?_⟩
          by_cases e_z : d_z = l
          · rw [e_z]; exact h1.2
          · exact a3 d_z d0_z (by omega)
      · rw [c23_z]
        refine ih_z (l + 1) _ (by omega) (by omega) (by omega) (hB_z.put (by omega) (by omega)) (fun d_z d0_z d1_z => ?_) ?_
        · rw [upd_n2 (by omega)]; exact ho d_z d0_z d1_z
        · rw [upd_at]
          exact Or.inr ⟨⟨l0, by omega⟩, h1.2, fun d_z d0_z d1_z => by omega⟩
    · refine ⟨oM_0 (by omega) km0 7 rfl, ?_⟩
      refine ⟨fun h_z => Or.inl ⟨rfl, by omega, rfl⟩, fun h_z => ?_⟩
      refine ⟨⟨by omega, by omega⟩, ?_⟩
      refine ⟨⟨by omega, by omega⟩, ?_⟩
      refine ⟨⟨by omega, by omega⟩, ?_⟩
      refine ⟨rM_0 (by omega) km0, ?_⟩
      refine (areAlike_exq (A := B_z) (a := i) (b := 6 + 6 * q + l) hB_z.1 ⟨i0, by omega⟩ ⟨by omega, by omega⟩).imp ?_
      rintro ⟨r1_z, C_z⟩ ⟨hC, hr⟩
      simp only at hC hr
      subst hC
      rw [hB_z.ls, hB_z.ls] at hr
      rcases hr with ⟨rfl, hne⟩ | ⟨rfl, heq⟩
      · refine ⟨fun _ => ?_, fun hh => absurd rfl hh⟩
        refine ⟨⟨by omega, by omega⟩, ?_⟩
        exact Or.inr (Or.inl ⟨rfl, ⟨by omega, hne⟩, rfl⟩)
      · refine ⟨fun hh => absurd hh (by decide), fun _ => ?_⟩
        refine ⟨oM_0 (by omega) km0 23 rfl, ?_⟩
        refine ⟨tM_16 (r := C_z 0 23) (by rw [c23_z]; omega) (by rw [c23_z]; exact km16) i0 (by omega) rfl, ?_⟩
        refine ⟨⟨by omega, by omega⟩, ?_⟩
        exact Or.inr (Or.inr ⟨rfl, ⟨by omega, heq⟩, rfl⟩)
theorem ip_50 {A : pm_A} {q : Int} (hA : gH wM A) (q0 : 0 ≤ q) (q1 : q ≤ 3) : ∀ (n_z : Nat) (i_z : Int) (v3 v4_z : pm_V) (B_z : pm_A), (6 - i_z).toNat < n_z → 0 ≤ i_z → i_z ≤ A 0 7 → boF A B_z → (∀ d_z : Int, 0 ≤ d_z → d_z < i_z → ¬ B_z 16 d_z = -1 ∧ lstM A (6 + 6 * q) d_z (A 0 7) (B_z 16 d_z)) → Tm pmt (an_sh wM) o_X10_same 50 ([(2, 0), (0, q), (0, i_z), v3, v4_z], [], B_z) (sQm A q) := by
  have p6_z := fM_0_7 hA (r := 0) (by omega) km0
  have h8 := fM_0_8 hA (r := 0) (by omega) km0
  intro n_z
  induction n_z with
  | zero => intro i_z v3 v4_z B_z h_z; omega
  | succ n_z ih_z =>
    intro i_z v3 v4_z B_z hn i0_z i1_z hB_z ho
    have e7_z : B_z 0 7 = A 0 7 := hB_z.2 0 7 (by omega)
    have c23_z := pM_23 hB_z.1
    refine wq_ok srt_sameR (fr := []) (cuts := [67, 125]) (J := fun pc st_z => (pc = 125 ∧ i_z = A 0 7 ∧ st_z = ([(2, 0), (0, q), (0, 0), v3, v4_z], [], B_z)) ∨ (pc = 67 ∧ i_z < A 0 7 ∧ st_z = ([(2, 0), (0, q), (0, i_z), (0, 0), v4_z], [], pm_upd B_z (B_z 0 23) i_z (-1)))) ?_ 40 50 _ ?_
    · rintro pc st_z (⟨rfl, hi_z, rfl⟩ | ⟨rfl, hi_z, rfl⟩)
      · rw [hi_z] at ho
        exact ip_125 hA q0 q1 hB_z ho _ 0 v3 v4_z (Nat.lt_succ_self _) (by omega) (by omega) (fun a_z j_z a0_z a1_z => by omega)
      · rw [c23_z]
        refine ip_67 hA q0 q1 i0_z hi_z (fun C_z w3_z hC hC2 hl => ?_) _ 0 _ (Nat.lt_succ_self _) (by omega) p6_z.1 (hB_z.put (by omega) (by omega)) (fun d_z d0_z d1_z => by rw [upd_n2 (by omega)]; exact ho d_z d0_z d1_z) (Or.inl ⟨upd_at, fun d_z d0_z d1_z => by omega⟩)
        have d23_z := pM_23 hC.1
        refine wq_ok srt_sameR (fr := []) (cuts := [50]) (J := fun pc st_z => pc = 50 ∧ ¬ C_z (C_z 0 23) i_z = -1 ∧ st_z = ([(2, 0), (0, q), (0, i_z + 1), w3_z, v4_z], [], C_z)) ?_ 30 105 _ ?_
        · rintro pc st_z ⟨rfl, h3, rfl⟩
          rw [d23_z] at h3
          refine ih_z (i_z + 1) w3_z v4_z C_z (by omega) (by omega) (by omega) hC (fun j_z j0 j1 => ?_)
          by_cases w_z : j_z = i_z
          · rw [w_z]; exact ⟨h3, hl⟩
          · exact hC2 j_z j0 (by omega)
        · refine ⟨oM_0 (by omega) km0 23 rfl, ?_⟩
          refine ⟨aM_16 (r := C_z 0 23) (by rw [d23_z]; omega) (by rw [d23_z]; exact km16) i0_z (by omega), ?_⟩
          refine ⟨fun q_z => ?_, fun q_z => ?_⟩
          · refine ⟨⟨by omega, by omega⟩, ?_⟩
            exact ⟨rfl, q_z, rfl⟩
          · rw [d23_z] at q_z
            refine ⟨rfl, hC, Or.inr ⟨rfl, fun ⟨S_z, hS_z, _⟩ => (hS_z i_z i0_z hi_z).1 ?_⟩⟩
            exact (lstM_u (hS_z i_z i0_z hi_z).2 hl).trans q_z
    · refine ⟨oM_0 (by omega) km0 7 rfl, ?_⟩
      refine ⟨fun h_z => Or.inl ⟨rfl, by omega, rfl⟩, fun h_z => ?_⟩
      refine ⟨oM_0 (by omega) km0 23 rfl, ?_⟩
      refine ⟨tM_16 (r := B_z 0 23) (by rw [c23_z]; omega) (by rw [c23_z]; exact km16) i0_z (by omega) rfl, ?_⟩
      exact Or.inr ⟨rfl, by omega, rfl⟩
def sQh (A : pm_A) (k : Int) (r : pm_R) : Prop := (r = (some (0, -1), A) ∧ ((¬ (0 ≤ k ∧ k ≤ 3)) ∨ A 13 k = 0)) ∨ (((0 ≤ k ∧ k ≤ 3) ∧ ¬ A 13 k = 0) ∧ (((¬ (A 13 k = A 0 7 ∧ A 14 k = A 0 8)) ∧ r = (some (0, 0), A)) ∨ ((A 13 k = A 0 7 ∧ A 14 k = A 0 8) ∧ sQm A k r)))
theorem msame_exq {A : pm_A} (hA : gH wM A) (k : Int) : Cl pmt (an_sh wM) 180 [(2, 0), (0, k)] A (sQh A k) := by
  have p7_z := fM_0_7 hA (r := 0) (by omega) km0
  have c20_z := pM_20 hA
  have c21_z := pM_21 hA
  refine Cl.of (Nat.le_of_ble_eq_true rfl) ?_
  refine wq_ok (full := o_X10_same) srt_sameR (fr := []) (cuts := [50]) (J := fun pc st_z => (pc = 50 ∧ (0 ≤ k) ∧ (k ≤ 3) ∧ (¬ (A (A 0 20) k) = 0) ∧ ((A (A 0 20) k) = (A 0 7)) ∧ ((A (A 0 21) k) = (A 0 8)) ∧ st_z = ([(2, 0), (0, k), (0, 0), (9, 0), (9, 0)], [], A))) ?_ 31 0 _ ?_
  · rintro pc st_z (⟨rfl, h0, h1, h2, h3, h4, rfl⟩)
    rw [c20_z] at h2 h3
    rw [c21_z] at h4
    obtain ⟨n_z, r_z, c1_z, hr⟩ := ip_50 hA h0 h1 _ 0 (9, 0) (9, 0) A (Nat.lt_succ_self _) (by omega) p7_z.1 ⟨hA, fun _ _ _ => rfl⟩ (fun j_z j0 j1 => by omega)
    exact ⟨n_z, r_z, c1_z, Or.inr ⟨⟨⟨h0, h1⟩, h2⟩, Or.inr ⟨⟨h3, h4⟩, hr⟩⟩⟩
  · refine ⟨fun h0 => ?_, fun h0 => ?_⟩
    · exact ⟨rfl, Or.inl ⟨rfl, Or.inl (by omega)⟩⟩
    · refine ⟨fun h1 => ?_, fun h1 => ?_⟩
      · exact ⟨rfl, Or.inl ⟨rfl, Or.inl (by omega)⟩⟩
      · refine ⟨oM_0 (by omega) km0 20 rfl, ?_⟩
        refine ⟨aM_13 (r := A 0 20) (by rw [c20_z]; omega) (by rw [c20_z]; exact kn13) (by omega) (by omega), ?_⟩
        have e1 : A (A 0 20) k = A 13 k := by rw [c20_z]
        refine ⟨fun h2 => ?_, fun h2 => ?_⟩
        · refine ⟨oM_0 (by omega) km0 20 rfl, ?_⟩
          refine ⟨aM_13 (r := A 0 20) (by rw [c20_z]; omega) (by rw [c20_z]; exact kn13) (by omega) (by omega), ?_⟩
          refine ⟨oM_0 (by omega) km0 7 rfl, ?_⟩
          refine ⟨fun h3 => ?_, fun h3 => ?_⟩
          · rw [e1] at h2 h3
            exact ⟨rfl, Or.inr ⟨⟨⟨h0, by omega⟩, h2⟩, Or.inl ⟨fun q_z => h3 q_z.1, rfl⟩⟩⟩
          · refine ⟨oM_0 (by omega) km0 21 rfl, ?_⟩
            refine ⟨aM_14 (r := A 0 21) (by rw [c21_z]; omega) (by rw [c21_z]; exact kn14) (by omega) (by omega), ?_⟩
            have e3 : A (A 0 21) k = A 14 k := by rw [c21_z]
            refine ⟨oM_0 (by omega) km0 8 rfl, ?_⟩
            refine ⟨fun h4 => ?_, fun h4 => ?_⟩
            · exact ⟨rfl, h0, by omega, h2, h3, h4, rfl⟩
            · rw [e1] at h2
              rw [e3] at h4
              exact ⟨rfl, Or.inr ⟨⟨⟨h0, by omega⟩, h2⟩, Or.inl ⟨fun q_z => h4 q_z.2, rfl⟩⟩⟩
        · rw [e1] at h2
          exact ⟨rfl, Or.inl ⟨rfl, Or.inr h2⟩⟩
end

section
/-! the class's same, exactly; a kept seed on both sides -/
theorem sq_Xsame : pm_srt o_X9_same = true := by decide +kernel
def xsK (A : pm_A) (k : Int) (r : pm_R) : Prop := (r = (some (0, -1), A) ∧ ((¬ (0 ≤ k ∧ k ≤ 3)) ∨ A (420 + 23 * k) 0 = 0)) ∨ (((0 ≤ k ∧ k ≤ 3) ∧ ¬ A (420 + 23 * k) 0 = 0) ∧ isP A 1 (420 + 23 * k) r)
theorem xsame_ex {A : pm_A} {k : Int} (hS : StE A) : Cl pmt (an_sh wX) 106 [(2, 0), (0, k)] A (xsK A k) := by
  have a1_z := hS.2.1.1.1
  have m8_z := hS.2.2.2.2.2
  have e5 : A 0 5 = 47 := m8_z.2.1
  have ek : 0 ≤ k → k ≤ 3 → A (A 0 5) k = 420 + 23 * k := fun k0_z k1_z => by rw [e5]; exact m8_z.2.2.1 k k0_z (by omega)
  refine Cl.of (Nat.le_of_ble_eq_true rfl) ?_
  refine wq_ok (full := o_X9_same) sq_Xsame (fr := []) (cuts := [23, 36]) (J := fun pc st_z => (pc = 23 ∧ ((0 ≤ k ∧ k ≤ 3) ∧ ¬ A (420 + 23 * k) 0 = 0) ∧ st_z = ([(2, 0), (0, k)], [], A)) ∨ False) ?_ 30 0 _ ?_
  · rintro pc st_z (⟨rfl, ⟨hk, hn⟩, rfl⟩ | h_z)
    · refine wq_ok sq_Xsame (fr := []) (cuts := [36]) (J := fun pc st_z => pc = 36 ∧ ∃ y_z C_z, isP A 1 (420 + 23 * k) (some (0, y_z), C_z) ∧ st_z = ([(2, 0), (0, k)], [(0, y_z)], C_z)) ?_ 30 23 _ ?_
      · rintro pc st_z ⟨rfl, y_z, C_z, hC, rfl⟩
        have hy : y_z = 1 ∨ y_z = 0 := by
          rcases hC.2 with ⟨e_z, _⟩ | ⟨e_z, _⟩
          · cases e_z; exact Or.inl rfl
          · cases e_z; exact Or.inr rfl
        refine wq_ok sq_Xsame (fr := []) (cuts := []) (J := fun _ _ => False) (fun _ _ h_z => h_z.elim) 20 36 _ ?_
        rcases hy with rfl | rfl
        · refine ⟨fun hh => absurd hh (by decide), fun _ => ?_⟩
          exact ⟨rfl, Or.inr ⟨⟨hk, hn⟩, hC⟩⟩
        · refine ⟨fun _ => ?_, fun hh => absurd rfl hh⟩
          exact ⟨rfl, Or.inr ⟨⟨hk, hn⟩, hC⟩⟩
      · refine ⟨oX_0 z0 kk0 0 rfl, ?_⟩
        refine ⟨oX_0 z0 kk0 5 rfl, ?_⟩
        refine ⟨aX_20 (by rw [e5]; omega) (by rw [e5]; exact kk47) hk.1 (by omega), ?_⟩
        refine ⟨rX_1 (by rw [a1_z]; omega) (by rw [a1_z]; exact kk1), ?_⟩
        rw [a1_z, ek hk.1 hk.2]
        refine (isSameAs_ex hS.1 ⟨by omega, kk1⟩ ⟨by omega, kkS hk.1 (by omega)⟩).imp ?_
        rintro ⟨r1_z, C_z⟩ hC
        obtain ⟨y_z, hy⟩ : ∃ y_z, r1_z = some (0, y_z) := by
          rcases hC.2 with h1 | h1
          · exact ⟨1, h1.1⟩
          · exact ⟨0, h1.1⟩
        subst hy
        exact ⟨rfl, y_z, C_z, hC, rfl⟩
    · exact h_z.elim
  · refine ⟨fun h0 => ?_, fun h0 => ?_⟩
    · exact ⟨rfl, Or.inl ⟨rfl, Or.inl (by omega)⟩⟩
    refine ⟨fun h1 => ?_, fun h1 => ?_⟩
    · exact ⟨rfl, Or.inl ⟨rfl, Or.inl (by omega)⟩⟩
    have hk3 := ek h0 (by omega)
    have kS := kkS (k := k) h0 (by omega)
    refine ⟨oX_0 z0 kk0 5 rfl, ?_⟩
    refine ⟨aX_20 (by rw [e5]; omega) (by rw [e5]; exact kk47) h0 (by omega), ?_⟩
    refine ⟨oX_1 (by rw [hk3]; omega) (by rw [hk3]; exact kS) 0 rfl, ?_⟩
    refine ⟨fun h2 => ?_, fun h2 => ?_⟩
    · rw [hk3] at h2
      exact Or.inl ⟨rfl, ⟨⟨h0, by omega⟩, h2⟩, rfl⟩
    · rw [hk3] at h2
      exact ⟨rfl, Or.inl ⟨rfl, Or.inr h2⟩⟩
/-- a kept seed, alike on both sides -/
def KP1 (AX AM : pm_A) (k : Int) : Prop := (AX (420 + 23 * k) 0 = AM 13 k ∧ AX (420 + 23 * k) 1 = AM 14 k) ∧ ((AM 13 k = 0) ∨ ∃ (s_z : cx_Sd 12) (ls_z : List (Fin 12)), TrX s_z ls_z AX (420 + 23 * k) ∧ TrK s_z ls_z AM (6 + 6 * k) (fun x_z => AM 15 (72 * k + x_z)) (AM 13 k + AM 14 k) (AM 13 k))
def KP (AX AM : pm_A) : Prop := ∀ k_z : Int, 0 ≤ k_z → k_z ≤ 3 → KP1 AX AM k_z
theorem rl_same {s : cx_Sd 12} {ks : List (Fin 12)} {AX AM : pm_A} {k : Int} {q r : pm_R} (h : XRs s ks AX AM) (hK : KP AX AM) (hq : xsK AX k q) (hr : sQh AM k r) : q.1 = r.1 := by
  have h7 := h.1.2.2.2.1
  have h8 := h.1.2.2.2.2
  rcases hq with ⟨rfl, h1⟩ | ⟨⟨hk, hn⟩, hq⟩
  · rcases hr with ⟨rfl, _⟩ | ⟨⟨hk, hn⟩, _⟩
    · rfl
    · exfalso
      have h2 := (hK k hk.1 hk.2).1.1
      rcases h1 with h1 | h1
      · exact h1 hk
      · exact hn (by rw [← h2]; exact h1)
  · obtain ⟨⟨k0_z, k1_z⟩, h2⟩ := hK k hk.1 hk.2
    rcases hr with ⟨_, h1⟩ | ⟨⟨_, hn2⟩, hr⟩
    · exfalso
      rcases h1 with h1 | h1
      · exact h1 hk
      · exact hn (by rw [k0_z]; exact h1)
    · rcases h2 with h2 | ⟨s', ls, hx, hm_z⟩
      · exact absurd h2 hn2
      · have hs := sm_iff h.1.2.1 hx
        have eW : bgW AX 1 = AM 0 7 + AM 0 8 := by unfold bgW; rw [h7, h8]
        rw [k0_z, k1_z, eW, h7, h8] at hs
        rcases hr with ⟨n_z, rfl⟩ | ⟨⟨e1, e2⟩, hr⟩
        · rcases hq.2 with ⟨_, g_z⟩ | ⟨e_z, _⟩
          · exact absurd ⟨(hs.1 g_z).1.1.symm, (hs.1 g_z).1.2.symm⟩ n_z
          · exact e_z
        · rw [e1, e2] at hm_z
          have hmd := md_iff h.1.2.2.1 hm_z
          rcases hq.2 with ⟨e3, g_z⟩ | ⟨e3, g_z⟩
          · rcases hr.2 with ⟨e4_z, _⟩ | ⟨_, g2⟩
            · rw [e3, e4_z]
            · exact absurd (hmd.2 (hs.1 g_z).2) g2
          · rcases hr.2 with ⟨_, g2⟩ | ⟨e4_z, _⟩
            · exact absurd (hs.2 ⟨⟨e1.symm, e2.symm⟩, hmd.1 g2⟩) g_z
            · rw [e3, e4_z]
end

section
/-! the kept seeds' cells of the class are left -/
def keq (A B : pm_A) : Prop := ∀ r_z j_z : Int, 420 ≤ r_z → 0 ≤ j_z → (wX.2 r_z = 1 ∧ j_z ≤ 5) ∨ (wX.2 r_z = 2 ∧ j_z ≤ 3) ∨ wX.2 r_z = 10 ∨ wX.2 r_z = 12 ∨ wX.2 r_z = 14 ∨ wX.2 r_z = 15 → B r_z j_z = A r_z j_z
theorem keq.rf {A : pm_A} : keq A A := fun _ _ _ _ _ => rfl
theorem keq.tr {A B C : pm_A} (h : keq A B) (g : keq B C) : keq A C := fun r_z j_z h1 h2 h3 => (g r_z j_z h1 h2 h3).trans (h r_z j_z h1 h2 h3)
theorem keq.far {A B : pm_A} (h : ∀ r_z j_z : Int, 420 ≤ r_z → B r_z j_z = A r_z j_z) : keq A B := fun r_z j_z h1 _ _ => h r_z j_z h1
def kqC : List Nat := [100, 101, 102, 103, 104, 105, 200, 201, 202, 203, 10010, 10012, 10014, 10015]
theorem keq.k {A B : pm_A} {ms : List Nat} (hF : gFk wY ms A B) (hm : avoid kqC ms = true) : keq A B := fun r_z j_z h1 h2 h3 => hF r_z j_z (by omega) h2 (by
  rcases h3 with ⟨hk, hj⟩ | ⟨hk, hj⟩ | hk | hk | hk | hk
  · rw [kc_o (a := 0) hk (by decide) (shX_1 hk)]
    exact avoid_n hm (codz (l := 1) (n := 6) (by decide) h2 (by omega))
  · rw [kc_o (a := 0) hk (by decide) (shX_2 hk)]
    exact avoid_n hm (codz (l := 2) (n := 4) (by decide) h2 (by omega))
  · rw [kc_a hk (by decide) (shX_10 hk)]; exact avoid_n hm (by decide)
  · rw [kc_a hk (by decide) (shX_12 hk)]; exact avoid_n hm (by decide)
  · rw [kc_a hk (by decide) (shX_14 hk)]; exact avoid_n hm (by decide)
  · rw [kc_a hk (by decide) (shX_15 hk)]; exact avoid_n hm (by decide))
theorem keq.kF {A B : pm_A} {ms : List Nat} (hF : gFk wF ms A B) (hm : avoid kqC ms = true) : keq A B := fun r_z j_z h1 h2 h3 => hF r_z j_z (by omega) h2 (by
  have g1 : ¬ r_z = 415 := by omega
  have g2 : ¬ r_z = 26 := by omega
  rcases h3 with ⟨hk, hj⟩ | ⟨hk, hj⟩ | hk | hk | hk | hk
  · rw [kf_o hk (by decide) (by decide) (shX_1 hk)]
    exact avoid_n hm (codz (l := 1) (n := 6) (by decide) h2 (by omega))
  · rw [kf_o hk (by decide) (by decide) (shX_2 hk)]
    exact avoid_n hm (codz (l := 2) (n := 4) (by decide) h2 (by omega))
  · rw [kf_a hk g1 g2 (shX_10 hk)]; exact avoid_n hm (by decide)
  · rw [kf_a hk g1 g2 (shX_12 hk)]; exact avoid_n hm (by decide)
  · rw [kf_a hk g1 g2 (shX_14 hk)]; exact avoid_n hm (by decide)
  · rw [kf_a hk g1 g2 (shX_15 hk)]; exact avoid_n hm (by decide))
theorem TrX.keq {s : cx_Sd 12} {ls : List (Fin 12)} {A B : pm_A} {k : Int} (hS : StE A) (k0 : 0 ≤ k) (k1 : k ≤ 3) (hT : TrX s ls A (420 + 23 * k)) (hB : gH wX B) (h : keq A B) : TrX s ls B (420 + 23 * k) := by
  have hA := hS.1
  have kS := kkS (k := k) k0 (by omega)
  have m8_z := hS.2.2.2.2.2.1 (420 + 23 * k) (by omega) kS
  have t2_z := fX_1_2 hA (r := 420 + 23 * k) (by omega) kS
  have t4_z := fX_1_4 hA (r := 420 + 23 * k) (by omega) kS
  have p6_z := fX_1_0 hA (r := 420 + 23 * k) (by omega) kS
  refine hT.cong0 hB (fun j_z hj => h _ j_z (by omega) hj.1 (Or.inl ⟨kS, hj.2⟩)) (fun j_z j0 => h _ j_z (by omega) j0 (Or.inr (Or.inr (Or.inl t2_z.2)))) (fun j_z j0 => h _ j_z (by omega) j0 (Or.inr (Or.inr (Or.inr (Or.inl t4_z.2))))) (fun i_z i0_z i1_z => ?_)
  have e0_z := eX_12 hA t4_z.1 t4_z.2 (j := i_z) i0_z (by omega)
  have e1 : A (A (420 + 23 * k) 4) i_z = 425 + 23 * k + 3 * i_z := by
    rw [m8_z.2.2, show (420 + 23 * k + 3 : Int) = 423 + 23 * k by omega]
    exact hS.2.2.2.2.2.2.2.2 k i_z k0 (by omega) i0_z (by omega)
  have n2_z := fX_2_2 hA e0_z.1 e0_z.2
  have n3_z := fX_2_3 hA e0_z.1 e0_z.2
  have g2 := hS.2.1.2.1 _ e0_z.1 e0_z.2
  have g3_z := hS.2.2.2.1 _ e0_z.1 e0_z.2
  refine ⟨fun j_z j0 => h _ j_z (by omega) j0.1 (Or.inr (Or.inl ⟨e0_z.2, j0.2⟩)), fun j_z j0 => h _ j_z (by omega) j0 (Or.inr (Or.inr (Or.inr (Or.inr (Or.inl n2_z.2))))), fun j_z j0 => h _ j_z (by omega) j0 (Or.inr (Or.inr (Or.inr (Or.inr (Or.inr n3_z.2)))))⟩
theorem xlP2.kq {s : cx_Sd 12} {ks : List (Fin 12)} {A : pm_A} {W P : Int} {q : pm_R} (h : xlP2 s ks A W P q) : keq A q.2 := by
  obtain ⟨C_z, z_z, hE, _, e_z, hg⟩ := h
  refine keq.far (fun r_z j_z hr => ?_)
  rw [e_z, upd_o (by omega)]
  rcases hE with ⟨h1, _⟩ | ⟨_, _, B_z, _, _, h1, _, h2⟩
  · exact h1.2.2.2.2.2.2.2.2 r_z j_z (by omega)
  · have h3 : C_z r_z j_z = B_z r_z j_z := h2.2.1.2.1 r_z j_z (by omega) (by omega)
    rw [h3]
    exact h1.2.2.2.2.2.2.2.2 r_z j_z (by omega)
theorem orF.kq {s : cx_Sd 12} {ks : List (Fin 12)} {A B : pm_A} (h : orF s ks A B) : keq A B := keq.far (fun r_z j_z hr => h.2.2.2.2.2.1 r_z j_z (by omega))
theorem fault_kq {s : cx_Sd 12} {ks : List (Fin 12)} {A : pm_A} (hS : StE A) (hC : CA A) (hK : gK wY A) (hT : TrX s ks A 1) (hT9 : b9t A 24) : Cl pmt (an_sh wX) 21 [(2, 24)] A (fun r_z => fqP s ks A r_z ∧ keq A r_z.2) := by
  obtain ⟨n_z, r_z, c1_z, q_z⟩ := fault_exq hS hC hK hT hT9
  exact ⟨n_z, r_z, c1_z, q_z, keq.kF (fx_fault c1_z (gK_F hS.1 hS.2.2.2.2.2 hC.2.1 hC.2.2.1)) (by decide)⟩
theorem fq_kq {s : cx_Sd 12} {ks : List (Fin 12)} {A C : pm_A} {x : Int} {r : pm_R} (hT9 : ∀ k_z : Int, 0 ≤ k_z → k_z < 72 → -9 ≤ A 25 k_z ∧ A 25 k_z ≤ 9) (p1 : 1 ≤ A 24 0) (hq : fqP s ks A (some (0, x), C)) (hk : keq A C) (hr : ssP C r) : keq A r.2 := by
  obtain ⟨⟨_, y_z, ey, _, hy⟩, h2, _, h4, h5⟩ := hq
  simp only at ey h2 h4 h5 hy
  have e0_z := (h4 0 (by omega) (by omega)).1
  have h6 := ssP.nw h2.1 (by rw [e0_z]; exact p1) (fun k_z k0_z k1_z => by rw [h5 k_z k0_z]; exact hT9 k_z k0_z k1_z) hr
  exact hk.tr (keq.far (fun r_z j_z hr => h6.2.2.1 r_z j_z (by omega)))
theorem xbegin_kq {s : cx_Sd 12} {ks : List (Fin 12)} {A : pm_A} (hS : StE A) (hC : CA A) (hK : gK wY A) (hT : TrX s ks A 1) (e1 : A 0 1 = 24) (e2 : A 24 2 = 25) (hT9 : b9t A 24) : Cl pmt (an_sh wX) 87 [(2, 0)] A (fun r_z => keq A r_z.2) := by
  have e3 := hC.2.2.1
  have d0_z : 0 ≤ A 0 1 ∧ wX.2 (A 0 1) = 3 := by rw [e1]; exact ⟨by omega, kk24⟩
  have p6_z := fX_3_0 hS.1 (r := 24) (by omega) kk24
  have q6_z := fX_3_1 hS.1 (r := 24) (by omega) kk24
  have hT8 : ∀ k_z : Int, 0 ≤ k_z → k_z < 72 → -9 ≤ A 25 k_z ∧ A 25 k_z ≤ 9 := fun k_z k0_z k1_z => by
    have h1 := hT9 k_z k0_z k1_z
    rw [e2] at h1
    exact h1
  refine Cl.of (Nat.le_of_ble_eq_true rfl) ?_
  refine wq_ok (full := o_X9_begin) srt_Xbegin (fr := []) (cuts := [19]) (J := fun pc st_z => pc = 19 ∧ (¬ A 24 0 = 0) ∧ ∃ C_z x_z w_z, (fqP s ks A (some (0, x_z), C_z) ∧ keq A C_z) ∧ st_z = ([(2, 0), w_z], [(0, x_z)], C_z)) ?_ 20 0 _ ?_
  · rintro pc st_z ⟨rfl, h0, C_z, x_z, w_z, ⟨hq, hkq⟩, rfl⟩
    have p1_z : 1 ≤ A 24 0 := by omega
    refine wq_ok srt_Xbegin (fr := []) (cuts := []) (J := fun pc st_z => False) (fun _ _ h_z => h_z.elim) 20 19 _ ?_
    refine ⟨fun h_z => ?_, fun h_z => ?_⟩
    · exact ⟨rfl, hkq⟩
    · refine ⟨rX_0 (by omega) kk0, ?_⟩
      have g4 := hq.2.2.2.1
      simp only at g4
      have g5_z : C_z 24 0 = A 24 0 := (g4 0 (by omega) (by omega)).1
      have hcall := startSeed_ex (A := C_z) hq.2.1.1 (by rw [(g4 1 (by omega) (by omega)).2]; exact e1) (by rw [(g4 2 (by omega) (by omega)).1]; exact e2) (by rw [(g4 3 (by omega) (by omega)).1]; exact e3) (by rw [g5_z]; exact p1_z)
      refine hcall.imp ?_
      rintro ⟨r1_z, D_z⟩ hD
      have hr1 : r1_z = none := hD.1
      subst hr1
      have h7 := fq_kq hT8 p1_z hq hkq hD
      exact ⟨rfl, h7⟩
  · refine ⟨oX_0 (by omega) kk0 1 rfl, ?_⟩
    refine ⟨oX_3 d0_z.1 d0_z.2 0 rfl, ?_⟩
    refine ⟨fun h0 => ?_, fun h0 => ?_⟩
    · refine ⟨oX_0 (by omega) kk0 1 rfl, ?_⟩
      refine ⟨rX_3 d0_z.1 d0_z.2, ?_⟩
      rw [e1] at h0 ⊢
      refine (fault_kq hS hC hK hT hT9).imp ?_
      rintro ⟨r1_z, C_z⟩ hq
      have hq0 := hq.1
      obtain ⟨⟨_, x_z, e_z, _⟩, _⟩ := hq0
      simp only at e_z
      subst e_z
      exact ⟨rfl, h0, C_z, x_z, _, hq, rfl⟩
    · rw [e1] at h0
      exact ⟨rfl, keq.rf⟩
theorem ksd_72q {sd : cx_Sd 12} {ks : List (Fin 12)} {A C : pm_A} {n s : Int} {F : Int → Int} (hs : okSd s n F) (hn4 : 4 ≤ n) (hkq : keq A C) (hX : xsm sd ks A C) (hCA : CA C) (hK : gK wY C) (e1 : C 0 1 = 24) (e2 : C 24 2 = 25) (e0 : C 24 0 = n - 3) (eh : C 24 1 = 0) (eT : ∀ k_z : Int, 0 ≤ k_z → k_z < 72 → C 25 k_z = tsum (ctr n F) 1000 k_z) (h9 : ∀ k_z : Int, 0 ≤ k_z → k_z < 72 → -9 ≤ tsum (ctr n F) 1000 k_z ∧ tsum (ctr n F) 1000 k_z ≤ 9) : Tm pmt (an_sh wX) o_X9_seed 72 ([(2, 0), (0, s)], [], C) (fun r_z => keq A r_z.2) := by
  have hC := hX.1.1
  have e3 := hCA.2.2.1
  have n9 := hs.2.2
  have d0_z := fX_0_1 hC (r := 0) (by omega) kk0
  have hT8 : ∀ k_z : Int, 0 ≤ k_z → k_z < 72 → -9 ≤ C 25 k_z ∧ C 25 k_z ≤ 9 := fun k_z k0_z k1_z => by rw [eT k_z k0_z k1_z]; exact h9 k_z k0_z k1_z
  have hT9 : b9t C 24 := fun j_z j0 j1 => by rw [e2]; exact hT8 j_z j0 j1
  refine wq_ok srt_seed (fr := []) (cuts := []) (J := fun pc st_z => False) (fun _ _ h_z => h_z.elim) 20 72 _ ?_
  refine ⟨oX_0 (by omega) kk0 1 rfl, ?_⟩
  refine ⟨rX_3 d0_z.1 d0_z.2, ?_⟩
  rw [e1]
  refine (fault_kq hX.1 hCA hK hX.2.1 hT9).imp ?_
  rintro ⟨r1_z, D_z⟩ ⟨hq, hkD⟩
  simp only at hkD
  have hq0 := hq
  obtain ⟨⟨_, x_z, e_z, g3_z, _⟩, g2, _, g4, g5_z⟩ := hq0
  simp only at e_z g2 g4 g5_z
  subst e_z
  rw [e0, e2] at g3_z
  have g6 : faA (n - 3) (tsum (ctr n F) 1000) x_z := faA_c (by omega) eT g3_z
  have k0_z : D_z 24 0 = n - 3 := by rw [(g4 0 (by omega) (by omega)).1]; exact e0
  have k1_y : D_z 24 1 = 0 := by rw [(g4 1 (by omega) (by omega)).1]; exact eh
  have k2_y : ∀ k_z : Int, 0 ≤ k_z → k_z < 72 → D_z 25 k_z = tsum (ctr n F) 1000 k_z := fun k_z h0 h1 => by rw [g5_z k_z h0]; exact eT k_z h0 h1
  refine ⟨fun h_z => ?_, fun h_z => ?_⟩
  · refine ⟨rX_0 (by omega) kk0, ?_⟩
    have hcall := startSeed_ex (A := D_z) g2.1 (by rw [(g4 1 (by omega) (by omega)).2]; exact e1) (by rw [(g4 2 (by omega) (by omega)).1]; exact e2) (by rw [(g4 3 (by omega) (by omega)).1]; exact e3) (by omega)
    refine hcall.imp ?_
    rintro ⟨r1_z, E_z⟩ hE
    have hr1 : r1_z = none := hE.1
    subst hr1
    have h7 := fq_kq hT8 (by omega) hq hkD hE
    exact ⟨rfl, hkq.tr h7⟩
  · exact ⟨rfl, hkq.tr hkD⟩
theorem ksd_56q {sd : cx_Sd 12} {ks : List (Fin 12)} {A C : pm_A} {n s : Int} {F : Int → Int} (hs : okSd s n F) (hkq : keq A C) (hX : xsm sd ks A C) (hCA : CA C) (hK : gK wY C) (e1 : C 0 1 = 24) (e2 : C 24 2 = 25) (e0 : C 24 0 = n - 3) (eh : C 24 1 = 0) (hz : ∀ k_z : Int, 0 ≤ k_z → k_z < 72 → C 25 k_z = 0) (hr : rgX C (C (C 0 13) s) n F) (hS : rgS n F) (h9 : ∀ k_z : Int, 0 ≤ k_z → k_z < 72 → -9 ≤ tsum (ctr n F) 1000 k_z ∧ tsum (ctr n F) 1000 k_z ≤ 9) : Tm pmt (an_sh wX) o_X9_seed 56 ([(2, 0), (0, s)], [], C) (fun r_z => keq A r_z.2) := by
  have hC := hX.1.1
  have hs1 := hs.1
  have d0_z := fX_0_1 hC (r := 0) (by omega) kk0
  have r0 := fX_0_13 hC (r := 0) (by omega) kk0
  have g0 := eX_34 hC r0.1 r0.2 (j := s) (by omega) (by omega)
  have hdk : wX.2 24 = 3 := by decide +kernel
  have hh : taH C (C (C 0 13) s) 25 n F := ⟨g0, ⟨by omega, by decide +kernel⟩, hr, hS, by have := hs.2; omega, hs.2.2⟩
  refine wq_ok srt_seed (fr := []) (cuts := [72]) (J := fun pc st_z => pc = 72 ∧ ∃ D_z, gH wX D_z ∧ (∀ k_z j_z : Int, ¬ k_z = 25 → D_z k_z j_z = C k_z j_z) ∧ (∀ k_z : Int, 0 ≤ k_z → k_z < 72 → D_z 25 k_z = tsum (ctr n F) 1000 k_z) ∧ st_z = ([(2, 0), (0, s)], [], D_z)) ?_ 20 56 _ ?_
  · rintro pc st_z ⟨rfl, D_z, h1, h2, h3, rfl⟩
    exact ksd_72q hs (by have := hS.1; omega) (hkq.tr (keq.far (fun k_z j_z hk_z => h2 k_z j_z (by omega)))) (hX.tr (xsm.n25 hX.1 hX.2.1 h1 h2)) (hCA.n25 h2) (gK_n25 hK h2) (by rw [h2 0 1 (by omega)]; exact e1) (by rw [h2 24 2 (by omega)]; exact e2) (by rw [h2 24 0 (by omega)]; exact e0) (by rw [h2 24 1 (by omega)]; exact eh) h3 h9
  · refine ⟨oX_0 (by omega) kk0 13 rfl, ?_⟩
    refine ⟨aX_34 r0.1 r0.2 (by omega) (by omega), ?_⟩
    refine ⟨oX_0 (by omega) kk0 1 rfl, ?_⟩
    refine ⟨oX_3 d0_z.1 d0_z.2 2 rfl, ?_⟩
    refine ⟨rX_9 g0.1 g0.2, ?_⟩
    rw [e1, e2]
    refine (tellArrows_ex hC hh hz).imp ?_
    rintro ⟨r1_z, D_z⟩ ⟨q1_z, q2_z, q3_z, q4_z⟩
    simp only at q1_z q2_z q3_z q4_z
    subst q1_z
    exact ⟨rfl, D_z, q2_z, q3_z, q4_z, rfl⟩
theorem kxq_37q {sd : cx_Sd 12} {ks : List (Fin 12)} {A : pm_A} {n s : Int} {F : Int → Int} (hSE : StE A) (hCA : CA A) (hTX : TrX sd ks A 1) (hK : gK wY A) (e1 : A 0 1 = 24) (ed : A 24 2 = 25) (ht9 : ∀ k_z : Int, 0 ≤ k_z → k_z < 72 → -9 ≤ tsum (ctr n F) 1000 k_z ∧ tsum (ctr n F) 1000 k_z ≤ 9) (hs : s = 0 ∨ s = 1) (h : rgX A (A (A 0 13) s) n F) (hS : rgS n F) (hc : cntF F 100 = n - 3) (h9 : n ≤ 9) : Tm pmt (an_sh wX) o_X9_seed 37 ([(2, 0), (0, s)], [], A) (fun r_z => keq A r_z.2) := by
  have hA := hSE.1
  have p0_z := fX_0_13 hA (Int.le_refl 0) kk0
  have g0 := eX_34 hA p0_z.1 p0_z.2 (j := s) (by omega) (by omega)
  have en : A (A (A 0 13) s) 0 = n := h.1
  have hn := hS.1
  have d0_z := fX_0_1 hA (r := 0) (by omega) kk0
  refine wq_ok srt_seed (fr := []) (cuts := [56]) (J := fun pc st_z => pc = 56 ∧ ∃ C_z, (rxP A 24 (n - 3) 0 (none, C_z) ∧ gK wY C_z ∧ gFk wY [300, 301, 10016] A C_z) ∧ st_z = ([(2, 0), (0, s)], [], C_z)) ?_ 30 37 _ ?_
  · rintro pc st_z ⟨rfl, C_z, ⟨⟨_, q2_z, q3_z, q4_z, q5_z, q6_z⟩, q7_z, q8_z⟩, rfl⟩
    simp only at q2_z q3_z q4_z q5_z q6_z
    have e2 : C_z 0 1 = 24 := by
      rw [q3_z 0 1 (by omega) (by omega) (by unfold mcode; rw [shX_0 kk0]; show ¬ 901 ∈ rs_M; decide)]; exact e1
    have e3 : C_z 24 2 = A 24 2 := q3_z 24 2 (by omega) (by omega) (by unfold mcode; rw [shX_3 (show wX.2 24 = 3 by decide +kernel)]; show ¬ 202 ∈ rs_M; decide)
    have er : C_z 0 13 = A 0 13 := q3_z 0 13 (by omega) (by omega) (by unfold mcode; rw [shX_0 kk0]; show ¬ 913 ∈ rs_M; decide)
    have eqq : C_z (A 0 13) s = A (A 0 13) s := q3_z _ s p0_z.1 (by omega) (by unfold mcode; rw [shX_34 p0_z.2]; show ¬ (10000 + wX.2 (A 0 13)) ∈ rs_M; rw [p0_z.2]; decide)
    have ek : ∀ j_z : Int, 0 ≤ j_z → j_z ≤ 1 → C_z (A (A 0 13) s) j_z = A (A (A 0 13) s) j_z := fun j_z j0 j1 => by
      refine q3_z _ j_z g0.1 j0 ?_
      unfold mcode
      rw [shX_9 g0.2]
      show ¬ (600 + j_z.toNat) ∈ rs_M
      rcases (show j_z.toNat = 0 ∨ j_z.toNat = 1 by omega) with e_z | e_z <;> rw [e_z] <;> decide
    have hrg : rgX C_z (C_z (C_z 0 13) s) n F := by
      rw [er, eqq]
      obtain ⟨y1, V, y2, y3⟩ := h
      exact ⟨by rw [ek 0 (by omega) (by omega)]; exact y1, V, by rw [ek 1 (by omega) (by omega)]; exact y2, y3⟩
    exact ksd_56q ⟨hs, hc, h9⟩ (keq.k q8_z (by decide)) (xsm.k hSE hTX q2_z q8_z (by decide)) (hCA.k q8_z (by decide)) q7_z e2 (by rw [e3]; exact ed) q5_z q6_z (fun k_z k0_z k1_z => by have := q4_z k_z k0_z k1_z; rw [ed] at this; omega) hrg hS ht9
  · refine ⟨oX_0 (Int.le_refl 0) kk0 1 rfl, ?_⟩
    refine ⟨oX_0 (Int.le_refl 0) kk0 13 rfl, ?_⟩
    refine ⟨aX_34 p0_z.1 p0_z.2 (by omega) (by omega), ?_⟩
    refine ⟨oX_9 g0.1 g0.2 0 rfl, ?_⟩
    refine ⟨⟨by omega, by omega⟩, ?_⟩
    refine ⟨rX_3 d0_z.1 d0_z.2, ?_⟩
    rw [e1, en]
    refine (xrestart_k3 hA hK (n := n - 3) (m := 0) (by omega) (by omega) (by omega) (by omega)).imp ?_
    rintro ⟨r1_z, C_z⟩ ⟨q_z, q7_z⟩
    obtain rfl : r1_z = none := q_z.1
    exact ⟨rfl, C_z, ⟨q_z, q7_z⟩, rfl⟩
theorem kseed_kq {sd : cx_Sd 12} {ks : List (Fin 12)} {A : pm_A} {n s : Int} {F : Int → Int} (hSE : StE A) (hCA : CA A) (hTX : TrX sd ks A 1) (hK : gK wY A) (e1 : A 0 1 = 24) (ed : A 24 2 = 25) (ht9 : okSd s n F → ∀ k_z : Int, 0 ≤ k_z → k_z < 72 → -9 ≤ tsum (ctr n F) 1000 k_z ∧ tsum (ctr n F) 1000 k_z ≤ 9) (h : s = 0 ∨ s = 1 → rgX A (A (A 0 13) s) n F ∧ rgS n F) : Cl pmt (an_sh wX) 107 [(2, 0), (0, s)] A (fun r_z => keq A r_z.2) := by
  have hA := hSE.1
  have p0_z := fX_0_13 hA (Int.le_refl 0) kk0
  have h7 : s = 0 ∨ s = 1 → Tm pmt (an_sh wX) o_X9_seed 7 ([(2, 0), (0, s)], [], A) (fun r_z => keq A r_z.2) := fun hs => by
    have e0_z := eX_34 hA p0_z.1 p0_z.2 (j := s) (by omega) (by omega)
    have en : A (A (A 0 13) s) 0 = n := (h hs).1.1
    have hn := (h hs).2.1
    refine wq_ok srt_seed (fr := []) (cuts := [16]) (J := fun pc st_z => (pc = 16 ∧ ∃ z_z : Int, ((z_z = 1 ∧ cntF F 100 = n - 3) ∨ (z_z = 0 ∧ ¬ cntF F 100 = n - 3)) ∧ st_z = ([(2, 0), (0, s)], [(0, z_z)], A))) ?_ 9 7 _ ?_
    · rintro pc st_z (⟨rfl, z_z, hz, rfl⟩)
      refine wq_ok srt_seed (fr := []) (cuts := [37]) (J := fun pc st_z => (pc = 37 ∧ (¬ z_z = 0) ∧ (((A (A (A 0 13) s) 0) - 3) ≤ 6) ∧ st_z = ([(2, 0), (0, s)], [], A))) ?_ 16 16 _ ?_
      · rintro pc st_z (⟨rfl, h0, h1, rfl⟩)
        have hc_z : cntF F 100 = n - 3 := (by rcases hz with ⟨_, e_z⟩ | ⟨e_z, _⟩; exact e_z; omega)
        have hn9 : n ≤ 9 := by omega
        exact kxq_37q hSE hCA hTX hK e1 ed (ht9 ⟨hs, hc_z, hn9⟩) hs (h hs).1 (h hs).2 hc_z hn9
      · refine ⟨fun h0 => ?_, fun h0 => ?_⟩
        · exact ⟨rfl, keq.rf⟩
        · refine ⟨oX_0 (Int.le_refl 0) kk0 13 rfl, ?_⟩
          refine ⟨aX_34 (fX_0_13 hA (Int.le_refl 0) kk0).1 (fX_0_13 hA (Int.le_refl 0) kk0).2 (by omega) (by omega), ?_⟩
          refine ⟨oX_9 (eX_34 hA (fX_0_13 hA (Int.le_refl 0) kk0).1 (fX_0_13 hA (Int.le_refl 0) kk0).2 (j := s) (by omega) (by omega)).1 (eX_34 hA (fX_0_13 hA (Int.le_refl 0) kk0).1 (fX_0_13 hA (Int.le_refl 0) kk0).2 (j := s) (by omega) (by omega)).2 0 rfl, ?_⟩
          refine ⟨⟨by omega, by omega⟩, ?_⟩
          refine ⟨fun h1 => ?_, fun h1 => ?_⟩
          · exact ⟨rfl, h0, h1, rfl⟩
          · exact ⟨rfl, keq.rf⟩
    · refine ⟨oX_0 (Int.le_refl 0) kk0 13 rfl, ?_⟩
      refine ⟨aX_34 (fX_0_13 hA (Int.le_refl 0) kk0).1 (fX_0_13 hA (Int.le_refl 0) kk0).2 (by omega) (by omega), ?_⟩
      refine ⟨rX_9 (eX_34 hA (fX_0_13 hA (Int.le_refl 0) kk0).1 (fX_0_13 hA (Int.le_refl 0) kk0).2 (j := s) (by omega) (by omega)).1 (eX_34 hA (fX_0_13 hA (Int.le_refl 0) kk0).1 (fX_0_13 hA (Int.le_refl 0) kk0).2 (j := s) (by omega) (by omega)).2, ?_⟩
      refine (xcut_ex e0_z.1 e0_z.2 (h hs).1 (h hs).2).imp ?_
      rintro ⟨r1_z, C_z⟩ ⟨q1_z, z_z, q2_z, hz⟩
      simp only at q1_z q2_z
      subst q1_z
      subst q2_z
      exact ⟨rfl, z_z, hz, rfl⟩
  refine Cl.of (Nat.le_of_ble_eq_true rfl) ?_
  refine wq_ok (full := o_X9_seed) srt_seed (fr := []) (cuts := [4]) (J := fun pc st_z => (pc = 4 ∧ ∃ x_z : Int, ((x_z = 1 ∧ (s = 0 ∨ s = 1)) ∨ (x_z = 0 ∧ ¬ (s = 0 ∨ s = 1))) ∧ st_z = ([(2, 0), (0, s)], [(0, x_z)], A))) ?_ 6 0 _ ?_
  · rintro pc st_z (⟨rfl, x_z, hx, rfl⟩)
    refine wq_ok srt_seed (fr := []) (cuts := [7]) (J := fun pc st_z => (pc = 7 ∧ (¬ x_z = 0) ∧ st_z = ([(2, 0), (0, s)], [], A))) ?_ 7 4 _ ?_
    · rintro pc st_z (⟨rfl, h0, rfl⟩)
      exact h7 (by rcases hx with ⟨_, e_z⟩ | ⟨e_z, _⟩; exact e_z; omega)
    · refine ⟨fun h0 => ?_, fun h0 => ?_⟩
      · exact ⟨rfl, keq.rf⟩
      · exact ⟨rfl, h0, rfl⟩
  · refine ⟨rfl, ?_⟩
    refine (xa_isSlot).imp ?_
    rintro ⟨r1_z, C_z⟩ ⟨q1_z, x_z, q2_z, hx⟩
    simp only at q1_z q2_z
    subst q1_z
    subst q2_z
    exact ⟨rfl, x_z, hx, rfl⟩
theorem kpP.kq {s : cx_Sd 12} {ks : List (Fin 12)} {A : pm_A} {k : Int} {r : pm_R} (hS : StE A) (hT : TrX s ks A 1) (h : kpP s ks A k r) : ((¬ (0 ≤ k ∧ k < 4)) ∧ r.2 = A) ∨ ((0 ≤ k ∧ k < 4) ∧ (TrX s ks r.2 (420 + 23 * k) ∧ r.2 (420 + 23 * k) 0 = A 1 0 ∧ r.2 (420 + 23 * k) 1 = A 1 1) ∧ ∀ k_z : Int, 0 ≤ k_z → k_z ≤ 3 → ¬ k_z = k → (r.2 (420 + 23 * k_z) 0 = A (420 + 23 * k_z) 0 ∧ r.2 (420 + 23 * k_z) 1 = A (420 + 23 * k_z) 1) ∧ ∀ (s_z : cx_Sd 12) (ls_z : List (Fin 12)), TrX s_z ls_z A (420 + 23 * k_z) → TrX s_z ls_z r.2 (420 + 23 * k_z)) := by
  rcases h with ⟨e_z, hn⟩ | ⟨_, hk, h1, h2, h3⟩
  · exact Or.inl ⟨hn, by rw [e_z]⟩
  · have hH := hS.keepH hk.1 hk.2
    have hF : scF A r.2 (420 + 23 * k) := h3.2.1
    have m8_z := hS.2.2.2.2.2.2.2.2
    have kS := kkS (k := k) hk.1 hk.2
    have kg := sc_k hH hH.2.1.1
    refine Or.inr ⟨hk, ⟨scP.tr (r := (none, r.2)) hH hT h3, h3.2.2.1.1, h3.2.2.1.2⟩, fun k_z k0_z k1_z hne => ?_⟩
    have kS2 := kkS (k := k_z) k0_z (by omega)
    have hno : ∀ j_z : Int, r.2 (420 + 23 * k_z) j_z = A (420 + 23 * k_z) j_z := fun j_z => hF.no hH kS2 (Or.inl (by omega)) (knd kS2 kg.1.1 (by decide)) (knd kS2 kg.1.2.1 (by decide)) (by decide) (by decide) (by decide)
    refine ⟨⟨hno 0, hno 1⟩, fun s_z ls_z hz => hz.sc hH hF (by omega) (fun i_z j_z i0_z i1_z j0 j1 => ?_)⟩
    rw [show (420 + 23 * k + 3 : Int) = 423 + 23 * k by omega, show (420 + 23 * k_z + 3 : Int) = 423 + 23 * k_z by omega, m8_z k i_z hk.1 hk.2 i0_z i1_z, m8_z k_z j_z k0_z (by omega) j0 j1]
    omega
end

section
/-! the reference leaves the kept seeds' slots -/
def s6 (A B : pm_A) : Prop := ∀ t_z q_z j_z : Int, 6 ≤ t_z → t_z ≤ 29 → inS t_z q_z j_z → B q_z j_z = A q_z j_z
theorem s6.rf {A : pm_A} : s6 A A := fun _ _ _ _ _ _ => rfl
theorem s6.tr {A B C : pm_A} (h : s6 A B) (g : s6 B C) : s6 A C := fun t_z q_z j_z h1 h2 h3 => (g t_z q_z j_z h1 h2 h3).trans (h t_z q_z j_z h1 h2 h3)
theorem s6.up {A B : pm_A} {r i x : Int} (h : s6 A B) (hr : ¬ (1 ≤ r ∧ r ≤ 3)) : s6 A (pm_upd B r i x) := fun t_z q_z j_z h1 h2 h3 => by
  rw [upd_o (by unfold inS at h3; omega)]
  exact h t_z q_z j_z h1 h2 h3
theorem s6.of {A B : pm_A} (h : ∀ q_z j_z : Int, 1 ≤ q_z → q_z ≤ 3 → B q_z j_z = A q_z j_z) : s6 A B := fun t_z q_z j_z _ _ h3 => h q_z j_z (by unfold inS at h3; omega) (by unfold inS at h3; omega)
theorem s6.ls {A B : pm_A} (h : s6 A B) (hA : gH wM A) {p : Int} (p0 : 6 ≤ p) (p1 : p ≤ 29) : LSm B p = LSm A p :=
  LSm_same (eM_1 hA (r := 1) (by omega) kn1 (by omega) (by omega)).2 (fun r_z j_z hr => h p r_z j_z p0 p1 hr)
theorem gpF.s6 {A B : pm_A} (h : gpF A B) : s6 A B := s6.of (fun q_z j_z h1 h2 => h.2 q_z j_z (by omega) (by omega) (by omega))
def bgK (A C : pm_A) : Prop := bgJ A C ∧ s6 A C
def bgK_post (A : pm_A) (r : pm_R) : Prop := r.1 = none ∧ bgK A r.2
theorem bg_48K {A : pm_A} (p6 : A 0 12 ≤ 6) (hz : szd A) : ∀ (m_z : Nat) (i_z : Int) (C_z : pm_A), (6 - i_z).toNat < m_z → 0 ≤ i_z → i_z ≤ 6 → bgK A C_z → Tm pmt (an_sh wM) o_X10_begins 48 ([(2, 0), (0, i_z)], [], C_z) (bgK_post A) := by
  intro m_z
  induction m_z with
  | zero => intro i_z C_z h_z; omega
  | succ m_z ih_z =>
    intro i_z C_z hm_z i0_z i1_z hJ
    have hJ2 := hJ
    obtain ⟨⟨hC, e7_z, e8, e5, hl, e10_z, ho⟩, hs⟩ := hJ
    have c17 := pM_17 hC
    have c15_z := pM_15 hC
    have f8_z : C_z 8 i_z = A 8 i_z := ho 8 i_z (by omega) (by omega)
    have hsz : i_z < A 0 12 → 1 ≤ A 8 i_z ∧ A 8 i_z ≤ 531441 := fun h_z => (hz i_z i0_z h_z).2.1
    have go_z : i_z < A 0 12 → ∀ x_z, 1 ≤ x_z → x_z ≤ 531441 → Tm pmt (an_sh wM) o_X10_begins 48 ([(2, 0), (0, i_z + 1)], [], pm_upd C_z 10 i_z x_z) (bgK_post A) := fun hi_z x_z x0_z x1_z => by
      refine ih_z (i_z + 1) _ (by omega) (by omega) (by omega) ⟨⟨uM_10 hC kn10 (by omega) (by omega), by rw [upd_o (by omega)]; exact e7_z, by rw [upd_o (by omega)]; exact e8, fun j_z j0 j1 => by rw [upd_o (by omega)]; exact e5 j_z j0 j1, fun k_z k0_z k1_z => ?_, by rw [upd_o (by omega)]; exact e10_z, fun r_z j_z h1 h2 => by rw [upd_o (by omega)]; exact ho r_z j_z h1 h2⟩, hs.up (by omega)⟩
      rw [LSm_up hC k0_z (by omega) (by unfold inS; omega)]; exact hl k_z k0_z k1_z
    refine wq_ok srt_begins (fr := []) (cuts := [48]) (J := fun pc st_z => (pc = 48 ∧ (i_z < (C_z 0 7)) ∧ st_z = ([(2, 0), (0, i_z + 1)], [], pm_upd C_z (C_z 0 17) i_z (C_z (C_z 0 15) i_z)))) ?_ 20 48 _ ?_
    · rintro pc st_z (⟨rfl, h0, rfl⟩)
      have := hsz (by omega)
      rw [c15_z, c17]
      exact go_z (by omega) _ (by omega) (by omega)
    · refine ⟨oM_0 (by omega) km0 7 rfl, ?_⟩
      refine ⟨fun h0 => ?_, fun h0 => ?_⟩
      · exact ⟨rfl, hJ2⟩
      · refine ⟨oM_0 (by omega) km0 17 rfl, ?_⟩
        refine ⟨oM_0 (by omega) km0 15 rfl, ?_⟩
        refine ⟨aM_8 (r := C_z 0 15) (by rw [c15_z]; omega) (by rw [c15_z]; exact kn8) (by omega) (by omega), ?_⟩
        have e1 : C_z (C_z 0 15) i_z = C_z 8 i_z := by rw [c15_z]
        refine ⟨(by have := hsz (by omega); exact ⟨by omega, by omega⟩), ?_⟩
        refine ⟨tM_10 (r := C_z 0 17) (by rw [c17]; omega) (by rw [c17]; exact kn10) (by omega) (by omega) rfl, ?_⟩
        refine ⟨⟨by omega, by omega⟩, ?_⟩
        exact ⟨rfl, h0, rfl⟩
theorem bg_42K {A B : pm_A} (p6 : A 0 12 ≤ 6) (hz : szd A) (hB : gH wM B) (e7 : B 0 7 = A 0 12) (e8 : B 0 8 = A 0 13) (e5 : ∀ j_z : Int, 0 ≤ j_z → j_z < 72 → B 5 j_z = A 7 j_z) (ho : ∀ r_z j_z, 6 ≤ r_z → B r_z j_z = A r_z j_z) (hs : s6 A B) {w1 : pm_V} : Tm pmt (an_sh wM) o_X10_begins 42 ([(2, 0), w1], [], B) (bgK_post A) := by
  refine wq_ok srt_begins (fr := []) (cuts := [46]) (J := fun pc st_z => (pc = 46 ∧ ∃ C_z, gH wM C_z ∧ (∀ k_z : Int, 0 ≤ k_z → k_z < B 0 7 → LSm C_z k_z = [(1, eone k_z)]) ∧ C_z 0 10 = 0 ∧ (∀ q_z j_z, (∀ t_z : Int, 0 ≤ t_z → t_z ≤ 5 → ¬ inS t_z q_z j_z) → ¬ (q_z = 0 ∧ j_z = 10) → q_z ≠ 10 → C_z q_z j_z = B q_z j_z) ∧ st_z = ([(2, 0), w1], [], C_z))) ?_ 6 42 _ ?_
  · rintro pc st_z (⟨rfl, C_z, q2_z, q3_z, q4_z, q5_z, rfl⟩)
    refine wq_ok srt_begins (fr := []) (cuts := [48]) (J := fun pc st_z => (pc = 48 ∧ st_z = ([(2, 0), (0, 0)], [], C_z))) ?_ 7 46 _ ?_
    · rintro pc st_z (⟨rfl, rfl⟩)
      refine bg_48K p6 hz _ 0 C_z (Nat.lt_succ_self _) (by omega) (by omega) ⟨⟨q2_z, ?_, ?_, fun j_z j0 j1 => ?_, fun k_z k0_z k1_z => q3_z k_z k0_z (by omega), q4_z, fun r_z j_z h1 h2 => ?_⟩, hs.tr (fun t_z q_z j_z t0_z t1_z ht => q5_z q_z j_z (fun u_z u0 u1_z hu => by unfold inS at ht hu; omega) (by unfold inS at ht; omega) (by unfold inS at ht; omega))⟩
      · rw [q5_z 0 7 (fun t_z t0_z t1_z => by unfold inS; omega) (by omega) (by omega)]; exact e7
      · rw [q5_z 0 8 (fun t_z t0_z t1_z => by unfold inS; omega) (by omega) (by omega)]; exact e8
      · rw [q5_z 5 j_z (fun t_z t0_z t1_z => by unfold inS; omega) (by omega) (by omega)]; exact e5 j_z j0 j1
      · rw [q5_z r_z j_z (fun t_z t0_z t1_z => by unfold inS; omega) (by omega) h2]; exact ho r_z j_z h1
    · exact ⟨rfl, rfl⟩
  · refine ⟨rM_0 (by omega) km0, ?_⟩
    refine (firsts_ex hB).imp ?_
    rintro ⟨r1_z, C_z⟩ ⟨q1_z, q2_z, q3_z, q4_z, q5_z⟩
    simp only at q1_z q2_z q3_z q4_z q5_z
    subst q1_z
    exact ⟨rfl, C_z, q2_z, q3_z, q4_z, q5_z, rfl⟩
theorem bg_18K {A : pm_A} (p6 : A 0 12 ≤ 6) (hz : szd A) : ∀ (m_z : Nat) (i_z : Int) (B_z : pm_A), (72 - i_z).toNat < m_z → 0 ≤ i_z → i_z ≤ 72 → gH wM B_z → B_z 0 7 = A 0 12 → B_z 0 8 = A 0 13 → (∀ j_z : Int, 0 ≤ j_z → j_z < i_z → B_z 5 j_z = A 7 j_z) → (∀ r_z j_z, 6 ≤ r_z → B_z r_z j_z = A r_z j_z) → s6 A B_z → Tm pmt (an_sh wM) o_X10_begins 18 ([(2, 0), (0, i_z)], [], B_z) (bgK_post A) := by
  intro m_z
  induction m_z with
  | zero => intro i_z B_z h_z; omega
  | succ m_z ih_z =>
    intro i_z B_z hm_z i0_z i1_z hB_z e7_z e8 e5 ho hs
    have c9_z := pM_9 hB_z
    have c14_z := pM_14 hB_z
    have b7 : i_z < 72 → -2999 ≤ B_z 7 i_z ∧ B_z 7 i_z ≤ 2999 := fun h_z => eM_7 hB_z (r := 7) (by omega) kn7 i0_z h_z
    refine wq_ok srt_begins (fr := []) (cuts := [18, 42]) (J := fun pc st_z => (pc = 42 ∧ (72 ≤ i_z) ∧ st_z = ([(2, 0), (0, i_z)], [], B_z)) ∨ (pc = 18 ∧ (i_z < 72) ∧ st_z = ([(2, 0), (0, i_z + 1)], [], pm_upd B_z (B_z 0 9) i_z (B_z (B_z 0 14) i_z)))) ?_ 18 18 _ ?_
    · rintro pc st_z (⟨rfl, h0, rfl⟩ | ⟨rfl, h0, rfl⟩)
      · exact bg_42K p6 hz hB_z e7_z e8 (fun j_z j0 j1 => e5 j_z j0 (by omega)) ho hs
      · have b_z := b7 h0
        rw [c9_z, c14_z]
        refine ih_z (i_z + 1) _ (by omega) (by omega) (by omega) (uM_5 hB_z kn5 (by omega) (by omega)) (by rw [upd_o (by omega)]; exact e7_z) (by rw [upd_o (by omega)]; exact e8) (fun j_z j0 j1 => ?_) (fun r_z j_z h1 => by rw [upd_o (by omega)]; exact ho r_z j_z h1) (hs.up (by omega))
        by_cases e_z : j_z = i_z
        · rw [e_z, upd_at]; exact ho 7 i_z (by omega)
        · rw [upd_o (by omega)]; exact e5 j_z j0 (by omega)
    · refine ⟨fun h0 => ?_, fun h0 => ?_⟩
      · exact Or.inl (⟨rfl, h0, rfl⟩)
      · refine ⟨oM_0 (by omega) km0 9 rfl, ?_⟩
        refine ⟨oM_0 (by omega) km0 14 rfl, ?_⟩
        refine ⟨aM_7 (r := B_z 0 14) (by rw [c14_z]; omega) (by rw [c14_z]; exact kn7) (by omega) (by omega), ?_⟩
        have e1 : B_z (B_z 0 14) i_z = B_z 7 i_z := by rw [c14_z]
        refine ⟨tM_5 (r := B_z 0 9) (by rw [c9_z]; omega) (by rw [c9_z]; exact kn5) (by omega) (by omega) rfl, ?_⟩
        refine ⟨⟨by omega, by omega⟩, ?_⟩
        exact Or.inr (⟨rfl, h0, rfl⟩)
theorem begins_s6 {A : pm_A} (hA : gH wM A) (hz : szd A) : Cl pmt (an_sh wM) 130 [(2, 0)] A (bgK_post A) := by
  have p12 := fM_0_12 hA (r := 0) (by omega) km0
  have p13_z := fM_0_13 hA (r := 0) (by omega) km0
  have f13 : pm_upd A 0 7 (A 0 12) 0 13 = A 0 13 := upd_o (by omega)
  refine Cl.of (Nat.le_of_ble_eq_true rfl) ?_
  refine wq_ok (full := o_X10_begins) srt_begins (fr := []) (cuts := [18]) (J := fun pc st_z => (pc = 18 ∧ st_z = ([(2, 0), (0, 0)], [], pm_upd (pm_upd A 0 7 (A 0 12)) 0 8 ((pm_upd A 0 7 (A 0 12)) 0 13)))) ?_ 15 0 _ ?_
  · rintro pc st_z (⟨rfl, rfl⟩)
    rw [f13]
    exact bg_18K p12.2 hz _ 0 _ (Nat.lt_succ_self _) (by omega) (by omega) (uM_0_8 (uM_0_7 hA p12.1 p12.2) p13_z.1 p13_z.2) (by rw [upd_o (by omega), upd_at]) (by rw [upd_at]) (fun j_z j0 j1 => by omega) (fun r_z j_z h1 => by rw [upd_o (by omega), upd_o (by omega)]) ((s6.rf.up (by omega)).up (by omega))
  · refine ⟨oM_0 (by omega) km0 12 rfl, ?_⟩
    refine ⟨oM_0 (by omega) km0 7 rfl, ?_⟩
    refine ⟨oM_0 (by omega) km0 13 rfl, ?_⟩
    refine ⟨oM_0 (by omega) km0 8 rfl, ?_⟩
    exact ⟨rfl, rfl⟩
theorem begins_exK {A : pm_A} (hA : gH wM A) (hz : szd A) : Cl pmt (an_sh wM) 130 [(2, 0)] A (fun r_z => (r_z.1 = none ∧ bgK A r_z.2) ∧ ∀ k_z : Int, 0 ≤ k_z → k_z < A 0 12 → r_z.2 10 k_z = A 8 k_z) := by
  refine (Cl.and (begins_ex2 hA hz) (begins_s6 hA hz)).imp ?_
  rintro r_z ⟨h1, h2⟩
  exact ⟨⟨h2.1, h2.2⟩, h1.2⟩
def bz3K (A : pm_A) (r : pm_R) : Prop := ri_post r ∧ ∃ x_z, r.1 = some (0, x_z) ∧ bgA (A 0 12) (A 7) x_z ∧ ((x_z = 0 ∧ lsz (A 0 12) (A 7) (r.2 10) ∧ ∃ B_z, gpF A B_z ∧ szd B_z ∧ bgK B_z r.2) ∨ (¬ x_z = 0 ∧ gpF A r.2))
theorem mqc_125K {A : pm_A} (h : RI A) (hT : tz A) (p1 : 1 ≤ A 0 12) (hdg : dgz (A 0 12) (A 7)) (hsk : skz (A 0 12) (A 7)) {w1 w2 w3 w4 : pm_V} : Tm pmt (an_sh wM) o_X10_begin 125 ([(2, 0), w1, w2, w3, w4], [], A) (bz3K A) := by
  have p12 := fM_0_12 h.g (r := 0) (by omega) km0
  refine wq_ok srt_Mbegin (fr := []) (cuts := [129]) (J := fun pc st_z => (pc = 129 ∧ ∃ B_z x_z, gpF A B_z ∧ ((x_z = 0 ∧ ∀ d_z, ¬ sy (A 0 12) (A 7) d_z) ∨ (¬ x_z = 0 ∧ szd B_z ∧ ∀ d_z, sy (A 0 12) (A 7) d_z → ∀ i_z : Int, 0 ≤ i_z → i_z < A 0 12 → ∃ c_z, d_z i_z = c_z * B_z 8 i_z)) ∧ st_z = ([(2, 0), w1, w2, w3, w4], [(0, x_z)], B_z))) ?_ 6 125 _ ?_
  · rintro pc st_z (⟨rfl, B_z, x_z, q1_z, q3_z, rfl⟩)
    have hB_z : RI B_z := h.typed q1_z.1 q1_z.fr rfl
    have f12_z : B_z 0 12 = A 0 12 := q1_z.2 0 12 (by omega) (by omega) (by omega)
    refine wq_ok srt_Mbegin (fr := []) (cuts := [138]) (J := fun pc st_z => (pc = 138 ∧ szd B_z ∧ ∃ C_z, bgK B_z C_z ∧ lsz (A 0 12) (A 7) (C_z 10) ∧ st_z = ([(2, 0), w1, w2, w3, w4], [], C_z))) ?_ 7 129 _ ?_
    · rintro pc st_z (⟨rfl, q3_z, C_z, y2, y3, rfl⟩)
      refine wq_ok srt_Mbegin (fr := []) (cuts := []) (J := fun _ _ => False) ?_ 6 138 _ ?_
      · intro pc st_z h; exact h.elim
      · exact ⟨rfl, ⟨⟨_, rfl⟩, bg_ri hB_z q3_z (by omega) y2.1⟩, 0, rfl, Or.inr ⟨p1, Or.inr (Or.inr (Or.inr ⟨rfl, hdg, hsk, _, y3.2.1⟩))⟩, Or.inl ⟨rfl, y3, B_z, q1_z, q3_z, y2⟩⟩
    · refine ⟨fun h0 => ?_, fun h0 => ?_⟩
      · refine ⟨rM_0 (by omega) km0, ?_⟩
        rcases q3_z with q3_z | ⟨q3_z, q4_z, q5_z⟩
        · exact absurd q3_z.1 h0
        refine (begins_exK hB_z.g q4_z).imp ?_
        rintro ⟨r1_z, C_z⟩ ⟨⟨y1, y2⟩, y3⟩
        simp only at y1 y2 y3
        subst y1
        exact ⟨rfl, q4_z, C_z, y2, lsz_of f12_z (fun x_z => q1_z.2 7 x_z (by omega) (by omega) (by omega)) q4_z q5_z y3, rfl⟩
      · rcases q3_z with q3_z | ⟨q3_z, q4_z, q5_z⟩
        · exact ⟨rfl, ⟨⟨_, rfl⟩, hB_z⟩, 3, rfl, Or.inr ⟨p1, Or.inr (Or.inr (Or.inl ⟨rfl, hdg, hsk, q3_z.2⟩))⟩, Or.inr ⟨by omega, q1_z⟩⟩
        · exact absurd h0 q3_z
  · refine ⟨rM_0 (by omega) km0, ?_⟩
    refine (hasSizes_ex2 h.g hT p12.2).imp ?_
    rintro ⟨r1_z, B_z⟩ ⟨q1_z, x_z, q2_z, q3_z⟩
    simp only at q1_z q2_z q3_z
    subst q2_z
    exact ⟨rfl, B_z, x_z, q1_z, q3_z, rfl⟩
theorem mqc_51K {A : pm_A} (h : RI A) {i : Int} (i0 : 0 ≤ i) (i1 : i < A 0 12) (p6 : A 0 12 ≤ 6) (hdg : dgz (A 0 12) (A 7)) (H : (∀ j_z : Int, 0 ≤ j_z → j_z < A 0 12 → gdz (A 7 (6 * i + j_z)) (A 7 (6 * j_z + i))) → ∀ w2_z w3_z w4_z, Tm pmt (an_sh wM) o_X10_begin 41 ([(2, 0), (0, i + 1), w2_z, w3_z, w4_z], [], A) (bz3K A)) : ∀ (m_z : Nat) (j_z : Int) (w3_z w4_z : pm_V), (6 - j_z).toNat < m_z → 0 ≤ j_z → j_z ≤ 6 → (∀ k_z : Int, 0 ≤ k_z → k_z < j_z → k_z < A 0 12 → gdz (A 7 (6 * i + k_z)) (A 7 (6 * k_z + i))) → Tm pmt (an_sh wM) o_X10_begin 51 ([(2, 0), (0, i), (0, j_z), w3_z, w4_z], [], A) (bz3K A) := by
  have c14_z := pM_14 h.g
  intro m_z
  induction m_z with
  | zero => intro j_z w3_z w4_z h; omega
  | succ m_z ih_z =>
    intro j_z w3_z w4_z hm_z j0 j1 hj
    have go_z : j_z < A 0 12 → gdz (A 7 (6 * i + j_z)) (A 7 (6 * j_z + i)) → ∀ w3_z w4_z, Tm pmt (an_sh wM) o_X10_begin 51 ([(2, 0), (0, i), (0, j_z + 1), w3_z, w4_z], [], A) (bz3K A) := fun hlt hs w3_z w4_z => by
      refine ih_z (j_z + 1) _ _ (by omega) (by omega) (by omega) (fun k_z k0_z k1_z k2_z => ?_)
      by_cases e_z : k_z = j_z
      · rw [e_z]; exact hs
      · exact hj k_z k0_z (by omega) k2_z
    have hend : A 0 12 ≤ j_z → ∀ k_z : Int, 0 ≤ k_z → k_z < A 0 12 → gdz (A 7 (6 * i + k_z)) (A 7 (6 * k_z + i)) := fun hlt k_z k0_z k1_z => hj k_z k0_z (by omega) k1_z
    have h2b : j_z < A 0 12 → ¬ gdz (A 7 (6 * i + j_z)) (A 7 (6 * j_z + i)) → bz3K A (some (0, 2), A) := fun hlt hn => ⟨⟨⟨_, rfl⟩, h⟩, 2, rfl, Or.inr ⟨by omega, Or.inr (Or.inl ⟨rfl, hdg, fun hs => hn (hs i j_z i0 i1 j0 hlt)⟩)⟩, Or.inr ⟨by omega, gpF_rf h.g⟩⟩
    refine wq_ok srt_Mbegin (fr := []) (cuts := [41, 51]) (J := fun pc st_z => (pc = 41 ∧ ((A 0 12) ≤ j_z) ∧ st_z = ([(2, 0), (0, i + 1), (0, j_z), w3_z, w4_z], [], A)) ∨ (pc = 51 ∧ (j_z < (A 0 12)) ∧ (¬ (A (A 0 14) ((6 * i) + j_z)) = 0) ∧ ((A (A 0 14) ((6 * i) + j_z)) ≤ 0) ∧ ((A (A 0 14) ((6 * i) + j_z)) < 0) ∧ (0 < (A (A 0 14) ((6 * j_z) + i))) ∧ st_z = ([(2, 0), (0, i), (0, j_z + 1), (0, A (A 0 14) ((6 * i) + j_z)), (0, A (A 0 14) ((6 * j_z) + i))], [], A)) ∨ (pc = 51 ∧ (j_z < (A 0 12)) ∧ (¬ (A (A 0 14) ((6 * i) + j_z)) = 0) ∧ (0 < (A (A 0 14) ((6 * i) + j_z))) ∧ ((A (A 0 14) ((6 * j_z) + i)) < 0) ∧ st_z = ([(2, 0), (0, i), (0, j_z + 1), (0, A (A 0 14) ((6 * i) + j_z)), (0, A (A 0 14) ((6 * j_z) + i))], [], A)) ∨ (pc = 51 ∧ (j_z < (A 0 12)) ∧ (¬ (A (A 0 14) ((6 * i) + j_z)) = 0) ∧ (0 < (A (A 0 14) ((6 * i) + j_z))) ∧ (0 ≤ (A (A 0 14) ((6 * j_z) + i))) ∧ ((A (A 0 14) ((6 * i) + j_z)) < 0) ∧ (0 < (A (A 0 14) ((6 * j_z) + i))) ∧ st_z = ([(2, 0), (0, i), (0, j_z + 1), (0, A (A 0 14) ((6 * i) + j_z)), (0, A (A 0 14) ((6 * j_z) + i))], [], A)) ∨ (pc = 51 ∧ (j_z < (A 0 12)) ∧ ((A (A 0 14) ((6 * i) + j_z)) = 0) ∧ ((A (A 0 14) ((6 * j_z) + i)) = 0) ∧ st_z = ([(2, 0), (0, i), (0, j_z + 1), (0, A (A 0 14) ((6 * i) + j_z)), (0, A (A 0 14) ((6 * j_z) + i))], [], A)) ∨ (pc = 51 ∧ (j_z < (A 0 12)) ∧ ((A (A 0 14) ((6 * i) + j_z)) = 0) ∧ (¬ (A (A 0 14) ((6 * j_z) + i)) = 0) ∧ ((A (A 0 14) ((6 * i) + j_z)) ≤ 0) ∧ ((A (A 0 14) ((6 * i) + j_z)) < 0) ∧ (0 < (A (A 0 14) ((6 * j_z) + i))) ∧ st_z = ([(2, 0), (0, i), (0, j_z + 1), (0, A (A 0 14) ((6 * i) + j_z)), (0, A (A 0 14) ((6 * j_z) + i))], [], A)) ∨ (pc = 51 ∧ (j_z < (A 0 12)) ∧ ((A (A 0 14) ((6 * i) + j_z)) = 0) ∧ (¬ (A (A 0 14) ((6 * j_z) + i)) = 0) ∧ (0 < (A (A 0 14) ((6 * i) + j_z))) ∧ ((A (A 0 14) ((6 * j_z) + i)) < 0) ∧ st_z = ([(2, 0), (0, i), (0, j_z + 1), (0, A (A 0 14) ((6 * i) + j_z)), (0, A (A 0 14) ((6 * j_z) + i))], [], A)) ∨ (pc = 51 ∧ (j_z < (A 0 12)) ∧ ((A (A 0 14) ((6 * i) + j_z)) = 0) ∧ (¬ (A (A 0 14) ((6 * j_z) + i)) = 0) ∧ (0 < (A (A 0 14) ((6 * i) + j_z))) ∧ (0 ≤ (A (A 0 14) ((6 * j_z) + i))) ∧ ((A (A 0 14) ((6 * i) + j_z)) < 0) ∧ (0 < (A (A 0 14) ((6 * j_z) + i))) ∧ st_z = ([(2, 0), (0, i), (0, j_z + 1), (0, A (A 0 14) ((6 * i) + j_z)), (0, A (A 0 14) ((6 * j_z) + i))], [], A))) ?_ 41 51 _ ?_
    · rintro pc st_z (⟨rfl, h0, rfl⟩ | ⟨rfl, h0, h1, h2, h3, h4, rfl⟩ | ⟨rfl, h0, h1, h2, h3, rfl⟩ | ⟨rfl, h0, h1, h2, h3, h4, h5, rfl⟩ | ⟨rfl, h0, h1, h2, rfl⟩ | ⟨rfl, h0, h1, h2, h3, h4, h5, rfl⟩ | ⟨rfl, h0, h1, h2, h3, h4, rfl⟩ | ⟨rfl, h0, h1, h2, h3, h4, h5, h6, rfl⟩)
      · exact H (hend (by omega)) _ _ _
      · rw [c14_z] at h1 h2 h3 h4
        exact go_z (by omega) (by unfold gdz; omega) _ _
      · rw [c14_z] at h1 h2 h3
        exact go_z (by omega) (by unfold gdz; omega) _ _
      · rw [c14_z] at h1 h2 h3 h4 h5
        exact go_z (by omega) (by unfold gdz; omega) _ _
      · rw [c14_z] at h1 h2
        exact go_z (by omega) (by unfold gdz; omega) _ _
      · rw [c14_z] at h1 h2 h3 h4 h5
        exact go_z (by omega) (by unfold gdz; omega) _ _
      · rw [c14_z] at h1 h2 h3 h4
        exact go_z (by omega) (by unfold gdz; omega) _ _
      · rw [c14_z] at h1 h2 h3 h4 h5 h6
        exact go_z (by omega) (by unfold gdz; omega) _ _
    · refine ⟨oM_0 (by omega) km0 12 rfl, ?_⟩
      refine ⟨fun h0 => ?_, fun h0 => ?_⟩
      · refine ⟨⟨by omega, by omega⟩, ?_⟩
        exact Or.inl (⟨rfl, h0, rfl⟩)
      · refine ⟨oM_0 (by omega) km0 14 rfl, ?_⟩
        refine ⟨⟨by omega, by omega⟩, ?_⟩
        refine ⟨⟨by omega, by omega⟩, ?_⟩
        refine ⟨aM_7 (r := A 0 14) (by rw [c14_z]; omega) (by rw [c14_z]; exact kn7) (by omega) (by omega), ?_⟩
        have e1 : A (A 0 14) ((6 * i) + j_z) = A 7 ((6 * i) + j_z) := by rw [c14_z]
        refine ⟨oM_0 (by omega) km0 14 rfl, ?_⟩
        refine ⟨⟨by omega, by omega⟩, ?_⟩
        refine ⟨⟨by omega, by omega⟩, ?_⟩
        refine ⟨aM_7 (r := A 0 14) (by rw [c14_z]; omega) (by rw [c14_z]; exact kn7) (by omega) (by omega), ?_⟩
        have e2 : A (A 0 14) ((6 * j_z) + i) = A 7 ((6 * j_z) + i) := by rw [c14_z]
        refine ⟨fun h1 => ?_, fun h1 => ?_⟩
        · refine ⟨fun h2 => ?_, fun h2 => ?_⟩
          · refine ⟨fun h3 => ?_, fun h3 => ?_⟩
            · exact ⟨rfl, h2b (by omega) (by rw [← e1, ← e2]; unfold gdz; omega)⟩
            · refine ⟨fun h4 => ?_, fun h4 => ?_⟩
              · refine ⟨⟨by omega, by omega⟩, ?_⟩
                exact Or.inr (Or.inl (⟨rfl, h0, h1, h2, h3, h4, rfl⟩))
              · exact ⟨rfl, h2b (by omega) (by rw [← e1, ← e2]; unfold gdz; omega)⟩
          · refine ⟨fun h3 => ?_, fun h3 => ?_⟩
            · refine ⟨⟨by omega, by omega⟩, ?_⟩
              exact Or.inr (Or.inr (Or.inl (⟨rfl, h0, h1, h2, h3, rfl⟩)))
            · refine ⟨fun h4 => ?_, fun h4 => ?_⟩
              · exact ⟨rfl, h2b (by omega) (by rw [← e1, ← e2]; unfold gdz; omega)⟩
              · refine ⟨fun h5 => ?_, fun h5 => ?_⟩
                · refine ⟨⟨by omega, by omega⟩, ?_⟩
                  exact Or.inr (Or.inr (Or.inr (Or.inl (⟨rfl, h0, h1, h2, h3, h4, h5, rfl⟩))))
                · exact ⟨rfl, h2b (by omega) (by rw [← e1, ← e2]; unfold gdz; omega)⟩
        · refine ⟨fun h2 => ?_, fun h2 => ?_⟩
          · refine ⟨⟨by omega, by omega⟩, ?_⟩
            exact Or.inr (Or.inr (Or.inr (Or.inr (Or.inl (⟨rfl, h0, h1, h2, rfl⟩)))))
          · refine ⟨fun h3 => ?_, fun h3 => ?_⟩
            · refine ⟨fun h4 => ?_, fun h4 => ?_⟩
              · exact ⟨rfl, h2b (by omega) (by rw [← e1, ← e2]; unfold gdz; omega)⟩
              · refine ⟨fun h5 => ?_, fun h5 => ?_⟩
                · refine ⟨⟨by omega, by omega⟩, ?_⟩
                  exact Or.inr (Or.inr (Or.inr (Or.inr (Or.inr (Or.inl (⟨rfl, h0, h1, h2, h3, h4, h5, rfl⟩))))))
                · exact ⟨rfl, h2b (by omega) (by rw [← e1, ← e2]; unfold gdz; omega)⟩
            · refine ⟨fun h4 => ?_, fun h4 => ?_⟩
              · refine ⟨⟨by omega, by omega⟩, ?_⟩
                exact Or.inr (Or.inr (Or.inr (Or.inr (Or.inr (Or.inr (Or.inl (⟨rfl, h0, h1, h2, h3, h4, rfl⟩)))))))
              · refine ⟨fun h5 => ?_, fun h5 => ?_⟩
                · exact ⟨rfl, h2b (by omega) (by rw [← e1, ← e2]; unfold gdz; omega)⟩
                · refine ⟨fun h6 => ?_, fun h6 => ?_⟩
                  · refine ⟨⟨by omega, by omega⟩, ?_⟩
                    exact Or.inr (Or.inr (Or.inr (Or.inr (Or.inr (Or.inr (Or.inr (⟨rfl, h0, h1, h2, h3, h4, h5, h6, rfl⟩)))))))
                  · exact ⟨rfl, h2b (by omega) (by rw [← e1, ← e2]; unfold gdz; omega)⟩
theorem mqc_41K {A : pm_A} (h : RI A) (p1 : 1 ≤ A 0 12) (hdg : dgz (A 0 12) (A 7)) : ∀ (m_z : Nat) (i_z : Int) (w2_z w3_z w4_z : pm_V), (6 - i_z).toNat < m_z → 0 ≤ i_z → i_z ≤ 6 → (∀ k_z : Int, 0 ≤ k_z → k_z < i_z → k_z < A 0 12 → ∀ j_z : Int, 0 ≤ j_z → j_z < A 0 12 → gdz (A 7 (6 * k_z + j_z)) (A 7 (6 * j_z + k_z))) → Tm pmt (an_sh wM) o_X10_begin 41 ([(2, 0), (0, i_z), w2_z, w3_z, w4_z], [], A) (bz3K A) := by
  have p12 := fM_0_12 h.g (r := 0) (by omega) km0
  intro m_z
  induction m_z with
  | zero => intro i_z w2_z w3_z w4_z h; omega
  | succ m_z ih_z =>
    intro i_z w2_z w3_z w4_z hm_z i0_z i1_z hi_z
    refine wq_ok srt_Mbegin (fr := []) (cuts := [51, 125]) (J := fun pc st_z => (pc = 125 ∧ ((A 0 12) ≤ i_z) ∧ st_z = ([(2, 0), (0, i_z), w2_z, w3_z, w4_z], [], A)) ∨ (pc = 51 ∧ (i_z < (A 0 12)) ∧ st_z = ([(2, 0), (0, i_z), (0, 0), w3_z, w4_z], [], A))) ?_ 11 41 _ ?_
    · rintro pc st_z (⟨rfl, h0, rfl⟩ | ⟨rfl, h0, rfl⟩)
      · exact mqc_125K h ⟨h.2.1.1, fun a_z b_z a0_z a1_z b0 b1 e_z => by have := hi_z a_z a0_z (by omega) a1_z b_z b0 b1; unfold gdz at this; omega⟩ p1 hdg (fun a_z b_z a0_z a1_z b0 b1 => hi_z a_z a0_z (by omega) a1_z b_z b0 b1)
      · refine mqc_51K h i0_z (by omega) p12.2 hdg (fun hj w2_z w3_z w4_z => ih_z (i_z + 1) _ _ _ (by omega) (by omega) (by omega) (fun k_z k0_z k1_z k2_z => ?_)) _ 0 _ _ (Nat.lt_succ_self _) (by omega) (by omega) (fun k_z k0_z k1_z => by omega)
        by_cases e_z : k_z = i_z
        · rw [e_z]; exact hj
        · exact hi_z k_z k0_z (by omega) k2_z
    · refine ⟨oM_0 (by omega) km0 12 rfl, ?_⟩
      refine ⟨fun h0 => ?_, fun h0 => ?_⟩
      · exact Or.inl (⟨rfl, h0, rfl⟩)
      · exact Or.inr (⟨rfl, h0, rfl⟩)
theorem mqc_11K {A : pm_A} (h : RI A) (p1 : 1 ≤ A 0 12) : ∀ (m_z : Nat) (i_z : Int) (w2_z w3_z w4_z : pm_V), (6 - i_z).toNat < m_z → 0 ≤ i_z → i_z ≤ 6 → (∀ k_z : Int, 0 ≤ k_z → k_z < i_z → k_z < A 0 12 → A 7 (7 * k_z) = 0) → Tm pmt (an_sh wM) o_X10_begin 11 ([(2, 0), (0, i_z), w2_z, w3_z, w4_z], [], A) (bz3K A) := by
  have p12 := fM_0_12 h.g (r := 0) (by omega) km0
  have c14_z := pM_14 h.g
  intro m_z
  induction m_z with
  | zero => intro i_z w2_z w3_z w4_z h; omega
  | succ m_z ih_z =>
    intro i_z w2_z w3_z w4_z hm_z i0_z i1_z hi_z
    refine wq_ok srt_Mbegin (fr := []) (cuts := [11, 41]) (J := fun pc st_z => (pc = 41 ∧ ((A 0 12) ≤ i_z) ∧ st_z = ([(2, 0), (0, 0), w2_z, w3_z, w4_z], [], A)) ∨ (pc = 11 ∧ (i_z < (A 0 12)) ∧ ((A (A 0 14) (7 * i_z)) = 0) ∧ st_z = ([(2, 0), (0, i_z + 1), w2_z, w3_z, w4_z], [], A))) ?_ 18 11 _ ?_
    · rintro pc st_z (⟨rfl, h0, rfl⟩ | ⟨rfl, h0, h1, rfl⟩)
      · exact mqc_41K h p1 (fun k_z k0_z k1_z => hi_z k_z k0_z (by omega) k1_z) _ 0 _ _ _ (Nat.lt_succ_self _) (by omega) (by omega) (fun k_z k0_z k1_z => by omega)
      · rw [c14_z] at h1
        refine ih_z (i_z + 1) _ _ _ (by omega) (by omega) (by omega) (fun k_z k0_z k1_z k2_z => ?_)
        by_cases e_z : k_z = i_z
        · rw [e_z]; exact h1
        · exact hi_z k_z k0_z (by omega) k2_z
    · refine ⟨oM_0 (by omega) km0 12 rfl, ?_⟩
      refine ⟨fun h0 => ?_, fun h0 => ?_⟩
      · exact Or.inl (⟨rfl, h0, rfl⟩)
      · refine ⟨oM_0 (by omega) km0 14 rfl, ?_⟩
        refine ⟨⟨by omega, by omega⟩, ?_⟩
        refine ⟨aM_7 (r := A 0 14) (by rw [c14_z]; omega) (by rw [c14_z]; exact kn7) (by omega) (by omega), ?_⟩
        have e1 : A (A 0 14) (7 * i_z) = A 7 (7 * i_z) := by rw [c14_z]
        refine ⟨fun h1 => ?_, fun h1 => ?_⟩
        · refine ⟨⟨by omega, by omega⟩, ?_⟩
          exact Or.inr (⟨rfl, h0, h1, rfl⟩)
        · rw [c14_z] at h1
          exact ⟨rfl, ⟨⟨_, rfl⟩, h⟩, 1, rfl, Or.inr ⟨p1, Or.inl ⟨rfl, fun hs => h1 (hs i_z i0_z (by omega))⟩⟩, Or.inr ⟨by omega, gpF_rf h.g⟩⟩
theorem mbegin_ex3K {A : pm_A} (h : RI A) : Cl pmt (an_sh wM) 129 [(2, 0)] A (bz3K A) := by
  have p12 := fM_0_12 h.g (r := 0) (by omega) km0
  refine Cl.of (Nat.le_of_ble_eq_true rfl) ?_
  refine wq_ok (full := o_X10_begin) srt_Mbegin (fr := []) (cuts := [11]) (J := fun pc st_z => (pc = 11 ∧ (¬ (A 0 12) = 0) ∧ st_z = ([(2, 0), (0, 0), (9, 0), (9, 0), (9, 0)], [], A))) ?_ 10 0 _ ?_
  · rintro pc st_z (⟨rfl, h0, rfl⟩)
    exact mqc_11K h (by omega) _ 0 _ _ _ (Nat.lt_succ_self _) (by omega) (by omega) (fun k_z k0_z k1_z => by omega)
  · refine ⟨oM_0 (by omega) km0 12 rfl, ?_⟩
    refine ⟨fun h0 => ?_, fun h0 => ?_⟩
    · exact ⟨rfl, h0, rfl⟩
    · exact ⟨rfl, ⟨⟨_, rfl⟩, h⟩, -1, rfl, Or.inl ⟨rfl, h0⟩, Or.inr ⟨by omega, gpF_rf h.g⟩⟩
def ms3K (A : pm_A) (sl n : Int) (r : pm_R) : Prop := ri_post r ∧ ∃ B_z x_z, RI B_z ∧ sdF A B_z ∧ (∀ k_z : Int, 0 ≤ k_z → k_z < 72 → B_z 7 k_z = tsum (ctr n (fcs A sl)) 1000 k_z) ∧ (∀ k_z : Int, 0 ≤ k_z → k_z < 72 → -9 ≤ B_z 7 k_z ∧ B_z 7 k_z ≤ 9) ∧ (B_z 0 12 = n - 3 ∧ B_z 0 13 = 0) ∧ bgA (B_z 0 12) (B_z 7) x_z ∧ r.1 = some (0, if x_z = 0 then 1 else 0) ∧ (r.2 0 12 = B_z 0 12 ∧ r.2 0 13 = B_z 0 13 ∧ ∀ k_z : Int, 0 ≤ k_z → r.2 7 k_z = B_z 7 k_z) ∧ ((x_z = 0 ∧ lsz (B_z 0 12) (B_z 7) (r.2 10) ∧ ∃ E_z, gpF B_z E_z ∧ szd E_z ∧ bgK E_z r.2) ∨ (¬ x_z = 0 ∧ gpF B_z r.2))
theorem mbegin_fr3K {A : pm_A} (h : RI A) : Cl pmt (an_sh wM) 129 [(2, 0)] A (fun r_z => bz3K A r_z ∧ r_z.2 0 12 = A 0 12 ∧ r_z.2 0 13 = A 0 13 ∧ ∀ k_z : Int, 0 ≤ k_z → r_z.2 7 k_z = A 7 k_z) := by
  obtain ⟨k_z, r_z, c1_z, q_z⟩ := mbegin_ex3K h
  have f_z := (fm_begin c1_z (gK_of h.g)).2
  exact ⟨k_z, r_z, c1_z, q_z, f_z 0 12 (by omega) (by omega) (by rw [kMd 12]; exact nin rfl), f_z 0 13 (by omega) (by omega) (by rw [kMd 13]; exact nin rfl), fun k_z k0_z => f_z 7 k_z (by omega) k0_z (by rw [kM7]; exact nin rfl)⟩
theorem sdr_150K {A B : pm_A} {sl n z3 a b c : Int} (hs : sl = 0 ∨ sl = 1) (hA : gH wM A) (hcut : cntF (fcs A sl) 100 ≤ 6) (n1 : n ≤ 10) (cn : c < n) (hs3 : sdT n (fcs A sl) a b c) (ht : tri3 a b c) (hJ : sdK A B sl n (100 * a + 10 * b + c)) (H : ∀ C_z w7_z w8 w9, sdK A C_z sl n (100 * a + 10 * b + c + 1) → Tm pmt (an_sh wM) o_X10_seed 174 ([(2, 0), (0, sl), (0, n), (0, z3), (0, a), (0, b), (0, c), w7_z, w8, w9], [], C_z) (ms3K A sl n)) {p7 p8 p9 : Int} (hp7 : plV (fcs A sl) (10 * a + b) p7) (hp8 : plV (fcs A sl) (10 * b + c) p8) (hp9 : plV (fcs A sl) (10 * a + c) p9) : Tm pmt (an_sh wM) o_X10_seed 150 ([(2, 0), (0, sl), (0, n), (0, z3), (0, a), (0, b), (0, c), (0, p7), (0, p8), (0, p9)], [], B) (ms3K A sl n) := by
  have gB := hJ.1.1.1
  have mB : ∀ k_z : Int, 0 ≤ k_z → k_z < 72 → -100 ≤ B 7 k_z ∧ B 7 k_z ≤ 100 := fun k_z k0_z k1_z => by have := hJ.1.b9 k0_z k1_z; omega
  refine wq_ok srt_Mseed (fr := []) (cuts := [158]) (J := fun pc st_z => (pc = 158 ∧ ∃ B1, ldq_post B p7 p8 (none, B1) ∧ st_z = ([(2, 0), (0, sl), (0, n), (0, z3), (0, a), (0, b), (0, c), (0, p7), (0, p8), (0, p9)], [], B1))) ?_ 8 150 _ ?_
  · rintro pc st_z (⟨rfl, B1, lB1, rfl⟩)
    have gB1 := lB1.1.2.1
    have mB1 : ∀ k_z : Int, 0 ≤ k_z → k_z < 72 → -100 ≤ B1 7 k_z ∧ B1 7 k_z ≤ 100 := fun k_z k0_z k1_z => by have := hJ.1.b9 k0_z k1_z; have e1 := lB1.1.2.2.2.1 k_z; simp only at e1; omega
    refine wq_ok srt_Mseed (fr := []) (cuts := [166]) (J := fun pc st_z => (pc = 166 ∧ ∃ B2, ldq_post B1 p8 p9 (none, B2) ∧ st_z = ([(2, 0), (0, sl), (0, n), (0, z3), (0, a), (0, b), (0, c), (0, p7), (0, p8), (0, p9)], [], B2))) ?_ 8 158 _ ?_
    · rintro pc st_z (⟨rfl, B2, lB2, rfl⟩)
      have gB2 := lB2.1.2.1
      have mB2 : ∀ k_z : Int, 0 ≤ k_z → k_z < 72 → -100 ≤ B2 7 k_z ∧ B2 7 k_z ≤ 100 := fun k_z k0_z k1_z => by have := hJ.1.b9 k0_z k1_z; have e1 := lB1.1.2.2.2.1 k_z; have e2 := lB2.1.2.2.2.1 k_z; simp only at e1 e2; omega
      refine wq_ok srt_Mseed (fr := []) (cuts := [174]) (J := fun pc st_z => (pc = 174 ∧ ∃ B3, ldq_post B2 p9 p7 (none, B3) ∧ st_z = ([(2, 0), (0, sl), (0, n), (0, z3), (0, a), (0, b), (0, c), (0, p7), (0, p8), (0, p9)], [], B3))) ?_ 8 166 _ ?_
      · rintro pc st_z (⟨rfl, B3, lB3, rfl⟩)
        exact H B3 _ _ _ (hJ.step n1 cn hs3 ht hp7 hp8 hp9 lB1 lB2 lB3)
      · refine ⟨rM_0 (by omega) km0, ?_⟩
        refine (leads_exq (B := B2) (i := p9) (j := p7) gB2 (by rcases hp9 with e_z | e_z <;> omega) (by rcases hp9 with e_z | e_z <;> omega) (by rcases hp7 with e_z | e_z <;> omega) (by rcases hp7 with e_z | e_z <;> omega) mB2).imp ?_
        rintro ⟨r1_z, B3⟩ lB3
        have q1_z := lB3.1.1
        simp only at q1_z
        subst q1_z
        exact ⟨rfl, B3, lB3, rfl⟩
    · refine ⟨rM_0 (by omega) km0, ?_⟩
      refine (leads_exq (B := B1) (i := p8) (j := p9) gB1 (by rcases hp8 with e_z | e_z <;> omega) (by rcases hp8 with e_z | e_z <;> omega) (by rcases hp9 with e_z | e_z <;> omega) (by rcases hp9 with e_z | e_z <;> omega) mB1).imp ?_
      rintro ⟨r1_z, B2⟩ lB2
      have q1_z := lB2.1.1
      simp only at q1_z
      subst q1_z
      exact ⟨rfl, B2, lB2, rfl⟩
  · refine ⟨rM_0 (by omega) km0, ?_⟩
    refine (leads_exq (B := B) (i := p7) (j := p8) gB (by rcases hp7 with e_z | e_z <;> omega) (by rcases hp7 with e_z | e_z <;> omega) (by rcases hp8 with e_z | e_z <;> omega) (by rcases hp8 with e_z | e_z <;> omega) mB).imp ?_
    rintro ⟨r1_z, B1⟩ lB1
    have q1_z := lB1.1.1
    simp only at q1_z
    subst q1_z
    exact ⟨rfl, B1, lB1, rfl⟩
theorem sdr_117K {A B : pm_A} {sl n z3 a b c : Int} (hs : sl = 0 ∨ sl = 1) (hA : gH wM A) (hcut : cntF (fcs A sl) 100 ≤ 6) (n1 : n ≤ 10) (cn : c < n) (hs3 : sdT n (fcs A sl) a b c) (ht : tri3 a b c) (hJ : sdK A B sl n (100 * a + 10 * b + c)) (H : ∀ C_z w7 w8 w9, sdK A C_z sl n (100 * a + 10 * b + c + 1) → Tm pmt (an_sh wM) o_X10_seed 174 ([(2, 0), (0, sl), (0, n), (0, z3), (0, a), (0, b), (0, c), w7, w8, w9], [], C_z) (ms3K A sl n)) {w7 w8 w9 : pm_V} : Tm pmt (an_sh wM) o_X10_seed 117 ([(2, 0), (0, sl), (0, n), (0, z3), (0, a), (0, b), (0, c), w7, w8, w9], [], B) (ms3K A sl n) := by
  have ht2 := ht
  unfold tri3 at ht2
  refine wq_ok srt_Mseed (fr := []) (cuts := [126]) (J := fun pc st_z => (pc = 126 ∧ ∃ p7_z, plV (fcs A sl) (10 * a + b) p7_z ∧ st_z = ([(2, 0), (0, sl), (0, n), (0, z3), (0, a), (0, b), (0, c), w7, w8, w9], [(0, p7_z)], B))) ?_ 9 117 _ ?_
  · rintro pc st_z (⟨rfl, p7_z, hp7, rfl⟩)
    refine wq_ok srt_Mseed (fr := []) (cuts := [137]) (J := fun pc st_z => (pc = 137 ∧ ∃ p8, plV (fcs A sl) (10 * b + c) p8 ∧ st_z = ([(2, 0), (0, sl), (0, n), (0, z3), (0, a), (0, b), (0, c), (0, p7_z), w8, w9], [(0, p8)], B))) ?_ 10 126 _ ?_
    · rintro pc st_z (⟨rfl, p8, hp8, rfl⟩)
      refine wq_ok srt_Mseed (fr := []) (cuts := [148]) (J := fun pc st_z => (pc = 148 ∧ ∃ p9, plV (fcs A sl) (10 * a + c) p9 ∧ st_z = ([(2, 0), (0, sl), (0, n), (0, z3), (0, a), (0, b), (0, c), (0, p7_z), (0, p8), w9], [(0, p9)], B))) ?_ 10 137 _ ?_
      · rintro pc st_z (⟨rfl, p9, hp9, rfl⟩)
        refine wq_ok srt_Mseed (fr := []) (cuts := [150]) (J := fun pc st_z => (pc = 150 ∧ st_z = ([(2, 0), (0, sl), (0, n), (0, z3), (0, a), (0, b), (0, c), (0, p7_z), (0, p8), (0, p9)], [], B))) ?_ 6 148 _ ?_
        · rintro pc st_z (⟨rfl, rfl⟩)
          exact sdr_150K hs hA hcut n1 cn hs3 ht hJ H hp7 hp8 hp9
        · exact ⟨rfl, rfl⟩
      · refine ⟨rM_0 (by omega) km0, ?_⟩
        refine (placeOf_ex (A := B) (sl := sl) (x := a) (y := c) hJ.1.1.1 (by omega) (by omega) (by omega) (by omega) (by omega)).imp ?_
        rintro ⟨r1_z, C_z⟩ hpo
        obtain ⟨q1_z, p9, q2_z, hp9⟩ := po_plV hJ.1.1 hA hcut (by omega) (by omega) hpo
        simp only at q1_z q2_z
        subst q1_z
        subst q2_z
        exact ⟨rfl, p9, hp9, rfl⟩
    · refine ⟨rM_0 (by omega) km0, ?_⟩
      refine (placeOf_ex (A := B) (sl := sl) (x := b) (y := c) hJ.1.1.1 (by omega) (by omega) (by omega) (by omega) (by omega)).imp ?_
      rintro ⟨r1_z, C_z⟩ hpo
      obtain ⟨q1_z, p8, q2_z, hp8⟩ := po_plV hJ.1.1 hA hcut (by omega) (by omega) hpo
      simp only at q1_z q2_z
      subst q1_z
      subst q2_z
      exact ⟨rfl, p8, hp8, rfl⟩
  · refine ⟨rM_0 (by omega) km0, ?_⟩
    refine (placeOf_ex (A := B) (sl := sl) (x := a) (y := b) hJ.1.1.1 (by omega) (by omega) (by omega) (by omega) (by omega)).imp ?_
    rintro ⟨r1_z, C_z⟩ hpo
    obtain ⟨q1_z, p7_z, q2_z, hp7⟩ := po_plV hJ.1.1 hA hcut (by omega) (by omega) hpo
    simp only at q1_z q2_z
    subst q1_z
    subst q2_z
    exact ⟨rfl, p7_z, hp7, rfl⟩
theorem sdr_72K {A : pm_A} {sl n z3 a b : Int} (hs : sl = 0 ∨ sl = 1) (hA : gH wM A) (hcut : cntF (fcs A sl) 100 ≤ 6) (n9 : n ≤ 9) (hn : n = A 31 sl) (a0 : 0 ≤ a) (ab : a < b) (bn : b < n) (H : ∀ C_z w6_z w7_z w8 w9, sdK A C_z sl n (100 * a + 10 * b + 10) → Tm pmt (an_sh wM) o_X10_seed 180 ([(2, 0), (0, sl), (0, n), (0, z3), (0, a), (0, b), w6_z, w7_z, w8, w9], [], C_z) (ms3K A sl n)) : ∀ (m_z : Nat) (c_z : Int) (w7_z w8 w9 : pm_V) (B_z : pm_A), (10 - c_z).toNat < m_z → b < c_z → c_z ≤ 10 → sdK A B_z sl n (100 * a + 10 * b + c_z) → Tm pmt (an_sh wM) o_X10_seed 72 ([(2, 0), (0, sl), (0, n), (0, z3), (0, a), (0, b), (0, c_z), w7_z, w8, w9], [], B_z) (ms3K A sl n) := by
  intro m_z
  induction m_z with
  | zero => intro c_z w7_z w8 w9 B_z h_z; omega
  | succ m_z ih_z =>
    intro c_z w7_z w8 w9 B_z hm_z c0_z c1_z hJ
    have eF : fcs B_z sl = fcs A sl := fcs_sd hJ.1.1
    have e31_z : B_z 31 sl = n := by rw [hJ.1.1.2 31 sl (by omega) (by omega), hn]
    have h174 : c_z < n → ∀ C_z w7_z w8 w9, sdK A C_z sl n (100 * a + 10 * b + c_z + 1) → Tm pmt (an_sh wM) o_X10_seed 174 ([(2, 0), (0, sl), (0, n), (0, z3), (0, a), (0, b), (0, c_z), w7_z, w8, w9], [], C_z) (ms3K A sl n) := fun hc_z C_z w7_z w8 w9 hC => by
      refine wq_ok srt_Mseed (fr := []) (cuts := [72]) (J := fun pc st_z => (pc = 72 ∧ st_z = ([(2, 0), (0, sl), (0, n), (0, z3), (0, a), (0, b), (0, c_z + 1), w7_z, w8, w9], [], C_z))) ?_ 7 174 _ ?_
      · rintro pc st_z (⟨rfl, rfl⟩)
        exact ih_z (c_z + 1) _ _ _ C_z (by omega) (by omega) (by omega) (hC.up (by omega) (by omega) (fun v_z v0_z v1_z x_z y_z z_z x0_z xy_z yz zn e_z => by omega))
      · refine ⟨⟨by omega, by omega⟩, ?_⟩
        exact ⟨rfl, rfl⟩
    refine wq_ok srt_Mseed (fr := []) (cuts := [87, 180]) (J := fun pc st_z => (pc = 180 ∧ (n ≤ c_z) ∧ st_z = ([(2, 0), (0, sl), (0, n), (0, z3), (0, a), (0, b), (0, c_z), w7_z, w8, w9], [], B_z)) ∨ (pc = 87 ∧ (c_z < n) ∧ ∃ x1_z : Int, ((x1_z = 1 ∧ side (B_z 31 sl) (fcs B_z sl) a b) ∨ (x1_z = 0 ∧ ¬ side (B_z 31 sl) (fcs B_z sl) a b)) ∧ st_z = ([(2, 0), (0, sl), (0, n), (0, z3), (0, a), (0, b), (0, c_z), w7_z, w8, w9], [(0, x1_z)], B_z))) ?_ 12 72 _ ?_
    · rintro pc st_z (⟨rfl, h0, rfl⟩ | ⟨rfl, hcn, x1_z, hx1, rfl⟩)
      · exact H B_z _ _ _ _ (hJ.up (by omega) (by omega) (fun v_z v0_z v1_z x_z y_z z_z x0_z xy_z yz zn e_z => by omega))
      · refine wq_ok srt_Mseed (fr := []) (cuts := [99, 174]) (J := fun pc st_z => (pc = 174 ∧ (x1_z = 0) ∧ st_z = ([(2, 0), (0, sl), (0, n), (0, z3), (0, a), (0, b), (0, c_z), w7_z, w8, w9], [], B_z)) ∨ (pc = 99 ∧ (¬ x1_z = 0) ∧ ∃ x2_z : Int, ((x2_z = 1 ∧ side (B_z 31 sl) (fcs B_z sl) b c_z) ∨ (x2_z = 0 ∧ ¬ side (B_z 31 sl) (fcs B_z sl) b c_z)) ∧ st_z = ([(2, 0), (0, sl), (0, n), (0, z3), (0, a), (0, b), (0, c_z), w7_z, w8, w9], [(0, x2_z)], B_z))) ?_ 10 87 _ ?_
        · rintro pc st_z (⟨rfl, h0, rfl⟩ | ⟨rfl, hz1, x2_z, hx2, rfl⟩)
          · refine h174 (by omega) B_z _ _ _ (hJ.no (by omega) a0 ab c0_z (by omega) (fun q_z => ?_))
            rw [e31_z, eF] at hx1
            rcases hx1 with ⟨e_z, _⟩ | ⟨_, e_z⟩
            · omega
            · exact e_z q_z.1
          · refine wq_ok srt_Mseed (fr := []) (cuts := [111, 174]) (J := fun pc st_z => (pc = 174 ∧ (x2_z = 0) ∧ st_z = ([(2, 0), (0, sl), (0, n), (0, z3), (0, a), (0, b), (0, c_z), w7_z, w8, w9], [], B_z)) ∨ (pc = 111 ∧ (¬ x2_z = 0) ∧ ∃ x3 : Int, ((x3 = 1 ∧ side (B_z 31 sl) (fcs B_z sl) a c_z) ∨ (x3 = 0 ∧ ¬ side (B_z 31 sl) (fcs B_z sl) a c_z)) ∧ st_z = ([(2, 0), (0, sl), (0, n), (0, z3), (0, a), (0, b), (0, c_z), w7_z, w8, w9], [(0, x3)], B_z))) ?_ 10 99 _ ?_
            · rintro pc st_z (⟨rfl, h0, rfl⟩ | ⟨rfl, hz2, x3, hx3, rfl⟩)
              · refine h174 (by omega) B_z _ _ _ (hJ.no (by omega) a0 ab c0_z (by omega) (fun q_z => ?_))
                rw [e31_z, eF] at hx2
                rcases hx2 with ⟨e_z, _⟩ | ⟨_, e_z⟩
                · omega
                · exact e_z q_z.2.1
              · refine wq_ok srt_Mseed (fr := []) (cuts := [117, 174]) (J := fun pc st_z => (pc = 117 ∧ (¬ x3 = 0) ∧ st_z = ([(2, 0), (0, sl), (0, n), (0, z3), (0, a), (0, b), (0, c_z), w7_z, w8, w9], [], B_z)) ∨ (pc = 174 ∧ (x3 = 0) ∧ st_z = ([(2, 0), (0, sl), (0, n), (0, z3), (0, a), (0, b), (0, c_z), w7_z, w8, w9], [], B_z))) ?_ 7 111 _ ?_
                · rintro pc st_z (⟨rfl, h0, rfl⟩ | ⟨rfl, h0, rfl⟩)
                  · refine sdr_117K hs hA hcut (by omega) (by omega) ⟨?_, ?_, ?_⟩ ⟨a0, ab, c0_z, by omega⟩ hJ (h174 (by omega))
                    · rw [e31_z, eF] at hx1
                      rcases hx1 with ⟨_, e_z⟩ | ⟨e_z, _⟩
                      · exact e_z
                      · omega
                    · rw [e31_z, eF] at hx2
                      rcases hx2 with ⟨_, e_z⟩ | ⟨e_z, _⟩
                      · exact e_z
                      · omega
                    · rw [e31_z, eF] at hx3
                      rcases hx3 with ⟨_, e_z⟩ | ⟨e_z, _⟩
                      · exact e_z
                      · omega
                  · refine h174 (by omega) B_z _ _ _ (hJ.no (by omega) a0 ab c0_z (by omega) (fun q_z => ?_))
                    rw [e31_z, eF] at hx3
                    rcases hx3 with ⟨e_z, _⟩ | ⟨_, e_z⟩
                    · omega
                    · exact e_z q_z.2.2
                · refine ⟨fun h0 => ?_, fun h0 => ?_⟩
                  · exact Or.inl (⟨rfl, h0, rfl⟩)
                  · exact Or.inr (⟨rfl, h0, rfl⟩)
            · refine ⟨fun h0 => ?_, fun h0 => ?_⟩
              · exact Or.inl (⟨rfl, h0, rfl⟩)
              · refine ⟨rM_0 (by omega) km0, ?_⟩
                refine (isSide_ex (A := B_z) (sl := sl) (x := a) (y := c_z) hJ.1.1.1 (by omega) (by omega) (by omega) (by omega) (by omega) (by omega)).imp ?_
                rintro ⟨r1_z, C_z⟩ ⟨q1_z, x3, q2_z, hx3⟩
                simp only at q1_z q2_z
                subst q1_z
                subst q2_z
                exact Or.inr (⟨rfl, h0, x3, hx3, rfl⟩)
        · refine ⟨fun h0 => ?_, fun h0 => ?_⟩
          · exact Or.inl (⟨rfl, h0, rfl⟩)
          · refine ⟨rM_0 (by omega) km0, ?_⟩
            refine (isSide_ex (A := B_z) (sl := sl) (x := b) (y := c_z) hJ.1.1.1 (by omega) (by omega) (by omega) (by omega) (by omega) (by omega)).imp ?_
            rintro ⟨r1_z, C_z⟩ ⟨q1_z, x2_z, q2_z, hx2⟩
            simp only at q1_z q2_z
            subst q1_z
            subst q2_z
            exact Or.inr (⟨rfl, h0, x2_z, hx2, rfl⟩)
    · refine ⟨fun h0 => ?_, fun h0 => ?_⟩
      · exact Or.inl (⟨rfl, h0, rfl⟩)
      · refine ⟨rM_0 (by omega) km0, ?_⟩
        refine (isSide_ex (A := B_z) (sl := sl) (x := a) (y := b) hJ.1.1.1 (by omega) (by omega) (by omega) (by omega) (by omega) (by omega)).imp ?_
        rintro ⟨r1_z, C_z⟩ ⟨q1_z, x1_z, q2_z, hx1⟩
        simp only at q1_z q2_z
        subst q1_z
        subst q2_z
        exact Or.inr (⟨rfl, h0, x1_z, hx1, rfl⟩)
theorem sdr_60K {A : pm_A} {sl n z3 a : Int} (hs : sl = 0 ∨ sl = 1) (hA : gH wM A) (hcut : cntF (fcs A sl) 100 ≤ 6) (n9 : n ≤ 9) (hn : n = A 31 sl) (a0 : 0 ≤ a) (an : a < n) (H : ∀ C_z w5 w6_z w7_z w8 w9, sdK A C_z sl n (100 * a + 100) → Tm pmt (an_sh wM) o_X10_seed 186 ([(2, 0), (0, sl), (0, n), (0, z3), (0, a), w5, w6_z, w7_z, w8, w9], [], C_z) (ms3K A sl n)) : ∀ (m_z : Nat) (b_z : Int) (w6_z w7_z w8 w9 : pm_V) (B_z : pm_A), (10 - b_z).toNat < m_z → a < b_z → b_z ≤ 10 → sdK A B_z sl n (100 * a + 10 * b_z) → Tm pmt (an_sh wM) o_X10_seed 60 ([(2, 0), (0, sl), (0, n), (0, z3), (0, a), (0, b_z), w6_z, w7_z, w8, w9], [], B_z) (ms3K A sl n) := by
  intro m_z
  induction m_z with
  | zero => intro b_z w6_z w7_z w8 w9 B_z h_z; omega
  | succ m_z ih_z =>
    intro b_z w6_z w7_z w8 w9 B_z hm_z b0 b1 hJ
    have h180 : b_z < n → ∀ C_z w6_z w7_z w8 w9, sdK A C_z sl n (100 * a + 10 * b_z + 10) → Tm pmt (an_sh wM) o_X10_seed 180 ([(2, 0), (0, sl), (0, n), (0, z3), (0, a), (0, b_z), w6_z, w7_z, w8, w9], [], C_z) (ms3K A sl n) := fun hc_z C_z w6_z w7_z w8 w9 hC => by
      refine wq_ok srt_Mseed (fr := []) (cuts := [60]) (J := fun pc st_z => (pc = 60 ∧ st_z = ([(2, 0), (0, sl), (0, n), (0, z3), (0, a), (0, b_z + 1), w6_z, w7_z, w8, w9], [], C_z))) ?_ 7 180 _ ?_
      · rintro pc st_z (⟨rfl, rfl⟩)
        exact ih_z (b_z + 1) _ _ _ _ C_z (by omega) (by omega) (by omega) (hC.up (by omega) (by omega) (fun v_z v0_z v1_z x_z y_z z_z x0_z xy_z yz zn e_z => by omega))
      · refine ⟨⟨by omega, by omega⟩, ?_⟩
        exact ⟨rfl, rfl⟩
    refine wq_ok srt_Mseed (fr := []) (cuts := [72, 186]) (J := fun pc st_z => (pc = 186 ∧ (n ≤ b_z) ∧ st_z = ([(2, 0), (0, sl), (0, n), (0, z3), (0, a), (0, b_z), w6_z, w7_z, w8, w9], [], B_z)) ∨ (pc = 72 ∧ (b_z < n) ∧ st_z = ([(2, 0), (0, sl), (0, n), (0, z3), (0, a), (0, b_z), (0, b_z + 1), w7_z, w8, w9], [], B_z))) ?_ 12 60 _ ?_
    · rintro pc st_z (⟨rfl, h0, rfl⟩ | ⟨rfl, h0, rfl⟩)
      · exact H B_z _ _ _ _ _ (hJ.up (by omega) (by omega) (fun v_z v0_z v1_z x_z y_z z_z x0_z xy_z yz zn e_z => by rcases Int.lt_trichotomy x_z a with q_z | q_z | q_z <;> omega))
      · exact sdr_72K hs hA hcut n9 hn a0 b0 (by omega) (h180 (by omega)) _ (b_z + 1) _ _ _ B_z (Nat.lt_succ_self _) (by omega) (by omega) (hJ.up (by omega) (by omega) (fun v_z v0_z v1_z x_z y_z z_z x0_z xy_z yz zn e_z => by omega))
    · refine ⟨fun h0 => ?_, fun h0 => ?_⟩
      · exact Or.inl (⟨rfl, h0, rfl⟩)
      · refine ⟨⟨by omega, by omega⟩, ?_⟩
        exact Or.inr (⟨rfl, h0, rfl⟩)
theorem sdr_192K {A B : pm_A} {sl n : Int} (h : RI A) (hJ : sdK A B sl n 1000) {w1 w2 w3 w4 w5 w6 w7 w8 w9 : pm_V} : Tm pmt (an_sh wM) o_X10_seed 192 ([(2, 0), w1, w2, w3, w4, w5, w6, w7, w8, w9], [], B) (ms3K A sl n) := by
  have hB_z : RI B := hJ.1.1.ri h (fun j_z j0 j1 => by have := hJ.1.b9 j0 j1; omega)
  refine wq_ok srt_Mseed (fr := []) (cuts := [196]) (J := fun pc st_z => (pc = 196 ∧ ∃ C_z x_z, RI C_z ∧ (bgA (B 0 12) (B 7) x_z ∧ (C_z 0 12 = B 0 12 ∧ C_z 0 13 = B 0 13 ∧ ∀ k_z : Int, 0 ≤ k_z → C_z 7 k_z = B 7 k_z) ∧ ((x_z = 0 ∧ lsz (B 0 12) (B 7) (C_z 10) ∧ ∃ E_z, gpF B E_z ∧ szd E_z ∧ bgK E_z C_z) ∨ (¬ x_z = 0 ∧ gpF B C_z))) ∧ st_z = ([(2, 0), w1, w2, w3, w4, w5, w6, w7, w8, w9], [(0, x_z)], C_z))) ?_ 6 192 _ ?_
  · rintro pc st_z (⟨rfl, C_z, x_z, q2_z, ⟨q3_z, q4_z, q5_z⟩, rfl⟩)
    have q6_z : (x_z = 0 ∧ lsz (B 0 12) (B 7) (C_z 10) ∧ ∃ E_z, gpF B E_z ∧ szd E_z ∧ bgK E_z C_z) ∨ (¬ x_z = 0 ∧ gpF B C_z) := q5_z
    have b9 : ∀ k_z : Int, 0 ≤ k_z → k_z < 72 → -9 ≤ B 7 k_z ∧ B 7 k_z ≤ 9 := fun k_z k0_z k1_z => by have := hJ.1.b9 k0_z k1_z; omega
    refine wq_ok srt_Mseed (fr := []) (cuts := []) (J := fun _ _ => False) ?_ 8 196 _ ?_
    · intro pc st_z h; exact h.elim
    · refine ⟨fun h0 => ?_, fun h0 => ?_⟩
      · exact ⟨rfl, ⟨⟨_, rfl⟩, q2_z⟩, B, x_z, hB_z, hJ.1.1, hJ.2.1, b9, hJ.2.2, q3_z, by rw [if_neg h0], q4_z, q6_z⟩
      · exact ⟨rfl, ⟨⟨_, rfl⟩, q2_z⟩, B, x_z, hB_z, hJ.1.1, hJ.2.1, b9, hJ.2.2, q3_z, by rw [if_pos h0], q4_z, q6_z⟩
  · refine ⟨rM_0 (by omega) km0, ?_⟩
    refine (mbegin_fr3K hB_z).imp ?_
    rintro ⟨r1_z, C_z⟩ ⟨⟨⟨_, q2_z⟩, x_z, q1_z, q3_z, q5_z⟩, q4_z⟩
    simp only at q1_z q2_z q3_z q4_z q5_z
    subst q1_z
    exact ⟨rfl, C_z, x_z, q2_z, ⟨q3_z, q4_z, q5_z⟩, rfl⟩
theorem sdr_48K {A : pm_A} {sl n z3 : Int} (h : RI A) (hs : sl = 0 ∨ sl = 1) (hcut : cntF (fcs A sl) 100 ≤ 6) (n9 : n ≤ 9) (hn : n = A 31 sl) : ∀ (m_z : Nat) (a_z : Int) (w5 w6_z w7_z w8 w9 : pm_V) (B_z : pm_A), (10 - a_z).toNat < m_z → 0 ≤ a_z → a_z ≤ 10 → sdK A B_z sl n (100 * a_z) → Tm pmt (an_sh wM) o_X10_seed 48 ([(2, 0), (0, sl), (0, n), (0, z3), (0, a_z), w5, w6_z, w7_z, w8, w9], [], B_z) (ms3K A sl n) := by
  intro m_z
  induction m_z with
  | zero => intro a_z w5 w6_z w7_z w8 w9 B_z h; omega
  | succ m_z ih_z =>
    intro a_z w5 w6_z w7_z w8 w9 B_z hm_z a0_z a1_z hJ
    have h186 : a_z < n → ∀ C_z w5 w6_z w7_z w8 w9, sdK A C_z sl n (100 * a_z + 100) → Tm pmt (an_sh wM) o_X10_seed 186 ([(2, 0), (0, sl), (0, n), (0, z3), (0, a_z), w5, w6_z, w7_z, w8, w9], [], C_z) (ms3K A sl n) := fun hc_z C_z w5 w6_z w7_z w8 w9 hC => by
      refine wq_ok srt_Mseed (fr := []) (cuts := [48]) (J := fun pc st_z => (pc = 48 ∧ st_z = ([(2, 0), (0, sl), (0, n), (0, z3), (0, a_z + 1), w5, w6_z, w7_z, w8, w9], [], C_z))) ?_ 7 186 _ ?_
      · rintro pc st_z (⟨rfl, rfl⟩)
        exact ih_z (a_z + 1) _ _ _ _ _ C_z (by omega) (by omega) (by omega) (hC.up (by omega) (by omega) (fun v_z v0_z v1_z x_z y_z z_z x0_z xy_z yz zn e_z => by omega))
      · refine ⟨⟨by omega, by omega⟩, ?_⟩
        exact ⟨rfl, rfl⟩
    refine wq_ok srt_Mseed (fr := []) (cuts := [60, 192]) (J := fun pc st_z => (pc = 192 ∧ (n ≤ a_z) ∧ st_z = ([(2, 0), (0, sl), (0, n), (0, z3), (0, a_z), w5, w6_z, w7_z, w8, w9], [], B_z)) ∨ (pc = 60 ∧ (a_z < n) ∧ st_z = ([(2, 0), (0, sl), (0, n), (0, z3), (0, a_z), (0, a_z + 1), w6_z, w7_z, w8, w9], [], B_z))) ?_ 12 48 _ ?_
    · rintro pc st_z (⟨rfl, h0, rfl⟩ | ⟨rfl, h0, rfl⟩)
      · exact sdr_192K h (hJ.up (by omega) (by omega) (fun v_z v0_z v1_z x_z y_z z_z x0_z xy_z yz zn e_z => by omega))
      · exact sdr_60K hs h.g hcut n9 hn a0_z (by omega) (h186 (by omega)) _ (a_z + 1) _ _ _ _ B_z (Nat.lt_succ_self _) (by omega) (by omega) (hJ.up (by omega) (by omega) (fun v_z v0_z v1_z x_z y_z z_z x0_z xy_z yz zn e_z => by omega))
    · refine ⟨fun h0 => ?_, fun h0 => ?_⟩
      · exact Or.inl (⟨rfl, h0, rfl⟩)
      · refine ⟨⟨by omega, by omega⟩, ?_⟩
        exact Or.inr (⟨rfl, h0, rfl⟩)

def mS3K (A : pm_A) (sl : Int) (r : pm_R) : Prop := (¬ okSd sl (A 31 sl) (fcs A sl) ∧ r = (some (0, 0), A)) ∨ (okSd sl (A 31 sl) (fcs A sl) ∧ ms3K A sl (A 31 sl) r)
theorem smr_36K {A : pm_A} {sl : Int} (h : RI A) (ho : okSd sl (A 31 sl) (fcs A sl)) : Tm pmt (an_sh wM) o_X10_seed 36 ([(2, 0), (0, sl), (0, A 31 sl), (9, 0), (9, 0), (9, 0), (9, 0), (9, 0), (9, 0), (9, 0)], [], A) (mS3K A sl) := by
  have hs := ho.1
  have b31 := eM_31 h.g (r := 31) (by omega) kn31 (j := sl) (by omega) (by omega)
  have hc_z := ho.2.1
  have h9 := ho.2.2
  have h44 : ∀ B_z, sdF A B_z → B_z 0 12 = A 31 sl - 3 → B_z 0 13 = 0 → (∀ j_z : Int, 0 ≤ j_z → j_z < 72 → B_z 7 j_z = 0) → Tm pmt (an_sh wM) o_X10_seed 44 ([(2, 0), (0, sl), (0, A 31 sl), (9, 0), (9, 0), (9, 0), (9, 0), (9, 0), (9, 0), (9, 0)], [(0, 1)], B_z) (mS3K A sl) := fun B_z q3_z q4_z q5_z q6_z => by
    refine wq_ok srt_Mseed (fr := []) (cuts := [48]) (J := fun pc st_z => (pc = 48 ∧ st_z = ([(2, 0), (0, sl), (0, A 31 sl), (0, 1), (0, 0), (9, 0), (9, 0), (9, 0), (9, 0), (9, 0)], [], B_z))) ?_ 8 44 _ ?_
    · rintro pc st_z (⟨rfl, rfl⟩)
      have t_z := sdr_48K h hs (by omega) (by omega) rfl _ 0 (9, 0) (9, 0) (9, 0) (9, 0) (9, 0) B_z (z3 := 1) (Nat.lt_succ_self _) (by omega) (by omega) ⟨⟨q3_z, fun i_z j_z i0_z i1_z j0 j1 => by rw [q6_z (6 * i_z + j_z) (by omega) (by omega)]; exact ⟨by omega, Or.inl rfl⟩⟩, fun k_z k0_z k1_z => by rw [q6_z k_z k0_z k1_z]; rfl, q4_z, q5_z⟩
      obtain ⟨k_z, r_z, c1_z, q_z⟩ := t_z
      exact ⟨k_z, r_z, c1_z, Or.inr ⟨ho, q_z⟩⟩
    · exact ⟨rfl, rfl⟩
  refine wq_ok srt_Mseed (fr := []) (cuts := [44]) (J := fun pc st_z => (pc = 44 ∧ ∃ B_z, sdF A B_z ∧ B_z 0 12 = A 31 sl - 3 ∧ B_z 0 13 = 0 ∧ (∀ j_z : Int, 0 ≤ j_z → j_z < 72 → B_z 7 j_z = 0) ∧ st_z = ([(2, 0), (0, sl), (0, A 31 sl), (9, 0), (9, 0), (9, 0), (9, 0), (9, 0), (9, 0), (9, 0)], [(0, 1)], B_z))) ?_ 10 36 _ ?_
  · rintro pc st_z (⟨rfl, B_z, q3_z, q4_z, q5_z, q6_z, rfl⟩)
    exact h44 B_z q3_z q4_z q5_z q6_z
  · refine ⟨⟨by omega, by omega⟩, ?_⟩
    refine ⟨rM_0 (by omega) km0, ?_⟩
    refine (table_ex h.g (A 31 sl - 3) 0).imp ?_
    rintro ⟨r1_z, B_z⟩ (⟨q1_z, q2_z, q3_z⟩ | ⟨q1_z, q2_z, q3_z, q4_z, q5_z, q6_z⟩)
    · exact absurd (show okT (A 31 sl - 3) 0 from ⟨⟨by omega, by omega⟩, by omega, by omega⟩) q3_z
    · simp only at q1_z q3_z q4_z q5_z q6_z
      subst q1_z
      exact ⟨rfl, B_z, q3_z, q4_z, q5_z, q6_z, rfl⟩
theorem mseed_ex3K {A : pm_A} {sl : Int} (h : RI A) : Cl pmt (an_sh wM) 183 [(2, 0), (0, sl)] A (mS3K A sl) := by
  have c48_z := pM_48 h.g
  have e48 : A (A 0 48) sl = A 31 sl := by rw [c48_z]
  have h8 : sl = 0 ∨ sl = 1 → Tm pmt (an_sh wM) o_X10_seed 8 ([(2, 0), (0, sl), (9, 0), (9, 0), (9, 0), (9, 0), (9, 0), (9, 0), (9, 0), (9, 0)], [], A) (mS3K A sl) := fun hs => by
    have b31 := eM_31 h.g (r := 31) (by omega) kn31 (j := sl) (by omega) (by omega)
    refine wq_ok srt_Mseed (fr := []) (cuts := [13]) (J := fun pc st_z => (pc = 13 ∧ ∃ y_z : Int, ((y_z = 1 ∧ cntF (fcs A sl) 100 = A 31 sl - 3) ∨ (y_z = 0 ∧ ¬ cntF (fcs A sl) 100 = A 31 sl - 3)) ∧ st_z = ([(2, 0), (0, sl), (9, 0), (9, 0), (9, 0), (9, 0), (9, 0), (9, 0), (9, 0), (9, 0)], [(0, y_z)], A))) ?_ 7 8 _ ?_
    · rintro pc st_z (⟨rfl, y_z, hy, rfl⟩)
      refine wq_ok srt_Mseed (fr := []) (cuts := [36]) (J := fun pc st_z => (pc = 36 ∧ (¬ y_z = 0) ∧ (¬ (A (A 0 48) sl) = 10) ∧ st_z = ([(2, 0), (0, sl), (0, A (A 0 48) sl), (9, 0), (9, 0), (9, 0), (9, 0), (9, 0), (9, 0), (9, 0)], [], A))) ?_ 17 13 _ ?_
      · rintro pc st_z (⟨rfl, h0, h1, rfl⟩)
        rw [c48_z]
        exact smr_36K h ⟨hs, (by rcases hy with ⟨_, e_z⟩ | ⟨e_z, _⟩; exact e_z; omega), by omega⟩
      · refine ⟨fun h0 => ?_, fun h0 => ?_⟩
        · exact ⟨rfl, Or.inl ⟨fun q_z => absurd q_z.2.1 (by rcases hy with ⟨e_z, _⟩ | ⟨_, e_z⟩; omega; exact e_z), rfl⟩⟩
        · refine ⟨oM_0 (by omega) km0 48 rfl, ?_⟩
          refine ⟨aM_31 (r := A 0 48) (by rw [c48_z]; omega) (by rw [c48_z]; exact kn31) (by omega) (by omega), ?_⟩
          have e1 : A (A 0 48) sl = A 31 sl := by rw [c48_z]
          refine ⟨fun h1 => ?_, fun h1 => ?_⟩
          · refine ⟨oM_0 (by omega) km0 48 rfl, ?_⟩
            refine ⟨aM_31 (r := A 0 48) (by rw [c48_z]; omega) (by rw [c48_z]; exact kn31) (by omega) (by omega), ?_⟩
            have e2 : A (A 0 48) sl = A 31 sl := by rw [c48_z]
            exact ⟨rfl, h0, h1, rfl⟩
          · exact ⟨rfl, Or.inl ⟨fun q_z => by have := q_z.2.2; omega, rfl⟩⟩
    · refine ⟨rM_0 (by omega) km0, ?_⟩
      refine (isCutting_ex h.g (by omega) (by omega)).imp ?_
      rintro ⟨r1_z, C_z⟩ ⟨q1_z, y_z, q2_z, hy⟩
      simp only at q1_z q2_z
      subst q1_z
      subst q2_z
      exact ⟨rfl, y_z, hy, rfl⟩
  refine Cl.of (Nat.le_of_ble_eq_true rfl) ?_
  refine wq_ok (full := o_X10_seed) srt_Mseed (fr := []) (cuts := [5]) (J := fun pc st_z => (pc = 5 ∧ ∃ x_z : Int, ((x_z = 1 ∧ (sl = 0 ∨ sl = 1)) ∨ (x_z = 0 ∧ ¬ (sl = 0 ∨ sl = 1))) ∧ st_z = ([(2, 0), (0, sl), (9, 0), (9, 0), (9, 0), (9, 0), (9, 0), (9, 0), (9, 0), (9, 0)], [(0, x_z)], A))) ?_ 7 0 _ ?_
  · rintro pc st_z (⟨rfl, x_z, hx, rfl⟩)
    refine wq_ok srt_Mseed (fr := []) (cuts := [8]) (J := fun pc st_z => (pc = 8 ∧ (¬ x_z = 0) ∧ st_z = ([(2, 0), (0, sl), (9, 0), (9, 0), (9, 0), (9, 0), (9, 0), (9, 0), (9, 0), (9, 0)], [], A))) ?_ 7 5 _ ?_
    · rintro pc st_z (⟨rfl, h0, rfl⟩)
      exact h8 (by rcases hx with ⟨_, e_z⟩ | ⟨e_z, _⟩; exact e_z; omega)
    · refine ⟨fun h0 => ?_, fun h0 => ?_⟩
      · exact ⟨rfl, Or.inl ⟨fun q_z => absurd q_z.1 (by rcases hx with ⟨e_z, _⟩ | ⟨_, e_z⟩; omega; exact e_z), rfl⟩⟩
      · exact ⟨rfl, h0, rfl⟩
  · refine ⟨rM_0 (by omega) km0, ?_⟩
    refine (MisSlot_ex).imp ?_
    rintro ⟨r1_z, C_z⟩ ⟨q1_z, x_z, q2_z, hx⟩
    simp only at q1_z q2_z
    subst q1_z
    subst q2_z
    exact ⟨rfl, x_z, hx, rfl⟩
theorem bgx_s6 {A r2 : pm_A} {x : Int} {Q : Prop} (h : (x = 0 ∧ Q ∧ ∃ B_z, gpF A B_z ∧ szd B_z ∧ bgK B_z r2) ∨ (¬ x = 0 ∧ gpF A r2)) : s6 A r2 := by
  rcases h with ⟨_, _, B_z, h1, _, h2⟩ | ⟨_, h1⟩
  · exact h1.s6.tr h2.2
  · exact h1.s6
theorem mbegin_s6 {A : pm_A} (h : RI A) : Cl pmt (an_sh wM) 129 [(2, 0)] A (fun r_z => s6 A r_z.2) := by
  refine (mbegin_ex3K h).imp ?_
  rintro r_z ⟨_, x_z, _, _, h1⟩
  exact bgx_s6 h1
theorem mseed_s6 {A : pm_A} {sl : Int} (h : RI A) : Cl pmt (an_sh wM) 183 [(2, 0), (0, sl)] A (fun r_z => s6 A r_z.2) := by
  refine (mseed_ex3K h).imp ?_
  rintro r_z (⟨_, rfl⟩ | ⟨_, _, B_z, x_z, b1_z, b2_z, b3_z, b4_z, b5_z, b6_z, b7_z, b8_z, b9_z⟩)
  · exact s6.rf
  · have h1 : s6 A B_z := s6.of (fun q_z j_z h1 h2 => b2_z.2 q_z j_z (by omega) (by omega))
    exact h1.tr (bgx_s6 b9_z)
theorem tuG.s6 {A B : pm_A} (h : tuG A B) : s6 A B := fun t_z q_z j_z h1 h2 h3 => h.2 q_z j_z (fun u_z u0_z u1_z hu => by unfold inS at h3 hu; omega) (by unfold inS at h3; omega) (by unfold inS at h3; omega) (by unfold inS at h3; omega)
theorem tuq_s6 {s : cx_Sd 12} {ks : List (Fin 12)} {A : pm_A} {k : Fin 12} {r : pm_R} (hk : (k.1 : Int) < 6) (h : tuq_post s ks A k r) : s6 A r.2 := by
  rcases h with ⟨_, q2_z, _⟩ | ⟨_, _, _, q4_z, _⟩
  · exact q2_z.s6
  · exact fun t_z q_z j_z h1 h2 h3 => q4_z q_z j_z (fun u_z u0_z u1_z hu => by unfold inS at h3 hu; omega) (by unfold inS at h3 ⊢; omega) (by unfold inS at h3; omega) (by unfold inS at h3; omega) (by unfold inS at h3; omega) (by unfold inS at h3; omega)
theorem mturn_s6 {s : cx_Sd 12} {ks : List (Fin 12)} {A : pm_A} (hT : Tru s ks A) (k : Int) : Cl pmt (an_sh wM) 198 [(2, 0), (0, k)] A (fun r_z => s6 A r_z.2) := by
  have hg := hT.1
  have p7_z := fM_0_7 hg (r := 0) (by omega) km0
  have p10 := fM_0_10 hg (r := 0) (by omega) km0
  refine Cl.of (Nat.le_of_ble_eq_true rfl) ?_
  refine wq_ok (full := o_X10_turn) srt_Mturn (fr := []) (cuts := [31]) (J := fun pc st_z => (pc = 31 ∧ 0 ≤ k ∧ k < A 0 7 ∧ ¬ A 0 10 = 100 ∧ ∃ (B_z : pm_A) (z_z : Int), gH wM B_z ∧ s6 A B_z ∧ (B_z 0 10 = A 0 10) ∧ (z_z = 0 ∨ z_z = 1) ∧ st_z = ([(2, 0), (0, k)], [(0, z_z)], B_z))) ?_ 17 0 _ ?_
  · rintro pc st_z (⟨rfl, k0_z, k1_z, hd_z, B_z, z_z, q3_z, hs, e10_z, hz, rfl⟩)
    rcases hz with rfl | rfl
    · refine wq_ok srt_Mturn (fr := []) (cuts := []) (J := fun _ _ => False) (fun _ _ h_z => h_z.elim) 12 31 _ ?_
      refine ⟨fun hh => absurd rfl hh, fun _ => ?_⟩
      exact ⟨rfl, hs⟩
    · have c11_z := pM_11 q3_z
      refine wq_ok srt_Mturn (fr := []) (cuts := [47]) (J := fun pc st_z => (pc = 47 ∧ st_z = ([(2, 0), (0, k)], [], pm_upd B_z (B_z 0 11) (B_z 0 10) k))) ?_ 12 31 _ ?_
      · rintro pc st_z (⟨rfl, rfl⟩)
        rw [c11_z]
        have hC : gH wM (pm_upd B_z 6 (B_z 0 10) k) := uM_6 q3_z kn6 (by omega) (by omega)
        have hCs : s6 A (pm_upd B_z 6 (B_z 0 10) k) := hs.up (by omega)
        have f10 : pm_upd B_z 6 (B_z 0 10) k 0 10 = B_z 0 10 := upd_o (by omega)
        generalize pm_upd B_z 6 (B_z 0 10) k = C_z at hC hCs f10
        have hE : gH wM (pm_upd C_z 0 10 (C_z 0 10 + 1)) := uM_0_10 hC (by omega) (by omega)
        have hEs : s6 A (pm_upd C_z 0 10 (C_z 0 10 + 1)) := hCs.up (by omega)
        have c1_z : pm_upd C_z 0 10 (C_z 0 10 + 1) 0 1 = 1 := pM_1 hE
        refine wq_ok srt_Mturn (fr := []) (cuts := []) (J := fun _ _ => False) (fun _ _ h_z => h_z.elim) 15 47 _ ?_
        refine ⟨oM_0 (by omega) km0 10 rfl, ?_⟩
        refine ⟨⟨by omega, by omega⟩, ?_⟩
        refine ⟨oM_0 (by omega) km0 10 rfl, ?_⟩
        refine ⟨oM_0 (by omega) km0 1 rfl, ?_⟩
        refine ⟨aM_1 (r := (pm_upd C_z 0 10 ((C_z 0 10) + 1)) 0 1) (by rw [c1_z]; omega) (by rw [c1_z]; exact kn1) (by omega) (by omega), ?_⟩
        exact ⟨rfl, hEs⟩
      · refine ⟨fun _ => ?_, fun hh => absurd hh (by decide)⟩
        refine ⟨oM_0 (by omega) km0 11 rfl, ?_⟩
        refine ⟨oM_0 (by omega) km0 10 rfl, ?_⟩
        refine ⟨tM_6 (r := B_z 0 11) (by rw [c11_z]; omega) (by rw [c11_z]; exact kn6) (by omega) (by omega) rfl, ?_⟩
        exact ⟨rfl, rfl⟩
  · refine ⟨fun h0 => ?_, fun h0 => ?_⟩
    · exact ⟨rfl, s6.rf⟩
    · refine ⟨oM_0 (by omega) km0 7 rfl, ?_⟩
      refine ⟨fun h1 => ?_, fun h1 => ?_⟩
      · refine ⟨oM_0 (by omega) km0 10 rfl, ?_⟩
        refine ⟨fun h2 => ?_, fun h2 => ?_⟩
        · obtain ⟨f_z, hf⟩ : ∃ f_z : Fin 12, k = (f_z.1 : Int) := ⟨⟨k.toNat, by omega⟩, by show k = ((k.toNat : Nat) : Int); omega⟩
          refine ⟨rM_0 (by omega) km0, ?_⟩
          have hc_z := turns_exq hT (k := f_z) (by omega)
          rw [← hf] at hc_z
          refine hc_z.imp ?_
          rintro ⟨r1_z, B_z⟩ hq
          have hs := tuq_s6 (by omega) hq
          have h10 := (tuq_fld hq).1 10 (by omega) (by omega)
          simp only at hs h10
          rcases hq with ⟨q1_z, q2_z, _⟩ | ⟨q1_z, _, q3_z, _⟩
          · simp only at q1_z
            subst q1_z
            exact ⟨rfl, by omega, by omega, by omega, B_z, 0, q2_z.1, hs, h10, Or.inl rfl, rfl⟩
          · simp only at q1_z
            subst q1_z
            exact ⟨rfl, by omega, by omega, by omega, B_z, 1, q3_z, hs, h10, Or.inr rfl, rfl⟩
        · exact ⟨rfl, s6.rf⟩
      · exact ⟨rfl, s6.rf⟩
theorem mback_s6 {s : cx_Sd 12} {ks : List (Fin 12)} {A : pm_A} {f : Fin 12} (hT : Tru s ks A) (h10 : 1 ≤ A 0 10) (hf : A 6 (A 0 10 - 1) = (f.1 : Int)) (hk : (f.1 : Int) < A 0 7) : Cl pmt (an_sh wM) 128 [(2, 0)] A (fun r_z => s6 A r_z.2) := by
  have hg := hT.1
  have p7_z := fM_0_7 hg (r := 0) (by omega) km0
  have p10 := fM_0_10 hg (r := 0) (by omega) km0
  have hB_z : gH wM (pm_upd A 0 10 (A 0 10 - 1)) := uM_0_10 hg (by omega) (by omega)
  have hBo : ∀ r_z j_z : Int, ¬ (r_z = 0 ∧ j_z = 10) → pm_upd A 0 10 (A 0 10 - 1) r_z j_z = A r_z j_z := fun r_z j_z h_z => upd_o h_z
  have hTB : Tru s ks (pm_upd A 0 10 (A 0 10 - 1)) := hT.same hB_z (hBo 0 7 (by omega)) (hBo 0 8 (by omega)) (fun j_z _ _ => hBo 5 j_z (by omega)) (fun p_z p0_z p1_z r_z j_z hr => hBo r_z j_z (by unfold inS at hr; omega))
  have c11_z : pm_upd A 0 10 (A 0 10 - 1) 0 11 = 6 := pM_11 hB_z
  have f10 : pm_upd A 0 10 (A 0 10 - 1) 0 10 = A 0 10 - 1 := upd_at
  have f7_z : pm_upd A 0 10 (A 0 10 - 1) 0 7 = A 0 7 := hBo 0 7 (by omega)
  have f6_z : pm_upd A 0 10 (A 0 10 - 1) (pm_upd A 0 10 (A 0 10 - 1) 0 11) (pm_upd A 0 10 (A 0 10 - 1) 0 10) = (f.1 : Int) := by rw [c11_z, f10, hBo 6 _ (by omega)]; exact hf
  refine Cl.of (Nat.le_of_ble_eq_true rfl) ?_
  refine wq_ok (full := o_X10_back) srt_Mback (fr := []) (cuts := [32]) (J := fun pc st_z => (pc = 32 ∧ ∃ (B_z : pm_A) (z_z : Int), (z_z = 0 ∨ z_z = 1) ∧ s6 A B_z ∧ st_z = ([(2, 0)], [(0, z_z)], B_z))) ?_ 20 0 _ ?_
  · rintro pc st_z (⟨rfl, B_z, z_z, hz, hs, rfl⟩)
    refine wq_ok srt_Mback (fr := []) (cuts := []) (J := fun _ _ => False) (fun _ _ h_z => h_z.elim) 5 32 _ ?_
    exact ⟨okt2 hz, hs⟩
  · refine ⟨oM_0 (by omega) km0 10 rfl, ?_⟩
    refine ⟨fun h0 => ?_, fun h0 => absurd h0 (by omega)⟩
    refine ⟨oM_0 (by omega) km0 10 rfl, ?_⟩
    refine ⟨⟨by omega, by omega⟩, ?_⟩
    refine ⟨oM_0 (by omega) km0 10 rfl, ?_⟩
    refine ⟨oM_0 (by omega) km0 11 rfl, ?_⟩
    refine ⟨oM_0 (by omega) km0 10 rfl, ?_⟩
    refine ⟨aM_6 (r := (pm_upd A 0 10 ((A 0 10) - 1)) 0 11) (by rw [c11_z]; omega) (by rw [c11_z]; exact kn6) (by rw [f10]; omega) (by rw [f10]; omega), ?_⟩
    refine ⟨rM_0 (by omega) km0, ?_⟩
    show Cl pmt (an_sh wM) 200 [(2, 0), (0, pm_upd A 0 10 (A 0 10 - 1) (pm_upd A 0 10 (A 0 10 - 1) 0 11) (pm_upd A 0 10 (A 0 10 - 1) 0 10))] (pm_upd A 0 10 (A 0 10 - 1)) _
    rw [f6_z]
    refine (turns_exq hTB (k := f) (by rw [f7_z]; exact hk)).imp ?_
    rintro ⟨r1_z, B_z⟩ hq
    have hs : s6 A B_z := (s6.rf.up (by omega)).tr (tuq_s6 (by omega) hq)
    rcases hq with ⟨q1_z, _⟩ | ⟨q1_z, _⟩
    · simp only at q1_z
      subst q1_z
      exact ⟨rfl, B_z, 0, Or.inl rfl, hs, rfl⟩
    · simp only at q1_z
      subst q1_z
      exact ⟨rfl, B_z, 1, Or.inr rfl, hs, rfl⟩
def SL (X A : pm_A) : Prop := gH wM A ∧ s6 X A
def sl_post (X : pm_A) (r : pm_R) : Prop := s6 X r.2
theorem SL.g {X A : pm_A} (h : SL X A) : gH wM A := h.1
theorem SL.upd {X A : pm_A} {r j x : Int} (h : SL X A) (hB : gH wM (pm_upd A r j x)) (h1 : r ≠ 1 ∧ r ≠ 2 ∧ r ≠ 3 ∧ r ≠ 5 ∧ r ≠ 6 ∧ r ≠ 7 ∧ r ≠ 31 ∧ r ≠ 32) (h2 : ¬ (r = 0 ∧ (j = 7 ∨ j = 8 ∨ j = 10))) : SL X (pm_upd A r j x) := ⟨hB, h.2.up (by omega)⟩
theorem SL.typed {X A B : pm_A} {ms : List Nat} (h : SL X A) (hB : gH wM B) (hF : gFr wM ms A B) (hm : (ms.all fun c_z => !([1007, 1008, 1010, 10001, 10002, 10003, 10005, 10006, 10007, 10031, 10032].contains c_z)) = true) : SL X B := by
  have hno : ∀ c_z, c_z ∈ ([1007, 1008, 1010, 10001, 10002, 10003, 10005, 10006, 10007, 10031, 10032] : List Nat) → ¬ c_z ∈ ms := fun c_z hc_z hin => by
    have := List.all_eq_true.1 hm c_z hin
    rw [List.contains_iff_mem.mpr hc_z] at this
    exact absurd this (by decide)
  refine ⟨hB, h.2.tr (fun t_z q_z j_z h1 h2 h3 => ?_)⟩
  unfold inS at h3
  rcases h3 with ⟨rfl, rfl⟩ | ⟨rfl, g1, g2⟩ | ⟨rfl, g1, g2⟩
  · exact hF 1 _ (by omega) (by omega) (by rw [mc_1]; exact hno _ (by decide))
  · exact hF 2 _ (by omega) (by omega) (by rw [mc_2]; exact hno _ (by decide))
  · exact hF 3 _ (by omega) (by omega) (by rw [mc_3]; exact hno _ (by decide))
def alSx (X : pm_A) (B : pm_A) : Prop := SL X B ∧ B 0 26 ≤ 100
theorem al_94f {X : pm_A} {l : Int} (l0 : 0 ≤ l) (l1 : l ≤ 99) (H : ∀ C_z w3_z, alSx X C_z → Tm pmt (an_sh wM) o_X10_all 55 ([(2, 0), (0, 1), (0, l + 1), w3_z], [], C_z) (sl_post X)) : ∀ (m_z : Nat) (v_z : Int) (B_z : pm_A), (12 - v_z).toNat < m_z → 0 ≤ v_z → v_z ≤ 12 → alSx X B_z → Tm pmt (an_sh wM) o_X10_all 94 ([(2, 0), (0, 1), (0, l), (0, v_z)], [], B_z) (sl_post X) := by
  intro m_z
  induction m_z with
  | zero => intro v_z B_z h_z; omega
  | succ m_z ih_z =>
    intro v_z B_z hm_z v0_z v1_z hB_z
    have hg := hB_z.1.g
    have c33_z := pM_33 hg
    refine wq_ok srt_Mall (fr := []) (cuts := [55, 119]) (J := fun pc st_z => (pc = 55 ∧ (12 ≤ v_z) ∧ st_z = ([(2, 0), (0, 1), (0, l + 1), (0, v_z)], [], B_z)) ∨ (pc = 119 ∧ v_z < 12 ∧ ∃ C_z x_z, alSx X C_z ∧ (-2147483648 ≤ x_z ∧ x_z ≤ 2147483647) ∧ st_z = ([(2, 0), (0, 1), (0, l), (0, v_z)], [(0, x_z), (0, 12 * l + v_z), (2, B_z 0 33)], C_z))) ?_ 20 94 _ ?_
    · rintro pc st_z (⟨rfl, h0, rfl⟩ | ⟨rfl, hv, C_z, x_z, hC, hx, rfl⟩)
      · exact H B_z _ hB_z
      · refine wq_ok srt_Mall (fr := []) (cuts := [94]) (J := fun pc st_z => (pc = 94 ∧ st_z = ([(2, 0), (0, 1), (0, l), (0, v_z + 1)], [], pm_upd C_z (B_z 0 33) (12 * l + v_z) x_z))) ?_ 8 119 _ ?_
        · rintro pc st_z (⟨rfl, rfl⟩)
          rw [c33_z]
          exact ih_z (v_z + 1) _ (by omega) (by omega) (by omega) ⟨hC.1.upd (uM_21 hC.1.g kn21 hx.1 hx.2) (by omega) (by omega), by rw [upd_o (by omega)]; exact hC.2⟩
        · refine ⟨tM_21 (r := B_z 0 33) (by rw [c33_z]; omega) (by rw [c33_z]; exact kn21) (by omega) (by omega) rfl, ?_⟩
          refine ⟨⟨by omega, by omega⟩, ?_⟩
          exact ⟨rfl, rfl⟩
    · refine ⟨fun h0 => ?_, fun h0 => ?_⟩
      · refine ⟨⟨by omega, by omega⟩, ?_⟩
        exact Or.inl (⟨rfl, h0, rfl⟩)
      · refine ⟨oM_0 (by omega) km0 33 rfl, ?_⟩
        refine ⟨⟨by omega, by omega⟩, ?_⟩
        refine ⟨⟨by omega, by omega⟩, ?_⟩
        refine ⟨⟨by omega, by omega⟩, ?_⟩
        refine ⟨rM_0 (by omega) km0, ?_⟩
        refine Cl.gct q_X10_leastOf_0 (A := B_z) (a := [(2, 0), (0, 50 + l), (0, v_z)]) ⟨gv_ref (by omega) km0, ⟨rfl, by simp only; omega, by simp only; omega⟩, ⟨rfl, by simp only; omega, by simp only; omega⟩, trivial⟩ hg ?_
        rintro ⟨r1_z, C_z⟩ f1_z f2_z f3_z
        simp only at f1_z f2_z f3_z
        match r1_z, f1_z with
        | some (0, x_z), fx => exact Or.inr (⟨rfl, h0, C_z, x_z, ⟨hB_z.1.typed f2_z f3_z (by decide), by rw [f3_z 0 26 (by omega) (by omega) (by rw [mc_0]; decide)]; exact hB_z.2⟩, ⟨fx.1.2.1, fx.1.2.2⟩, rfl⟩)
        | some (n_z + 1, x_z), ⟨⟨q_z, _⟩, _⟩ => exact absurd q_z (by intro q_z; cases q_z)
        | none, q_z => exact absurd q_z (by intro q_z; cases q_z)
theorem al_55f {X : pm_A} : ∀ (m_z : Nat) (l : Int) (w3_z : pm_V) (B_z : pm_A), (101 - l).toNat < m_z → 0 ≤ l → l ≤ 100 → alSx X B_z → Tm pmt (an_sh wM) o_X10_all 55 ([(2, 0), (0, 1), (0, l), w3_z], [], B_z) (sl_post X) := by
  intro m_z
  induction m_z with
  | zero => intro l w3_z B_z h_z; omega
  | succ m_z ih_z =>
    intro l w3_z B_z hm_z l0 l1 hB_z
    have hg := hB_z.1.g
    have h26 := hB_z.2
    have p7_z := fM_0_7 hg (r := 0) (by omega) km0
    have p8 := fM_0_8 hg (r := 0) (by omega) km0
    have c31_z := pM_31 hg
    have c1_z := pM_1 hg
    have ml_z : l < 100 → 0 ≤ B_z 1 (50 + l) ∧ B_z 1 (50 + l) ≤ 200 := fun h_z => eM_1 hg (r := 1) (by omega) kn1 (by omega) (by omega)
    have h78 : ∀ C_z, l < 100 → alSx X C_z → Tm pmt (an_sh wM) o_X10_all 78 ([(2, 0), (0, 1), (0, l), w3_z], [], C_z) (sl_post X) := fun C_z hl hC => by
      have hgC := hC.1.g
      have c32_z := pM_32 hgC
      refine wq_ok srt_Mall (fr := []) (cuts := [91]) (J := fun pc st_z => (pc = 91 ∧ ∃ D_z x_z, alSx X D_z ∧ (-9223372036854775808 ≤ x_z ∧ x_z ≤ 9223372036854775807) ∧ st_z = ([(2, 0), (0, 1), (0, l), w3_z], [(1, x_z), (0, l), (2, C_z 0 32)], D_z))) ?_ 12 78 _ ?_
      · rintro pc st_z (⟨rfl, D_z, x_z, hD, hx, rfl⟩)
        refine wq_ok srt_Mall (fr := []) (cuts := [94]) (J := fun pc st_z => (pc = 94 ∧ st_z = ([(2, 0), (0, 1), (0, l), (0, 0)], [], pm_upd D_z (C_z 0 32) l x_z))) ?_ 8 91 _ ?_
        · rintro pc st_z (⟨rfl, rfl⟩)
          rw [c32_z]
          exact al_94f l0 (by omega) (fun E_z w3_z hE => ih_z (l + 1) w3_z E_z (by omega) (by omega) (by omega) hE) _ 0 _ (Nat.lt_succ_self _) (by omega) (by omega) ⟨hD.1.upd (uM_20 hD.1.g kn20 hx.1 hx.2) (by omega) (by omega), by rw [upd_o (by omega)]; exact hD.2⟩
        · refine ⟨tM_20 (r := C_z 0 32) (by rw [c32_z]; omega) (by rw [c32_z]; exact kn20) (by omega) (by omega) rfl, ?_⟩
          exact ⟨rfl, rfl⟩
      · refine ⟨oM_0 (by omega) km0 32 rfl, ?_⟩
        refine ⟨⟨by omega, by omega⟩, ?_⟩
        refine ⟨rM_0 (by omega) km0, ?_⟩
        refine Cl.gct q_X10_sumOf_0 (A := C_z) (a := [(2, 0), (0, 50 + l)]) ⟨gv_ref (by omega) km0, ⟨rfl, by simp only; omega, by simp only; omega⟩, trivial⟩ hgC ?_
        rintro ⟨r1_z, D_z⟩ f1_z f2_z f3_z
        simp only at f1_z f2_z f3_z
        match r1_z, f1_z with
        | some (1, x_z), fx => exact ⟨rfl, D_z, x_z, ⟨hC.1.typed f2_z f3_z (by decide), by rw [f3_z 0 26 (by omega) (by omega) (by rw [mc_0]; decide)]; exact hC.2⟩, ⟨fx.1.2.1, fx.1.2.2⟩, rfl⟩
        | some (0, x_z), ⟨⟨q_z, _⟩, _⟩ => exact absurd q_z (by intro q_z; cases q_z)
        | some (n_z + 2, x_z), ⟨⟨q_z, _⟩, _⟩ => exact absurd q_z (by intro q_z; cases q_z)
        | none, q_z => exact absurd q_z (by intro q_z; cases q_z)
    refine wq_ok srt_Mall (fr := []) (cuts := [78]) (J := fun pc st_z => (pc = 78 ∧ (l < (B_z 0 26)) ∧ st_z = ([(2, 0), (0, 1), (0, l), w3_z], [], pm_upd B_z (B_z 0 31) l (B_z (B_z 0 1) (50 + l))))) ?_ 19 55 _ ?_
    · rintro pc st_z (⟨rfl, h0, rfl⟩)
      rw [c31_z, c1_z]
      have b_z := ml_z (by omega)
      exact h78 _ (by omega) ⟨hB_z.1.upd (uM_19 hg kn19 (by omega) (by omega)) (by omega) (by omega), by rw [upd_o (by omega)]; exact hB_z.2⟩
    · refine ⟨oM_0 (by omega) km0 26 rfl, ?_⟩
      refine ⟨fun h0 => ?_, fun h0 => ?_⟩
      · refine ⟨oM_0 (by omega) km0 7 rfl, ?_⟩
        refine ⟨oM_0 (by omega) km0 8 rfl, ?_⟩
        refine ⟨⟨by omega, by omega⟩, ?_⟩
        refine ⟨oM_0 (by omega) km0 36 rfl, ?_⟩
        refine ⟨oM_0 (by omega) km0 24 rfl, ?_⟩
        exact ⟨rfl, (hB_z.1.upd (uM_0_36 hg (by omega) (by omega)) (by omega) (by omega)).2⟩
      · refine ⟨oM_0 (by omega) km0 31 rfl, ?_⟩
        refine ⟨oM_0 (by omega) km0 1 rfl, ?_⟩
        refine ⟨⟨by omega, by omega⟩, ?_⟩
        refine ⟨aM_1 (r := B_z 0 1) (by rw [c1_z]; omega) (by rw [c1_z]; exact kn1) (by omega) (by omega), ?_⟩
        have e1 : B_z (B_z 0 1) (50 + l) = B_z 1 (50 + l) := by rw [c1_z]
        refine ⟨tM_19 (r := B_z 0 31) (by rw [c31_z]; omega) (by rw [c31_z]; exact kn19) (by omega) (by omega) rfl, ?_⟩
        exact ⟨rfl, h0, rfl⟩
theorem al_33f {X : pm_A} {y : Int} {E : pm_A} (hy1 : y = 0 ∨ y = 1) (hE : SL X E) (hlE : y ≠ 0 → E 0 26 ≤ 100) : Tm pmt (an_sh wM) o_X10_all 33 ([(2, 0), (0, y), (9, 0), (9, 0)], [], E) (sl_post X) := by
  have hg := hE.g
  have p26 := fM_0_26 hg (r := 0) (by omega) km0
  rcases hy1 with rfl | rfl
  · refine wq_ok srt_Mall (fr := []) (cuts := [55]) (J := fun _ _ => False) ?_ 8 33 _ ?_
    · intro pc st_z h_z; exact h_z.elim
    · refine ⟨fun hh => absurd hh (by decide), fun _ => ?_⟩
      exact ⟨rfl, (hE).2⟩
  · have hl := hlE (by omega)
    have u29 : pm_upd E 0 29 1 0 26 = E 0 26 := upd_o (by omega)
    have hR1 := hE.upd (uM_0_29 hg (x := 1) (by omega) (by omega)) (by omega) (by omega)
    have hR2 := hR1.upd (uM_0_30 hR1.g (x := E 0 26) (by omega) (by omega)) (by omega) (by omega)
    refine wq_ok srt_Mall (fr := []) (cuts := [55]) (J := fun pc st_z => (pc = 55 ∧ st_z = ([(2, 0), (0, 1), (0, 0), (9, 0)], [], pm_upd (pm_upd E 0 29 1) 0 30 ((pm_upd E 0 29 1) 0 26)))) ?_ 16 33 _ ?_
    · rintro pc st_z (⟨rfl, rfl⟩)
      rw [u29]
      exact al_55f _ 0 _ _ (Nat.lt_succ_self _) (by omega) (by omega) ⟨hR2, by rw [upd_o (by omega), u29]; exact hl⟩
    · refine ⟨fun _ => ?_, fun hh => absurd hh (by decide)⟩
      refine ⟨oM_0 (by omega) km0 29 rfl, ?_⟩
      refine ⟨oM_0 (by omega) km0 26 rfl, ?_⟩
      refine ⟨oM_0 (by omega) km0 30 rfl, ?_⟩
      exact ⟨rfl, rfl⟩
theorem mall_s6 {s : cx_Sd 12} {ks : List (Fin 12)} {A : pm_A} (h : Tru s ks A) : Cl pmt (an_sh wM) 123 [(2, 0)] A (sl_post A) := by
  have hg := h.1
  have p7_z := fM_0_7 hg (r := 0) (by omega) km0
  refine Cl.of (Nat.le_of_ble_eq_true rfl) ?_
  refine wq_ok (full := o_X10_all) srt_Mall (fr := []) (cuts := [6]) (J := fun pc st_z => (pc = 6 ∧ ∃ C_z, savesJ A C_z 30 72 ∧ st_z = ([(2, 0), (9, 0), (9, 0), (9, 0)], [], C_z))) ?_ 7 0 _ ?_
  · rintro pc st_z (⟨rfl, C_z, hC, rfl⟩)
    have s1_z : ∀ r_z j_z : Int, r_z ≠ 22 → (∀ t_z : Int, 30 ≤ t_z → t_z ≤ 35 → ¬ inS t_z r_z j_z) → C_z r_z j_z = A r_z j_z := fun r_z j_z hr hn => hC.2.1 r_z j_z (fun t_z t0_z t1_z ht => hn (30 + t_z) (by omega) (by omega) ht) hr
    have hCT : ∃ s ks, Tru s ks C_z := by
      exact ⟨s, ks, h.same hC.1 (s1_z 0 7 (by omega) (fun t_z t0_z t1_z ht => by unfold inS at ht; omega)) (s1_z 0 8 (by omega) (fun t_z t0_z t1_z ht => by unfold inS at ht; omega)) (fun i_z _ _ => s1_z 5 i_z (by omega) (fun t_z t0_z t1_z ht => by unfold inS at ht; omega)) (fun p_z p0_z p1_z r_z i_z hr => s1_z r_z i_z (by unfold inS at hr; omega) (fun t_z t0_z t1_z ht => by unfold inS at *; omega))⟩
    refine wq_ok srt_Mall (fr := []) (cuts := [10]) (J := fun pc st_z => (pc = 10 ∧ ∃ B_z y_z, gtF C_z B_z ∧ (y_z = 0 ∨ (y_z = 1 ∧ B_z 0 26 ≤ 100)) ∧ st_z = ([(2, 0), (9, 0), (9, 0), (9, 0)], [(0, y_z)], B_z))) ?_ 6 6 _ ?_
    · rintro pc st_z (⟨rfl, B_z, y_z, hB_z, hy, rfl⟩)
      refine wq_ok srt_Mall (fr := []) (cuts := [17]) (J := fun pc st_z => (pc = 17 ∧ ∃ D_z, restoresJ B_z D_z 30 72 ∧ st_z = ([(2, 0), (0, y_z), (9, 0), (9, 0)], [], D_z))) ?_ 8 10 _ ?_
      · rintro pc st_z (⟨rfl, D_z, hD, rfl⟩)
        have b7_z := fM_0_7 hB_z.1 (r := 0) (by omega) km0
        have a7_z := fM_0_7 hg (r := 0) (by omega) km0
        have w1_z : s6 A C_z := (fun t_z q_z j_z t0_z t1_z ht => hC.2.1 q_z j_z (fun u_z u0_z u1_z hu => by unfold inS at ht hu; omega) (by unfold inS at ht; omega))
        have w2_z : s6 C_z B_z := (fun t_z q_z j_z t0_z t1_z ht => hB_z.2 q_z j_z (by unfold inS at ht; omega) (by unfold inS at ht; omega) (by unfold inS at ht; omega) (by unfold inS at ht; omega) (fun u_z u0_z hu => by unfold inS at *; omega) (by unfold inS at ht; omega) (by unfold inS at ht; omega))
        have w3_z : s6 B_z D_z := (fun t_z q_z j_z t0_z t1_z ht => hD.2.1 q_z j_z (fun u_z u0_z u1_z hu => by unfold inS at ht hu; omega) (by unfold inS at ht; omega))
        have hRI : SL A D_z := ⟨hD.1, (w1_z.tr w2_z).tr w3_z⟩
        have hgD := hRI.g
        have p24 := fM_0_24 hgD (r := 0) (by omega) km0
        have hl : y_z ≠ 0 → D_z 0 26 ≤ 100 := fun hne => by rw [hD.2.1 0 26 (fun t_z t0_z t1_z ht => by unfold inS at ht; omega) (by omega)]; rcases hy with e_z | e_z; exact absurd e_z hne; exact e_z.2
        have h33 : ∀ E_z, SL A E_z → (y_z ≠ 0 → E_z 0 26 ≤ 100) → Tm pmt (an_sh wM) o_X10_all 33 ([(2, 0), (0, y_z), (9, 0), (9, 0)], [], E_z) (sl_post A) := fun E_z hE hlE => by
          have hy1 : y_z = 0 ∨ y_z = 1 := by rcases hy with e_z | e_z; exact Or.inl e_z; exact Or.inr e_z.1
          exact al_33f hy1 hE hlE
        refine wq_ok srt_Mall (fr := []) (cuts := [33]) (J := fun pc st_z => (pc = 33 ∧ (y_z = 0) ∧ st_z = ([(2, 0), (0, y_z), (9, 0), (9, 0)], [], pm_upd D_z 0 25 0)) ∨ (pc = 33 ∧ (¬ y_z = 0) ∧ st_z = ([(2, 0), (0, y_z), (9, 0), (9, 0)], [], pm_upd D_z 0 25 (D_z 0 24)))) ?_ 12 17 _ ?_
        · rintro pc st_z (⟨rfl, h0, rfl⟩ | ⟨rfl, h0, rfl⟩)
          · have hR2 := hRI.upd (uM_0_25 hgD (x := 0) (by omega) (by omega)) (by omega) (by omega)
            exact h33 _ hR2 (fun hy1 => by rw [upd_o (by omega)]; exact hl hy1)
          · have hR2 := hRI.upd (uM_0_25 hgD (x := D_z 0 24) (by omega) (by omega)) (by omega) (by omega)
            exact h33 _ hR2 (fun hy1 => by rw [upd_o (by omega)]; exact hl hy1)
        · refine ⟨fun h0 => ?_, fun h0 => ?_⟩
          · refine ⟨oM_0 (by omega) km0 25 rfl, ?_⟩
            exact Or.inl (⟨rfl, h0, rfl⟩)
          · refine ⟨oM_0 (by omega) km0 24 rfl, ?_⟩
            refine ⟨oM_0 (by omega) km0 25 rfl, ?_⟩
            exact Or.inr (⟨rfl, h0, rfl⟩)
      · refine ⟨rM_0 (by omega) km0, ?_⟩
        refine (restores_ex (p := 30) hB_z.1 (by omega) (by omega)).imp ?_
        rintro ⟨r1_z, D_z⟩ ⟨q1_z, q2_z⟩
        simp only at q1_z q2_z
        subst q1_z
        exact ⟨rfl, D_z, q2_z, rfl⟩
    · refine ⟨rM_0 (by omega) km0, ?_⟩
      refine (goesThrough_ex hCT).imp ?_
      rintro ⟨r1_z, B_z⟩ ⟨q1_z, q2_z⟩
      simp only at q1_z q2_z
      rcases q2_z with q2_z | ⟨q2_z, q3_z⟩
      · subst q2_z
        exact ⟨rfl, B_z, 0, q1_z, Or.inl rfl, rfl⟩
      · subst q2_z
        exact ⟨rfl, B_z, 1, q1_z, Or.inr ⟨rfl, q3_z⟩, rfl⟩
  · refine ⟨rM_0 (by omega) km0, ?_⟩
    refine (saves_ex (p := 30) hg (by omega) (by omega)).imp ?_
    rintro ⟨r1_z, C_z⟩ ⟨q1_z, q2_z⟩
    simp only at q1_z q2_z
    subst q1_z
    exact ⟨rfl, C_z, q2_z, rfl⟩
theorem mfinite_s6 {s : cx_Sd 12} {ks : List (Fin 12)} {A : pm_A} (h : Tru s ks A) : Cl pmt (an_sh wM) 141 [(2, 0)] A (sl_post A) := by
  have hg := h.1
  refine Cl.of (Nat.le_of_ble_eq_true rfl) ?_
  refine wq_ok (full := o_X10_finite) srt_Mfinite (fr := []) (cuts := [6]) (J := fun pc st_z => (pc = 6 ∧ ∃ C_z, savesJ A C_z 30 72 ∧ st_z = ([(2, 0), (9, 0)], [], C_z))) ?_ 7 0 _ ?_
  · rintro pc st_z (⟨rfl, C_z, hC, rfl⟩)
    refine wq_ok srt_Mfinite (fr := []) (cuts := [10]) (J := fun pc st_z => (pc = 10 ∧ ∃ B_z x_z, fF C_z B_z ∧ st_z = ([(2, 0), (9, 0)], [(0, x_z)], B_z))) ?_ 6 6 _ ?_
    · rintro pc st_z (⟨rfl, B_z, x_z, hB_z, rfl⟩)
      refine wq_ok srt_Mfinite (fr := []) (cuts := [17]) (J := fun pc st_z => (pc = 17 ∧ ∃ D_z, restoresJ B_z D_z 30 72 ∧ st_z = ([(2, 0), (0, x_z)], [], D_z))) ?_ 8 10 _ ?_
      · rintro pc st_z (⟨rfl, D_z, hD, rfl⟩)
        have hout : ∀ r_z j_z : Int, 0 ≤ r_z → r_z ≤ 38 → 0 ≤ j_z → (r_z = 0 → j_z < 100) → (r_z = 0 ∧ j_z ≠ 40 ∧ j_z ≠ 41 ∧ j_z ≠ 42) ∨ (r_z ≠ 0 ∧ r_z ≠ 5 ∧ r_z ≠ 12 ∧ r_z ≠ 24 ∧ r_z ≠ 25 ∧ r_z ≠ 26 ∧ r_z ≠ 27 ∧ r_z ≠ 28 ∧ r_z ≠ 29) → B_z r_z j_z = C_z r_z j_z := fun r_z j_z r0 r1_z j0 j1 hr => hB_z.2 r_z j_z r0 j0 (fr_out r0 r1_z j0 j1 (fun e_z => by unfold fms; simp only [List.mem_cons, List.not_mem_nil, or_false]; omega) (fun e_z => by unfold fms; simp only [List.mem_cons, List.not_mem_nil, or_false]; omega))
        have b7_z := fM_0_7 hB_z.1 (r := 0) (by omega) km0
        have a7_z := fM_0_7 hg (r := 0) (by omega) km0
        have w1_z : s6 A C_z := (fun t_z q_z j_z t0_z t1_z ht => hC.2.1 q_z j_z (fun u_z u0_z u1_z hu => by unfold inS at ht hu; omega) (by unfold inS at ht; omega))
        have w2_z : s6 C_z B_z := (fun t_z q_z j_z t0_z t1_z ht => hout q_z j_z (by unfold inS at ht; omega) (by unfold inS at ht; omega) (by unfold inS at ht; omega) (by unfold inS at ht; omega) (by unfold inS at ht; omega))
        have w3_z : s6 B_z D_z := (fun t_z q_z j_z t0_z t1_z ht => hD.2.1 q_z j_z (fun u_z u0_z u1_z hu => by unfold inS at ht hu; omega) (by unfold inS at ht; omega))
        have hRI : SL A D_z := ⟨hD.1, (w1_z.tr w2_z).tr w3_z⟩
        refine wq_ok srt_Mfinite (fr := []) (cuts := []) (J := fun _ _ => False) ?_ 6 17 _ ?_
        · intro pc st_z h; exact h.elim
        · exact ⟨rfl, hRI.2⟩
      · refine ⟨rM_0 (by omega) km0, ?_⟩
        refine (restores_ex (p := 30) hB_z.1 (by omega) (by omega)).imp ?_
        rintro ⟨r1_z, D_z⟩ ⟨q1_z, q2_z⟩
        simp only at q1_z q2_z
        subst q1_z
        exact ⟨rfl, D_z, q2_z, rfl⟩
    · refine ⟨rM_0 (by omega) km0, ?_⟩
      refine (searches_ex hC.1).imp ?_
      rintro ⟨r1_z, B_z⟩ ⟨⟨x_z, q1_z⟩, q2_z⟩
      simp only at q1_z q2_z
      subst q1_z
      exact ⟨rfl, B_z, x_z, q2_z, rfl⟩
  · refine ⟨rM_0 (by omega) km0, ?_⟩
    refine (saves_ex (p := 30) hg (by omega) (by omega)).imp ?_
    rintro ⟨r1_z, C_z⟩ ⟨q1_z, q2_z⟩
    simp only at q1_z q2_z
    subst q1_z
    exact ⟨rfl, C_z, q2_z, rfl⟩
def kqI (A B : pm_A) (k i : Int) : Prop := gH wM B ∧ (∀ t_z : Int, 0 ≤ t_z → t_z < i → LSm B (6 + 6 * k + t_z) = LSm A t_z) ∧ ∀ q_z j_z : Int, (∀ t_z : Int, 0 ≤ t_z → t_z < 6 → ¬ inS (6 + 6 * k + t_z) q_z j_z) → B q_z j_z = A q_z j_z
theorem kq_64 {A : pm_A} {k : Int} (k0 : 0 ≤ k) (k1 : k ≤ 3) (hA : gH wM A) : ∀ (m_z : Nat) (i_z : Int) (B_z : pm_A), (6 - i_z).toNat < m_z → 0 ≤ i_z → i_z ≤ A 0 7 → kqI A B_z k i_z → Tm pmt (an_sh wM) o_X10_keep 64 ([(2, 0), (0, k), (0, i_z)], [], B_z) (fun r_z => kqI A r_z.2 k (A 0 7)) := by
  have p7_z := fM_0_7 hA (r := 0) (by omega) km0
  intro m_z
  induction m_z with
  | zero => intro i_z B_z h_z; omega
  | succ m_z ih_z =>
    intro i_z B_z hm_z i0_z i1_z hB_z
    have e7_z : B_z 0 7 = A 0 7 := hB_z.2.2 0 7 (fun t_z t0_z t1_z ht => by unfold inS at ht; omega)
    refine wq_ok srt_Mkeep (fr := []) (cuts := [86]) (J := fun pc st_z => (pc = 86 ∧ i_z < B_z 0 7 ∧ ∃ C_z, kqI A C_z k (i_z + 1) ∧ st_z = ([(2, 0), (0, k), (0, i_z)], [], C_z))) ?_ 18 64 _ ?_
    · rintro pc st_z (⟨rfl, h0, C_z, hC, rfl⟩)
      refine wq_ok srt_Mkeep (fr := []) (cuts := [64]) (J := fun pc st_z => (pc = 64 ∧ st_z = ([(2, 0), (0, k), (0, i_z + 1)], [], C_z))) ?_ 7 86 _ ?_
      · rintro pc st_z (⟨rfl, rfl⟩)
        exact ih_z (i_z + 1) C_z (by omega) (by omega) (by omega) hC
      · refine ⟨⟨by omega, by omega⟩, ?_⟩
        exact ⟨rfl, rfl⟩
    · refine ⟨oM_0 (by omega) km0 7 rfl, ?_⟩
      refine ⟨fun h0 => ?_, fun h0 => ?_⟩
      · have e_z : i_z = A 0 7 := by omega
        subst e_z
        exact ⟨rfl, hB_z⟩
      · refine ⟨⟨by omega, by omega⟩, ?_⟩
        refine ⟨⟨by omega, by omega⟩, ?_⟩
        refine ⟨⟨by omega, by omega⟩, ?_⟩
        refine ⟨rM_0 (by omega) km0, ?_⟩
        refine (copy_ex (to := (6 + (6 * k)) + i_z) (fr := i_z) hB_z.1 (by omega) (by omega) (by omega) (by omega) (by omega)).imp ?_
        rintro ⟨r1_z, C_z⟩ ⟨q1_z, q2_z, q3_z, q4_z⟩
        simp only at q1_z q2_z q3_z q4_z
        subst q1_z
        refine ⟨rfl, h0, C_z, ⟨q2_z, fun t_z t0_z t1_z => ?_, fun q_z j_z hn => ?_⟩, rfl⟩
        · by_cases e_z : t_z = i_z
          · rw [e_z, q4_z]
            exact LSm_same (eM_1 hA (r := 1) (by omega) kn1 (by omega) (by omega)).2 (fun r_z j_z hr => hB_z.2.2 r_z j_z (fun u_z u0_z u1_z hu => by unfold inS at hr hu; omega))
          · rw [LSm_same (A := B_z) (eM_1 hB_z.1 (r := 1) (by omega) kn1 (by omega) (by omega)).2 (fun r_z j_z hr => q3_z r_z j_z (fun hu => by unfold inS at hr hu; omega))]
            exact hB_z.2.1 t_z t0_z (by omega)
        · rw [q3_z q_z j_z (hn i_z i0_z (by omega))]
          exact hB_z.2.2 q_z j_z hn
def kqE (A E : pm_A) (k i : Int) : Prop := gH wM E ∧ (E 13 k = A 0 7 ∧ E 14 k = A 0 8) ∧ (∀ j_z : Int, 0 ≤ j_z → j_z < i → E 15 (72 * k + j_z) = A 5 j_z) ∧ ∀ q_z j_z : Int, ¬ (q_z = 13 ∧ j_z = k) → ¬ (q_z = 14 ∧ j_z = k) → ¬ (q_z = 15 ∧ 72 * k ≤ j_z ∧ j_z < 72 * k + 72) → E q_z j_z = A q_z j_z
def kqP (A : pm_A) (k : Int) (r : pm_R) : Prop := ((¬ (0 ≤ k ∧ k ≤ 3)) ∧ r.2 = A) ∨ ((0 ≤ k ∧ k ≤ 3) ∧ ∃ E_z, kqE A E_z k 72 ∧ kqI E_z r.2 k (A 0 7))
theorem kq_33 {A : pm_A} {k : Int} (k0 : 0 ≤ k) (k1 : k ≤ 3) : ∀ (m_z : Nat) (i_z : Int) (B_z : pm_A), (72 - i_z).toNat < m_z → 0 ≤ i_z → i_z ≤ 72 → kqE A B_z k i_z → Tm pmt (an_sh wM) o_X10_keep 33 ([(2, 0), (0, k), (0, i_z)], [], B_z) (kqP A k) := by
  intro m_z
  induction m_z with
  | zero => intro i_z B_z h_z; omega
  | succ m_z ih_z =>
    intro i_z B_z hm_z i0_z i1_z hB_z
    have hg := hB_z.1
    have c22 := pM_22 hg
    have c9_z := pM_9 hg
    have p7_z := fM_0_7 hg (r := 0) (by omega) km0
    have e7_z : B_z 0 7 = A 0 7 := hB_z.2.2.2 0 7 (by omega) (by omega) (by omega)
    have b5 : i_z < 72 → -2147483648 ≤ B_z 5 i_z ∧ B_z 5 i_z ≤ 2147483647 := fun h_z => eM_5 hg (r := 5) (by omega) kn5 i0_z h_z
    refine wq_ok srt_Mkeep (fr := []) (cuts := [33, 64]) (J := fun pc st_z => (pc = 64 ∧ (72 ≤ i_z) ∧ st_z = ([(2, 0), (0, k), (0, 0)], [], B_z)) ∨ (pc = 33 ∧ (i_z < 72) ∧ st_z = ([(2, 0), (0, k), (0, i_z + 1)], [], pm_upd B_z (B_z 0 22) ((72 * k) + i_z) (B_z (B_z 0 9) i_z)))) ?_ 22 33 _ ?_
    · rintro pc st_z (⟨rfl, h0, rfl⟩ | ⟨rfl, h0, rfl⟩)
      · have e_z : i_z = 72 := by omega
        subst e_z
        have h1 := kq_64 k0 k1 hg _ 0 B_z (Nat.lt_succ_self _) (by omega) (by omega) ⟨hg, fun t_z t0_z t1_z => by omega, fun _ _ _ => rfl⟩
        obtain ⟨n_z, r_z, c1_z, q_z⟩ := h1
        exact ⟨n_z, r_z, c1_z, Or.inr ⟨⟨k0, k1⟩, B_z, hB_z, by rw [← e7_z]; exact q_z⟩⟩
      · rw [c22, c9_z]
        have b_z := b5 h0
        obtain ⟨_, ⟨g1, g2⟩, g3_z, g4⟩ := hB_z
        refine ih_z (i_z + 1) _ (by omega) (by omega) (by omega) ⟨uM_15 hg kn15 b_z.1 b_z.2, ⟨by rw [upd_o (by omega)]; exact g1, by rw [upd_o (by omega)]; exact g2⟩, fun j_z j0 j1 => ?_, fun q_z j_z h1 h2 h3 => by rw [upd_o (by omega)]; exact g4 q_z j_z h1 h2 h3⟩
        by_cases e_z : j_z = i_z
        · rw [e_z, upd_at]; exact g4 5 i_z (by omega) (by omega) (by omega)
        · rw [upd_o (by omega)]; exact g3_z j_z j0 (by omega)
    · refine ⟨fun h0 => ?_, fun h0 => ?_⟩
      · exact Or.inl (⟨rfl, h0, rfl⟩)
      · refine ⟨oM_0 (by omega) km0 22 rfl, ?_⟩
        refine ⟨⟨by omega, by omega⟩, ?_⟩
        refine ⟨⟨by omega, by omega⟩, ?_⟩
        refine ⟨oM_0 (by omega) km0 9 rfl, ?_⟩
        refine ⟨aM_5 (r := B_z 0 9) (by rw [c9_z]; omega) (by rw [c9_z]; exact kn5) (by omega) (by omega), ?_⟩
        have e1 : B_z (B_z 0 9) i_z = B_z 5 i_z := by rw [c9_z]
        refine ⟨tM_15 (r := B_z 0 22) (by rw [c22]; omega) (by rw [c22]; exact kn15) (by omega) (by omega) rfl, ?_⟩
        refine ⟨⟨by omega, by omega⟩, ?_⟩
        exact Or.inr (⟨rfl, h0, rfl⟩)
theorem mkeep_kq {A : pm_A} (hg : gH wM A) (k : Int) : Cl pmt (an_sh wM) 160 [(2, 0), (0, k)] A (kqP A k) := by
  have p7_z := fM_0_7 hg (r := 0) (by omega) km0
  have p8 := fM_0_8 hg (r := 0) (by omega) km0
  have c20_z := pM_20 hg
  have c21 : pm_upd A (A 0 20) k (A 0 7) 0 21 = 14 := by rw [c20_z, upd_o (by omega)]; exact pM_21 hg
  have e8 : pm_upd A (A 0 20) k (A 0 7) 0 8 = A 0 8 := by rw [c20_z, upd_o (by omega)]
  refine Cl.of (Nat.le_of_ble_eq_true rfl) ?_
  refine wq_ok (full := o_X10_keep) srt_Mkeep (fr := []) (cuts := [33]) (J := fun pc st_z => (pc = 33 ∧ (0 ≤ k) ∧ (k ≤ 3) ∧ st_z = ([(2, 0), (0, k), (0, 0)], [], pm_upd (pm_upd A (A 0 20) k (A 0 7)) ((pm_upd A (A 0 20) k (A 0 7)) 0 21) k ((pm_upd A (A 0 20) k (A 0 7)) 0 8)))) ?_ 24 0 _ ?_
  · rintro pc st_z (⟨rfl, h0, h1, rfl⟩)
    rw [c21, e8, c20_z]
    have hR : gH wM (pm_upd A 13 k (A 0 7)) := uM_13 hg kn13 (by omega) (by omega)
    exact kq_33 (by omega) (by omega) _ 0 _ (Nat.lt_succ_self _) (by omega) (by omega) ⟨uM_14 hR kn14 (by omega) (by omega), ⟨by rw [upd_o (by omega), upd_at], by rw [upd_at]⟩, fun j_z j0 j1 => by omega, fun q_z j_z h1 h2 h3 => by rw [upd_o (by omega), upd_o (by omega)]⟩
  · refine ⟨fun h0 => ?_, fun h0 => ?_⟩
    · exact ⟨rfl, Or.inl ⟨by omega, rfl⟩⟩
    · refine ⟨fun h1 => ?_, fun h1 => ?_⟩
      · refine ⟨oM_0 (by omega) km0 20 rfl, ?_⟩
        refine ⟨oM_0 (by omega) km0 7 rfl, ?_⟩
        refine ⟨tM_13 (r := A 0 20) (by rw [c20_z]; omega) (by rw [c20_z]; exact kn13) (by omega) (by omega) rfl, ?_⟩
        refine ⟨oM_0 (by omega) km0 21 rfl, ?_⟩
        refine ⟨oM_0 (by omega) km0 8 rfl, ?_⟩
        refine ⟨tM_14 (r := (pm_upd A (A 0 20) k (A 0 7)) 0 21) (by rw [c21]; omega) (by rw [c21]; exact kn14) (by omega) (by omega) rfl, ?_⟩
        exact ⟨rfl, h0, h1, rfl⟩
      · exact ⟨rfl, Or.inl ⟨by omega, rfl⟩⟩
end

section
/-! the kept seeds are alike after every call -/
def l6 (A B : pm_A) : Prop := (∀ p_z : Int, 6 ≤ p_z → p_z ≤ 29 → LSm B p_z = LSm A p_z) ∧ ∀ q_z j_z : Int, q_z = 13 ∨ q_z = 14 ∨ q_z = 15 → 0 ≤ j_z → B q_z j_z = A q_z j_z
def l6C : List Nat := [10013, 10014, 10015]
def l6D : List Nat := [10001, 10002, 10003, 10013, 10014, 10015]
theorem l6_c {A B : pm_A} {ms : List Nat} (hF : gFk wM ms A B) (hm : avoid l6C ms = true) : ∀ q_z j_z : Int, q_z = 13 ∨ q_z = 14 ∨ q_z = 15 → 0 ≤ j_z → B q_z j_z = A q_z j_z := fun q_z j_z hq j0 => hF q_z j_z (by omega) j0 (by
  rcases hq with rfl | rfl | rfl
  · rw [kmA kn13 (by decide +kernel)]; exact avoid_n hm (by decide)
  · rw [kmA kn14 (by decide +kernel)]; exact avoid_n hm (by decide)
  · rw [kmA kn15 (by decide +kernel)]; exact avoid_n hm (by decide))
theorem s6.l6 {A B : pm_A} {ms : List Nat} (h : s6 A B) (hA : gH wM A) (hF : gFk wM ms A B) (hm : avoid l6C ms = true) : l6 A B := ⟨fun p_z p0_z p1_z => h.ls hA p0_z p1_z, l6_c hF hm⟩
theorem l6_k {A B : pm_A} {ms : List Nat} (hA : gH wM A) (hF : gFk wM ms A B) (hm : avoid l6D ms = true) (hm2 : avoid l6C ms = true) : l6 A B := by
  have h1 : s6 A B := fun t_z q_z j_z t0_z t1_z ht => by
    unfold inS at ht
    rcases ht with ⟨rfl, rfl⟩ | ⟨rfl, g1, g2⟩ | ⟨rfl, g1, g2⟩
    · exact hF 1 _ (by omega) (by omega) (by rw [kmA kn1 (by decide +kernel)]; exact avoid_n hm (by decide))
    · exact hF 2 _ (by omega) (by omega) (by rw [kmA kn2 (by decide +kernel)]; exact avoid_n hm (by decide))
    · exact hF 3 _ (by omega) (by omega) (by rw [kmA kn3 (by decide +kernel)]; exact avoid_n hm (by decide))
  exact h1.l6 hA hF hm2
theorem TrK.sl {s : cx_Sd 12} {ls : List (Fin 12)} {A B : pm_A} {K K' W P : Int} {U U' : Int → Int} (h : TrK s ls A K U W P) (hP : P ≤ 6) (hW : W ≤ 12) (e1 : ∀ i_z : Int, 0 ≤ i_z → i_z < P → LSm B (K' + i_z) = LSm A (K + i_z)) (e2 : ∀ x_z : Int, 0 ≤ x_z → x_z < 72 → U' x_z = U x_z) : TrK s ls B K' U' W P := by
  refine ⟨fun i_z hi_z => ?_, fun i_z j_z hi_z hj => ?_⟩
  · rw [e1 i_z.1 (by omega) hi_z]
    exact h.1 i_z hi_z
  · rw [e2 _ (by omega) (by omega)]
    exact h.2 i_z j_z hi_z hj
theorem KP.step {AX AM BX BM : pm_A} (h : KP AX AM) (hS : StE AX) (hB : gH wX BX) (hg : gH wM AM) (hx : keq AX BX) (hm : l6 AM BM) : KP BX BM := fun k_z k0_z k1_z => by
  have kS := kkS (k := k_z) k0_z (by omega)
  have b13 := eM_13 hg (r := 13) (by omega) kn13 (j := k_z) k0_z (by omega)
  have b14 := eM_14 hg (r := 14) (by omega) kn14 (j := k_z) k0_z (by omega)
  have e13_z := hm.2 13 k_z (by omega) k0_z
  have e14_z := hm.2 14 k_z (by omega) k0_z
  have x0_z := hx (420 + 23 * k_z) 0 (by omega) (by omega) (Or.inl ⟨kS, by omega⟩)
  have x1_z := hx (420 + 23 * k_z) 1 (by omega) (by omega) (Or.inl ⟨kS, by omega⟩)
  obtain ⟨⟨h1, h2⟩, h3⟩ := h k_z k0_z k1_z
  refine ⟨⟨by rw [x0_z, e13_z]; exact h1, by rw [x1_z, e14_z]; exact h2⟩, ?_⟩
  rw [e13_z, e14_z]
  rcases h3 with h3 | ⟨s_z, ls_z, hX, hM_z⟩
  · exact Or.inl h3
  · exact Or.inr ⟨s_z, ls_z, hX.keq hS k0_z k1_z hB hx, hM_z.sl (by omega) (by omega) (fun i_z i0_z i1_z => hm.1 _ (by omega) (by omega)) (fun x_z x0_z x1_z => hm.2 15 _ (by omega) (by omega))⟩
theorem KP.keep {s : cx_Sd 12} {ks : List (Fin 12)} {AX AM : pm_A} {k : Int} {q r : pm_R} (h : KP AX AM) (hQ : XRs s ks AX AM) (hq : kpP s ks AX k q) (hr : kqP AM k r) : KP q.2 r.2 := by
  have hg := hQ.1.2.2.1.1
  have h7 := hQ.1.2.2.2.1
  have h8 := hQ.1.2.2.2.2
  have p7_z := fM_0_7 hg (r := 0) (by omega) km0
  have p8_z := fM_0_8 hg (r := 0) (by omega) km0
  have hx := kpP.kq hQ.1.1 hQ.1.2.1 hq
  rcases hr with ⟨hn, e_z⟩ | ⟨hk, E_z, ⟨gE, ⟨e1, e2⟩, e3, e4_z⟩, gR, r1_z, r2_z⟩
  · rcases hx with ⟨_, e2_z⟩ | ⟨hk, _⟩
    · rw [e_z, e2_z]; exact h
    · exact absurd ⟨hk.1, by omega⟩ hn
  · rcases hx with ⟨hn, _⟩ | ⟨_, ⟨x1_z, x2_z, x3⟩, x4_z⟩
    · exact absurd ⟨hk.1, by omega⟩ hn
    · have f13 : ∀ (q_z j_z : Int), q_z = 13 ∨ q_z = 14 ∨ q_z = 15 → r.2 q_z j_z = E_z q_z j_z := fun q_z j_z hq_z => r2_z q_z j_z (fun t_z t0_z t1_z ht => by unfold inS at ht; omega)
      intro k_z k0_z k1_z
      by_cases ek : k_z = k
      · subst ek
        refine ⟨⟨by rw [x2_z, f13 13 _ (by omega), e1]; exact h7, by rw [x3, f13 14 _ (by omega), e2]; exact h8⟩, Or.inr ⟨s, ks, x1_z, ?_⟩⟩
        rw [f13 13 _ (by omega), f13 14 _ (by omega), e1, e2]
        refine ⟨fun i_z hi_z => ?_, fun i_z j_z hi_z hj => ?_⟩
        · have hL : LSm r.2 (6 + 6 * k_z + (i_z.1 : Int)) = LSm AM (i_z.1 : Int) := by
            rw [r1_z (i_z.1 : Int) (by omega) hi_z]
            exact LSm_same (eM_1 hg (r := 1) (by omega) kn1 (by omega) (by omega)).2 (fun a_z b_z hab => e4_z a_z b_z (by unfold inS at hab; omega) (by unfold inS at hab; omega) (by unfold inS at hab; omega))
          rw [hL]
          have hl := hQ.1.2.2.1.x.2.2.2.2.2.2 i_z hi_z
          exact ⟨hl.1, hl.2.2⟩
        · show _ = r.2 15 (72 * k_z + (6 * (i_z.1 : Int) + (j_z.1 : Int)))
          rw [f13 15 _ (by omega), e3 _ (by omega) (by omega)]
          exact (hQ.1.2.2.1.2.2.1 i_z j_z hj).1 hi_z
      · obtain ⟨⟨y1, y2⟩, y3⟩ := x4_z k_z k0_z k1_z ek
        have b13 := eM_13 hg (r := 13) (by omega) kn13 (j := k_z) k0_z (by omega)
        have b14 := eM_14 hg (r := 14) (by omega) kn14 (j := k_z) k0_z (by omega)
        have g13 : r.2 13 k_z = AM 13 k_z := by rw [f13 13 _ (by omega)]; exact e4_z 13 k_z (by omega) (by omega) (by omega)
        have g14 : r.2 14 k_z = AM 14 k_z := by rw [f13 14 _ (by omega)]; exact e4_z 14 k_z (by omega) (by omega) (by omega)
        obtain ⟨⟨h1, h2⟩, h3⟩ := h k_z k0_z k1_z
        refine ⟨⟨by rw [y1, g13]; exact h1, by rw [y2, g14]; exact h2⟩, ?_⟩
        rw [g13, g14]
        rcases h3 with h3 | ⟨s_z, ls_z, hX, hM_z⟩
        · exact Or.inl h3
        · refine Or.inr ⟨s_z, ls_z, y3 s_z ls_z hX, hM_z.sl (by omega) (by omega) (fun i_z i0_z i1_z => ?_) (fun x_z x0_z x1_z => ?_)⟩
          · refine LSm_same (eM_1 hg (r := 1) (by omega) kn1 (by omega) (by omega)).2 (fun a_z b_z hab => ?_)
            rw [r2_z a_z b_z (fun t_z t0_z t1_z ht => by unfold inS at hab ht; omega)]
            exact e4_z a_z b_z (by unfold inS at hab; omega) (by unfold inS at hab; omega) (by unfold inS at hab; omega)
          · show r.2 15 (72 * k_z + x_z) = AM 15 (72 * k_z + x_z)
            rw [f13 15 _ (by omega)]
            exact e4_z 15 _ (by omega) (by omega) (by omega)
theorem kp_first : KP (wA WX) A0M := fun k_z k0_z k1_z => by
  have h0 : A0M 13 k_z = 0 := rfl
  have h1 : A0M 14 k_z = 0 := rfl
  have g0 := all_int (P := fun k_z => wA WX (420 + 23 * k_z) 0 = 0 ∧ wA WX (420 + 23 * k_z) 1 = 0) (n := 4) (by decide +kernel) k0_z (by omega)
  exact ⟨⟨by rw [g0.1, h0], by rw [g0.2, h1]⟩, Or.inl h0⟩
theorem mback_l {s : cx_Sd 12} {ks : List (Fin 12)} {AX AM : pm_A} (h : XRs s ks AX AM) : Cl pmt (an_sh wM) 128 [(2, 0)] AM (fun r_z => s6 AM r_z.2) := by
  obtain ⟨⟨x1_z, x2_z, x3, h7, h8⟩, x4_z, ⟨h4, h10⟩, ht, hw, hz⟩ := h
  rcases ls_split ks with rfl | ⟨l, f_z, rfl⟩
  · refine (mback_no x3.1 (by rw [h10]; rfl)).imp ?_
    rintro r_z rfl
    exact s6.rf
  · have hlen : AM 0 10 = (l.length : Int) + 1 := by rw [h10, List.length_append]; show ((l.length + 1 : Nat) : Int) = _; omega
    have hk : (f_z.1 : Int) < AM 0 7 := x3.2.2.2.1 f_z (List.mem_append.2 (Or.inr (List.mem_singleton.2 rfl)))
    have hl := ht l.length f_z (by rw [List.getElem?_append_right (Nat.le_refl _), Nat.sub_self]; rfl)
    exact mback_s6 x3 (f := f_z) (by omega) (by rw [hlen, show (l.length : Int) + 1 - 1 = (l.length : Int) by omega]; exact hl.2) hk
theorem xback_k {s : cx_Sd 12} {ks : List (Fin 12)} {AX AM : pm_A} (h : XRs s ks AX AM) : Cl pmt (an_sh wX) 86 [(2, 0)] AX (fun r_z => keq AX r_z.2) := by
  obtain ⟨⟨x1_z, x2_z, x3, h7, h8⟩, x4_z, ⟨h4, h10⟩, ht, hw, hz⟩ := h
  rcases ls_split ks with rfl | ⟨l, f_z, rfl⟩
  · refine (back_noX x1_z (by rw [h4, h10]; show ¬ (1 : Int) ≤ ((0 : Nat) : Int); omega)).imp ?_
    rintro r_z rfl
    exact keq.rf
  · have hlen : AX 0 4 = (l.length : Int) + 1 := by rw [h4, h10, List.length_append]; show ((l.length + 1 : Nat) : Int) = _; omega
    have hk : (f_z.1 : Int) < AX 1 0 := x2_z.2.2.2.2.1 f_z (List.mem_append.2 (Or.inr (List.mem_singleton.2 rfl)))
    have hl := ht l.length f_z (by rw [List.getElem?_append_right (Nat.le_refl _), Nat.sub_self]; rfl)
    refine (back_far x1_z x2_z (f := f_z) (by omega) (by rw [hlen, show (l.length : Int) + 1 - 1 = (l.length : Int) by omega]; exact hl.1) hk).imp ?_
    exact fun r_z hr => keq.far (fun a_z b_z hab => hr a_z b_z (by omega))
theorem xturn_k {s : cx_Sd 12} {ks : List (Fin 12)} {A : pm_A} {k : Int} (hS : StE A) (hT : TrX s ks A 1) (hk : r32 k) : Cl pmt (an_sh wX) 115 [(2, 0), (0, k)] A (fun r_z => keq A r_z.2) :=
  (turn_far hS hT hk).imp (fun r_z hr => keq.far (fun a_z b_z hab => hr a_z b_z (by omega)))
end

section
-- ===== end of PART A; then your names; then what follows =====
/-! THE CLAIM OUT OF ONE WALK OF THE LAW'S BODY. Your part is whole_start (and what it stands on); all else here is the same for every law, but numbers. -/
def R_law : String := "SeedBenchLaw"
def lw_P (b : Addr) (xs : List Int32) (args : Array Value) (s : State) : Prop := args = #[.ref b] ∧ s.IntsAt b xs ∧ xs.length ≤ 2048 ∧ (Jvm.Cond.and given_1 narrow_1).before args s = true
def lw_Q (_ : Array Value) (s : State) (o : Outcome) (t : State) : Prop := o = .returned (some (.int 1)) ∧ Framed s o t [] 600000 7302250
def lw_Z (below : List Frame) (a : Array Value) (s : State) : State → Prop := fun t => ∃ o, t.status = .running ∧ Ended t below o ∧ lw_Q a s o t
/-- the law's own end, with 1 on the stack, nothing written that was there before, its room as the claim has it -/
theorem lw_ret {p : Program} {l : Launch} {e : Env} {s : State} {m : MethodId} {below : List Frame} {meth : Method} {c : Code} {b : Nat} (hx : p.tables.exec = Jvm.exec) (hb : c.code = code) (hr : meth.sig.returnType = ret) (hlocks : meth.locks = false) {pc : Nat} {H : Heap} {ls : Array Slot} (hdg : decode code pc = .ok (.ireturn, 1)) : W p l e room_1 s m #[Value.ref b] below meth c H [] 600000 7302250 (lw_Z below #[Value.ref b] s) (F0 m pc ls [.int 1]) := by
  intro T hT X
  obtain ⟨fs, hret, hrun, hended, hW, hframe⟩ := X.leave (v := some (.int 1)) (hlocks := hlocks) (fun h => by rw [hr] at h; cases h)
  have hmeth' : T.vm.method? m = some meth := X.method'
  refine ⟨T.setFrames fs, ?_, .returned (some (.int 1)), hrun, hended, rfl, ⟨_, rfl⟩, hW, hframe⟩
  jvm_step X.here [X.here.top, hx, hb, hdg, hmeth', hr, ret, narrow_b1]
  (try refine ⟨rfl, ?_⟩); (try refine ⟨rfl, ?_⟩)
  first | (intro acts; rw [hret _ acts rfl rfl rfl]) | rw [hret _ _ rfl rfl rfl]
  exact Steps.refl _
/-- what holds at the law's entry: the machine, the code, the tables' words (any of lw_tbl by 'hts w (by decide +kernel)'), the script of L ints xs at the cell b, what the Statement gives of the start (any of its parts by flat_of_before) -/
def lw_At (p : Program) (s : State) (m : MethodId) (meth : Method) (c : Code) (b L : Nat) (xs : Nat → Int32) : Prop :=
  p.tables.exec = Jvm.exec ∧ c.code = code ∧ meth.sig.returnType = ret ∧ c.maxLocals = 4 ∧ s.vm.findClass R_law = some m.cls ∧ (∀ w ∈ lw_tbl, w.before #[Value.ref b] s = true) ∧ va_X b L xs s s.heap ∧ b < s.heap.size ∧ meth.locks = false ∧ (Jvm.Cond.and given_1 narrow_1).before #[Value.ref b] s = true
/-! THE LAW'S OWN: array classes, tables, what stays beside a call -/
theorem lw_prim {s : State} {args : Array Value} {ty : FieldType} (h : (Cond.arrayClass ty).before args s = true) (hp : ∀ C, ty ≠ .object C) : ∃ cA : ClassId, ArrOfT s cA ty ∧ va_RA s cA ty := by
  obtain ⟨cA, kA, comp, h1, h2, h3⟩ := Cond.arrayClass_spec h
  refine ⟨cA, fun n z => ⟨fun k h => (by cases h), kA, h2, comp, h3⟩, ?_⟩
  cases ty with
  | object C => exact absurd rfl (hp C)
  | _ => exact h1
theorem lw_refs {s : State} {C : String} (h : va_AO C s) : ∃ cA : ClassId, ArrOfT s cA (.object C) ∧ va_RA s cA (.object C) := by
  obtain ⟨comp, c, k, h1, h2, h3, h4, h5⟩ := Cond.arrayOver_spec h
  exact ⟨c, fun n z => ⟨fun k h => (by cases h), k, h3, comp, h4⟩, k, comp, h3, h4, h1, h5⟩
theorem lw_tables {s : State} {b : Nat} (hts : ∀ w ∈ lw_tbl, w.before #[Value.ref b] s = true) : ∃ (D : va_G) (cy : Nat → ClassId), rx_K D vwCl (tyl cy) nwl ocl s := by
  have hg : ∀ w ∈ gT, w.before #[Value.ref b] s = true := fun w hw => hts w (List.mem_filter.mp hw).1
  have ht : ∀ w ∈ tables_1, w.before #[Value.ref b] s = true := fun w hw => hts w (List.mem_append_right _ hw)
  have hC : ∀ k : Nat, ∃ (cC : ClassId) (iS : Nat → Nat), ∀ q : vw_C, vwCl[k]? = some q → u_Kn s q.1 q.2.1 q.2.2 cC iS := by
    intro k
    match k with
    | 0 =>
      obtain ⟨cC, iS, h⟩ := u_known (C := RX0) (T := TX0) (N := 18) (n := 18) hg in_X0 (hg (.instantiable "SeedBench$Atlas" 18) (gm_1 (List.mem_of_getElem? (i := 154) rfl) rfl))
      exact ⟨cC, iS, fun q hq => by cases hq; exact h⟩
    | 1 =>
      obtain ⟨cC, iS, h⟩ := u_known (C := RX1) (T := TX1) (N := 6) (n := 6) hg in_X1 (hg (.instantiable "SeedBench$Book" 6) (gm_1 (List.mem_of_getElem? (i := 220) rfl) rfl))
      exact ⟨cC, iS, fun q hq => by cases hq; exact h⟩
    | 2 =>
      obtain ⟨cC, iS, h⟩ := u_known (C := RX2) (T := TX2) (N := 5) (n := 5) hg in_X2 (hg (.instantiable "SeedBench$Draft" 5) (gm_1 (List.mem_of_getElem? (i := 96) rfl) rfl))
      exact ⟨cC, iS, fun q hq => by cases hq; exact h⟩
    | 3 =>
      obtain ⟨cC, iS, h⟩ := u_known (C := RX3) (T := TX3) (N := 3) (n := 3) hg in_X3 (hg (.instantiable "SeedBench$Guide" 3) (gm_2 (List.mem_of_getElem? (i := 43) rfl) rfl))
      exact ⟨cC, iS, fun q hq => by cases hq; exact h⟩
    | 4 =>
      obtain ⟨cC, iS, h⟩ := u_known (C := RX4) (T := TX4) (N := 6) (n := 6) hg in_X4 (hg (.instantiable "SeedBench$Kinds" 6) (gm_2 (List.mem_of_getElem? (i := 13) rfl) rfl))
      exact ⟨cC, iS, fun q hq => by cases hq; exact h⟩
    | 5 =>
      obtain ⟨cC, iS, h⟩ := u_known (C := RX5) (T := TX5) (N := 7) (n := 7) hg in_X5 (hg (.instantiable "SeedBench$Mill" 7) (gm_1 (List.mem_of_getElem? (i := 122) rfl) rfl))
      exact ⟨cC, iS, fun q hq => by cases hq; exact h⟩
    | 6 =>
      obtain ⟨cC, iS, h⟩ := u_known (C := RX6) (T := TX6) (N := 2) (n := 2) hg in_X6 (hg (.instantiable "SeedBench$Ring" 2) (gm_2 (List.mem_of_getElem? (i := 49) rfl) rfl))
      exact ⟨cC, iS, fun q hq => by cases hq; exact h⟩
    | 7 =>
      obtain ⟨cC, iS, h⟩ := u_known (C := RX7) (T := TX7) (N := 6) (n := 6) hg in_X7 (hg (.instantiable "SeedBench$Seed" 6) (gm_1 (List.mem_of_getElem? (i := 26) rfl) rfl))
      exact ⟨cC, iS, fun q hq => by cases hq; exact h⟩
    | 8 =>
      obtain ⟨cC, iS, h⟩ := u_known (C := RX8) (T := TX8) (N := 4) (n := 4) hg in_X8 (hg (.instantiable "SeedBench$Share" 4) (gm_1 (List.mem_of_getElem? (i := 33) rfl) rfl))
      exact ⟨cC, iS, fun q hq => by cases hq; exact h⟩
    | 9 =>
      obtain ⟨cC, iS, h⟩ := u_known (C := RX9) (T := TX9) (N := 15) (n := 15) hg in_X9 (hg (.instantiable "SeedBench" 15) (gm_1 (List.mem_of_getElem? (i := 18) rfl) rfl))
      exact ⟨cC, iS, fun q hq => by cases hq; exact h⟩
    | 10 =>
      obtain ⟨cC, iS, h⟩ := u_known (C := RX10) (T := TX10) (N := 58) (n := 58) hg in_X10 (hg (.instantiable "SeedBenchModel" 58) (gm_4 (List.mem_of_getElem? (i := 132) rfl) rfl))
      exact ⟨cC, iS, fun q hq => by cases hq; exact h⟩
    | k + 11 => exact ⟨0, fun _ => 0, fun q hq => by cases hq⟩
  obtain ⟨c0, a0⟩ := lw_prim (ty := .int) (hg _ (gm_1 (List.mem_of_getElem? (i := 61) rfl) rfl)) (fun C h => by cases h)
  obtain ⟨c1, a1⟩ := lw_prim (ty := .long) (hg _ (gm_1 (List.mem_of_getElem? (i := 62) rfl) rfl)) (fun C h => by cases h)
  obtain ⟨c2, a2⟩ := lw_prim (ty := .boolean) (hg _ (gm_1 (List.mem_of_getElem? (i := 218) rfl) rfl)) (fun C h => by cases h)
  have o3 : va_AO "SeedBench$Ring" s := va_AO.of (ht _ (List.mem_append_right _ (List.mem_append_left _ (List.mem_of_getElem? (i := 41) rfl))))
  have o4 : va_AO "SeedBench$Seed" s := va_AO.of (ht _ (List.mem_append_left _ (List.mem_of_getElem? (i := 152) rfl)))
  have o5 : va_AO "SeedBench$Share" s := va_AO.of (ht _ (List.mem_append_left _ (List.mem_of_getElem? (i := 32) rfl)))
  obtain ⟨c3, a3⟩ := lw_refs o3
  obtain ⟨c4, a4⟩ := lw_refs o4
  obtain ⟨c5, a5⟩ := lw_refs o5
  refine ⟨(fun k => Classical.choose (hC k), fun k => Classical.choose (Classical.choose_spec (hC k))), fun t => match t with
    | 0 => c0
    | 1 => c1
    | 2 => c2
    | 3 => c3
    | 4 => c4
    | _ => c5, ⟨fun k q hq => Classical.choose_spec (Classical.choose_spec (hC k)) q hq, ?_⟩, ?_, ?_⟩
  · intro k q hq
    match k, hq with
    | 0, hq => cases hq; exact a0
    | 1, hq => cases hq; exact a1
    | 2, hq => cases hq; exact a2
    | 3, hq => cases hq; exact a3
    | 4, hq => cases hq; exact a4
    | 5, hq => cases hq; exact a5
    | k + 6, hq => cases hq
  · refine fun w hw => ?_
    have key : ∀ w ∈ nwl, va_Nw (Cond.methodLinkNest w.1 w.2.1 w.2.2.1 w.2.2.2) s := by
      unfold nwl
      refine List.forall_mem_cons.mpr ⟨va_Nw.of rfl (ht (.methodLinkNest "SeedBench$Seed" 28 ⟨"SeedBench$Share", "<init>", "()V"⟩ "SeedBench") (List.mem_append_left _ (List.mem_of_getElem? (i := 34) rfl))), ?_⟩
      refine List.forall_mem_cons.mpr ⟨va_Nw.of rfl (ht (.methodLinkNest "SeedBench" 18 ⟨"SeedBench$Draft", "<init>", "()V"⟩ "SeedBench") (List.mem_append_left _ (List.mem_of_getElem? (i := 97) rfl))), ?_⟩
      refine List.forall_mem_cons.mpr ⟨va_Nw.of rfl (ht (.methodLinkNest "SeedBench" 25 ⟨"SeedBench$Mill", "<init>", "()V"⟩ "SeedBench") (List.mem_append_left _ (List.mem_of_getElem? (i := 123) rfl))), ?_⟩
      refine List.forall_mem_cons.mpr ⟨va_Nw.of rfl (ht (.methodLinkNest "SeedBench$Mill" 11 ⟨"SeedBench$Share", "<init>", "()V"⟩ "SeedBench") (List.mem_append_left _ (List.mem_of_getElem? (i := 128) rfl))), ?_⟩
      refine List.forall_mem_cons.mpr ⟨va_Nw.of rfl (ht (.methodLinkNest "SeedBench$Atlas" 61 ⟨"SeedBench$Share", "<init>", "()V"⟩ "SeedBench") (List.mem_append_left _ (List.mem_of_getElem? (i := 162) rfl))), ?_⟩
      refine List.forall_mem_cons.mpr ⟨va_Nw.of rfl (ht (.methodLinkNest "SeedBench" 53 ⟨"SeedBench$Book", "<init>", "()V"⟩ "SeedBench") (List.mem_append_left _ (List.mem_of_getElem? (i := 221) rfl))), ?_⟩
      refine List.forall_mem_cons.mpr ⟨va_Nw.of rfl (ht (.methodLinkNest "SeedBench" 60 ⟨"SeedBench$Kinds", "<init>", "()V"⟩ "SeedBench") (List.mem_append_right _ (List.mem_append_left _ (List.mem_of_getElem? (i := 14) rfl)))), ?_⟩
      refine List.forall_mem_cons.mpr ⟨va_Nw.of rfl (ht (.methodLinkNest "SeedBench" 73 ⟨"SeedBench$Guide", "<init>", "()V"⟩ "SeedBench") (List.mem_append_right _ (List.mem_append_left _ (List.mem_of_getElem? (i := 44) rfl)))), ?_⟩
      refine List.forall_mem_cons.mpr ⟨va_Nw.of rfl (ht (.methodLinkNest "SeedBench$Guide" 17 ⟨"SeedBench$Ring", "<init>", "()V"⟩ "SeedBench") (List.mem_append_right _ (List.mem_append_left _ (List.mem_of_getElem? (i := 50) rfl)))), ?_⟩
      refine List.forall_mem_cons.mpr ⟨va_Nw.of rfl (ht (.methodLinkNest "SeedBench" 90 ⟨"SeedBench$Ring", "<init>", "()V"⟩ "SeedBench") (List.mem_append_right _ (List.mem_append_left _ (List.mem_of_getElem? (i := 92) rfl)))), ?_⟩
      refine List.forall_mem_cons.mpr ⟨va_Nw.of rfl (ht (.methodLinkNest "SeedBench$Mill" 49 ⟨"SeedBench", "isTableTurnable", "([IIII)Z"⟩ "SeedBench") (List.mem_append_right _ (List.mem_append_left _ (List.mem_of_getElem? (i := 209) rfl)))), ?_⟩
      refine List.forall_mem_cons.mpr ⟨va_Nw.of rfl (ht (.methodLinkNest "SeedBench$Mill" 68 ⟨"SeedBench", "turnTable", "([IIII)V"⟩ "SeedBench") (List.mem_append_right _ (List.mem_append_right _ (List.mem_append_left _ (List.mem_of_getElem? (i := 23) rfl))))), ?_⟩
      refine List.forall_mem_cons.mpr ⟨va_Nw.of rfl (ht (.methodLinkNest "SeedBench$Atlas" 88 ⟨"SeedBench", "turnTable", "([IIII)V"⟩ "SeedBench") (List.mem_append_right _ (List.mem_append_right _ (List.mem_append_left _ (List.mem_of_getElem? (i := 129) rfl))))), ?_⟩
      refine List.forall_mem_cons.mpr ⟨va_Nw.of rfl (ht (.methodLinkNest "SeedBench$Kinds" 62 ⟨"SeedBench", "turnTable", "([IIII)V"⟩ "SeedBench") (List.mem_append_right _ (List.mem_append_right _ (List.mem_append_left _ (List.mem_of_getElem? (i := 198) rfl))))), ?_⟩
      exact fun _ h => absurd h List.not_mem_nil
    exact key w hw
  · intro C hC
    unfold ocl at hC
    simp only [List.mem_cons, List.not_mem_nil, or_false] at hC
    rcases hC with rfl | rfl | rfl
    · exact o3
    · exact o4
    · exact o5
theorem lw_apart {A : Nat → Prop} {cX cM : va_W} (hD : va_D A (cX ++ cM)) {i j : Nat} {x y : Nat × va_E} (hx : cX[i]? = some x) (hy : cM[j]? = some y) : x.1 ≠ y.1 := by
  intro h
  have hi : i < cX.length := (List.getElem?_eq_some_iff.mp hx).1
  have := hD.1 i (cX.length + j) x y (by rw [List.getElem?_append_left hi]; exact hx) (by rw [List.getElem?_append_right (by omega), Nat.add_sub_cancel_left]; exact hy) h
  omega
theorem lw_left {D : va_G} {cl : List vw_C} {cX cM : va_W} {H : Heap} (hP : va_P D cl (cX ++ cM) H) : va_P D cl cX H := fun k q hq => hP k q (by rw [List.getElem?_append_left (List.getElem?_eq_some_iff.mp hq).1]; exact hq)
theorem lw_right {D : va_G} {cl : List vw_C} {cX cM : va_W} {H : Heap} (hP : va_P D cl (cX ++ cM) H) : va_P D cl cM H := fun k q hq => hP (cX.length + k) q (by rw [List.getElem?_append_right (by omega), Nat.add_sub_cancel_left]; exact hq)
theorem lw_leftD {A : Nat → Prop} {cX cM : va_W} (hD : va_D A (cX ++ cM)) : va_D A cX :=
  ⟨fun i j p q hi hj h => hD.1 i j p q (by rw [List.getElem?_append_left (List.getElem?_eq_some_iff.mp hi).1]; exact hi) (by rw [List.getElem?_append_left (List.getElem?_eq_some_iff.mp hj).1]; exact hj) h, fun k q hk => hD.2 k q (by rw [List.getElem?_append_left (List.getElem?_eq_some_iff.mp hk).1]; exact hk)⟩
theorem lw_rightD {A : Nat → Prop} {cX cM : va_W} (hD : va_D A (cX ++ cM)) : va_D A cM :=
  ⟨fun i j p q hi hj h => by
    have := hD.1 (cX.length + i) (cX.length + j) p q (by rw [List.getElem?_append_right (by omega), Nat.add_sub_cancel_left]; exact hi) (by rw [List.getElem?_append_right (by omega), Nat.add_sub_cancel_left]; exact hj) h
    omega, fun k q hk => hD.2 (cX.length + k) q (by rw [List.getElem?_append_right (by omega), Nat.add_sub_cancel_left]; exact hk)⟩
/-- a call on the cells of the right leaves those of the left -/
theorem lw_join {A : Nat → Prop} {D : va_G} {cl : List vw_C} {cX cM cM' : va_W} {H H1 : Heap} (hP : va_P D cl (cX ++ cM) H) (hD : va_D A (cX ++ cM)) (hk : ∀ q : Nat, q < H.size → ¬ va_A cM H.size q → H1[q]? = H[q]?) (hF : ∀ q, va_A cM H.size q → A q) (hP1 : va_P D cl cM' H1) (hD1 : va_D (va_A cM H.size) cM') : va_P D cl (cX ++ cM') H1 ∧ va_D A (cX ++ cM') := by
  have hPx := lw_left hP
  have apart : ∀ (k : Nat) (q : Nat × va_E), cX[k]? = some q → q.1 < H.size ∧ ¬ va_A cM H.size q.1 := by
    intro k q hq
    have hl := (hPx k q hq).lt
    refine ⟨hl, fun h => ?_⟩
    rcases h with ⟨k2, e, h⟩ | h
    · exact lw_apart hD hq h rfl
    · omega
  refine ⟨va_P.app (fun k q hq => ?_) hP1, va_D.app (lw_leftD hD) (hD1.weaken (fun k q _ h => hF q.1 h)) (fun i j x y hx hy hxy => ?_)⟩
  · obtain ⟨g1, g2⟩ := apart k q hq
    exact (hPx k q hq).kept (hk q.1 g1 g2)
  · exact (apart i x hx).2 (by rw [hxy]; exact hD1.2 j y hy)
/-- a call on the cells of the left leaves those of the right -/
theorem lw_keep {A : Nat → Prop} {D : va_G} {cl : List vw_C} {cX cM : va_W} {H H1 : Heap} (hP : va_P D cl (cX ++ cM) H) (hD : va_D A (cX ++ cM)) (hk : ∀ q : Nat, q < H.size → ¬ va_A cX H.size q → H1[q]? = H[q]?) : va_P D cl cM H1 := by
  have hPm := lw_right hP
  intro k q hq
  have hl := (hPm k q hq).lt
  refine (hPm k q hq).kept (hk q.1 hl (fun h => ?_))
  rcases h with ⟨k2, e, h⟩ | h
  · exact lw_apart hD h hq rfl
  · omega
theorem lw_behind {G : rx_G} {p : Program} {l : Launch} {e : Env} {R : Room} {s : State} {m : MethodId} {args : Array Value} {below : List Frame} {meth : Method} {c : Code} {H : Heap} {locs : List Loc} {cells slots : Nat} {Q : State → Prop} {pc : Nat} {ls : Array Slot} {rest st0 : List Value} {a : Array Value} {A0 A1 : Nat → Prop} {H0 : Heap} {mc ms : Nat} {free : Addr → Prop} {ρ : List Nat} {r : rx_R}
    (hr : va_Run p l e R s m args below meth c H locs cells slots mc ms (F0 m pc ls st0) rest (rx_Q G ρ r A1 a) free) (hS : va_S A0 H0 H locs) (hA : ∀ q, q < H.size → A1 q → A0 q) (hf : ∀ q, free q → A0 q)
    (kk : ∀ (v : Option Value) (tl : List Nat) (cws : va_W) (H1 : Heap) (locs1 : List Loc), rx_o (ρ ++ tl) G.sg r.1 v → rx_w (ρ ++ tl) G.sg G.cy r.2 cws → va_P G.D G.cl cws H1 → va_D A1 cws → (∀ q : Nat, q < H.size → ¬ A1 q → H1[q]? = H[q]?) → va_S A0 H0 H1 locs1 → W p l e R s m args below meth c H1 locs1 (cells + mc) (slots + ms) Q (F0 m (pc + 3) ls (v.toList ++ rest))) : W p l e R s m args below meth c H locs cells slots Q (F0 m pc ls st0) := by
  intro T hT X
  obtain ⟨v, st₀, t, T', L, h0, X', hL, e1, e2, ⟨⟨v', tl, cws, hv, hp, hb, hP, hD⟩, hz, hk⟩, st⟩ := hr T hT X
  cases hv
  rw [h0] at hz hk
  obtain ⟨t2, a1, b1⟩ := kk v tl cws T'.heap (locs ++ L) hp hb (by rw [e1]; exact hP) hD (fun q h1 h2 => by rw [e1]; exact hk q h1 h2)
    ⟨Nat.le_trans hS.1 (by rw [e1]; exact hz), fun q h1 h2 => by rw [e1, hk q (Nat.lt_of_lt_of_le h1 hS.1) (fun z => h2 (hA q (Nat.lt_of_lt_of_le h1 hS.1) z))]; exact hS.2.1 q h1 h2, fun q hq => by
      rcases List.mem_append.mp hq with h | h
      · exact hS.2.2 q h
      · exact hf _ (hL q h)⟩ T' rfl X'
  exact ⟨t2, st t2 a1, b1⟩
/-- the law, as a method of its own -/
abbrev lwM (nm : String) : rx_M := (⟨"SeedBenchLaw", nm, "([I)Z"⟩, code, 4, ret, room_1, [])
abbrev lwσ : Nat → Int32 := fun _ => 0
abbrev lA (s : State) : Nat → Prop := fun q => s.heap.size ≤ q
theorem lw_X {p : Program} {l : Launch} {s : State} {m : MethodId} {meth : Method} {c : Code} {b L : Nat} {xs : Nat → Int32} {D : va_G} {cy : Nat → ClassId} (C0 : lw_At p s m meth c b L xs) (hK : rx_K D vwCl (tyl cy) nwl ocl s) : rx_X (gG l D cy lwσ) (lwM meth.name) p s m #[Value.ref b] meth c (lA s) := by
  obtain ⟨hx, hb, hr, hml, hown, hts, hX, hbl, hlocks, hgv⟩ := C0
  exact ⟨hx, hb, hml, hr, hown, fun w hw => hts w (List.mem_filter.mp hw).1, hlocks, rfl, hK, fun _ h => h⟩
theorem lw_oI {ρ : List Nat} {σ : Nat → Int32} {x : Int32} {v : Option Value} (h : rx_o ρ σ (some (.int x)) v) : v = some (.int x) := by
  cases v with
  | none => exact h.elim
  | some w => exact congrArg some h
theorem lw_oL {ρ : List Nat} {σ : Nat → Int32} {x : Int64} {v : Option Value} (h : rx_o ρ σ (some (.long x)) v) : v = some (.long x) := by
  cases v with
  | none => exact h.elim
  | some w => exact congrArg some h
theorem lw_oN {ρ : List Nat} {σ : Nat → Int32} {v : Option Value} (h : rx_o ρ σ none v) : v = none := by
  cases v with
  | none => rfl
  | some w => exact h.elim
theorem lw_lo (k : Int32) : (-2147483648 : Int) ≤ k.toInt := by have := Int32.le_toInt k; omega
theorem lw_hi (k : Int32) : k.toInt ≤ 2147483647 := by have := Int32.toInt_lt k; omega
theorem lw_cmp0 (x : Int64) : lg_cmp x x = 0 := by
  unfold lg_cmp
  have : ¬ x > x := fun h => absurd h (Int64.lt_irrefl)
  simp [this]
theorem lw_joinL {A : Nat → Prop} {D : va_G} {cl : List vw_C} {cX cX' cM : va_W} {H H1 : Heap} (hP : va_P D cl (cX ++ cM) H) (hD : va_D A (cX ++ cM)) (hk : ∀ q : Nat, q < H.size → ¬ va_A cX H.size q → H1[q]? = H[q]?) (hF : ∀ q, va_A cX H.size q → A q) (hP1 : va_P D cl cX' H1) (hD1 : va_D (va_A cX H.size) cX') : va_P D cl (cX' ++ cM) H1 ∧ va_D A (cX' ++ cM) := by
  have hPm := lw_right hP
  have apart : ∀ (k : Nat) (q : Nat × va_E), cM[k]? = some q → q.1 < H.size ∧ ¬ va_A cX H.size q.1 := by
    intro k q hq
    have hl := (hPm k q hq).lt
    refine ⟨hl, fun h => ?_⟩
    rcases h with ⟨k2, e, h⟩ | h
    · exact lw_apart hD h hq rfl
    · omega
  refine ⟨va_P.app hP1 (fun k q hq => ?_), va_D.app (hD1.weaken (fun k q _ h => hF q.1 h)) (lw_rightD hD) (fun i j x y hx hy hxy => ?_)⟩
  · obtain ⟨g1, g2⟩ := apart k q hq
    exact (hPm k q hq).kept (hk q.1 g1 g2)
  · exact (apart j y hy).2 (by rw [← hxy]; exact hD1.2 i x hx)
theorem lw_in {A : Nat → Prop} {H0 : Heap} {cws : va_W} {H : Heap} {locs : List Loc} (hD : va_D (fun q => H0.size ≤ q) cws) (hS : va_S A H0 H locs) : ∀ q, va_A cws H.size q → H0.size ≤ q := by
  intro q hq
  rcases hq with ⟨k, e, hk⟩ | hq
  · exact hD.2 k (q, e) hk
  · exact Nat.le_trans hS.1 hq
theorem lw_recv {ρ : List Nat} {σ : Nat → Int32} {cy : Nat → ClassId} {W0 : rx_W} {cws : va_W} {b ci : Nat} {fs : List Value} {C : vw_C} {D : va_G} {cl : List vw_C} {TY : List (ClassId × FieldType)} {s : State} {H : Heap} {As : List Value} (hw : rx_w ρ σ cy W0 cws) (hb : ρ[0]? = some b) (h0 : W0[0]? = some (.inl (ci, fs))) (hK : va_K D cl TY s) (hP : va_P D cl cws H) (hc : cl[ci]? = some C) : ∃ (b' : Nat) (As' : List Value) (C' : vw_C) (cell : Cell), (Value.ref b :: As) = .ref b' :: As' ∧ cl[ci]? = some C' ∧ H[b']? = some cell ∧ cell.vm.isStatics = false ∧ s.vm.findClass C'.1 = some cell.cls := by
  obtain ⟨ce, f1, cfs, f2, f3⟩ := hw.at h0 hb
  subst f2
  obtain ⟨cell, q1, q2, q3⟩ := va_recv hK hP hc f1
  exact ⟨b, As, C, cell, rfl, hc, q1, q2, q3⟩
/-- what a call of the plain machine says of the real one -/
theorem lw_met {l : Launch} {D : va_G} {cy : Nat → ClassId} {w : an_W} {n mid : Nat} {a : List pm_V} {A : pm_A} {r : pm_R} (hc : pm_call pmt (an_sh w) n mid a A = some r) {ws : rx_W} {va : List Value} (hw : pw (an_sh w) A ws) (ha : pl a va) : ∃ r' : rx_R, po r.1 r'.1 ∧ pw (an_sh w) r.2 r'.2 ∧ ∀ (ρ : List Nat) (cws : va_W) (sz : Nat) (ca : List Value), rx_w ρ lwσ cy ws cws → rx_l ρ lwσ va ca → Met l (mt mid).1 (rx_ws (gG l D cy lwσ) (mt mid)) (mt mid).2.2.2.2.1 (rx_Pc (gG l D cy lwσ) ca cws sz) (rx_Q (gG l D cy lwσ) ρ r' (va_A cws sz)) (mt mid).2.2.2.2.1.cells (mt mid).2.2.2.2.1.slots (va_A cws sz) := by
  obtain ⟨r', h1, h2, h3⟩ := sim_all pmt_fit n mid a A r hc va ws ha hw
  exact ⟨r', h2, h3, fun ρ cws sz ca hwc hac => (rx_sound mt_all n).1 mid va ws r' h1 ρ cws sz ca hwc hac⟩
def lwZ (mid : Nat) : Prop := (mt mid).2.2.2.2.1.cells = 0 ∧ (mt mid).2.2.2.2.1.slots = 0
/-- both objects stand on the heap, as the plain worlds say -/
def lwJ (AX AM : pm_A) (D : va_G) (cy : Nat → ClassId) (s : State) (qx qm : Nat) (H : Heap) (locs : List Loc) : Prop := ∃ (ρx ρm : List Nat) (cX cM : va_W) (wsX wsM : rx_W), rx_w ρx lwσ cy wsX cX ∧ pw (an_sh wX) AX wsX ∧ rx_w ρm lwσ cy wsM cM ∧ pw (an_sh wM) AM wsM ∧ ρx[0]? = some qx ∧ ρm[0]? = some qm ∧ va_P D vwCl (cX ++ cM) H ∧ va_D (lA s) (cX ++ cM) ∧ va_S (lA s) s.heap H locs
theorem pl_ints : ∀ is : List Int32, pl (is.map (fun i => ((0, i.toInt) : pm_V))) (is.map Value.int)
  | [] => trivial
  | i :: is => ⟨⟨i, rfl, rfl⟩, pl_ints is⟩
theorem rl_ints {ρ : List Nat} {σ : Nat → Int32} : ∀ is : List Int32, rx_l ρ σ (is.map Value.int) (is.map Value.int)
  | [] => trivial
  | i :: is => ⟨rfl, rl_ints is⟩
theorem at0 {ρ t : List Nat} {q : Nat} (h : ρ[0]? = some q) : (ρ ++ t)[0]? = some q := by
  rw [List.getElem?_append_left (List.getElem?_eq_some_iff.mp h).1]; exact h
/-- an answer on the stack -/
def lwV (o : Option pm_V) (v : Option Value) : Prop := ∃ k z, o = some (k, z) ∧ ((k = 0 ∧ ∃ i : Int32, v = some (.int i) ∧ i.toInt = z) ∨ (k = 1 ∧ ∃ i : Int64, v = some (.long i) ∧ i.toInt = z))
theorem lwV_of {ρ : List Nat} {o : Option pm_V} {o' v : Option Value} {k : Nat} {z : Int} (hk : k = 0 ∨ k = 1) (e : o = some (k, z)) (h : po o o') (h' : rx_o ρ lwσ o' v) : lwV o v := by
  subst e
  refine ⟨k, z, rfl, ?_⟩
  match o', v, h, h' with
  | some x, some y, h, h' =>
    rcases hk with rfl | rfl
    · obtain ⟨i, rfl, hi⟩ := h
      exact Or.inl ⟨rfl, i, congrArg some h', hi⟩
    · obtain ⟨i, rfl, hi⟩ := h
      exact Or.inr ⟨rfl, i, congrArg some h', hi⟩
theorem lwV_i {o : Option pm_V} {v : Option Value} {z : Int} (h : lwV o v) (e : o = some (0, z)) : ∃ i : Int32, v = some (.int i) ∧ i.toInt = z := by
  obtain ⟨k, z', e', h⟩ := h
  rw [e] at e'
  cases e'
  rcases h with ⟨_, h⟩ | ⟨h, _⟩
  · exact h
  · cases h
theorem lwV_l {o : Option pm_V} {v : Option Value} {z : Int} (h : lwV o v) (e : o = some (1, z)) : ∃ i : Int64, v = some (.long i) ∧ i.toInt = z := by
  obtain ⟨k, z', e', h⟩ := h
  rw [e] at e'
  cases e'
  rcases h with ⟨h, _⟩ | ⟨_, h⟩
  · cases h
  · exact h
theorem lw_shX : an_sh wX 0 = (0, 9, 15) := by decide
theorem lw_shM : an_sh wM 0 = (0, 10, 58) := by decide
theorem lw_cX {p : Program} {l : Launch} {e : Env} {s : State} {m : MethodId} {below : List Frame} {meth : Method} {c : Code} {b L : Nat} {xs : Nat → Int32} {D : va_G} {cy : Nat → ClassId} {Q : State → Prop} {pc mid n : Nat} (lk : rx_Lk (gG l D cy lwσ) mt (lwM meth.name) pc mid n 9 true) (hz : lwZ mid) (C0 : lw_At p s m meth c b L xs) (hK : rx_K D vwCl (tyl cy) nwl ocl s) {AX AM : pm_A} {qx qm : Nat} {H : Heap} {locs : List Loc} (hJ : lwJ AX AM D cy s qx qm H locs) (is : List Int32) {rest : List Value} {ls : Array Slot} (hls : ls.size = 4) (hn : is.length + 1 = n) (hr : (rest.map fun v => v.category).sum ≤ 8) {fu : Nat} {r : pm_R} (hc : pm_call pmt (an_sh wX) fu mid ((2, 0) :: is.map (fun i => (0, i.toInt))) AX = some r) {k : Nat} {z : Int} (hk : k = 0 ∨ k = 1) (ez : r.1 = some (k, z))
    (kk : ∀ (v : Option Value) (H1 : Heap) (locs1 : List Loc), lwV r.1 v → lwJ r.2 AM D cy s qx qm H1 locs1 → W p l e room_1 s m #[Value.ref b] below meth c H1 locs1 600000 7302250 Q (F0 m (pc + 3) ls (v.toList ++ rest))) : W p l e room_1 s m #[Value.ref b] below meth c H locs 600000 7302250 Q (F0 m pc ls ((Value.ref qx :: is.map Value.int).reverse ++ rest)) := by
  obtain ⟨ρx, ρm, cX, cM, wsX, wsM, hwx, hpx, hwm, hpm, hqx, hqm, hP, hD, hS⟩ := hJ
  obtain ⟨r', ho, hp', hM⟩ := lw_met (l := l) (D := D) (cy := cy) hc hpx (va := .ref 0 :: is.map Value.int) ⟨Or.inr ⟨Int.le_refl _, rfl⟩, pl_ints is⟩
  obtain ⟨fs, f1, _, _⟩ := pw_obj hpx (r := 0) (Int.le_refl _) (by rw [lw_shX])
  rw [lw_shX] at f1
  have hrun := lk p e s m #[Value.ref b] below meth c (lA s) H locs 600000 7302250 ls (.ref qx :: is.map Value.int) rest _ _ _ (lw_X (l := l) C0 hK) hls (hM ρx cX H.size (.ref qx :: is.map Value.int) hwx ⟨⟨qx, hqx, rfl⟩, rl_ints is⟩) (rx_Pc.blind _ _ _ _) (fun U hU hW => ⟨rfl, by rw [hU], by rw [hU]; exact lw_left hP, hK.warm hW, (lw_leftD hD).weaken (fun _ _ _ _ => trivial)⟩) (by rw [List.length_cons, List.length_map]; exact hn) (fun _ => lw_recv hwx hqx f1 hK.1 (lw_left hP) rfl) hr (by rw [hz.1]; exact Nat.le_refl 600000) (by rw [hz.2]; exact Nat.le_refl 7302250)
  refine lw_behind hrun hS (fun q _ hq => lw_in (lw_leftD hD) hS q hq) (lw_in (lw_leftD hD) hS) (fun v t1 cX' H1 locs1 ho1 hw1 hP1 hD1 hk1 hS1 => ?_)
  rw [hz.1, hz.2]
  obtain ⟨hP2, hD2⟩ := lw_joinL hP hD hk1 (lw_in (lw_leftD hD) hS) hP1 hD1
  exact kk v H1 locs1 (lwV_of hk ez ho ho1) ⟨ρx ++ t1, ρm, cX', cM, r'.2, wsM, hw1, hp', hwm, hpm, at0 hqx, hqm, hP2, hD2, hS1⟩
theorem lw_cM {p : Program} {l : Launch} {e : Env} {s : State} {m : MethodId} {below : List Frame} {meth : Method} {c : Code} {b L : Nat} {xs : Nat → Int32} {D : va_G} {cy : Nat → ClassId} {Q : State → Prop} {pc mid n : Nat} (lk : rx_Lk (gG l D cy lwσ) mt (lwM meth.name) pc mid n 10 true) (hz : lwZ mid) (C0 : lw_At p s m meth c b L xs) (hK : rx_K D vwCl (tyl cy) nwl ocl s) {AX AM : pm_A} {qx qm : Nat} {H : Heap} {locs : List Loc} (hJ : lwJ AX AM D cy s qx qm H locs) (is : List Int32) {rest : List Value} {ls : Array Slot} (hls : ls.size = 4) (hn : is.length + 1 = n) (hr : (rest.map fun v => v.category).sum ≤ 8) {fu : Nat} {r : pm_R} (hc : pm_call pmt (an_sh wM) fu mid ((2, 0) :: is.map (fun i => (0, i.toInt))) AM = some r) {k : Nat} {z : Int} (hk : k = 0 ∨ k = 1) (ez : r.1 = some (k, z))
    (kk : ∀ (v : Option Value) (H1 : Heap) (locs1 : List Loc), lwV r.1 v → lwJ AX r.2 D cy s qx qm H1 locs1 → W p l e room_1 s m #[Value.ref b] below meth c H1 locs1 600000 7302250 Q (F0 m (pc + 3) ls (v.toList ++ rest))) : W p l e room_1 s m #[Value.ref b] below meth c H locs 600000 7302250 Q (F0 m pc ls ((Value.ref qm :: is.map Value.int).reverse ++ rest)) := by
  obtain ⟨ρx, ρm, cX, cM, wsX, wsM, hwx, hpx, hwm, hpm, hqx, hqm, hP, hD, hS⟩ := hJ
  obtain ⟨r', ho, hp', hM⟩ := lw_met (l := l) (D := D) (cy := cy) hc hpm (va := .ref 0 :: is.map Value.int) ⟨Or.inr ⟨Int.le_refl _, rfl⟩, pl_ints is⟩
  obtain ⟨fs, f1, _, _⟩ := pw_obj hpm (r := 0) (Int.le_refl _) (by rw [lw_shM])
  rw [lw_shM] at f1
  have hPm := lw_right hP
  have hDm := lw_rightD hD
  have hrun := lk p e s m #[Value.ref b] below meth c (lA s) H locs 600000 7302250 ls (.ref qm :: is.map Value.int) rest _ _ _ (lw_X (l := l) C0 hK) hls (hM ρm cM H.size (.ref qm :: is.map Value.int) hwm ⟨⟨qm, hqm, rfl⟩, rl_ints is⟩) (rx_Pc.blind _ _ _ _) (fun U hU hW => ⟨rfl, by rw [hU], by rw [hU]; exact hPm, hK.warm hW, hDm.weaken (fun _ _ _ _ => trivial)⟩) (by rw [List.length_cons, List.length_map]; exact hn) (fun _ => lw_recv hwm hqm f1 hK.1 hPm rfl) hr (by rw [hz.1]; exact Nat.le_refl 600000) (by rw [hz.2]; exact Nat.le_refl 7302250)
  refine lw_behind hrun hS (fun q _ hq => lw_in hDm hS q hq) (lw_in hDm hS) (fun v t1 cM' H1 locs1 ho1 hw1 hP1 hD1 hk1 hS1 => ?_)
  rw [hz.1, hz.2]
  obtain ⟨hP2, hD2⟩ := lw_join hP hD hk1 (lw_in hDm hS) hP1 hD1
  exact kk v H1 locs1 (lwV_of hk ez ho ho1) ⟨ρx, ρm ++ t1, cX, cM', wsX, r'.2, hwx, hpx, hw1, hp', hqx, at0 hqm, hP2, hD2, hS1⟩
theorem i32_r (k : Int32) : r32 k.toInt := ⟨lw_lo k, lw_hi k⟩
theorem i32_nat {i : Nat} (h : i < 2147483648) : (Int32.ofNat i).toInt = (i : Int) := Int32.toInt_ofNat_of_lt h
theorem i32_addk {i : Nat} {k : Int32} {j : Nat} (h : i < 100000) (hk : k.toInt = (j : Int)) (hj : j < 100) : (Int32.ofNat i + k).toInt = ((i + j : Nat) : Int) := by
  have := pp_bi_ok 0 (i32_nat (show i < 2147483648 by omega)) hk
  rw [show o_bi 0 (Int32.ofNat i) k = Int32.ofNat i + k from rfl] at this
  rw [this]
  show w32 ((i : Int) + (j : Int)) = _
  rw [w32_in (by omega) (by omega)]
  omega
theorem lw_vin {i L : Nat} {k : Int32} {j : Nat} (hL : L ≤ 2048) (hk : k.toInt = (j : Int)) (hj : j < 4) (h : i + 4 ≤ L) : vp_in (Int32.ofNat i + k) L := by
  have e := i32_addk (i := i) (k := k) (j := j) (by omega) hk (by omega)
  unfold vp_in
  rintro (q | q)
  · rw [Int32.lt_iff_toInt_lt, e] at q
    have : (0 : Int32).toInt = 0 := rfl
    omega
  · have : (Int32.ofNat i + k).toNatClampNeg = i + j := by
      show (Int32.ofNat i + k).toInt.toNat = i + j
      rw [e]; omega
    omega
theorem lw_vin0 {i L : Nat} (hL : L ≤ 2048) (h : i + 4 ≤ L) : vp_in (Int32.ofNat i) L := by
  have e := i32_nat (i := i) (by omega)
  unfold vp_in
  rintro (q | q)
  · rw [Int32.lt_iff_toInt_lt, e] at q
    have : (0 : Int32).toInt = 0 := rfl
    omega
  · have : (Int32.ofNat i).toNatClampNeg = i := by
      show (Int32.ofNat i).toInt.toNat = i
      rw [e]; omega
    omega
theorem lw_gt {i L : Nat} (hL : L ≤ 2048) (hi : i ≤ 4096) : (Int32.ofNat L - 4 < Int32.ofNat i) ↔ L < i + 4 := by
  have e := i32_nat (i := i) (by omega)
  have e2 : (Int32.ofNat L - 4).toInt = (L : Int) - 4 := by
    have := pp_bi_ok 1 (i32_nat (show L < 2147483648 by omega)) (show (4 : Int32).toInt = (4 : Int) from rfl)
    rw [show o_bi 1 (Int32.ofNat L) 4 = Int32.ofNat L - 4 from rfl] at this
    rw [this]
    show w32 ((L : Int) - 4) = _
    rw [w32_in (by omega) (by omega)]
  rw [Int32.lt_iff_toInt_lt, e, e2]
  omega
abbrev ya (xs : Nat → Int32) (i : Nat) (k : Int32) : Int32 := xs ((Int32.ofNat i + k).toNatClampNeg)
end
