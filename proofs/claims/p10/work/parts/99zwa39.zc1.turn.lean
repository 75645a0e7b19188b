/-! the class's turn and back, exactly -/
theorem kk46 : wX.2 46 = 19 := by decide
theorem TrX.cong {s : cx_Sd 12} {ks : List (Fin 12)} {A B : pm_A} {g : Int} (hT : TrX s ks A g) (hB : gH wX B) (e2 : ∀ j_z, B g j_z = A g j_z) (e3 : ∀ j_z, B (A g 2) j_z = A (A g 2) j_z) (e4 : ∀ j_z, B (A g 4) j_z = A (A g 4) j_z) (hsm : ∀ i_z : Int, 0 ≤ i_z → i_z < A g 0 → sme A B (A (A g 4) i_z)) : TrX s ks B g := by
  obtain ⟨hg, hk, h1, hb_z, hks, h9, ha_z, hl⟩ := hT
  have eW : bgW B g = bgW A g := by unfold bgW; rw [e2 0, e2 1]
  refine ⟨hB, hk, by rw [e2 0]; exact h1, fun i_z j_z hj => ?_, fun k_z hk2 => by rw [e2 0]; exact hks k_z hk2, fun v_z k_z hk2 => h9 v_z k_z (by rw [e2 0] at hk2; exact hk2), fun i_z j_z i0_z i1_z j0 j1 => ?_, fun i_z hi_z => ?_⟩
  · rw [e2 0] at hj
    rw [eW, e2 2, e3]
    exact hb_z i_z j_z hj
  · rw [eW] at i1_z
    rw [e2 0] at j1
    rw [e2 2, e3]
    exact ha_z i_z j_z i0_z i1_z j0 j1
  · rw [e2 0] at hi_z
    have sm_z := hsm (i_z.1 : Int) (by omega) hi_z
    obtain ⟨l1, l2, l3, l5⟩ := hl i_z hi_z
    rw [e2 4, e4, eW]
    exact ⟨sm_z.sr l1, sm_z.cf l2, by rw [sm_z.1 0]; exact l3, fun x_z => by rw [VX_of sm_z x_z]; exact l5 x_z⟩
theorem TrX.far {s : cx_Sd 12} {ks : List (Fin 12)} {A B : pm_A} {g : Int} (hT : TrX s ks A g) (hB : gH wX B) (h : ∀ r_z j_z : Int, ¬ r_z = 0 → ¬ r_z = 46 → B r_z j_z = A r_z j_z) : TrX s ks B g := by
  have hg := hT.2.1
  have p6_z := fX_1_0 hT.1 hg.1 hg.2
  have t2_z := fX_1_2 hT.1 hg.1 hg.2
  have l4 := fX_1_4 hT.1 hg.1 hg.2
  have hh : ∀ {r_z : Int} {l : Nat}, wX.2 r_z = l → ¬ l = 0 → ¬ l = 19 → ∀ j_z : Int, B r_z j_z = A r_z j_z := fun hr n1_z n2_z j_z => h _ j_z (knd hr kk0 n1_z) (knd hr kk46 n2_z)
  refine hT.cong hB (hh hg.2 (by decide) (by decide)) (hh t2_z.2 (by decide) (by decide)) (hh l4.2 (by decide) (by decide)) (fun i_z i0_z i1_z => ?_)
  have e0_z := eX_12 hT.1 l4.1 l4.2 i0_z (show i_z < 6 by omega)
  exact ⟨hh e0_z.2 (by decide) (by decide), hh (fX_2_2 hT.1 e0_z.1 e0_z.2).2 (by decide) (by decide), hh (fX_2_3 hT.1 e0_z.1 e0_z.2).2 (by decide) (by decide)⟩
theorem StE.far {A B : pm_A} (h : StE A) (hB : gH wX B) (hf : ∀ r_z j_z : Int, ¬ (r_z = 0 ∧ j_z = 4) → ¬ r_z = 46 → B r_z j_z = A r_z j_z) : StE B := by
  obtain ⟨hA, ⟨⟨a1_z, a2, a3, a4, a5, a6, a7, a8, a9, a10, a11⟩, b_z, c_z, d_z, e_z⟩, ⟨⟨m1_z, m2_z, m3_z, m4_z, m7_z⟩, m5_z, m6_z, m8_z⟩⟩ := h
  have hn : ∀ r_z j_z : Int, ¬ r_z = 0 → ¬ r_z = 46 → B r_z j_z = A r_z j_z := fun r_z j_z h1 h2 => hf r_z j_z (fun q_z => h1 q_z.1) h2
  have hk : ∀ q_z : Int, wX.2 q_z = 2 → ∀ j_z : Int, B q_z j_z = A q_z j_z := fun q_z hq j_z => hn q_z j_z (knd hq kk0 (by decide)) (knd hq kk46 (by decide))
  have hpc : ∀ i_z, pc B i_z = pc A i_z := fun i_z => by
    unfold pc
    rw [hn 4 _ (by omega) (by omega), hn 52 _ (by omega) (by omega), hn 28 _ (by omega) (by omega)]
  refine ⟨hB, ⟨⟨by rw [hf 0 0 (by omega) (by omega)]; exact a1_z, by rw [hf 0 2 (by omega) (by omega)]; exact a2, by rw [hf 0 8 (by omega) (by omega)]; exact a3, by rw [hf 0 9 (by omega) (by omega)]; exact a4, by rw [hn 1 _ (by omega) (by omega)]; exact a5, by rw [hn 49 _ (by omega) (by omega)]; exact a6, by rw [hn 72 _ (by omega) (by omega)]; exact a7, by rw [hn 72 _ (by omega) (by omega)]; exact a8, by rw [hn 79 _ (by omega) (by omega)]; exact a9, by rw [hn 28 _ (by omega) (by omega)]; exact a10, by rw [hn 28 _ (by omega) (by omega)]; exact a11⟩, fun q_z q0 qk => by rw [hk q_z qk]; exact b_z q_z q0 qk, fun x_z x0_z x1_z => by rw [hn 73 _ (by omega) (by omega)]; exact c_z x_z x0_z x1_z, fun i_z i0_z i1_z => by rw [hn 82 _ (by omega) (by omega)]; exact d_z i_z i0_z i1_z, pool_eq (fun i_z _ _ => hpc i_z) e_z⟩, ⟨⟨by rw [hn 28 _ (by omega) (by omega)]; exact m1_z, by rw [hn 28 _ (by omega) (by omega)]; exact m2_z, by rw [hn 28 _ (by omega) (by omega)]; exact m3_z, by rw [hn 28 _ (by omega) (by omega)]; exact m4_z, by rw [hf 0 3 (by omega) (by omega)]; exact m7_z⟩, fun q_z q0 qk => by rw [hk q_z qk]; exact m5_z q_z q0 qk, fun i_z i0_z i1_z => by rw [hpc i_z]; exact m6_z i_z i0_z i1_z, m8_z.of (fun g_z j_z gk => hn g_z j_z (knd gk kk0 (by decide)) (knd gk kk46 (by decide))) (hf 0 5 (by omega) (by omega)) (fun j_z => hn 47 j_z (by omega) (by omega)) (fun k_z j_z k0_z k1_z => hn _ j_z (by omega) (by omega))⟩⟩
theorem srt_isPlace : pm_srt o_X9_isPlace = true := by decide +kernel
theorem isPlace_ex {A : pm_A} {k : Int} (h : StE A) (hk : r32 k) : Cl pmt (an_sh wX) 96 [(2, 0), (0, k)] A (fun r_z => r_z.2 = A ∧ ((r_z.1 = some (0, 1) ∧ 0 ≤ k ∧ k < A 1 0) ∨ (r_z.1 = some (0, 0) ∧ ¬ (0 ≤ k ∧ k < A 1 0)))) := by
  have a1_z := h.2.1.1.1
  refine Cl.of (Nat.le_of_ble_eq_true rfl) ?_
  refine wq_ok (full := o_X9_isPlace) srt_isPlace (fr := []) (cuts := []) (J := fun _ _ => False) (fun _ _ h => h.elim) 20 0 _ ?_
  refine ⟨fun h0 => ?_, fun h0 => ?_⟩
  · exact ⟨rfl, rfl, Or.inr ⟨rfl, by omega⟩⟩
  · refine ⟨oX_0 z0 kk0 0 rfl, ?_⟩
    refine ⟨oX_1 (by rw [a1_z]; omega) (by rw [a1_z]; exact kk1) 0 rfl, ?_⟩
    refine ⟨fun h1 => ?_, fun h1 => ?_⟩
    · rw [a1_z] at h1
      exact ⟨rfl, rfl, Or.inr ⟨rfl, by omega⟩⟩
    · rw [a1_z] at h1
      exact ⟨rfl, rfl, Or.inl ⟨rfl, h0, h1⟩⟩
abbrev itA (A : pm_A) (k : Int) : Prop := itB (A (A 1 2)) (bgW A 1) (A 1 0) k
def tnE (s : cx_Sd 12) (ks : List (Fin 12)) (A B : pm_A) : Prop := exF A B 28 ∧ StE B ∧ TrX s ks B 1
def tnP (s : cx_Sd 12) (ks : List (Fin 12)) (A : pm_A) (k : Int) (r : pm_R) : Prop := (r = (some (0, -1), A) ∧ ¬ (0 ≤ k ∧ k < A 1 0)) ∨ ∃ f_z : Fin 12, ((f_z.1 : Int) = k ∧ k < A 1 0) ∧ ((r.1 = some (0, -2) ∧ tnE s ks A r.2 ∧ (spB s ks f_z ∨ ¬ itA A k)) ∨ (r.1 = some (0, -3) ∧ tnE s ks A r.2 ∧ 100 ≤ A 0 4) ∨ (r.1 = some (0, r.2 (r.2 4 k) 1) ∧ (A 0 4 < 100 ∧ ¬ spB s ks f_z ∧ itA A k) ∧ TrX s (ks ++ [f_z]) r.2 1 ∧ StE r.2 ∧ (r.2 0 4 = A 0 4 + 1 ∧ r.2 46 (A 0 4) = k ∧ ∀ d_z : Int, ¬ d_z = A 0 4 → r.2 46 d_z = A 46 d_z) ∧ r.2 1 0 = A 1 0 ∧ r.2 1 1 = A 1 1))
theorem put_t {B : pm_A} {t : Int} (hB : gH wX B) (t0 : 0 ≤ t) (t1 : t ≤ 100) : gH wX (pm_upd B 0 4 t) := by
  refine gH_upd hB (k := (0, 9, 15, [(2, 1, 0), (2, 3, 0), (2, 4, 0), (2, 19, 0), (0, 0, 100), (2, 20, 0), (2, 21, 0), (0, 0, 12), (2, 1, 0), (2, 5, 0), (0, (-2147483648), 2147483647), (2, 6, 0), (2, 7, 0), (2, 34, 0), (2, 8, 0)])) (by rw [kk0]; rfl) (fun _ j_z a_z hj ej => ?_) (fun q_z => by cases q_z)
  have : j_z = 4 := by omega
  subst this
  cases hj
  exact ⟨rfl, t0, t1⟩
theorem se_keep {A C : pm_A} {g L o k : Int} (h : StE A) (ho : own g L o) (hP : sePX A g L k (none, C)) : (∀ j_z : Int, C 0 j_z = A 0 j_z) ∧ (∀ j_z : Int, C 46 j_z = A 46 j_z) ∧ ∀ j_z : Int, C 1 j_z = A 1 j_z := by
  have ok_z := own_k ho
  have t2_z := fX_1_2 h.1 ok_z.1.1 ok_z.1.2
  obtain ⟨_, c1_z, c2_z, c3_z⟩ := hP
  simp only at c1_z c2_z c3_z
  refine ⟨fun j_z => ?_, fun j_z => ?_, fun j_z => ?_⟩
  · rw [c2_z 0 j_z (knd kk0 t2_z.2 (by decide))]; exact swp_ne (knd kk0 ok_z.2.1.2 (by decide)) (by omega)
  · rw [c2_z 46 j_z (knd kk46 t2_z.2 (by decide))]; exact swp_ne (knd kk46 ok_z.2.1.2 (by decide)) (by omega)
  · rw [c2_z 1 j_z (knd kk1 t2_z.2 (by decide))]; exact swp_ne (knd kk1 ok_z.2.1.2 (by decide)) (by omega)
theorem tn_52 {s : cx_Sd 12} {ks : List (Fin 12)} {A C : pm_A} {f : Fin 12} (hk : (f.1 : Int) < A 1 0) (hok : A 0 4 < 100 ∧ ¬ spB s ks f ∧ itA A f.1) (hTC : TrX s (ks ++ [f]) C 1) (hSC : StE C) (e0 : ∀ j_z : Int, C 0 j_z = A 0 j_z) (e46 : ∀ j_z : Int, C 46 j_z = A 46 j_z) (e1 : ∀ j_z : Int, C 1 j_z = A 1 j_z) : Tm pmt (an_sh wX) o_X9_turn 52 ([(2, 0), (0, (f.1 : Int))], [], C) (tnP s ks A f.1) := by
  have t4_z := fX_0_4 hSC.1 z0 kk0
  have m46 := hSC.2.2.1.2.2.2.2
  have a1_z := hSC.2.1.1.1
  have a5 := hSC.2.1.1.2.2.2.2.1
  have p6_z := fX_1_0 hSC.1 (r := 1) (by omega) kk1
  have e04 := e0 4
  have ep := e1 0
  refine wq_ok srt_turn (fr := []) (cuts := [72]) (J := fun pc st_z => pc = 72 ∧ st_z = ([(2, 0), (0, (f.1 : Int))], [], pm_upd (pm_upd C (C 0 3) (C 0 4) (f.1 : Int)) 0 4 (pm_upd C (C 0 3) (C 0 4) (f.1 : Int) 0 4 + 1))) ?_ 20 52 _ ?_
  · rintro pc st_z ⟨rfl, rfl⟩
    rw [m46]
    have u04 : pm_upd C 46 (C 0 4) (f.1 : Int) 0 4 = C 0 4 := upd_ne (by omega)
    rw [u04]
    have hD : gH wX (pm_upd C 46 (C 0 4) (f.1 : Int)) := uX_19 hSC.1 kk46 (by omega) (by omega)
    have hE : gH wX (pm_upd (pm_upd C 46 (C 0 4) (f.1 : Int)) 0 4 (C 0 4 + 1)) := put_t hD (by omega) (by omega)
    have hne : ∀ r_z j_z : Int, ¬ (r_z = 0 ∧ j_z = 4) → ¬ r_z = 46 → pm_upd (pm_upd C 46 (C 0 4) (f.1 : Int)) 0 4 (C 0 4 + 1) r_z j_z = C r_z j_z := fun r_z j_z h1 h2 => by
      rw [upd_o h1, upd_ne h2]
    have h04 : pm_upd (pm_upd C 46 (C 0 4) (f.1 : Int)) 0 4 (C 0 4 + 1) 0 4 = C 0 4 + 1 := upd_at
    have h46 : ∀ d_z : Int, pm_upd (pm_upd C 46 (C 0 4) (f.1 : Int)) 0 4 (C 0 4 + 1) 46 d_z = if d_z = C 0 4 then (f.1 : Int) else C 46 d_z := fun d_z => by
      rw [upd_ne (by omega)]
      by_cases e_z : d_z = C 0 4
      · rw [if_pos e_z, e_z, upd_at]
      · rw [if_neg e_z, upd_n2 e_z]
    generalize pm_upd (pm_upd C 46 (C 0 4) (f.1 : Int)) 0 4 (C 0 4 + 1) = E_z at hE hne h04 h46
    have hSE_z := hSC.far hE hne
    have hTE := hTC.far hE (fun r_z j_z h1 h2 => hne r_z j_z (fun q_z => h1 q_z.1) h2)
    have f1_z : E_z 0 0 = 1 := hSE_z.2.1.1.1
    have f4_z : E_z 1 4 = 4 := hSE_z.2.1.1.2.2.2.2.1
    have el := eX_12 hSE_z.1 (r := 4) (by omega) kk4 (j := (f.1 : Int)) (by omega) (by omega)
    refine wq_ok srt_turn (fr := []) (cuts := []) (J := fun pc st_z => False) (fun _ _ h_z => h_z.elim) 20 72 _ ?_
    refine ⟨oX_0 z0 kk0 0 rfl, ?_⟩
    refine ⟨oX_1 (by rw [f1_z]; omega) (by rw [f1_z]; exact kk1) 4 rfl, ?_⟩
    refine ⟨aX_12 (by rw [f1_z, f4_z]; omega) (by rw [f1_z, f4_z]; exact kk4) (by omega) (by omega), ?_⟩
    refine ⟨oX_2 (by rw [f1_z, f4_z]; exact el.1) (by rw [f1_z, f4_z]; exact el.2) 1 rfl, ?_⟩
    refine ⟨rfl, Or.inr ⟨f, ⟨rfl, hk⟩, Or.inr (Or.inr ⟨?_, hok, hTE, hSE_z, ⟨?_, ?_, fun d_z hd_z => ?_⟩, ?_, ?_⟩)⟩⟩
    · show some (0, E_z (E_z (E_z (E_z 0 0) 4) (f.1 : Int)) 1) = some (0, E_z (E_z 4 (f.1 : Int)) 1)
      rw [f1_z, f4_z]
    · show E_z 0 4 = A 0 4 + 1
      rw [h04, e04]
    · show E_z 46 (A 0 4) = (f.1 : Int)
      rw [h46, if_pos e04.symm]
    · show E_z 46 d_z = A 46 d_z
      rw [h46, if_neg (by rw [e04]; exact hd_z)]
      exact e46 d_z
    · show E_z 1 0 = A 1 0
      rw [hne 1 0 (by omega) (by omega)]; exact e1 0
    · show E_z 1 1 = A 1 1
      rw [hne 1 1 (by omega) (by omega)]; exact e1 1
  · refine ⟨oX_0 z0 kk0 3 rfl, ?_⟩
    refine ⟨oX_0 z0 kk0 4 rfl, ?_⟩
    refine ⟨tX_19 (by rw [m46]; omega) (by rw [m46]; exact kk46) t4_z.1 (by omega) rfl, ?_⟩
    refine ⟨oX_0 z0 kk0 4 rfl, ?_⟩
    have u04 : pm_upd C (C 0 3) (C 0 4) (f.1 : Int) 0 4 = C 0 4 := by rw [m46]; exact upd_ne (by omega)
    refine ⟨(show r32 (pm_upd C (C 0 3) (C 0 4) (f.1 : Int) 0 4 + 1) by rw [u04]; exact ⟨by omega, by omega⟩), ?_⟩
    refine ⟨oX_0 z0 kk0 4 rfl, ?_⟩
    exact ⟨rfl, rfl⟩
theorem turn_exX {s : cx_Sd 12} {ks : List (Fin 12)} {A : pm_A} {k : Int} (hS : StE A) (hT : TrX s ks A 1) (hk : r32 k) : Cl pmt (an_sh wX) 115 [(2, 0), (0, k)] A (tnP s ks A k) := by
  have a1_z := hS.2.1.1.1
  have a2 := hS.2.1.1.2.1
  have p6_z := fX_1_0 hS.1 (r := 1) (by omega) kk1
  have h3 := hS.ex own1
  refine Cl.of (Nat.le_of_ble_eq_true rfl) ?_
  refine wq_ok (full := o_X9_turn) srt_turn (fr := []) (cuts := [10]) (J := fun pc st_z => pc = 10 ∧ (0 ≤ k ∧ k < A 1 0) ∧ st_z = ([(2, 0), (0, k)], [], A)) ?_ 20 0 _ ?_
  · rintro pc st_z ⟨rfl, hkk, rfl⟩
    obtain ⟨f_z, rfl⟩ : ∃ f_z : Fin 12, k = (f_z.1 : Int) := ⟨⟨k.toNat, by omega⟩, by show k = ((k.toNat : Nat) : Int); omega⟩
    refine wq_ok srt_turn (fr := []) (cuts := [28]) (J := fun pc st_z => pc = 28 ∧ ∃ B_z, exPX s ks f_z A 28 1 (some (0, 1), B_z) ∧ st_z = ([(2, 0), (0, (f_z.1 : Int))], [], B_z)) ?_ 20 10 _ ?_
    · rintro pc st_z ⟨rfl, B_z, ⟨hF, hB_z⟩, rfl⟩
      simp only at hF hB_z
      rcases hB_z with ⟨q_z, _⟩ | ⟨_, hok, c0_z, cs, cc, cv⟩
      · cases q_z
      · have hSB := hS.keep hF
        have hTB := hT.keep h3 hF
        obtain ⟨e28_z, eg, et, el⟩ := hF.gs hS.1 h3
        have eB0 : ∀ j_z : Int, B_z 0 j_z = A 0 j_z := fun j_z => hF.2.1 0 j_z (ml_no hS.1 ⟨by omega, kk28⟩ kk0 (by decide) (by decide) (by decide) (by decide))
        have eB46 : ∀ j_z : Int, B_z 46 j_z = A 46 j_z := fun j_z => hF.2.1 46 j_z (ml_no hS.1 ⟨by omega, kk28⟩ kk46 (by decide) (by decide) (by decide) (by decide))
        refine wq_ok srt_turn (fr := []) (cuts := [40]) (J := fun pc st_z => pc = 40 ∧ A 0 4 < 100 ∧ st_z = ([(2, 0), (0, (f_z.1 : Int))], [], B_z)) ?_ 20 28 _ ?_
        · rintro pc st_z ⟨rfl, ht, rfl⟩
          refine wq_ok srt_turn (fr := []) (cuts := [52]) (J := fun pc st_z => pc = 52 ∧ ∃ C_z, sePX B_z 1 4 f_z.1 (none, C_z) ∧ st_z = ([(2, 0), (0, (f_z.1 : Int))], [], C_z)) ?_ 20 40 _ ?_
          · rintro pc st_z ⟨rfl, C_z, hC, rfl⟩
            obtain ⟨k1_z, k2_z, k3_z⟩ := se_keep hSB own1 hC
            exact tn_52 hkk.2 ⟨ht, hok.1, hok.2⟩ (hT.next hS own1 hkk.2 hF hok.2 c0_z cs cc cv hC) (hSB.swap own1 (by omega) (by omega) hC.2.1 hC.2.2.1) (fun j_z => by rw [k1_z j_z]; exact eB0 j_z) (fun j_z => by rw [k2_z j_z]; exact eB46 j_z) (fun j_z => by rw [k3_z j_z]; exact eg j_z)
          · refine ⟨oX_0 z0 kk0 2 rfl, ?_⟩
            refine ⟨oX_0 z0 kk0 0 rfl, ?_⟩
            have b1 := hSB.2.1.1.1
            have b2 := hSB.2.1.1.2.1
            refine ⟨rX_4 (r := B_z 0 2) (by rw [b2]; omega) (by rw [b2]; exact kk28), ?_⟩
            show Cl pmt (an_sh wX) 47 [(2, B_z 0 2), (2, B_z 0 0), (0, (f_z.1 : Int))] B_z _
            rw [b1, b2]
            refine (settle_exX hSB own1 (by omega) (by rw [eg 0]; exact hkk.2) hTB.2.2.2.2.2.2.1).imp ?_
            rintro ⟨r1_z, C_z⟩ hC
            have hr1 : r1_z = none := hC.1
            subst hr1
            exact ⟨rfl, C_z, hC, rfl⟩
        · refine ⟨oX_0 z0 kk0 4 rfl, ?_⟩
          refine ⟨fun h_z => ⟨rfl, by rw [eB0 4] at h_z; exact h_z, rfl⟩, fun h_z => ?_⟩
          rw [eB0 4] at h_z
          exact ⟨rfl, Or.inr ⟨f_z, ⟨rfl, hkk.2⟩, Or.inr (Or.inl ⟨rfl, ⟨hF, hSB, hTB⟩, h_z⟩)⟩⟩
    · refine ⟨oX_0 z0 kk0 2 rfl, ?_⟩
      refine ⟨oX_0 z0 kk0 0 rfl, ?_⟩
      refine ⟨rX_4 (r := A 0 2) (by rw [a2]; omega) (by rw [a2]; exact kk28), ?_⟩
      show Cl pmt (an_sh wX) 42 [(2, A 0 2), (2, A 0 0), (0, (f_z.1 : Int))] A _
      rw [a1_z, a2]
      refine (exchange_exX hT h3 hkk.2).imp ?_
      rintro ⟨r1_z, B_z⟩ hB_z
      have hB0 := hB_z
      obtain ⟨hF, hB_z⟩ := hB_z
      simp only at hF hB_z
      rcases hB_z with ⟨rfl, h9⟩ | ⟨rfl, _⟩
      · refine ⟨fun hh => absurd rfl hh, fun _ => ?_⟩
        exact ⟨rfl, Or.inr ⟨f_z, ⟨rfl, hkk.2⟩, Or.inl ⟨rfl, ⟨hF, hS.keep hF, hT.keep h3 hF⟩, h9⟩⟩⟩
      · refine ⟨fun _ => ?_, fun hh => absurd hh (by decide)⟩
        exact ⟨rfl, B_z, hB0, rfl⟩
  · refine ⟨rX_0 z0 kk0, ?_⟩
    refine (isPlace_ex hS hk).imp ?_
    rintro ⟨r1_z, C_z⟩ ⟨g1, g2⟩
    simp only at g1 g2
    subst g1
    rcases g2 with ⟨rfl, g3_z⟩ | ⟨rfl, g3_z⟩
    · refine ⟨fun _ => ?_, fun hh => absurd hh (by decide)⟩
      exact ⟨rfl, g3_z, rfl⟩
    · refine ⟨fun hh => absurd rfl hh, fun _ => ?_⟩
      exact ⟨rfl, Or.inl ⟨rfl, g3_z⟩⟩
