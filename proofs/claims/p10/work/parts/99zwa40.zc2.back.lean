/-! a turn done twice is none; the class's back -/
theorem bs_kk (s : cx_Sd 12) (ks : List (Fin 12)) (k : Fin 12) : cr_bs s.b ks k k = 0 := by
  obtain ⟨s', hs'⟩ := cr_seed ks s
  rw [← hs']
  exact s'.self k
theorem gp_twice (s : cx_Sd 12) (ks : List (Fin 12)) (k : Fin 12) (x : cr_Pv 12) : cr_gp s.b (ks ++ [k] ++ [k]) x = cr_gp s.b ks x := by
  rw [cr_gp_snoc, cr_gp_snoc, cr_bs_snoc]
  exact cr_sp_turn _ (bs_kk s ks k) _
theorem bs_twice (s : cx_Sd 12) (ks : List (Fin 12)) (k : Fin 12) : cr_bs s.b (ks ++ [k] ++ [k]) = cr_bs s.b ks := by
  rw [cr_bs_snoc, cr_bs_snoc, cr_turnB_turnB]
theorem P_neg (b : Fin 12 → Fin 12 → Int) (k : Fin 12) (v : Fin 12 → Rat) : cr_P (cr_turnB b k) k v = cr_P b k v := by
  unfold cr_P
  have e1 : (fun i_z => (cx_pos (cr_turnB b k i_z k) : Int)) = (fun i_z => (cx_pos (- b i_z k) : Int)) := funext fun i_z => by rw [cr_turnB_col]
  have e2 : (fun i_z => (cx_pos (- cr_turnB b k i_z k) : Int)) = (fun i_z => (cx_pos (b i_z k) : Int)) := funext fun i_z => by rw [cr_turnB_col, Int.neg_neg]
  rw [e1, e2]
  exact Rat.add_comm _ _
theorem P_twice (s : cx_Sd 12) (ks : List (Fin 12)) (k : Fin 12) (x : cr_Pv 12) : cr_P (cr_bs s.b (ks ++ [k])) k (cr_gp s.b (ks ++ [k]) x).1 = cr_P (cr_bs s.b ks) k (cr_gp s.b ks x).1 := by
  rw [cr_bs_snoc, P_neg, cr_gp_snoc]
  exact cr_P_step _ (bs_kk s ks k) _
theorem sp_twice {s : cx_Sd 12} {ks : List (Fin 12)} {k : Fin 12} (h : spB s (ks ++ [k]) k) : spB s ks k := h.eq (fun x_z => P_twice s ks k x_z)
theorem TrX.twice {s : cx_Sd 12} {ks : List (Fin 12)} {k : Fin 12} {A : pm_A} {g : Int} (h : TrX s (ks ++ [k] ++ [k]) A g) : TrX s ks A g := by
  obtain ⟨hg, hk, h1, hb_z, hks, h9, ha_z, hl⟩ := h
  refine ⟨hg, hk, h1, fun i_z j_z hj => ?_, fun q_z hq => hks q_z (List.mem_append.2 (Or.inl (List.mem_append.2 (Or.inl hq)))), h9, ha_z, fun i_z hi_z => ?_⟩
  · have h5 := hb_z i_z j_z hj
    rw [bs_twice] at h5
    exact h5
  · obtain ⟨l1, l2, l3, l5⟩ := hl i_z hi_z
    exact ⟨l1, l2, l3, fun x_z => by rw [← gp_twice s ks k x_z]; exact l5 x_z⟩
theorem Tru.twice {s : cx_Sd 12} {ks : List (Fin 12)} {k : Fin 12} {A : pm_A} (h : Tru s (ks ++ [k] ++ [k]) A) : Tru s ks A := by
  obtain ⟨hg, h1, hb_z, hks, h9, ha_z, hl⟩ := h
  refine ⟨hg, h1, fun i_z j_z hj => ?_, fun q_z hq => hks q_z (List.mem_append.2 (Or.inl (List.mem_append.2 (Or.inl hq)))), h9, ha_z, fun i_z hi_z => ?_⟩
  · have h5 := hb_z i_z j_z hj
    rw [bs_twice] at h5
    exact h5
  · obtain ⟨l1, l2, l5⟩ := hl i_z hi_z
    exact ⟨l1, l2, fun x_z => by rw [← gp_twice s ks k x_z]; exact l5 x_z⟩
def bkP (s : cx_Sd 12) (ks : List (Fin 12)) (A : pm_A) (f : Fin 12) (r : pm_R) : Prop := (r.1 = some (0, 0) ∧ tnE s ks A r.2 ∧ (spB s ks f ∨ ¬ itA A f.1)) ∨ (r.1 = some (0, 1) ∧ (¬ spB s ks f ∧ itA A f.1) ∧ TrX s (ks ++ [f]) r.2 1 ∧ StE r.2 ∧ (r.2 0 4 = A 0 4 - 1 ∧ ∀ d_z : Int, r.2 46 d_z = A 46 d_z) ∧ r.2 1 0 = A 1 0 ∧ r.2 1 1 = A 1 1)
theorem bk_68 {s : cx_Sd 12} {ks : List (Fin 12)} {A C : pm_A} {f : Fin 12} (hok : ¬ spB s ks f ∧ itA A f.1) (h4 : 1 ≤ A 0 4) (hTC : TrX s (ks ++ [f]) C 1) (hSC : StE C) (e0 : ∀ j_z : Int, C 0 j_z = A 0 j_z) (e46 : ∀ j_z : Int, C 46 j_z = A 46 j_z) (e1 : ∀ j_z : Int, C 1 j_z = A 1 j_z) : Tm pmt (an_sh wX) o_X9_back 68 ([(2, 0), (0, (f.1 : Int))], [], C) (bkP s ks A f) := by
  have t4_z := fX_0_4 hSC.1 z0 kk0
  have e04 := e0 4
  have hE : gH wX (pm_upd C 0 4 (C 0 4 - 1)) := put_t hSC.1 (by omega) (by omega)
  have hne : ∀ r_z j_z : Int, ¬ (r_z = 0 ∧ j_z = 4) → pm_upd C 0 4 (C 0 4 - 1) r_z j_z = C r_z j_z := fun r_z j_z h1 => upd_o h1
  have h04 : pm_upd C 0 4 (C 0 4 - 1) 0 4 = C 0 4 - 1 := upd_at
  have hSE_z := hSC.far hE (fun r_z j_z h1 _ => hne r_z j_z h1)
  have hTE := hTC.far hE (fun r_z j_z h1 _ => hne r_z j_z (fun q_z => h1 q_z.1))
  refine wq_ok srt_back (fr := []) (cuts := []) (J := fun pc st_z => False) (fun _ _ h_z => h_z.elim) 20 68 _ ?_
  refine ⟨oX_0 z0 kk0 4 rfl, ?_⟩
  refine ⟨⟨by omega, by omega⟩, ?_⟩
  refine ⟨oX_0 z0 kk0 4 rfl, ?_⟩
  refine ⟨rfl, Or.inr ⟨rfl, hok, hTE, hSE_z, ⟨?_, fun d_z => ?_⟩, ?_, ?_⟩⟩
  · show pm_upd C 0 4 (C 0 4 - 1) 0 4 = A 0 4 - 1
    rw [h04, e04]
  · show pm_upd C 0 4 (C 0 4 - 1) 46 d_z = A 46 d_z
    rw [hne 46 d_z (by omega)]; exact e46 d_z
  · show pm_upd C 0 4 (C 0 4 - 1) 1 0 = A 1 0
    rw [hne 1 0 (by omega)]; exact e1 0
  · show pm_upd C 0 4 (C 0 4 - 1) 1 1 = A 1 1
    rw [hne 1 1 (by omega)]; exact e1 1
theorem back_exX {s : cx_Sd 12} {ks : List (Fin 12)} {A : pm_A} {f : Fin 12} (hS : StE A) (hT : TrX s ks A 1) (h4 : 1 ≤ A 0 4) (hf : A 46 (A 0 4 - 1) = (f.1 : Int)) (hk : (f.1 : Int) < A 1 0) : Cl pmt (an_sh wX) 86 [(2, 0)] A (bkP s ks A f) := by
  have a1_z := hS.2.1.1.1
  have a2 := hS.2.1.1.2.1
  have m46 := hS.2.2.1.2.2.2.2
  have t4_z := fX_0_4 hS.1 z0 kk0
  have p6_z := fX_1_0 hS.1 (r := 1) (by omega) kk1
  have h3 := hS.ex own1
  have ef : A (A 0 3) (A 0 4 - 1) = (f.1 : Int) := by rw [m46]; exact hf
  refine Cl.of (Nat.le_of_ble_eq_true rfl) ?_
  refine wq_ok (full := o_X9_back) srt_back (fr := []) (cuts := [31]) (J := fun pc st_z => pc = 31 ∧ st_z = ([(2, 0), (0, A (A 0 3) (A 0 4 - 1))], [], A)) ?_ 20 0 _ ?_
  · rintro pc st_z ⟨rfl, rfl⟩
    rw [ef]
    refine wq_ok srt_back (fr := []) (cuts := [39]) (J := fun pc st_z => pc = 39 ∧ st_z = ([(2, 0), (0, (f.1 : Int))], [], A)) ?_ 20 31 _ ?_
    · rintro pc st_z ⟨rfl, rfl⟩
      refine wq_ok srt_back (fr := []) (cuts := [56]) (J := fun pc st_z => pc = 56 ∧ ∃ B_z, exPX s ks f A 28 1 (some (0, 1), B_z) ∧ st_z = ([(2, 0), (0, (f.1 : Int))], [], B_z)) ?_ 20 39 _ ?_
      · rintro pc st_z ⟨rfl, B_z, ⟨hF, hB_z⟩, rfl⟩
        simp only at hF hB_z
        rcases hB_z with ⟨q_z, _⟩ | ⟨_, hok, c0_z, cs, cc, cv⟩
        · cases q_z
        · have hSB := hS.keep hF
          have hTB := hT.keep h3 hF
          obtain ⟨e28_z, eg, et, el⟩ := hF.gs hS.1 h3
          have eB0 : ∀ j_z : Int, B_z 0 j_z = A 0 j_z := fun j_z => hF.2.1 0 j_z (ml_no hS.1 ⟨by omega, kk28⟩ kk0 (by decide) (by decide) (by decide) (by decide))
          have eB46 : ∀ j_z : Int, B_z 46 j_z = A 46 j_z := fun j_z => hF.2.1 46 j_z (ml_no hS.1 ⟨by omega, kk28⟩ kk46 (by decide) (by decide) (by decide) (by decide))
          refine wq_ok srt_back (fr := []) (cuts := [68]) (J := fun pc st_z => pc = 68 ∧ ∃ C_z, sePX B_z 1 4 f.1 (none, C_z) ∧ st_z = ([(2, 0), (0, (f.1 : Int))], [], C_z)) ?_ 20 56 _ ?_
          · rintro pc st_z ⟨rfl, C_z, hC, rfl⟩
            obtain ⟨k1_z, k2_z, k3_z⟩ := se_keep hSB own1 hC
            exact bk_68 hok h4 (hT.next hS own1 hk hF hok.2 c0_z cs cc cv hC) (hSB.swap own1 (by omega) (by omega) hC.2.1 hC.2.2.1) (fun j_z => by rw [k1_z j_z]; exact eB0 j_z) (fun j_z => by rw [k2_z j_z]; exact eB46 j_z) (fun j_z => by rw [k3_z j_z]; exact eg j_z)
          · refine ⟨oX_0 z0 kk0 2 rfl, ?_⟩
            refine ⟨oX_0 z0 kk0 0 rfl, ?_⟩
            have b1 := hSB.2.1.1.1
            have b2 := hSB.2.1.1.2.1
            refine ⟨rX_4 (r := B_z 0 2) (by rw [b2]; omega) (by rw [b2]; exact kk28), ?_⟩
            show Cl pmt (an_sh wX) 47 [(2, B_z 0 2), (2, B_z 0 0), (0, (f.1 : Int))] B_z _
            rw [b1, b2]
            refine (settle_exX hSB own1 (by omega) (by rw [eg 0]; exact hk) hTB.2.2.2.2.2.2.1).imp ?_
            rintro ⟨r1_z, C_z⟩ hC
            have hr1 : r1_z = none := hC.1
            subst hr1
            exact ⟨rfl, C_z, hC, rfl⟩
      · refine ⟨oX_0 z0 kk0 2 rfl, ?_⟩
        refine ⟨oX_0 z0 kk0 0 rfl, ?_⟩
        refine ⟨rX_4 (r := A 0 2) (by rw [a2]; omega) (by rw [a2]; exact kk28), ?_⟩
        show Cl pmt (an_sh wX) 42 [(2, A 0 2), (2, A 0 0), (0, (f.1 : Int))] A _
        rw [a1_z, a2]
        refine (exchange_exX hT h3 hk).imp ?_
        rintro ⟨r1_z, B_z⟩ hB_z
        have hB0 := hB_z
        obtain ⟨hF, hB_z⟩ := hB_z
        simp only at hF hB_z
        rcases hB_z with ⟨rfl, h9⟩ | ⟨rfl, _⟩
        · refine ⟨fun hh => absurd rfl hh, fun _ => ?_⟩
          exact ⟨rfl, Or.inl ⟨rfl, ⟨hF, hS.keep hF, hT.keep h3 hF⟩, h9⟩⟩
        · refine ⟨fun _ => ?_, fun hh => absurd hh (by decide)⟩
          exact ⟨rfl, B_z, hB0, rfl⟩
    · refine ⟨rX_0 z0 kk0, ?_⟩
      refine (isPlace_ex hS (k := (f.1 : Int)) ⟨by omega, by omega⟩).imp ?_
      rintro ⟨r1_z, C_z⟩ ⟨g1, g2⟩
      simp only at g1 g2
      subst g1
      rcases g2 with ⟨rfl, g3_z⟩ | ⟨rfl, g3_z⟩
      · refine ⟨fun hh => absurd hh (by decide), fun _ => ?_⟩
        exact ⟨rfl, rfl⟩
      · exact absurd ⟨by omega, hk⟩ g3_z
  · refine ⟨oX_0 z0 kk0 4 rfl, ?_⟩
    refine ⟨fun h_z => absurd h_z (by omega), fun h_z => ?_⟩
    refine ⟨oX_0 z0 kk0 4 rfl, ?_⟩
    refine ⟨fun h5 => ?_, fun h5 => absurd h5 (by omega)⟩
    refine ⟨oX_0 z0 kk0 3 rfl, ?_⟩
    refine ⟨oX_0 z0 kk0 4 rfl, ?_⟩
    refine ⟨⟨by omega, by omega⟩, ?_⟩
    refine ⟨aX_19 (by rw [m46]; omega) (by rw [m46]; exact kk46) (by omega) (by omega), ?_⟩
    exact ⟨rfl, rfl⟩
theorem back_noX {A : pm_A} (hS : StE A) (h4 : ¬ 1 ≤ A 0 4) : Cl pmt (an_sh wX) 86 [(2, 0)] A (fun r_z => r_z = (some (0, 0), A)) := by
  refine Cl.of (Nat.le_of_ble_eq_true rfl) ?_
  refine wq_ok (full := o_X9_back) srt_back (fr := []) (cuts := []) (J := fun pc st_z => False) (fun _ _ h_z => h_z.elim) 20 0 _ ?_
  refine ⟨oX_0 z0 kk0 4 rfl, ?_⟩
  refine ⟨fun h_z => ?_, fun h_z => absurd h_z (by omega)⟩
  exact ⟨rfl, rfl⟩
