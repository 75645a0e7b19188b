/-! the draft's table is alike on both sides: table, arrows, begin, seed -/
def DT (AX AM : pm_A) : Prop := DD AX AM ∧ AX 24 2 = 25 ∧ ∀ k_z : Int, 0 ≤ k_z → k_z < 72 → AX 25 k_z = AM 7 k_z
theorem kYt (j : Int) : kcode wY 25 j = 10016 := by
  rw [kc_1 (show (an_sh wY 25).1 = 1 by decide +kernel), show wY.2 25 = 16 by decide +kernel]
theorem DT.kX {AX BX AM : pm_A} {ms : List Nat} (h : DT AX AM) (hF : gFk wY ms AX BX) (n1 : ms.contains 1 = false) (n2 : ms.contains 300 = false) (n3 : ms.contains 301 = false) (n4 : ms.contains 302 = false) (n5 : ms.contains 10016 = false) : DT BX AM := by
  refine ⟨h.1.kX hF n1 n2 n3, ?_, fun k_z k0_z k1_z => ?_⟩
  · rw [hF 24 2 (by omega) (by omega) (by rw [kYd 2]; exact nin n4)]; exact h.2.1
  · rw [hF 25 k_z (by omega) k0_z (by rw [kYt]; exact nin n5)]; exact h.2.2 k_z k0_z k1_z
theorem DT.kM {AX AM BM : pm_A} {ms : List Nat} (h : DT AX AM) (hF : gFk wM ms AM BM) (n1 : ms.contains 12 = false) (n2 : ms.contains 13 = false) (n3 : ms.contains 10007 = false) : DT AX BM := by
  refine ⟨h.1.kM hF n1 n2, h.2.1, fun k_z k0_z k1_z => ?_⟩
  rw [hF 7 k_z (by omega) k0_z (by rw [kM7]; exact nin n3)]; exact h.2.2 k_z k0_z k1_z
theorem dt_first : DT (wA WX) A0M := ⟨dd_first, by decide +kernel, fun k_z k0_z k1_z => by
  have : ∀ j_z : Fin 72, wA WX 25 (j_z.1 : Int) = A0M 7 (j_z.1 : Int) := by decide +kernel
  have h_z := this ⟨k_z.toNat, by omega⟩
  simp only at h_z
  rw [show ((k_z.toNat : Nat) : Int) = k_z by omega] at h_z
  exact h_z⟩
theorem dgz_c {p : Int} {T T' : Int → Int} (hp : p ≤ 6) (h : ∀ k_z : Int, 0 ≤ k_z → k_z < 72 → T k_z = T' k_z) (g : dgz p T) : dgz p T' := fun i_z i0_z i1_z => by
  rw [← h _ (by omega) (by omega)]; exact g i_z i0_z i1_z
theorem skz_c {p : Int} {T T' : Int → Int} (hp : p ≤ 6) (h : ∀ k_z : Int, 0 ≤ k_z → k_z < 72 → T k_z = T' k_z) (g : skz p T) : skz p T' := fun i_z j_z i0_z i1_z j0 j1 => by
  rw [← h _ (by omega) (by omega), ← h _ (by omega) (by omega)]; exact g i_z j_z i0_z i1_z j0 j1
theorem sy_c {p : Int} {T T' d : Int → Int} (hp : p ≤ 6) (h : ∀ k_z : Int, 0 ≤ k_z → k_z < 72 → T k_z = T' k_z) (g : sy p T d) : sy p T' d := ⟨g.1, fun i_z j_z i0_z i1_z j0 j1 => by
  rw [← h _ (by omega) (by omega), ← h _ (by omega) (by omega)]; exact g.2 i_z j_z i0_z i1_z j0 j1⟩
theorem bgA_c {p x : Int} {T T' : Int → Int} (hp : p ≤ 6) (h : ∀ k_z : Int, 0 ≤ k_z → k_z < 72 → T k_z = T' k_z) (g : bgA p T x) : bgA p T' x := by
  have h' : ∀ k_z : Int, 0 ≤ k_z → k_z < 72 → T' k_z = T k_z := fun k_z k0_z k1_z => (h k_z k0_z k1_z).symm
  rcases g with g | ⟨g0, g⟩
  · exact Or.inl g
  · refine Or.inr ⟨g0, ?_⟩
    rcases g with ⟨a_z, b_z⟩ | ⟨a_z, b_z, c_z⟩ | ⟨a_z, b_z, c_z, d_z⟩ | ⟨a_z, b_z, c_z, d_z, e_z⟩
    · exact Or.inl ⟨a_z, fun q_z => b_z (dgz_c hp h' q_z)⟩
    · exact Or.inr (Or.inl ⟨a_z, dgz_c hp h b_z, fun q_z => c_z (skz_c hp h' q_z)⟩)
    · exact Or.inr (Or.inr (Or.inl ⟨a_z, dgz_c hp h b_z, skz_c hp h c_z, fun w_z q_z => d_z w_z (sy_c hp h' q_z)⟩))
    · exact Or.inr (Or.inr (Or.inr ⟨a_z, dgz_c hp h b_z, skz_c hp h c_z, d_z, sy_c hp h e_z⟩))
theorem lsz_c {p : Int} {T T' s : Int → Int} (hp : p ≤ 6) (h : ∀ k_z : Int, 0 ≤ k_z → k_z < 72 → T k_z = T' k_z) (g : lsz p T s) : lsz p T' s :=
  ⟨g.1, sy_c hp h g.2.1, fun d_z sd_z => g.2.2 d_z (sy_c hp (fun k_z k0_z k1_z => (h k_z k0_z k1_z).symm) sd_z)⟩
def xtQ (A : pm_A) (n m : Int) (r : pm_R) : Prop := (r = (some (0, 0), A) ∧ ¬ okT n m) ∨ (r.1 = some (0, 1) ∧ okT n m ∧ r.2 24 0 = n ∧ r.2 24 1 = m ∧ ∀ k_z : Int, 0 ≤ k_z → k_z < 72 → r.2 (A 24 2) k_z = 0)
theorem xtable_exq {A : pm_A} {n m : Int} (hA : gH wX A) (hK : gK wY A) (e1 : A 0 1 = 24) : Cl pmt (an_sh wX) 111 [(2, 0), (0, n), (0, m)] A (xtQ A n m) := by
  have d0_z := fX_0_1 hA (r := 0) (by omega) kk0
  refine Cl.of (Nat.le_of_ble_eq_true rfl) ?_
  refine wq_ok (full := o_X9_table) srt_Xtable (fr := []) (cuts := []) (J := fun _ _ => False) (fun _ _ h_z => h_z.elim) 25 0 _ ?_
  refine ⟨fun h0 => ?_, fun h0 => ?_⟩
  · exact ⟨rfl, Or.inl ⟨rfl, fun ho => by unfold okT at ho; omega⟩⟩
  refine ⟨fun h1 => ?_, fun h1 => ?_⟩
  · exact ⟨rfl, Or.inl ⟨rfl, fun ho => by unfold okT at ho; omega⟩⟩
  refine ⟨fun h2 => ?_, fun h2 => ?_⟩
  · exact ⟨rfl, Or.inl ⟨rfl, fun ho => by unfold okT at ho; omega⟩⟩
  refine ⟨fun h3 => ?_, fun h3 => ?_⟩
  · refine ⟨oX_0 (by omega) kk0 1 rfl, ?_⟩
    refine ⟨rX_3 d0_z.1 d0_z.2, ?_⟩
    rw [e1]
    refine (xrestart_k hA hK (n := n) (m := m) (by omega) (by omega) (by omega) (by omega)).imp ?_
    rintro ⟨r1_z, C_z⟩ ⟨⟨g1, g2, g3_z, g4, g5_z, g6⟩, _⟩
    simp only at g1 g4 g5_z g6
    subst g1
    exact ⟨rfl, Or.inr ⟨rfl, ⟨⟨by omega, by omega⟩, by omega, by omega⟩, g5_z, g6, fun k_z k0_z k1_z => by have := g4 k_z k0_z k1_z; show C_z (A 24 2) k_z = 0; omega⟩⟩
  · exact ⟨rfl, Or.inl ⟨rfl, fun ho => by unfold okT at ho; omega⟩⟩
def xaQ (A : pm_A) (c hd d2 i j v : Int) (r : pm_R) : Prop := (r = (some (0, 0), A) ∧ ¬ okA c hd i j v) ∨ (r = (some (0, 1), pm_upd A d2 (6 * i + j) v) ∧ okA c hd i j v)
theorem xarrows_exq {A : pm_A} {i j v : Int} (hA : gH wX A) : Cl pmt (an_sh wX) 84 [(2, 0), (0, i), (0, j), (0, v)] A (xaQ A (A (A 0 1) 0) (A (A 0 1) 1) (A (A 0 1) 2) i j v) := by
  have d0_z := fX_0_1 hA (r := 0) (by omega) kk0
  have b0 := fX_3_0 hA d0_z.1 d0_z.2
  have b1 := fX_3_1 hA d0_z.1 d0_z.2
  refine Cl.of (Nat.le_of_ble_eq_true rfl) ?_
  refine wq_ok (full := o_X9_arrows) srt_Xarrows (fr := []) (cuts := [19]) (J := fun pc st_z => (pc = 19 ∧ ∃ x_z : Int, ((x_z = 1 ∧ ((0 ≤ i ∧ i < A (A 0 1) 0 + A (A 0 1) 1) ∧ (0 ≤ j ∧ j < A (A 0 1) 0))) ∨ (x_z = 0 ∧ ¬ ((0 ≤ i ∧ i < A (A 0 1) 0 + A (A 0 1) 1) ∧ (0 ≤ j ∧ j < A (A 0 1) 0)))) ∧ st_z = ([(2, 0), (0, i), (0, j), (0, v)], [(0, x_z)], A))) ?_ 13 0 _ ?_
  · rintro pc st_z (⟨rfl, x_z, hx, rfl⟩)
    refine wq_ok srt_Xarrows (fr := []) (cuts := []) (J := fun _ _ => False) ?_ 23 19 _ ?_
    · intro pc st_z h_z; exact h_z.elim
    · refine ⟨fun h0 => ?_, fun h0 => ?_⟩
      · exact ⟨rfl, Or.inl ⟨rfl, fun q_z => by unfold okA at q_z; omega⟩⟩
      · refine ⟨fun h1 => ?_, fun h1 => ?_⟩
        · exact ⟨rfl, Or.inl ⟨rfl, fun q_z => by unfold okA at q_z; omega⟩⟩
        · refine ⟨fun h2 => ?_, fun h2 => ?_⟩
          · refine ⟨oX_0 (Int.le_refl 0) kk0 1 rfl, ?_⟩
            refine ⟨oX_3 (fX_0_1 hA (Int.le_refl 0) kk0).1 (fX_0_1 hA (Int.le_refl 0) kk0).2 2 rfl, ?_⟩
            refine ⟨⟨by omega, by omega⟩, ?_⟩
            refine ⟨⟨by omega, by omega⟩, ?_⟩
            refine ⟨tX_16 (fX_3_2 hA (fX_0_1 hA (Int.le_refl 0) kk0).1 (fX_0_1 hA (Int.le_refl 0) kk0).2).1 (fX_3_2 hA (fX_0_1 hA (Int.le_refl 0) kk0).1 (fX_0_1 hA (Int.le_refl 0) kk0).2).2 (by omega) (by omega) rfl, ?_⟩
            exact ⟨rfl, Or.inr ⟨by rw [show i * 6 + j = 6 * i + j by omega], ⟨by omega, by omega⟩, ⟨by omega, by omega⟩, by omega, by omega⟩⟩
          · exact ⟨rfl, Or.inl ⟨rfl, fun q_z => by unfold okA at q_z; omega⟩⟩
  · refine ⟨oX_0 (Int.le_refl 0) kk0 1 rfl, ?_⟩
    refine ⟨oX_3 (fX_0_1 hA (Int.le_refl 0) kk0).1 (fX_0_1 hA (Int.le_refl 0) kk0).2 0 rfl, ?_⟩
    refine ⟨oX_0 (Int.le_refl 0) kk0 1 rfl, ?_⟩
    refine ⟨oX_3 (fX_0_1 hA (Int.le_refl 0) kk0).1 (fX_0_1 hA (Int.le_refl 0) kk0).2 1 rfl, ?_⟩
    refine ⟨rfl, ?_⟩
    refine (xcell_ex (c := A (A 0 1) 0) (hd := A (A 0 1) 1) (i := i) (j := j) b0.1 b0.2 b1.1 b1.2).imp ?_
    rintro ⟨r1_z, C_z⟩ ⟨q1_z, x_z, q2_z, hx⟩
    simp only at q1_z q2_z
    subst q1_z
    subst q2_z
    exact ⟨rfl, x_z, hx, rfl⟩
theorem marrows_exq {A : pm_A} {i j v : Int} (hA : gH wM A) : Cl pmt (an_sh wM) 126 [(2, 0), (0, i), (0, j), (0, v)] A (xaQ A (A 0 12) (A 0 13) 7 i j v) := by
  have b0 := fM_0_12 hA (r := 0) (by omega) km0
  have b1 := fM_0_13 hA (r := 0) (by omega) km0
  have c14_z := pM_14 hA
  refine Cl.of (Nat.le_of_ble_eq_true rfl) ?_
  refine wq_ok (full := o_X10_arrows) srt_Marrows (fr := []) (cuts := []) (J := fun _ _ => False) ?_ 39 0 _ ?_
  · intro pc st_z h_z; exact h_z.elim
  · refine ⟨oM_0 (by omega) km0 12 rfl, ?_⟩
    refine ⟨fun h0 => ?_, fun h0 => ?_⟩
    · exact ⟨rfl, Or.inl ⟨rfl, fun q_z => by unfold okA at q_z; omega⟩⟩
    · refine ⟨fun h1 => ?_, fun h1 => ?_⟩
      · exact ⟨rfl, Or.inl ⟨rfl, fun q_z => by unfold okA at q_z; omega⟩⟩
      · refine ⟨oM_0 (by omega) km0 12 rfl, ?_⟩
        refine ⟨oM_0 (by omega) km0 13 rfl, ?_⟩
        refine ⟨⟨by omega, by omega⟩, ?_⟩
        refine ⟨fun h2 => ?_, fun h2 => ?_⟩
        · exact ⟨rfl, Or.inl ⟨rfl, fun q_z => by unfold okA at q_z; omega⟩⟩
        · refine ⟨fun h3 => ?_, fun h3 => ?_⟩
          · exact ⟨rfl, Or.inl ⟨rfl, fun q_z => by unfold okA at q_z; omega⟩⟩
          · refine ⟨oM_0 (by omega) km0 12 rfl, ?_⟩
            refine ⟨fun h4 => ?_, fun h4 => ?_⟩
            · exact ⟨rfl, Or.inl ⟨rfl, fun q_z => by unfold okA at q_z; omega⟩⟩
            · refine ⟨fun h5 => ?_, fun h5 => ?_⟩
              · exact ⟨rfl, Or.inl ⟨rfl, fun q_z => by unfold okA at q_z; omega⟩⟩
              · refine ⟨fun h6 => ?_, fun h6 => ?_⟩
                · refine ⟨oM_0 (by omega) km0 14 rfl, ?_⟩
                  refine ⟨⟨by omega, by omega⟩, ?_⟩
                  refine ⟨⟨by omega, by omega⟩, ?_⟩
                  refine ⟨tM_7 (r := A 0 14) (by rw [c14_z]; omega) (by rw [c14_z]; exact kn7) (by omega) (by omega) rfl, ?_⟩
                  exact ⟨rfl, Or.inr ⟨by rw [c14_z], ⟨by omega, by omega⟩, ⟨by omega, by omega⟩, by omega, by omega⟩⟩
                · exact ⟨rfl, Or.inl ⟨rfl, fun q_z => by unfold okA at q_z; omega⟩⟩
def xbP (A : pm_A) (r : pm_R) : Prop := ∃ x_z, r.1 = some (0, x_z) ∧ bgA (A 24 0) (A (A 24 2)) x_z
theorem srt_Xbegin : pm_srt o_X9_begin = true := by decide +kernel
theorem xbegin_ex {A : pm_A} (hA : gH wX A) (e1 : A 0 1 = 24) (hT9 : b9t A 24) : Cl pmt (an_sh wX) 87 [(2, 0)] A (xbP A) := by
  have d0_z := fX_0_1 hA (r := 0) (by omega) kk0
  have p0_z := fX_3_0 hA d0_z.1 d0_z.2
  have hdk : wX.2 24 = 3 := by decide +kernel
  refine Cl.of (Nat.le_of_ble_eq_true rfl) ?_
  refine wq_ok (full := o_X9_begin) srt_Xbegin (fr := []) (cuts := [19]) (J := fun pc st_z => pc = 19 ∧ (¬ A 24 0 = 0) ∧ ∃ C_z x_z w_z, gH wX C_z ∧ faA (A 24 0) (A (A 24 2)) x_z ∧ st_z = ([(2, 0), w_z], [(0, x_z)], C_z)) ?_ 20 0 _ ?_
  · rintro pc st_z ⟨rfl, h0, C_z, x_z, w_z, hC, hx, rfl⟩
    have p1_z : 1 ≤ A 24 0 := by rw [e1] at p0_z; omega
    have fin_z : ∀ D_z, xbP A (some (0, x_z), D_z) := fun D_z => ⟨x_z, rfl, Or.inr ⟨p1_z, hx⟩⟩
    refine wq_ok srt_Xbegin (fr := []) (cuts := []) (J := fun pc st_z => False) (fun _ _ h_z => h_z.elim) 20 19 _ ?_
    refine ⟨fun h_z => ?_, fun h_z => ?_⟩
    · exact ⟨rfl, fin_z C_z⟩
    · refine ⟨rX_0 (by omega) kk0, ?_⟩
      refine Cl.gct q_X9_startSeed_0 (A := C_z) (a := [(2, 0)]) ⟨gv_ref (by omega) kk0, trivial⟩ hC ?_
      rintro ⟨r1_z, D_z⟩ g1 g2 g3_z
      simp only at g1 g2 g3_z
      cases r1_z with
      | some v_z => exact absurd g1 (by intro q_z; cases q_z)
      | none => exact ⟨rfl, fin_z D_z⟩
  · refine ⟨oX_0 (by omega) kk0 1 rfl, ?_⟩
    refine ⟨oX_3 d0_z.1 d0_z.2 0 rfl, ?_⟩
    refine ⟨fun h0 => ?_, fun h0 => ?_⟩
    · refine ⟨oX_0 (by omega) kk0 1 rfl, ?_⟩
      refine ⟨rX_3 d0_z.1 d0_z.2, ?_⟩
      rw [e1] at h0 ⊢
      refine (fault_ex hA (by omega) hdk hT9).imp ?_
      rintro ⟨r1_z, C_z⟩ ⟨⟨g1, _⟩, x_z, e_z, g2, _⟩
      simp only at e_z g1
      subst e_z
      exact ⟨rfl, h0, C_z, x_z, _, g1, g2, rfl⟩
    · rw [e1] at h0
      exact ⟨rfl, -1, rfl, Or.inl ⟨rfl, h0⟩⟩
def xsQ (A : pm_A) (s n : Int) (F : Int → Int) (r : pm_R) : Prop := (¬ okSd s n F ∧ r = (some (0, 0), A)) ∨ (okSd s n F ∧ ∃ x_z, faA (n - 3) (tsum (ctr n F) 1000) x_z ∧ r.1 = some (0, if x_z = 0 then 1 else 0) ∧ r.2 24 0 = n - 3 ∧ r.2 24 1 = 0 ∧ ∀ k_z : Int, 0 ≤ k_z → k_z < 72 → r.2 25 k_z = tsum (ctr n F) 1000 k_z)
theorem faA_c {p x : Int} {T T' : Int → Int} (hp : p ≤ 6) (h : ∀ k_z : Int, 0 ≤ k_z → k_z < 72 → T k_z = T' k_z) (g : faA p T x) : faA p T' x := by
  have h' : ∀ k_z : Int, 0 ≤ k_z → k_z < 72 → T' k_z = T k_z := fun k_z k0_z k1_z => (h k_z k0_z k1_z).symm
  rcases g with ⟨a_z, b_z⟩ | ⟨a_z, b_z, c_z⟩ | ⟨a_z, b_z, c_z, d_z⟩ | ⟨a_z, b_z, c_z, d_z, e_z⟩
  · exact Or.inl ⟨a_z, fun q_z => b_z (dgz_c hp h' q_z)⟩
  · exact Or.inr (Or.inl ⟨a_z, dgz_c hp h b_z, fun q_z => c_z (skz_c hp h' q_z)⟩)
  · exact Or.inr (Or.inr (Or.inl ⟨a_z, dgz_c hp h b_z, skz_c hp h c_z, fun w_z q_z => d_z w_z (sy_c hp h' q_z)⟩))
  · exact Or.inr (Or.inr (Or.inr ⟨a_z, dgz_c hp h b_z, skz_c hp h c_z, d_z, sy_c hp h e_z⟩))
theorem mc3 {j : Int} : mcode wX 24 j = 200 + j.toNat := by
  have e_z : an_sh wX 24 = (0, 2, 5) := shX_3 (by decide +kernel)
  unfold mcode
  rw [e_z] <;> rfl
theorem mc25 {j : Int} : mcode wX 25 j = 10016 := by
  have e_z : an_sh wX 25 = (1, 0, 72) := shX_16 (by decide +kernel)
  have k_z : wX.2 25 = 16 := by decide +kernel
  unfold mcode
  rw [e_z, k_z] <;> rfl
theorem xsd_72 {A C : pm_A} {n s : Int} {F : Int → Int} (hs : okSd s n F) (hC : gH wX C) (e1 : C 0 1 = 24) (e2 : C 24 2 = 25) (e0 : C 24 0 = n - 3) (eh : C 24 1 = 0) (eT : ∀ k_z : Int, 0 ≤ k_z → k_z < 72 → C 25 k_z = tsum (ctr n F) 1000 k_z) (h9 : ∀ k_z : Int, 0 ≤ k_z → k_z < 72 → -9 ≤ tsum (ctr n F) 1000 k_z ∧ tsum (ctr n F) 1000 k_z ≤ 9) : Tm pmt (an_sh wX) o_X9_seed 72 ([(2, 0), (0, s)], [], C) (xsQ A s n F) := by
  have d0_z := fX_0_1 hC (r := 0) (by omega) kk0
  have hdk : wX.2 24 = 3 := by decide +kernel
  have hT9 : b9t C 24 := fun j_z j0 j1 => by rw [e2, eT j_z j0 j1]; exact h9 j_z j0 j1
  refine wq_ok srt_seed (fr := []) (cuts := []) (J := fun pc st_z => False) (fun _ _ h_z => h_z.elim) 20 72 _ ?_
  refine ⟨oX_0 (by omega) kk0 1 rfl, ?_⟩
  refine ⟨rX_3 d0_z.1 d0_z.2, ?_⟩
  rw [e1]
  refine (fault_ex hC (by omega) hdk hT9).imp ?_
  rintro ⟨r1_z, D_z⟩ ⟨⟨g1, g2⟩, x_z, e_z, g3_z, _⟩
  simp only at e_z g1 g2
  subst e_z
  rw [e0, e2] at g3_z
  have g4 : faA (n - 3) (tsum (ctr n F) 1000) x_z := faA_c (by have := hs.2.2; omega) eT g3_z
  have k0_z : D_z 24 0 = n - 3 := by rw [g2 24 0 (by omega) (by omega) (by rw [mc3]; decide)]; exact e0
  have k1_z : D_z 24 1 = 0 := by rw [g2 24 1 (by omega) (by omega) (by rw [mc3]; decide)]; exact eh
  have k2_z : ∀ k_z : Int, 0 ≤ k_z → k_z < 72 → D_z 25 k_z = tsum (ctr n F) 1000 k_z := fun k_z h0 h1 => by rw [g2 25 k_z (by omega) h0 (by rw [mc25]; decide)]; exact eT k_z h0 h1
  refine ⟨fun h_z => ?_, fun h_z => ?_⟩
  · refine ⟨rX_0 (by omega) kk0, ?_⟩
    refine Cl.gct q_X9_startSeed_0 (A := D_z) (a := [(2, 0)]) ⟨gv_ref (by omega) kk0, trivial⟩ g1 ?_
    rintro ⟨r1_z, E_z⟩ f1_z f2_z f3_z
    simp only at f1_z f2_z f3_z
    cases r1_z with
    | some v_z => exact absurd f1_z (by intro q_z; cases q_z)
    | none =>
      refine ⟨rfl, Or.inr ⟨hs, x_z, g4, by rw [if_pos h_z], ?_, ?_, fun k_z h0 h1 => ?_⟩⟩
      · show E_z 24 0 = n - 3
        rw [f3_z 24 0 (by omega) (by omega) (by rw [mc3]; decide)]; exact k0_z
      · show E_z 24 1 = 0
        rw [f3_z 24 1 (by omega) (by omega) (by rw [mc3]; decide)]; exact k1_z
      · show E_z 25 k_z = _
        rw [f3_z 25 k_z (by omega) h0 (by rw [mc25]; decide)]; exact k2_z k_z h0 h1
  · exact ⟨rfl, Or.inr ⟨hs, x_z, g4, by rw [if_neg h_z], k0_z, k1_z, k2_z⟩⟩
theorem xsd_56 {A C : pm_A} {n s : Int} {F : Int → Int} (hs : okSd s n F) (hC : gH wX C) (e1 : C 0 1 = 24) (e2 : C 24 2 = 25) (e0 : C 24 0 = n - 3) (eh : C 24 1 = 0) (hz : ∀ k_z : Int, 0 ≤ k_z → k_z < 72 → C 25 k_z = 0) (hr : rgX C (C (C 0 13) s) n F) (hS : rgS n F) (h9 : ∀ k_z : Int, 0 ≤ k_z → k_z < 72 → -9 ≤ tsum (ctr n F) 1000 k_z ∧ tsum (ctr n F) 1000 k_z ≤ 9) : Tm pmt (an_sh wX) o_X9_seed 56 ([(2, 0), (0, s)], [], C) (xsQ A s n F) := by
  have hs1 := hs.1
  have d0_z := fX_0_1 hC (r := 0) (by omega) kk0
  have r0 := fX_0_13 hC (r := 0) (by omega) kk0
  have g0 := eX_34 hC r0.1 r0.2 (j := s) (by omega) (by omega)
  have hdk : wX.2 24 = 3 := by decide +kernel
  have hh : taH C (C (C 0 13) s) 25 n F := ⟨g0, ⟨by omega, by decide +kernel⟩, hr, hS, by have := hs.2; omega, hs.2.2⟩
  refine wq_ok srt_seed (fr := []) (cuts := [72]) (J := fun pc st_z => pc = 72 ∧ ∃ D_z, gH wX D_z ∧ (∀ k_z j_z : Int, ¬ k_z = 25 → D_z k_z j_z = C k_z j_z) ∧ (∀ k_z : Int, 0 ≤ k_z → k_z < 72 → D_z 25 k_z = tsum (ctr n F) 1000 k_z) ∧ st_z = ([(2, 0), (0, s)], [], D_z)) ?_ 20 56 _ ?_
  · rintro pc st_z ⟨rfl, D_z, h1, h2, h3, rfl⟩
    exact xsd_72 hs h1 (by rw [h2 0 1 (by omega)]; exact e1) (by rw [h2 24 2 (by omega)]; exact e2) (by rw [h2 24 0 (by omega)]; exact e0) (by rw [h2 24 1 (by omega)]; exact eh) h3 h9
  · refine ⟨oX_0 (by omega) kk0 13 rfl, ?_⟩
    refine ⟨aX_34 r0.1 r0.2 (by omega) (by omega), ?_⟩
    refine ⟨oX_0 (by omega) kk0 1 rfl, ?_⟩
    refine ⟨oX_3 d0_z.1 d0_z.2 2 rfl, ?_⟩
    refine ⟨rX_9 g0.1 g0.2, ?_⟩
    rw [e1, e2]
    refine (tellArrows_ex hC hh hz).imp ?_
    rintro ⟨r1_z, D_z⟩ ⟨q1_z, q2_z, q3_z, q4_z⟩
    simp only at q1_z q2_z q3_z q4_z
    subst q1_z
    exact ⟨rfl, D_z, q2_z, q3_z, q4_z, rfl⟩
theorem sxq_37 {A : pm_A} {n s : Int} {F : Int → Int} (hA : gH wX A) (hK : gK wY A) (e1 : A 0 1 = 24) (ed : A 24 2 = 25) (ht9 : ∀ k_z : Int, 0 ≤ k_z → k_z < 72 → -9 ≤ tsum (ctr n F) 1000 k_z ∧ tsum (ctr n F) 1000 k_z ≤ 9) (hs : s = 0 ∨ s = 1) (h : rgX A (A (A 0 13) s) n F) (hS : rgS n F) (hc : cntF F 100 = n - 3) (h9 : n ≤ 9) : Tm pmt (an_sh wX) o_X9_seed 37 ([(2, 0), (0, s)], [], A) (xsQ A s n F) := by
  have p0_z := fX_0_13 hA (Int.le_refl 0) kk0
  have g0 := eX_34 hA p0_z.1 p0_z.2 (j := s) (by omega) (by omega)
  have en : A (A (A 0 13) s) 0 = n := h.1
  have hn := hS.1
  have d0_z := fX_0_1 hA (r := 0) (by omega) kk0
  refine wq_ok srt_seed (fr := []) (cuts := [56]) (J := fun pc st_z => pc = 56 ∧ ∃ C_z, (rxP A 24 (n - 3) 0 (none, C_z) ∧ gK wY C_z) ∧ st_z = ([(2, 0), (0, s)], [], C_z)) ?_ 30 37 _ ?_
  · rintro pc st_z ⟨rfl, C_z, ⟨⟨_, q2_z, q3_z, q4_z, q5_z, q6_z⟩, q7_z⟩, rfl⟩
    simp only at q2_z q3_z q4_z q5_z q6_z
    have e2 : C_z 0 1 = 24 := by
      rw [q3_z 0 1 (by omega) (by omega) (by unfold mcode; rw [shX_0 kk0]; show ¬ 901 ∈ rs_M; decide)]; exact e1
    have e3 : C_z 24 2 = A 24 2 := q3_z 24 2 (by omega) (by omega) (by unfold mcode; rw [shX_3 (show wX.2 24 = 3 by decide +kernel)]; show ¬ 202 ∈ rs_M; decide)
    have er : C_z 0 13 = A 0 13 := q3_z 0 13 (by omega) (by omega) (by unfold mcode; rw [shX_0 kk0]; show ¬ 913 ∈ rs_M; decide)
    have eqq : C_z (A 0 13) s = A (A 0 13) s := q3_z _ s p0_z.1 (by omega) (by unfold mcode; rw [shX_34 p0_z.2]; show ¬ (10000 + wX.2 (A 0 13)) ∈ rs_M; rw [p0_z.2]; decide)
    have ek : ∀ j_z : Int, 0 ≤ j_z → j_z ≤ 1 → C_z (A (A 0 13) s) j_z = A (A (A 0 13) s) j_z := fun j_z j0 j1 => by
      refine q3_z _ j_z g0.1 j0 ?_
      unfold mcode
      rw [shX_9 g0.2]
      show ¬ (600 + j_z.toNat) ∈ rs_M
      rcases (show j_z.toNat = 0 ∨ j_z.toNat = 1 by omega) with e_z | e_z <;> rw [e_z] <;> decide
    have hrg : rgX C_z (C_z (C_z 0 13) s) n F := by
      rw [er, eqq]
      obtain ⟨y1, V, y2, y3⟩ := h
      exact ⟨by rw [ek 0 (by omega) (by omega)]; exact y1, V, by rw [ek 1 (by omega) (by omega)]; exact y2, y3⟩
    exact xsd_56 ⟨hs, hc, h9⟩ q2_z e2 (by rw [e3]; exact ed) q5_z q6_z (fun k_z k0_z k1_z => by have := q4_z k_z k0_z k1_z; rw [ed] at this; omega) hrg hS ht9
  · refine ⟨oX_0 (Int.le_refl 0) kk0 1 rfl, ?_⟩
    refine ⟨oX_0 (Int.le_refl 0) kk0 13 rfl, ?_⟩
    refine ⟨aX_34 p0_z.1 p0_z.2 (by omega) (by omega), ?_⟩
    refine ⟨oX_9 g0.1 g0.2 0 rfl, ?_⟩
    refine ⟨⟨by omega, by omega⟩, ?_⟩
    refine ⟨rX_3 d0_z.1 d0_z.2, ?_⟩
    rw [e1, en]
    refine (xrestart_k hA hK (n := n - 3) (m := 0) (by omega) (by omega) (by omega) (by omega)).imp ?_
    rintro ⟨r1_z, C_z⟩ ⟨q_z, q7_z⟩
    obtain rfl : r1_z = none := q_z.1
    exact ⟨rfl, C_z, ⟨q_z, q7_z⟩, rfl⟩
theorem xseed_exq {A : pm_A} {n s : Int} {F : Int → Int} (hA : gH wX A) (hK : gK wY A) (e1 : A 0 1 = 24) (ed : A 24 2 = 25) (ht9 : okSd s n F → ∀ k_z : Int, 0 ≤ k_z → k_z < 72 → -9 ≤ tsum (ctr n F) 1000 k_z ∧ tsum (ctr n F) 1000 k_z ≤ 9) (h : s = 0 ∨ s = 1 → rgX A (A (A 0 13) s) n F ∧ rgS n F) : Cl pmt (an_sh wX) 107 [(2, 0), (0, s)] A (xsQ A s n F) := by
  have p0_z := fX_0_13 hA (Int.le_refl 0) kk0
  have h7 : s = 0 ∨ s = 1 → Tm pmt (an_sh wX) o_X9_seed 7 ([(2, 0), (0, s)], [], A) (xsQ A s n F) := fun hs => by
    have e0_z := eX_34 hA p0_z.1 p0_z.2 (j := s) (by omega) (by omega)
    have en : A (A (A 0 13) s) 0 = n := (h hs).1.1
    have hn := (h hs).2.1
    refine wq_ok srt_seed (fr := []) (cuts := [16]) (J := fun pc st_z => (pc = 16 ∧ ∃ z_z : Int, ((z_z = 1 ∧ cntF F 100 = n - 3) ∨ (z_z = 0 ∧ ¬ cntF F 100 = n - 3)) ∧ st_z = ([(2, 0), (0, s)], [(0, z_z)], A))) ?_ 9 7 _ ?_
    · rintro pc st_z (⟨rfl, z_z, hz, rfl⟩)
      refine wq_ok srt_seed (fr := []) (cuts := [37]) (J := fun pc st_z => (pc = 37 ∧ (¬ z_z = 0) ∧ (((A (A (A 0 13) s) 0) - 3) ≤ 6) ∧ st_z = ([(2, 0), (0, s)], [], A))) ?_ 16 16 _ ?_
      · rintro pc st_z (⟨rfl, h0, h1, rfl⟩)
        have hc_z : cntF F 100 = n - 3 := (by rcases hz with ⟨_, e_z⟩ | ⟨e_z, _⟩; exact e_z; omega)
        have hn9 : n ≤ 9 := by omega
        exact sxq_37 hA hK e1 ed (ht9 ⟨hs, hc_z, hn9⟩) hs (h hs).1 (h hs).2 hc_z hn9
      · refine ⟨fun h0 => ?_, fun h0 => ?_⟩
        · exact ⟨rfl, Or.inl ⟨fun q_z => absurd q_z.2.1 (by rcases hz with ⟨e_z, _⟩ | ⟨_, e_z⟩; omega; exact e_z), rfl⟩⟩
        · refine ⟨oX_0 (Int.le_refl 0) kk0 13 rfl, ?_⟩
          refine ⟨aX_34 (fX_0_13 hA (Int.le_refl 0) kk0).1 (fX_0_13 hA (Int.le_refl 0) kk0).2 (by omega) (by omega), ?_⟩
          refine ⟨oX_9 (eX_34 hA (fX_0_13 hA (Int.le_refl 0) kk0).1 (fX_0_13 hA (Int.le_refl 0) kk0).2 (j := s) (by omega) (by omega)).1 (eX_34 hA (fX_0_13 hA (Int.le_refl 0) kk0).1 (fX_0_13 hA (Int.le_refl 0) kk0).2 (j := s) (by omega) (by omega)).2 0 rfl, ?_⟩
          refine ⟨⟨by omega, by omega⟩, ?_⟩
          refine ⟨fun h1 => ?_, fun h1 => ?_⟩
          · exact ⟨rfl, h0, h1, rfl⟩
          · exact ⟨rfl, Or.inl ⟨fun q_z => by have := q_z.2.2; omega, rfl⟩⟩
    · refine ⟨oX_0 (Int.le_refl 0) kk0 13 rfl, ?_⟩
      refine ⟨aX_34 (fX_0_13 hA (Int.le_refl 0) kk0).1 (fX_0_13 hA (Int.le_refl 0) kk0).2 (by omega) (by omega), ?_⟩
      refine ⟨rX_9 (eX_34 hA (fX_0_13 hA (Int.le_refl 0) kk0).1 (fX_0_13 hA (Int.le_refl 0) kk0).2 (j := s) (by omega) (by omega)).1 (eX_34 hA (fX_0_13 hA (Int.le_refl 0) kk0).1 (fX_0_13 hA (Int.le_refl 0) kk0).2 (j := s) (by omega) (by omega)).2, ?_⟩
      refine (xcut_ex e0_z.1 e0_z.2 (h hs).1 (h hs).2).imp ?_
      rintro ⟨r1_z, C_z⟩ ⟨q1_z, z_z, q2_z, hz⟩
      simp only at q1_z q2_z
      subst q1_z
      subst q2_z
      exact ⟨rfl, z_z, hz, rfl⟩
  refine Cl.of (Nat.le_of_ble_eq_true rfl) ?_
  refine wq_ok (full := o_X9_seed) srt_seed (fr := []) (cuts := [4]) (J := fun pc st_z => (pc = 4 ∧ ∃ x_z : Int, ((x_z = 1 ∧ (s = 0 ∨ s = 1)) ∨ (x_z = 0 ∧ ¬ (s = 0 ∨ s = 1))) ∧ st_z = ([(2, 0), (0, s)], [(0, x_z)], A))) ?_ 6 0 _ ?_
  · rintro pc st_z (⟨rfl, x_z, hx, rfl⟩)
    refine wq_ok srt_seed (fr := []) (cuts := [7]) (J := fun pc st_z => (pc = 7 ∧ (¬ x_z = 0) ∧ st_z = ([(2, 0), (0, s)], [], A))) ?_ 7 4 _ ?_
    · rintro pc st_z (⟨rfl, h0, rfl⟩)
      exact h7 (by rcases hx with ⟨_, e_z⟩ | ⟨e_z, _⟩; exact e_z; omega)
    · refine ⟨fun h0 => ?_, fun h0 => ?_⟩
      · exact ⟨rfl, Or.inl ⟨fun q_z => absurd q_z.1 (by rcases hx with ⟨e_z, _⟩ | ⟨_, e_z⟩; omega; exact e_z), rfl⟩⟩
      · exact ⟨rfl, h0, rfl⟩
  · refine ⟨rfl, ?_⟩
    refine (xa_isSlot).imp ?_
    rintro ⟨r1_z, C_z⟩ ⟨q1_z, x_z, q2_z, hx⟩
    simp only at q1_z q2_z
    subst q1_z
    subst q2_z
    exact ⟨rfl, x_z, hx, rfl⟩
def mSq (A : pm_A) (sl : Int) (r : pm_R) : Prop := (¬ okSd sl (A 31 sl) (fcs A sl) ∧ r = (some (0, 0), A)) ∨ (okSd sl (A 31 sl) (fcs A sl) ∧ msQ A sl (A 31 sl) r)
theorem smq_36 {A : pm_A} {sl : Int} (h : RI A) (ho : okSd sl (A 31 sl) (fcs A sl)) : Tm pmt (an_sh wM) o_X10_seed 36 ([(2, 0), (0, sl), (0, A 31 sl), (9, 0), (9, 0), (9, 0), (9, 0), (9, 0), (9, 0), (9, 0)], [], A) (mSq A sl) := by
  have hs := ho.1
  have b31 := eM_31 h.g (r := 31) (by omega) kn31 (j := sl) (by omega) (by omega)
  have hc_z := ho.2.1
  have h9 := ho.2.2
  have h44 : ∀ B_z, sdF A B_z → B_z 0 12 = A 31 sl - 3 → B_z 0 13 = 0 → (∀ j_z : Int, 0 ≤ j_z → j_z < 72 → B_z 7 j_z = 0) → Tm pmt (an_sh wM) o_X10_seed 44 ([(2, 0), (0, sl), (0, A 31 sl), (9, 0), (9, 0), (9, 0), (9, 0), (9, 0), (9, 0), (9, 0)], [(0, 1)], B_z) (mSq A sl) := fun B_z q3_z q4_z q5_z q6_z => by
    refine wq_ok srt_Mseed (fr := []) (cuts := [48]) (J := fun pc st_z => (pc = 48 ∧ st_z = ([(2, 0), (0, sl), (0, A 31 sl), (0, 1), (0, 0), (9, 0), (9, 0), (9, 0), (9, 0), (9, 0)], [], B_z))) ?_ 8 44 _ ?_
    · rintro pc st_z (⟨rfl, rfl⟩)
      have t_z := sdq_48 h hs (by omega) (by omega) rfl _ 0 (9, 0) (9, 0) (9, 0) (9, 0) (9, 0) B_z (z3 := 1) (Nat.lt_succ_self _) (by omega) (by omega) ⟨⟨q3_z, fun i_z j_z i0_z i1_z j0 j1 => by rw [q6_z (6 * i_z + j_z) (by omega) (by omega)]; exact ⟨by omega, Or.inl rfl⟩⟩, fun k_z k0_z k1_z => by rw [q6_z k_z k0_z k1_z]; rfl, q4_z, q5_z⟩
      obtain ⟨k_z, r_z, c1_z, q_z⟩ := t_z
      exact ⟨k_z, r_z, c1_z, Or.inr ⟨ho, q_z⟩⟩
    · exact ⟨rfl, rfl⟩
  refine wq_ok srt_Mseed (fr := []) (cuts := [44]) (J := fun pc st_z => (pc = 44 ∧ ∃ B_z, sdF A B_z ∧ B_z 0 12 = A 31 sl - 3 ∧ B_z 0 13 = 0 ∧ (∀ j_z : Int, 0 ≤ j_z → j_z < 72 → B_z 7 j_z = 0) ∧ st_z = ([(2, 0), (0, sl), (0, A 31 sl), (9, 0), (9, 0), (9, 0), (9, 0), (9, 0), (9, 0), (9, 0)], [(0, 1)], B_z))) ?_ 10 36 _ ?_
  · rintro pc st_z (⟨rfl, B_z, q3_z, q4_z, q5_z, q6_z, rfl⟩)
    exact h44 B_z q3_z q4_z q5_z q6_z
  · refine ⟨⟨by omega, by omega⟩, ?_⟩
    refine ⟨rM_0 (by omega) km0, ?_⟩
    refine (table_ex h.g (A 31 sl - 3) 0).imp ?_
    rintro ⟨r1_z, B_z⟩ (⟨q1_z, q2_z, q3_z⟩ | ⟨q1_z, q2_z, q3_z, q4_z, q5_z, q6_z⟩)
    · exact absurd (show okT (A 31 sl - 3) 0 from ⟨⟨by omega, by omega⟩, by omega, by omega⟩) q3_z
    · simp only at q1_z q3_z q4_z q5_z q6_z
      subst q1_z
      exact ⟨rfl, B_z, q3_z, q4_z, q5_z, q6_z, rfl⟩
theorem mseed_exq {A : pm_A} {sl : Int} (h : RI A) : Cl pmt (an_sh wM) 183 [(2, 0), (0, sl)] A (mSq A sl) := by
  have c48_z := pM_48 h.g
  have e48 : A (A 0 48) sl = A 31 sl := by rw [c48_z]
  have h8 : sl = 0 ∨ sl = 1 → Tm pmt (an_sh wM) o_X10_seed 8 ([(2, 0), (0, sl), (9, 0), (9, 0), (9, 0), (9, 0), (9, 0), (9, 0), (9, 0), (9, 0)], [], A) (mSq A sl) := fun hs => by
    have b31 := eM_31 h.g (r := 31) (by omega) kn31 (j := sl) (by omega) (by omega)
    refine wq_ok srt_Mseed (fr := []) (cuts := [13]) (J := fun pc st_z => (pc = 13 ∧ ∃ y_z : Int, ((y_z = 1 ∧ cntF (fcs A sl) 100 = A 31 sl - 3) ∨ (y_z = 0 ∧ ¬ cntF (fcs A sl) 100 = A 31 sl - 3)) ∧ st_z = ([(2, 0), (0, sl), (9, 0), (9, 0), (9, 0), (9, 0), (9, 0), (9, 0), (9, 0), (9, 0)], [(0, y_z)], A))) ?_ 7 8 _ ?_
    · rintro pc st_z (⟨rfl, y_z, hy, rfl⟩)
      refine wq_ok srt_Mseed (fr := []) (cuts := [36]) (J := fun pc st_z => (pc = 36 ∧ (¬ y_z = 0) ∧ (¬ (A (A 0 48) sl) = 10) ∧ st_z = ([(2, 0), (0, sl), (0, A (A 0 48) sl), (9, 0), (9, 0), (9, 0), (9, 0), (9, 0), (9, 0), (9, 0)], [], A))) ?_ 17 13 _ ?_
      · rintro pc st_z (⟨rfl, h0, h1, rfl⟩)
        rw [c48_z]
        exact smq_36 h ⟨hs, (by rcases hy with ⟨_, e_z⟩ | ⟨e_z, _⟩; exact e_z; omega), by omega⟩
      · refine ⟨fun h0 => ?_, fun h0 => ?_⟩
        · exact ⟨rfl, Or.inl ⟨fun q_z => absurd q_z.2.1 (by rcases hy with ⟨e_z, _⟩ | ⟨_, e_z⟩; omega; exact e_z), rfl⟩⟩
        · refine ⟨oM_0 (by omega) km0 48 rfl, ?_⟩
          refine ⟨aM_31 (r := A 0 48) (by rw [c48_z]; omega) (by rw [c48_z]; exact kn31) (by omega) (by omega), ?_⟩
          have e1 : A (A 0 48) sl = A 31 sl := by rw [c48_z]
          refine ⟨fun h1 => ?_, fun h1 => ?_⟩
          · refine ⟨oM_0 (by omega) km0 48 rfl, ?_⟩
            refine ⟨aM_31 (r := A 0 48) (by rw [c48_z]; omega) (by rw [c48_z]; exact kn31) (by omega) (by omega), ?_⟩
            have e2 : A (A 0 48) sl = A 31 sl := by rw [c48_z]
            exact ⟨rfl, h0, h1, rfl⟩
          · exact ⟨rfl, Or.inl ⟨fun q_z => by have := q_z.2.2; omega, rfl⟩⟩
    · refine ⟨rM_0 (by omega) km0, ?_⟩
      refine (isCutting_ex h.g (by omega) (by omega)).imp ?_
      rintro ⟨r1_z, C_z⟩ ⟨q1_z, y_z, q2_z, hy⟩
      simp only at q1_z q2_z
      subst q1_z
      subst q2_z
      exact ⟨rfl, y_z, hy, rfl⟩
  refine Cl.of (Nat.le_of_ble_eq_true rfl) ?_
  refine wq_ok (full := o_X10_seed) srt_Mseed (fr := []) (cuts := [5]) (J := fun pc st_z => (pc = 5 ∧ ∃ x_z : Int, ((x_z = 1 ∧ (sl = 0 ∨ sl = 1)) ∨ (x_z = 0 ∧ ¬ (sl = 0 ∨ sl = 1))) ∧ st_z = ([(2, 0), (0, sl), (9, 0), (9, 0), (9, 0), (9, 0), (9, 0), (9, 0), (9, 0), (9, 0)], [(0, x_z)], A))) ?_ 7 0 _ ?_
  · rintro pc st_z (⟨rfl, x_z, hx, rfl⟩)
    refine wq_ok srt_Mseed (fr := []) (cuts := [8]) (J := fun pc st_z => (pc = 8 ∧ (¬ x_z = 0) ∧ st_z = ([(2, 0), (0, sl), (9, 0), (9, 0), (9, 0), (9, 0), (9, 0), (9, 0), (9, 0), (9, 0)], [], A))) ?_ 7 5 _ ?_
    · rintro pc st_z (⟨rfl, h0, rfl⟩)
      exact h8 (by rcases hx with ⟨_, e_z⟩ | ⟨e_z, _⟩; exact e_z; omega)
    · refine ⟨fun h0 => ?_, fun h0 => ?_⟩
      · exact ⟨rfl, Or.inl ⟨fun q_z => absurd q_z.1 (by rcases hx with ⟨e_z, _⟩ | ⟨_, e_z⟩; omega; exact e_z), rfl⟩⟩
      · exact ⟨rfl, h0, rfl⟩
  · refine ⟨rM_0 (by omega) km0, ?_⟩
    refine (MisSlot_ex).imp ?_
    rintro ⟨r1_z, C_z⟩ ⟨q1_z, x_z, q2_z, hx⟩
    simp only at q1_z q2_z
    subst q1_z
    subst q2_z
    exact ⟨rfl, x_z, hx, rfl⟩
theorem dt_table {AX AM : pm_A} {n m : Int} {q r : pm_R} (h : DT AX AM) (hF : gFk wY [300, 301, 10016] AX q.2) (hq : xtQ AX n m q) (hr : tb_post AM n m r) : DT q.2 r.2 ∧ q.1 = r.1 := by
  rcases hq with ⟨rfl, no_z⟩ | ⟨q0, ok_z, q3_z, q4_z, q5_z⟩
  · rcases hr with ⟨r1_z, r2, _⟩ | ⟨_, ok_z, _⟩
    · rw [r2, r1_z]; exact ⟨h, rfl⟩
    · exact absurd ok_z no_z
  · rcases hr with ⟨_, _, no_z⟩ | ⟨r1_z, _, _, r4, r5_z, r6⟩
    · exact absurd ok_z no_z
    · have e2 : q.2 24 2 = 25 := by rw [hF 24 2 (by omega) (by omega) (by rw [kYd 2]; exact nin rfl)]; exact h.2.1
      refine ⟨⟨⟨?_, by rw [q3_z, r4], by rw [q4_z, r5_z]⟩, e2, fun k_z k0_z k1_z => ?_⟩, by rw [q0, r1_z]⟩
      · rw [hF 0 1 (by omega) (by omega) (by rw [(kY 1).1]; exact nin rfl)]; exact h.1.1
      · have := q5_z k_z k0_z k1_z
        rw [h.2.1] at this
        rw [this, r6 k_z k0_z k1_z]
theorem dt_arrows {AX AM : pm_A} {i j v : Int} {q r : pm_R} (h : DT AX AM) (hq : xaQ AX (AX (AX 0 1) 0) (AX (AX 0 1) 1) (AX (AX 0 1) 2) i j v q) (hr : xaQ AM (AM 0 12) (AM 0 13) 7 i j v r) : DT q.2 r.2 ∧ q.1 = r.1 := by
  obtain ⟨⟨h1, h2, h3⟩, h4, h5⟩ := h
  rw [h1, h2, h3, h4] at hq
  rcases hq with ⟨rfl, no_z⟩ | ⟨rfl, ok_z⟩
  · rcases hr with ⟨rfl, _⟩ | ⟨_, ok_z⟩
    · exact ⟨⟨⟨h1, h2, h3⟩, h4, h5⟩, rfl⟩
    · exact absurd ok_z no_z
  · rcases hr with ⟨_, no_z⟩ | ⟨rfl, _⟩
    · exact absurd ok_z no_z
    · refine ⟨⟨⟨?_, ?_, ?_⟩, ?_, fun k_z k0_z k1_z => ?_⟩, rfl⟩
      · show pm_upd AX 25 (6 * i + j) v 0 1 = 24
        rw [upd_o (by omega)]; exact h1
      · show pm_upd AX 25 (6 * i + j) v 24 0 = pm_upd AM 7 (6 * i + j) v 0 12
        rw [upd_o (by omega), upd_o (by omega)]; exact h2
      · show pm_upd AX 25 (6 * i + j) v 24 1 = pm_upd AM 7 (6 * i + j) v 0 13
        rw [upd_o (by omega), upd_o (by omega)]; exact h3
      · show pm_upd AX 25 (6 * i + j) v 24 2 = 25
        rw [upd_o (by omega)]; exact h4
      · show pm_upd AX 25 (6 * i + j) v 25 k_z = pm_upd AM 7 (6 * i + j) v 7 k_z
        by_cases e_z : k_z = 6 * i + j
        · rw [e_z, upd_at, upd_at]
        · rw [upd_o (by omega), upd_o (by omega)]; exact h5 k_z k0_z k1_z
theorem DT.b9 {AX AM : pm_A} (h : DT AX AM) (hM : RI AM) : b9t AX 24 := fun j_z j0 j1 => by
  rw [h.2.1, h.2.2 j_z j0 j1]; exact hM.2.1.1 j_z j0 j1
theorem dt_begin {AX AM : pm_A} {q r : pm_R} (h : DT AX AM) (hM : RI AM) (hq : xbP AX q) (hr : bz_post AM r) : q.1 = r.1 := by
  obtain ⟨x_z, q1_z, q2_z⟩ := hq
  obtain ⟨_, y_z, r1_z, r2, _⟩ := hr
  have p12 := fM_0_12 hM.g (r := 0) (by omega) km0
  rw [h.1.2.1, h.2.1] at q2_z
  have := bgA_one (bgA_c p12.2 h.2.2 q2_z) r2
  rw [q1_z, r1_z, this]
theorem ts_9 {A : pm_A} {sl : Int} (h : RI A) (ho : okSd sl (A 31 sl) (fcs A sl)) : ∀ k_z : Int, 0 ≤ k_z → k_z < 72 → -9 ≤ tsum (ctr (A 31 sl) (fcs A sl)) 1000 k_z ∧ tsum (ctr (A 31 sl) (fcs A sl)) 1000 k_z ≤ 9 := by
  obtain ⟨_, r_z, _, q_z⟩ := mseed_exq h (sl := sl)
  rcases q_z with ⟨no_z, _⟩ | ⟨_, _, B_z, x_z, _, _, q1_z, q2_z, _⟩
  · exact absurd ho no_z
  · intro k_z k0_z k1_z
    rw [← q1_z k_z k0_z k1_z]; exact q2_z k_z k0_z k1_z
theorem dt_seed {AX AM : pm_A} {s : Int} {q r : pm_R} {ms : List Nat} (h : DT AX AM) (hM : RI AM) (hF : gFk wY ms AX q.2) (n1 : ms.contains 1 = false) (n2 : ms.contains 302 = false) (hq : xsQ AX s (AM 31 s) (fcs AM s) q) (hr : mSq AM s r) : DT q.2 r.2 ∧ q.1 = r.1 := by
  rcases hq with ⟨no_z, rfl⟩ | ⟨ok_z, x_z, q1_z, q2_z, q3_z, q4_z, q5_z⟩
  · rcases hr with ⟨_, rfl⟩ | ⟨ok_z, _⟩
    · exact ⟨h, rfl⟩
    · exact absurd ok_z no_z
  · rcases hr with ⟨no_z, _⟩ | ⟨_, r0, B_z, y_z, r1_z, r2, r3, r4, hb_z, r5_z, r6, r7, r8⟩
    · exact absurd ok_z no_z
    · have e2 : q.2 24 2 = 25 := by rw [hF 24 2 (by omega) (by omega) (by rw [kYd 2]; exact nin n2)]; exact h.2.1
      have e1 : q.2 0 1 = 24 := by rw [hF 0 1 (by omega) (by omega) (by rw [(kY 1).1]; exact nin n1)]; exact h.1.1
      have hn := ok_z.2.2
      have hn4 : 1 ≤ AM 31 s - 3 := by have := (hM.2.2 s ok_z.1).1; omega
      have hx : bgA (B_z 0 12) (B_z 7) x_z := by
        rw [hb_z.1]
        refine bgA_c (T := tsum (ctr (AM 31 s) (fcs AM s)) 1000) (by omega) (fun k_z k0_z k1_z => (r3 k_z k0_z k1_z).symm) ?_
        exact Or.inr ⟨hn4, q1_z⟩
      have := bgA_one hx r5_z
      refine ⟨⟨⟨e1, by rw [q3_z, r7.1, hb_z.1], by rw [q4_z, r7.2.1, hb_z.2]⟩, e2, fun k_z k0_z k1_z => by rw [q5_z k_z k0_z k1_z, r7.2.2 k_z k0_z, r3 k_z k0_z k1_z]⟩, by rw [q2_z, r6, this]⟩
