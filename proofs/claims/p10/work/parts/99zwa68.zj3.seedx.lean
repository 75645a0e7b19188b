/-! the class's seed from a ring, exactly -/
def xsR (sd : cx_Sd 12) (ks : List (Fin 12)) (A : pm_A) (s n : Int) (F : Int → Int) (r : pm_R) : Prop := (¬ okSd s n F ∧ r = (some (0, 0), A)) ∨ (okSd s n F ∧ ∃ x_z, faA (n - 3) (tsum (ctr n F) 1000) x_z ∧ r.1 = some (0, if x_z = 0 then 1 else 0) ∧ (r.2 24 0 = n - 3 ∧ r.2 24 1 = 0 ∧ ∀ k_z : Int, 0 ≤ k_z → k_z < 72 → r.2 25 k_z = tsum (ctr n F) 1000 k_z) ∧ ((¬ x_z = 0 ∧ xsm sd ks A r.2) ∨ (x_z = 0 ∧ xnw (tsum (ctr n F) 1000) (n - 3) 0 r.2 ∧ syL (n - 3) (tsum (ctr n F) 1000) (r.2 3))))
theorem xrestart_k3 {A : pm_A} {n m : Int} (hA : gH wX A) (hK : gK wY A) (h0 : 0 ≤ n) (h1 : n ≤ 6) (h2 : 0 ≤ m) (h3 : m ≤ 6) : Cl pmt (an_sh wX) 25 [(2, 24), (0, n), (0, m)] A (fun r_z => rxP A 24 n m r_z ∧ gK wY r_z.2 ∧ gFk wY [300, 301, 10016] A r_z.2) := by
  obtain ⟨k_z, r_z, c1_z, q_z⟩ := xrestart_ex hA (d := 24) (by omega) (by decide +kernel) h0 h1 h2 h3
  have c2_z := c1_z
  rw [← shY] at c2_z
  have h5 := (ksX k_z 25 ([6, 1, 1], 0, [300, 301, 10016]) (List.contains_iff_mem.mp (by decide +kernel)) [(2, 24), (0, n), (0, m)] A r_z ⟨⟨rfl, (by show (0 : Int) ≤ 24; omega), by decide +kernel⟩, (by show ¬ (0 : Nat) = 1; decide), (by show ¬ (0 : Nat) = 1; decide), trivial⟩ hK c2_z).2
  exact ⟨k_z, r_z, c1_z, q_z, h5.1, h5.2⟩
theorem xsm.n25 {s : cx_Sd 12} {ks : List (Fin 12)} {A B : pm_A} (hS : StE A) (hT : TrX s ks A 1) (hB : gH wX B) (h : ∀ r_z j_z : Int, ¬ r_z = 25 → B r_z j_z = A r_z j_z) : xsm s ks A B := by
  have hk : ∀ {r_z : Int} {l : Nat}, wX.2 r_z = l → ¬ l = 16 → ∀ j_z : Int, B r_z j_z = A r_z j_z := fun hr hl j_z => h _ j_z (knd hr kk25 hl)
  refine xsm.of0 hS hT hB (fun j_z _ => h 0 j_z (by omega)) (fun g_z j_z g0 gk hj => hk gk (by decide) j_z) (fun q_z j_z q0 qk hj => hk qk (by decide) j_z) (fun j_z hj => h 28 j_z (by omega)) (fun q_z j_z q0 qk j0 => ?_) (fun j_z j0 => h 2 j_z (by omega)) (fun j_z j0 => h 46 j_z (by omega)) (fun j_z j0 => h 3 j_z (by omega)) ⟨h 72 0 (by omega), h 72 8 (by omega)⟩
  rcases qk with qk | qk | qk | qk | qk <;> exact hk qk (by decide) j_z
theorem CA.n25 {A B : pm_A} (h : CA A) (e : ∀ r_z j_z : Int, ¬ r_z = 25 → B r_z j_z = A r_z j_z) : CA B := by
  obtain ⟨⟨⟨a1_z, a2, a3, a4, a5, a6, a7, a8, a9⟩, ⟨b1, b2, b3⟩, ⟨c1_z, c2_z⟩, d_z⟩, e1, e2, e3⟩ := h
  refine ⟨⟨⟨?_, ?_, ?_, ?_, ?_, ?_, ?_, ?_, ?_⟩, ⟨?_, ?_, ?_⟩, ⟨?_, ?_⟩, fun x_z x0_z x1_z => by rw [e 73 _ (by omega)]; exact d_z x_z x0_z x1_z⟩, ?_, ?_, ?_⟩
  all_goals first
    | (rw [e 72 _ (by omega)]; assumption)
    | (rw [e 79 _ (by omega)]; assumption)
    | (rw [e 413 _ (by omega)]; assumption)
    | (rw [e 24 _ (by omega)]; assumption)
    | (rw [e 49 _ (by omega)]; assumption)
theorem gK_n25 {A B : pm_A} (h : gK wY A) (e : ∀ r_z j_z : Int, ¬ r_z = 25 → B r_z j_z = A r_z j_z) : gK wY B := fun r_z k_z r0 hk => by
  by_cases e25_z : r_z = 25
  · subst e25_z
    have hk2 : wY.1[wY.2 25]? = some (1, 0, 72, [(0, -2999, 2999)]) := rfl
    rw [hk2] at hk
    cases hk
    exact ⟨fun q_z => absurd q_z (by decide), fun _ j_z _ _ => trivial⟩
  · have h1 := h r_z k_z r0 hk
    exact ⟨fun q_z j_z => by rw [e r_z j_z e25_z]; exact h1.1 q_z j_z, fun q_z j_z j0 j1 => by rw [e r_z j_z e25_z]; exact h1.2 q_z j_z j0 j1⟩
theorem ksd_72 {sd : cx_Sd 12} {ks : List (Fin 12)} {A C : pm_A} {n s : Int} {F : Int → Int} (hs : okSd s n F) (hn4 : 4 ≤ n) (hX : xsm sd ks A C) (hCA : CA C) (hK : gK wY C) (e1 : C 0 1 = 24) (e2 : C 24 2 = 25) (e0 : C 24 0 = n - 3) (eh : C 24 1 = 0) (eT : ∀ k_z : Int, 0 ≤ k_z → k_z < 72 → C 25 k_z = tsum (ctr n F) 1000 k_z) (h9 : ∀ k_z : Int, 0 ≤ k_z → k_z < 72 → -9 ≤ tsum (ctr n F) 1000 k_z ∧ tsum (ctr n F) 1000 k_z ≤ 9) : Tm pmt (an_sh wX) o_X9_seed 72 ([(2, 0), (0, s)], [], C) (xsR sd ks A s n F) := by
  have hC := hX.1.1
  have e3 := hCA.2.2.1
  have n9 := hs.2.2
  have d0_z := fX_0_1 hC (r := 0) (by omega) kk0
  have hT8 : ∀ k_z : Int, 0 ≤ k_z → k_z < 72 → -9 ≤ C 25 k_z ∧ C 25 k_z ≤ 9 := fun k_z k0_z k1_z => by rw [eT k_z k0_z k1_z]; exact h9 k_z k0_z k1_z
  have hT9 : b9t C 24 := fun j_z j0 j1 => by rw [e2]; exact hT8 j_z j0 j1
  refine wq_ok srt_seed (fr := []) (cuts := []) (J := fun pc st_z => False) (fun _ _ h_z => h_z.elim) 20 72 _ ?_
  refine ⟨oX_0 (by omega) kk0 1 rfl, ?_⟩
  refine ⟨rX_3 d0_z.1 d0_z.2, ?_⟩
  rw [e1]
  refine (fault_exq hX.1 hCA hK hX.2.1 hT9).imp ?_
  rintro ⟨r1_z, D_z⟩ hq
  have hq0 := hq
  obtain ⟨⟨_, x_z, e_z, g3_z, _⟩, g2, _, g4, g5_z⟩ := hq0
  simp only at e_z g2 g4 g5_z
  subst e_z
  rw [e0, e2] at g3_z
  have g6 : faA (n - 3) (tsum (ctr n F) 1000) x_z := faA_c (by omega) eT g3_z
  have k0_z : D_z 24 0 = n - 3 := by rw [(g4 0 (by omega) (by omega)).1]; exact e0
  have k1_y : D_z 24 1 = 0 := by rw [(g4 1 (by omega) (by omega)).1]; exact eh
  have k2_y : ∀ k_z : Int, 0 ≤ k_z → k_z < 72 → D_z 25 k_z = tsum (ctr n F) 1000 k_z := fun k_z h0 h1 => by rw [g5_z k_z h0]; exact eT k_z h0 h1
  refine ⟨fun h_z => ?_, fun h_z => ?_⟩
  · refine ⟨rX_0 (by omega) kk0, ?_⟩
    have hcall := startSeed_ex (A := D_z) g2.1 (by rw [(g4 1 (by omega) (by omega)).2]; exact e1) (by rw [(g4 2 (by omega) (by omega)).1]; exact e2) (by rw [(g4 3 (by omega) (by omega)).1]; exact e3) (by omega)
    refine hcall.imp ?_
    rintro ⟨r1_z, E_z⟩ hE
    have hr1 : r1_z = none := hE.1
    subst hr1
    have h6 := fq_go hT8 e2 e3 (by omega) (by omega) (by omega) hq h_z hE
    rw [e0, eh] at h6
    refine ⟨rfl, Or.inr ⟨hs, x_z, g6, by rw [if_pos h_z], ⟨by rw [h6.2.2.1 0 (by omega) (by omega)]; exact e0, by rw [h6.2.2.1 1 (by omega) (by omega)]; exact eh, fun k_z k0_z k1_z => by rw [h6.2.2.2 k_z k0_z]; exact eT k_z k0_z k1_z⟩, Or.inr ⟨h_z, h6.1.c (by omega) (by omega) eT, h6.2.1.c (by omega) eT (fun _ _ _ => rfl)⟩⟩⟩
  · exact ⟨rfl, Or.inr ⟨hs, x_z, g6, by rw [if_neg h_z], ⟨k0_z, k1_y, k2_y⟩, Or.inl ⟨h_z, hX.tr g2⟩⟩⟩
theorem ksd_56 {sd : cx_Sd 12} {ks : List (Fin 12)} {A C : pm_A} {n s : Int} {F : Int → Int} (hs : okSd s n F) (hX : xsm sd ks A C) (hCA : CA C) (hK : gK wY C) (e1 : C 0 1 = 24) (e2 : C 24 2 = 25) (e0 : C 24 0 = n - 3) (eh : C 24 1 = 0) (hz : ∀ k_z : Int, 0 ≤ k_z → k_z < 72 → C 25 k_z = 0) (hr : rgX C (C (C 0 13) s) n F) (hS : rgS n F) (h9 : ∀ k_z : Int, 0 ≤ k_z → k_z < 72 → -9 ≤ tsum (ctr n F) 1000 k_z ∧ tsum (ctr n F) 1000 k_z ≤ 9) : Tm pmt (an_sh wX) o_X9_seed 56 ([(2, 0), (0, s)], [], C) (xsR sd ks A s n F) := by
  have hC := hX.1.1
  have hs1 := hs.1
  have d0_z := fX_0_1 hC (r := 0) (by omega) kk0
  have r0 := fX_0_13 hC (r := 0) (by omega) kk0
  have g0 := eX_34 hC r0.1 r0.2 (j := s) (by omega) (by omega)
  have hdk : wX.2 24 = 3 := by decide +kernel
  have hh : taH C (C (C 0 13) s) 25 n F := ⟨g0, ⟨by omega, by decide +kernel⟩, hr, hS, by have := hs.2; omega, hs.2.2⟩
  refine wq_ok srt_seed (fr := []) (cuts := [72]) (J := fun pc st_z => pc = 72 ∧ ∃ D_z, gH wX D_z ∧ (∀ k_z j_z : Int, ¬ k_z = 25 → D_z k_z j_z = C k_z j_z) ∧ (∀ k_z : Int, 0 ≤ k_z → k_z < 72 → D_z 25 k_z = tsum (ctr n F) 1000 k_z) ∧ st_z = ([(2, 0), (0, s)], [], D_z)) ?_ 20 56 _ ?_
  · rintro pc st_z ⟨rfl, D_z, h1, h2, h3, rfl⟩
    exact ksd_72 hs (by have := hS.1; omega) (hX.tr (xsm.n25 hX.1 hX.2.1 h1 h2)) (hCA.n25 h2) (gK_n25 hK h2) (by rw [h2 0 1 (by omega)]; exact e1) (by rw [h2 24 2 (by omega)]; exact e2) (by rw [h2 24 0 (by omega)]; exact e0) (by rw [h2 24 1 (by omega)]; exact eh) h3 h9
  · refine ⟨oX_0 (by omega) kk0 13 rfl, ?_⟩
    refine ⟨aX_34 r0.1 r0.2 (by omega) (by omega), ?_⟩
    refine ⟨oX_0 (by omega) kk0 1 rfl, ?_⟩
    refine ⟨oX_3 d0_z.1 d0_z.2 2 rfl, ?_⟩
    refine ⟨rX_9 g0.1 g0.2, ?_⟩
    rw [e1, e2]
    refine (tellArrows_ex hC hh hz).imp ?_
    rintro ⟨r1_z, D_z⟩ ⟨q1_z, q2_z, q3_z, q4_z⟩
    simp only at q1_z q2_z q3_z q4_z
    subst q1_z
    exact ⟨rfl, D_z, q2_z, q3_z, q4_z, rfl⟩
theorem kxq_37 {sd : cx_Sd 12} {ks : List (Fin 12)} {A : pm_A} {n s : Int} {F : Int → Int} (hSE : StE A) (hCA : CA A) (hTX : TrX sd ks A 1) (hK : gK wY A) (e1 : A 0 1 = 24) (ed : A 24 2 = 25) (ht9 : ∀ k_z : Int, 0 ≤ k_z → k_z < 72 → -9 ≤ tsum (ctr n F) 1000 k_z ∧ tsum (ctr n F) 1000 k_z ≤ 9) (hs : s = 0 ∨ s = 1) (h : rgX A (A (A 0 13) s) n F) (hS : rgS n F) (hc : cntF F 100 = n - 3) (h9 : n ≤ 9) : Tm pmt (an_sh wX) o_X9_seed 37 ([(2, 0), (0, s)], [], A) (xsR sd ks A s n F) := by
  have hA := hSE.1
  have p0_z := fX_0_13 hA (Int.le_refl 0) kk0
  have g0 := eX_34 hA p0_z.1 p0_z.2 (j := s) (by omega) (by omega)
  have en : A (A (A 0 13) s) 0 = n := h.1
  have hn := hS.1
  have d0_z := fX_0_1 hA (r := 0) (by omega) kk0
  refine wq_ok srt_seed (fr := []) (cuts := [56]) (J := fun pc st_z => pc = 56 ∧ ∃ C_z, (rxP A 24 (n - 3) 0 (none, C_z) ∧ gK wY C_z ∧ gFk wY [300, 301, 10016] A C_z) ∧ st_z = ([(2, 0), (0, s)], [], C_z)) ?_ 30 37 _ ?_
  · rintro pc st_z ⟨rfl, C_z, ⟨⟨_, q2_z, q3_z, q4_z, q5_z, q6_z⟩, q7_z, q8_z⟩, rfl⟩
    simp only at q2_z q3_z q4_z q5_z q6_z
    have e2 : C_z 0 1 = 24 := by
      rw [q3_z 0 1 (by omega) (by omega) (by unfold mcode; rw [shX_0 kk0]; show ¬ 901 ∈ rs_M; decide)]; exact e1
    have e3 : C_z 24 2 = A 24 2 := q3_z 24 2 (by omega) (by omega) (by unfold mcode; rw [shX_3 (show wX.2 24 = 3 by decide +kernel)]; show ¬ 202 ∈ rs_M; decide)
    have er : C_z 0 13 = A 0 13 := q3_z 0 13 (by omega) (by omega) (by unfold mcode; rw [shX_0 kk0]; show ¬ 913 ∈ rs_M; decide)
    have eqq : C_z (A 0 13) s = A (A 0 13) s := q3_z _ s p0_z.1 (by omega) (by unfold mcode; rw [shX_34 p0_z.2]; show ¬ (10000 + wX.2 (A 0 13)) ∈ rs_M; rw [p0_z.2]; decide)
    have ek : ∀ j_z : Int, 0 ≤ j_z → j_z ≤ 1 → C_z (A (A 0 13) s) j_z = A (A (A 0 13) s) j_z := fun j_z j0 j1 => by
      refine q3_z _ j_z g0.1 j0 ?_
      unfold mcode
      rw [shX_9 g0.2]
      show ¬ (600 + j_z.toNat) ∈ rs_M
      rcases (show j_z.toNat = 0 ∨ j_z.toNat = 1 by omega) with e_z | e_z <;> rw [e_z] <;> decide
    have hrg : rgX C_z (C_z (C_z 0 13) s) n F := by
      rw [er, eqq]
      obtain ⟨y1, V, y2, y3⟩ := h
      exact ⟨by rw [ek 0 (by omega) (by omega)]; exact y1, V, by rw [ek 1 (by omega) (by omega)]; exact y2, y3⟩
    exact ksd_56 ⟨hs, hc, h9⟩ (xsm.k hSE hTX q2_z q8_z (by decide)) (hCA.k q8_z (by decide)) q7_z e2 (by rw [e3]; exact ed) q5_z q6_z (fun k_z k0_z k1_z => by have := q4_z k_z k0_z k1_z; rw [ed] at this; omega) hrg hS ht9
  · refine ⟨oX_0 (Int.le_refl 0) kk0 1 rfl, ?_⟩
    refine ⟨oX_0 (Int.le_refl 0) kk0 13 rfl, ?_⟩
    refine ⟨aX_34 p0_z.1 p0_z.2 (by omega) (by omega), ?_⟩
    refine ⟨oX_9 g0.1 g0.2 0 rfl, ?_⟩
    refine ⟨⟨by omega, by omega⟩, ?_⟩
    refine ⟨rX_3 d0_z.1 d0_z.2, ?_⟩
    rw [e1, en]
    refine (xrestart_k3 hA hK (n := n - 3) (m := 0) (by omega) (by omega) (by omega) (by omega)).imp ?_
    rintro ⟨r1_z, C_z⟩ ⟨q_z, q7_z⟩
    obtain rfl : r1_z = none := q_z.1
    exact ⟨rfl, C_z, ⟨q_z, q7_z⟩, rfl⟩
theorem kseed_exq {sd : cx_Sd 12} {ks : List (Fin 12)} {A : pm_A} {n s : Int} {F : Int → Int} (hSE : StE A) (hCA : CA A) (hTX : TrX sd ks A 1) (hK : gK wY A) (e1 : A 0 1 = 24) (ed : A 24 2 = 25) (ht9 : okSd s n F → ∀ k_z : Int, 0 ≤ k_z → k_z < 72 → -9 ≤ tsum (ctr n F) 1000 k_z ∧ tsum (ctr n F) 1000 k_z ≤ 9) (h : s = 0 ∨ s = 1 → rgX A (A (A 0 13) s) n F ∧ rgS n F) : Cl pmt (an_sh wX) 107 [(2, 0), (0, s)] A (xsR sd ks A s n F) := by
  have hA := hSE.1
  have p0_z := fX_0_13 hA (Int.le_refl 0) kk0
  have h7 : s = 0 ∨ s = 1 → Tm pmt (an_sh wX) o_X9_seed 7 ([(2, 0), (0, s)], [], A) (xsR sd ks A s n F) := fun hs => by
    have e0_z := eX_34 hA p0_z.1 p0_z.2 (j := s) (by omega) (by omega)
    have en : A (A (A 0 13) s) 0 = n := (h hs).1.1
    have hn := (h hs).2.1
    refine wq_ok srt_seed (fr := []) (cuts := [16]) (J := fun pc st_z => (pc = 16 ∧ ∃ z_z : Int, ((z_z = 1 ∧ cntF F 100 = n - 3) ∨ (z_z = 0 ∧ ¬ cntF F 100 = n - 3)) ∧ st_z = ([(2, 0), (0, s)], [(0, z_z)], A))) ?_ 9 7 _ ?_
    · rintro pc st_z (⟨rfl, z_z, hz, rfl⟩)
      refine wq_ok srt_seed (fr := []) (cuts := [37]) (J := fun pc st_z => (pc = 37 ∧ (¬ z_z = 0) ∧ (((A (A (A 0 13) s) 0) - 3) ≤ 6) ∧ st_z = ([(2, 0), (0, s)], [], A))) ?_ 16 16 _ ?_
      · rintro pc st_z (⟨rfl, h0, h1, rfl⟩)
        have hc_z : cntF F 100 = n - 3 := (by rcases hz with ⟨_, e_z⟩ | ⟨e_z, _⟩; exact e_z; omega)
        have hn9 : n ≤ 9 := by omega
        exact kxq_37 hSE hCA hTX hK e1 ed (ht9 ⟨hs, hc_z, hn9⟩) hs (h hs).1 (h hs).2 hc_z hn9
      · refine ⟨fun h0 => ?_, fun h0 => ?_⟩
        · exact ⟨rfl, Or.inl ⟨fun q_z => absurd q_z.2.1 (by rcases hz with ⟨e_z, _⟩ | ⟨_, e_z⟩; omega; exact e_z), rfl⟩⟩
        · refine ⟨oX_0 (Int.le_refl 0) kk0 13 rfl, ?_⟩
          refine ⟨aX_34 (fX_0_13 hA (Int.le_refl 0) kk0).1 (fX_0_13 hA (Int.le_refl 0) kk0).2 (by omega) (by omega), ?_⟩
          refine ⟨oX_9 (eX_34 hA (fX_0_13 hA (Int.le_refl 0) kk0).1 (fX_0_13 hA (Int.le_refl 0) kk0).2 (j := s) (by omega) (by omega)).1 (eX_34 hA (fX_0_13 hA (Int.le_refl 0) kk0).1 (fX_0_13 hA (Int.le_refl 0) kk0).2 (j := s) (by omega) (by omega)).2 0 rfl, ?_⟩
          refine ⟨⟨by omega, by omega⟩, ?_⟩
          refine ⟨fun h1 => ?_, fun h1 => ?_⟩
          · exact ⟨rfl, h0, h1, rfl⟩
          · exact ⟨rfl, Or.inl ⟨fun q_z => by have := q_z.2.2; omega, rfl⟩⟩
    · refine ⟨oX_0 (Int.le_refl 0) kk0 13 rfl, ?_⟩
      refine ⟨aX_34 (fX_0_13 hA (Int.le_refl 0) kk0).1 (fX_0_13 hA (Int.le_refl 0) kk0).2 (by omega) (by omega), ?_⟩
      refine ⟨rX_9 (eX_34 hA (fX_0_13 hA (Int.le_refl 0) kk0).1 (fX_0_13 hA (Int.le_refl 0) kk0).2 (j := s) (by omega) (by omega)).1 (eX_34 hA (fX_0_13 hA (Int.le_refl 0) kk0).1 (fX_0_13 hA (Int.le_refl 0) kk0).2 (j := s) (by omega) (by omega)).2, ?_⟩
      refine (xcut_ex e0_z.1 e0_z.2 (h hs).1 (h hs).2).imp ?_
      rintro ⟨r1_z, C_z⟩ ⟨q1_z, z_z, q2_z, hz⟩
      simp only at q1_z q2_z
      subst q1_z
      subst q2_z
      exact ⟨rfl, z_z, hz, rfl⟩
  refine Cl.of (Nat.le_of_ble_eq_true rfl) ?_
  refine wq_ok (full := o_X9_seed) srt_seed (fr := []) (cuts := [4]) (J := fun pc st_z => (pc = 4 ∧ ∃ x_z : Int, ((x_z = 1 ∧ (s = 0 ∨ s = 1)) ∨ (x_z = 0 ∧ ¬ (s = 0 ∨ s = 1))) ∧ st_z = ([(2, 0), (0, s)], [(0, x_z)], A))) ?_ 6 0 _ ?_
  · rintro pc st_z (⟨rfl, x_z, hx, rfl⟩)
    refine wq_ok srt_seed (fr := []) (cuts := [7]) (J := fun pc st_z => (pc = 7 ∧ (¬ x_z = 0) ∧ st_z = ([(2, 0), (0, s)], [], A))) ?_ 7 4 _ ?_
    · rintro pc st_z (⟨rfl, h0, rfl⟩)
      exact h7 (by rcases hx with ⟨_, e_z⟩ | ⟨e_z, _⟩; exact e_z; omega)
    · refine ⟨fun h0 => ?_, fun h0 => ?_⟩
      · exact ⟨rfl, Or.inl ⟨fun q_z => absurd q_z.1 (by rcases hx with ⟨e_z, _⟩ | ⟨_, e_z⟩; omega; exact e_z), rfl⟩⟩
      · exact ⟨rfl, h0, rfl⟩
  · refine ⟨rfl, ?_⟩
    refine (xa_isSlot).imp ?_
    rintro ⟨r1_z, C_z⟩ ⟨q1_z, x_z, q2_z, hx⟩
    simp only at q1_z q2_z
    subst q1_z
    subst q2_z
    exact ⟨rfl, x_z, hx, rfl⟩
