/-! the class's order exactly -/
theorem StE.of {A B : pm_A} (h : StE A) (hB : gH wX B) (e0 : ∀ j_z : Int, j_z = 0 ∨ j_z = 2 ∨ j_z = 3 ∨ j_z = 5 ∨ j_z = 8 ∨ j_z = 9 → B 0 j_z = A 0 j_z) (e1 : ∀ g_z j_z : Int, 0 ≤ g_z → wX.2 g_z = 1 → j_z = 2 ∨ j_z = 3 ∨ j_z = 4 → B g_z j_z = A g_z j_z) (e2 : ∀ q_z j_z : Int, 0 ≤ q_z → wX.2 q_z = 2 → j_z = 2 ∨ j_z = 3 → B q_z j_z = A q_z j_z) (e28 : ∀ j_z : Int, 0 ≤ j_z ∧ j_z ≤ 6 → B 28 j_z = A 28 j_z) (e72 : B 72 0 = A 72 0 ∧ B 72 8 = A 72 8) (e4 : ∀ j_z : Int, 0 ≤ j_z → B 4 j_z = A 4 j_z) (e52 : ∀ j_z : Int, 0 ≤ j_z → B 52 j_z = A 52 j_z) (e73 : ∀ j_z : Int, 0 ≤ j_z → B 73 j_z = A 73 j_z) (e82 : ∀ j_z : Int, 0 ≤ j_z → j_z < 6 → 72 < B 82 j_z) (e47 : ∀ j_z : Int, 0 ≤ j_z → B 47 j_z = A 47 j_z) (eK : ∀ k_z j_z : Int, 0 ≤ k_z → k_z < 4 → 0 ≤ j_z → B (423 + 23 * k_z) j_z = A (423 + 23 * k_z) j_z) : StE B := by
  obtain ⟨hA, ⟨⟨a1_z, a2, a3, a4, a5, a6, a7, a8, a9, a10, a11⟩, b_z, c_z, d_z, e_z⟩, ⟨⟨m1_z, m2_z, m3_z, m4_z, m7_z⟩, m5_z, m6_z, m8_z⟩⟩ := h
  have hpc : ∀ i_z : Int, 0 ≤ i_z → i_z ≤ 12 → pc B i_z = pc A i_z := fun i_z i0_z i1_z => by
    unfold pc
    by_cases q_z : i_z < 6
    · rw [if_pos q_z, if_pos q_z, e4 i_z i0_z]
    · rw [if_neg q_z, if_neg q_z]
      by_cases q2_z : i_z < 12
      · rw [if_pos q2_z, if_pos q2_z, e52 _ (by omega)]
      · rw [if_neg q2_z, if_neg q2_z, e28 0 (by omega)]
  refine ⟨hB, ⟨⟨by rw [e0 0 (by omega)]; exact a1_z, by rw [e0 2 (by omega)]; exact a2, by rw [e0 8 (by omega)]; exact a3, by rw [e0 9 (by omega)]; exact a4, by rw [e1 1 4 (by omega) kk1 (by omega)]; exact a5, by rw [e1 49 4 (by omega) kk49 (by omega)]; exact a6, by rw [e72.2]; exact a7, by rw [e72.1]; exact a8, by rw [e1 79 4 (by omega) kk79 (by omega)]; exact a9, by rw [e28 1 (by omega)]; exact a10, by rw [e28 2 (by omega)]; exact a11⟩, fun q_z q0 qk => by rw [e2 q_z 2 q0 qk (by omega)]; exact b_z q_z q0 qk, fun x_z x0_z x1_z => by rw [e73 x_z x0_z]; exact c_z x_z x0_z x1_z, e82, pool_eq hpc e_z⟩, ⟨⟨by rw [e28 3 (by omega)]; exact m1_z, by rw [e28 4 (by omega)]; exact m2_z, by rw [e28 5 (by omega)]; exact m3_z, by rw [e28 6 (by omega)]; exact m4_z, by rw [e0 3 (by omega)]; exact m7_z⟩, fun q_z q0 qk => by rw [e2 q_z 3 q0 qk (by omega)]; exact m5_z q_z q0 qk, fun i_z i0_z i1_z => by rw [hpc i_z i0_z i1_z]; exact m6_z i_z i0_z i1_z, ⟨fun g_z g0 gk => ?_, ?_, fun k_z k0_z k1_z => ?_, fun k_z i_z k0_z k1_z i0_z i1_z => ?_⟩⟩⟩
  · rw [e1 g_z 2 g0 gk (by omega), e1 g_z 3 g0 gk (by omega), e1 g_z 4 g0 gk (by omega)]; exact m8_z.1 g_z g0 gk
  · rw [e0 5 (by omega)]; exact m8_z.2.1
  · rw [e47 k_z k0_z]; exact m8_z.2.2.1 k_z k0_z k1_z
  · rw [eK k_z i_z k0_z k1_z i0_z]; exact m8_z.2.2.2 k_z i_z k0_z k1_z i0_z i1_z
theorem tzF.st {A B : pm_A} {g : Int} (h : tzF A B g) (hS : StE A) (t5 : wX.2 (A g 5) = 13) : StE B :=
  hS.of h.1 (fun j_z _ => h.ce t5 kk0 (by decide) j_z) (fun c_z j_z _ ck _ => h.ce t5 ck (by decide) j_z) (fun c_z j_z _ ck _ => h.ce t5 ck (by decide) j_z) (fun j_z _ => h.ce t5 kk28 (by decide) j_z) ⟨h.ce t5 kk72 (by decide) 0, h.ce t5 kk72 (by decide) 8⟩ (fun j_z _ => h.ce t5 kk4 (by decide) j_z) (fun j_z _ => h.ce t5 kk52 (by decide) j_z) (fun j_z _ => h.ce t5 kk73 (by decide) j_z) (fun j_z j0 j1 => by rw [h.ce t5 kk82 (by decide) j_z]; exact hS.2.1.2.2.2.1 j_z j0 j1) (fun j_z _ => h.ce t5 kk47 (by decide) j_z) (fun k_z j_z k0_z k1_z _ => h.ce t5 (kkK k0_z k1_z) (by decide) j_z)
theorem tzF.tr {s : cx_Sd 12} {ks : List (Fin 12)} {A B : pm_A} {g c : Int} (h : tzF A B g) (hT : TrX s ks A c) (t5 : wX.2 (A g 5) = 13) : TrX s ks B c := by
  have hc_z := hT.2.1
  have p6_z := fX_1_0 hT.1 hc_z.1 hc_z.2
  have t2_z := fX_1_2 hT.1 hc_z.1 hc_z.2
  have l4 := fX_1_4 hT.1 hc_z.1 hc_z.2
  refine hT.cong h.1 (h.ce t5 hc_z.2 (by decide)) (h.ce t5 t2_z.2 (by decide)) (h.ce t5 l4.2 (by decide)) (fun i_z i0_z i1_z => ?_)
  exact h.sm hT.1 t5 (eX_12 hT.1 l4.1 l4.2 i0_z (show i_z < 6 by omega))
def rpt (L : List (Fin 12)) : Nat → List (Fin 12)
  | 0 => []
  | n_z + 1 => rpt L n_z ++ L
def ordA (s : cx_Sd 12) (ks L : List (Fin 12)) (W P : Int) : Nat → Nat → Int → Prop
  | 0, _, z_z => z_z = -2
  | m_z + 1, n_z, z_z => (¬ wkS s W P (ks ++ rpt L n_z) L ∧ z_z = -2) ∨ (wkS s W P (ks ++ rpt L n_z) L ∧ smS s (ks ++ rpt L (n_z + 1)) s ks W P ∧ z_z = (n_z : Int) + 1) ∨ (wkS s W P (ks ++ rpt L n_z) L ∧ ¬ smS s (ks ++ rpt L (n_z + 1)) s ks W P ∧ ordA s ks L W P m_z (n_z + 1) z_z)
theorem ordA_u {s : cx_Sd 12} {ks L : List (Fin 12)} {W P : Int} : ∀ {m_z n_z : Nat} {y_z z_z : Int}, ordA s ks L W P m_z n_z y_z → ordA s ks L W P m_z n_z z_z → y_z = z_z
  | 0, _, y_z, z_z, h1, h2 => by
    have h1 : y_z = -2 := h1
    have h2 : z_z = -2 := h2
    omega
  | m_z + 1, n_z, y_z, z_z, h1, h2 => by
    rcases h1 with ⟨a1_z, a2⟩ | ⟨a1_z, a2, a3⟩ | ⟨a1_z, a2, a3⟩
    · rcases h2 with ⟨b1, b2⟩ | ⟨b1, b2, b3⟩ | ⟨b1, b2, b3⟩
      · omega
      · exact absurd b1 a1_z
      · exact absurd b1 a1_z
    · rcases h2 with ⟨b1, b2⟩ | ⟨b1, b2, b3⟩ | ⟨b1, b2, b3⟩
      · exact absurd a1_z b1
      · omega
      · exact absurd a2 b2
    · rcases h2 with ⟨b1, b2⟩ | ⟨b1, b2, b3⟩ | ⟨b1, b2, b3⟩
      · exact absurd a1_z b1
      · exact absurd b2 a2
      · exact ordA_u a3 b3
def orZ (s : cx_Sd 12) (ks : List (Fin 12)) (R : Int → Int) (n W P : Int) (z : Int) : Prop := (z = -1 ∧ (n = 0 ∨ ∃ i_z : Int, 0 ≤ i_z ∧ i_z < n ∧ ¬ R i_z < P)) ∨ (¬ n = 0 ∧ (∀ i_z : Int, 0 ≤ i_z → i_z < n → R i_z < P) ∧ ∀ L_z, rwL R n L_z → ordA s ks L_z W P 40 0 z)
def orF (s : cx_Sd 12) (ks : List (Fin 12)) (A B : pm_A) : Prop := StE B ∧ TrX s ks B 1 ∧ (∀ j_z : Int, B 0 j_z = A 0 j_z) ∧ (∀ j_z : Int, B 46 j_z = A 46 j_z) ∧ (∀ j_z : Int, B 1 j_z = A 1 j_z) ∧ (∀ r_z j_z : Int, 100 ≤ r_z → B r_z j_z = A r_z j_z) ∧ ∀ j_z : Int, B 3 j_z = A 3 j_z
def orP (s : cx_Sd 12) (ks : List (Fin 12)) (A : pm_A) (r : pm_R) : Prop := orF s ks A r.2 ∧ ∃ z_z, r.1 = some (0, z_z) ∧ orZ s ks (A (A 0 6)) (A 0 7) (bgW A 1) (A 1 0) z_z
theorem or_sm {s : cx_Sd 12} {ks ls : List (Fin 12)} {A : pm_A} (h49 : TrX s ls A 49) (h1 : TrX s ks A 1) (e0 : A 49 0 = A 1 0) (e1 : A 49 1 = A 1 1) : saX A 49 1 ↔ smS s ls s ks (bgW A 1) (A 1 0) := by
  rw [sm_iff h49 h1]
  have eW : bgW A 49 = bgW A 1 := by unfold bgW; rw [e0, e1]
  rw [eW, e0]
  exact ⟨fun q_z => q_z.2, fun q_z => ⟨⟨rfl, e1⟩, q_z⟩⟩
theorem oy_53 {s : cx_Sd 12} {ks L : List (Fin 12)} {A : pm_A} (hr : 0 ≤ A 0 6 ∧ wX.2 (A 0 6) = 21) (hL : rwL (A (A 0 6)) (A 0 7) L) (hP : ∀ f_z ∈ L, (f_z.1 : Int) < A 49 0) (h5 : A 49 5 = 53) (e0 : A 49 0 = A 1 0) (e1 : A 49 1 = A 1 1) : ∀ (m_z n_z : Nat) (B_z : pm_A), m_z + n_z = 40 → wvF s ks A B_z → TrX s (ks ++ rpt L n_z) B_z 49 → Tm pmt (an_sh wX) o_X9_order 53 ([(2, 0), (0, (n_z : Int) + 1)], [], B_z) (fun r_z => wvF s ks A r_z.2 ∧ ∃ z_z, r_z.1 = some (0, z_z) ∧ ordA s ks L (bgW A 1) (A 1 0) m_z n_z z_z) := by
  have eW : bgW A 49 = bgW A 1 := by unfold bgW; rw [e0, e1]
  intro m_z
  induction m_z with
  | zero =>
    intro n_z B_z hn hI hT_z
    refine wq_ok srt_order (fr := []) (cuts := []) (J := fun _ _ => False) (fun _ _ h_z => h_z.elim) 20 53 _ ?_
    refine ⟨fun h_z => ?_, fun h_z => ?_⟩
    · exact ⟨rfl, hI, -2, rfl, rfl⟩
    · exact absurd h_z (by omega)
  | succ m_z ih_z =>
    intro n_z B_z hn hI hT_z
    refine wq_ok srt_order (fr := []) (cuts := [69]) (J := fun pc st_z => pc = 69 ∧ wkS s (bgW A 49) (A 49 0) (ks ++ rpt L n_z) L ∧ ∃ C_z, wvF s ks A C_z ∧ TrX s (ks ++ rpt L n_z ++ L) C_z 49 ∧ st_z = ([(2, 0), (0, (n_z : Int) + 1)], [], C_z)) ?_ 20 53 _ ?_
    · rintro pc st_z ⟨rfl, hw, C_z, hC, hTC, rfl⟩
      rw [eW, e0] at hw
      rw [List.append_assoc] at hTC
      have hTC2 : TrX s (ks ++ rpt L (n_z + 1)) C_z 49 := hTC
      have c0_z : C_z 49 0 = C_z 1 0 := by rw [hC.2.2.2.2.2.2.1 0, hC.2.2.2.2.1 0]; exact e0
      have c1_z : C_z 49 1 = C_z 1 1 := by rw [hC.2.2.2.2.2.2.1 1, hC.2.2.2.2.1 1]; exact e1
      have hsm := or_sm hTC2 hC.2.1 c0_z c1_z
      have cW : bgW C_z 1 = bgW A 1 := by unfold bgW; rw [hC.2.2.2.2.1 0, hC.2.2.2.2.1 1]
      rw [cW, hC.2.2.2.2.1 0] at hsm
      have a0_z := hC.1.2.1.1.1
      have a8 := hC.1.2.1.1.2.2.1
      have c5_z : C_z 49 5 = 53 := by rw [hC.2.2.2.2.2.2.1 5]; exact h5
      have t5_z := (fX_1_5 hC.1.1 (r := 49) (by omega) kk49).2
      have hkeep : ∀ D_z, tzF C_z D_z 49 → wvF s ks A D_z ∧ TrX s (ks ++ rpt L (n_z + 1)) D_z 49 := fun D_z hD => by
        obtain ⟨y1, y2, y4, y5, y6, y7, y8, y9, y3⟩ := hC
        refine ⟨⟨hD.st y1 t5_z, hD.tr y2 t5_z, fun j_z => ?_, fun j_z => ?_, fun j_z => ?_, fun j_z => ?_, fun j_z => ?_, fun r_z j_z hr2 => ?_, fun j_z => ?_⟩, hD.tr hTC2 t5_z⟩
        · rw [hD.ce t5_z kk0 (by decide)]; exact y4 j_z
        · rw [hD.ce t5_z kk46 (by decide)]; exact y5 j_z
        · rw [hD.ce t5_z kk1 (by decide)]; exact y6 j_z
        · rw [hD.ce t5_z hr.2 (by decide)]; exact y7 j_z
        · rw [hD.ce t5_z kk49 (by decide)]; exact y8 j_z
        · rw [hD.2 r_z j_z (by omega)]; exact y9 r_z j_z hr2
        · rw [hD.ce t5_z kk3 (by decide)]; exact y3 j_z
      refine wq_ok srt_order (fr := []) (cuts := [53]) (J := fun pc st_z => pc = 53 ∧ ¬ smS s (ks ++ rpt L (n_z + 1)) s ks (bgW A 1) (A 1 0) ∧ ∃ D_z, tzF C_z D_z 49 ∧ st_z = ([(2, 0), (0, (n_z : Int) + 1 + 1)], [], D_z)) ?_ 20 69 _ ?_
      · rintro pc st_z ⟨rfl, hns, D_z, hD, rfl⟩
        have h1 := hkeep D_z hD
        have e2 : ((n_z : Int) + 1 + 1) = (((n_z + 1 : Nat)) : Int) + 1 := by omega
        rw [e2]
        obtain ⟨k_z, r_z, hk, hrr⟩ := ih_z (n_z + 1) D_z (by omega) h1.1 h1.2
        exact ⟨k_z, r_z, hk, hrr.1, by obtain ⟨z_z, hz, ho⟩ := hrr.2; exact ⟨z_z, hz, Or.inr (Or.inr ⟨hw, hns, ho⟩)⟩⟩
      · refine ⟨oX_0 z0 kk0 8 rfl, ?_⟩
        refine ⟨oX_0 z0 kk0 0 rfl, ?_⟩
        refine ⟨rX_1 (r := C_z 0 8) (by rw [a8]; omega) (by rw [a8]; exact kk49), ?_⟩
        show Cl pmt (an_sh wX) 70 [(2, C_z 0 8), (2, C_z 0 0)] C_z _
        rw [a8, a0_z]
        refine (isSameAs_ex hC.1.1 ⟨by omega, kk49⟩ ⟨by omega, kk1⟩).imp ?_
        rintro ⟨r1_z, D_z⟩ ⟨hD, hrr⟩
        simp only at hD hrr
        rcases hrr with ⟨rfl, hy⟩ | ⟨rfl, hy⟩
        · refine ⟨fun hh => absurd hh (by decide), fun _ => ?_⟩
          exact ⟨rfl, (hkeep D_z hD).1, _, rfl, Or.inr (Or.inl ⟨hw, hsm.1 hy, rfl⟩)⟩
        · refine ⟨fun _ => ?_, fun hh => absurd rfl hh⟩
          refine ⟨⟨by omega, by omega⟩, ?_⟩
          exact ⟨rfl, fun q_z => hy (hsm.2 q_z), D_z, hD, rfl⟩
    · refine ⟨fun h_z => ?_, fun h_z => ?_⟩
      · exact absurd h_z (by omega)
      · refine ⟨rX_0 z0 kk0, ?_⟩
        refine (walkRow_exY hr hL hP hI hT_z).imp ?_
        rintro ⟨r1_z, C_z⟩ ⟨hC, hrr⟩
        simp only at hC hrr
        rcases hrr with ⟨rfl, hno⟩ | ⟨rfl, hw, hTC⟩
        · rw [eW, e0] at hno
          refine ⟨fun hh => absurd rfl hh, fun _ => ?_⟩
          exact ⟨rfl, hC, -2, rfl, Or.inl ⟨hno, rfl⟩⟩
        · refine ⟨fun _ => ?_, fun hh => absurd hh (by decide)⟩
          exact ⟨rfl, hw, C_z, hC, hTC, rfl⟩
theorem StE.walkH {A : pm_A} (hS : StE A) : scH A 49 1 := by
  have hA := hS.1
  have m8_z := hS.2.2.2.2.2
  refine ⟨hA, ⟨⟨by omega, kk49⟩, by omega, kk1⟩, by omega, fun c_z c0_z ck => m8_z.1 c_z c0_z ck, fun a_z a0_z ak => ⟨hS.2.1.2.1 a_z a0_z ak, hS.2.2.2.1 a_z a0_z ak⟩, fun i_z j_z i0_z i1_z j0 j1 => ?_, fun i_z j_z i0_z i1_z j0 j1 hij => ?_⟩
  · have h1 := hS.2.1.2.2.2.2.2 (6 + i_z) j_z (by omega) (by omega) (by omega) (by omega) (by omega)
    rw [own_pc own49 i0_z (by omega)] at h1
    have h2 := own_pc (A := A) own1 j0 (show j_z ≤ 5 by omega)
    rw [Int.zero_add] at h2
    rw [h2] at h1
    exact h1
  · have h1 := hS.2.1.2.2.2.2.2 (6 + i_z) (6 + j_z) (by omega) (by omega) (by omega) (by omega) (by omega)
    rw [own_pc own49 i0_z (by omega), own_pc own49 j0 (by omega)] at h1
    exact h1
theorem scF.hi {A B : pm_A} (hS : StE A) (hF : scF A B 49) {r : Int} (hr : 100 ≤ r) (j : Int) : B r j = A r j := by
  refine hF.2.1 r j (by omega) (by omega) (by omega) (fun n_z n0_z n1_z => ?_)
  have h1 := (hS.2.1.2.2.2.2.1 (6 + n_z) (by omega) (by omega)).1
  rw [own_pc own49 n0_z (by omega)] at h1
  have h1 : A 52 n_z < 72 := h1
  show ¬ r = A 52 n_z ∧ ¬ r = A 52 n_z + 1 ∧ ¬ r = A 52 n_z + 2
  omega
theorem oy_40 {s : cx_Sd 12} {ks : List (Fin 12)} {A : pm_A} {i : Int} (hS : StE A) (hT : TrX s ks A 1) (h5 : A 49 5 = 53) (hn : ¬ A 0 7 = 0) (hrow : ∀ i : Int, 0 ≤ i → i < A 0 7 → A (A 0 6) i < A 1 0) : Tm pmt (an_sh wX) o_X9_order 40 ([(2, 0), (0, i)], [], A) (orP s ks A) := by
  have a0_z := hS.2.1.1.1
  have a8 := hS.2.1.1.2.2.1
  have r0 := fX_0_6 hS.1 z0 kk0
  have n0_z := fX_0_7 hS.1 z0 kk0
  have p6_z := fX_1_0 hS.1 (r := 1) (by omega) kk1
  have hH := hS.walkH
  refine wq_ok srt_order (fr := []) (cuts := [53]) (J := fun pc st_z => pc = 53 ∧ ∃ D_z, scP A 49 1 (none, D_z) ∧ st_z = ([(2, 0), (0, 1)], [], D_z)) ?_ 20 40 _ ?_
  · rintro pc st_z ⟨rfl, D_z, hD, rfl⟩
    have hTD := scP.tr hH hT hD
    obtain ⟨_, hF, ⟨d0_z, d1_z⟩, _⟩ := hD
    simp only at hF d0_z d1_z
    have hl : ∀ i j_z : Int, 0 ≤ i → i < 6 → 0 ≤ j_z → j_z < 6 → ¬ A (49 + 3) i = A (1 + 3) j_z := hH.2.2.2.2.2.1
    have hSD := hS.sc hH hF
    have hT1 := hT.sc hH hF (by omega) hl
    have d49_z : ∀ j_z : Int, ¬ j_z = 0 → ¬ j_z = 1 → D_z 49 j_z = A 49 j_z := fun j_z j1 j2_z => hF.no hH kk49 (Or.inr ⟨j1, j2_z⟩) (by omega) (by omega) (by decide) (by decide) (by decide)
    have dc : ∀ {r_z : Int} {l : Nat}, wX.2 r_z = l → ¬ r_z = 49 → ¬ r_z = 50 → ¬ r_z = 51 → ¬ l = 2 → ¬ l = 14 → ¬ l = 15 → ∀ j_z : Int, D_z r_z j_z = A r_z j_z := fun hr h1 h2 h3 n1_z n2_z n3_z j_z => hF.no hH hr (Or.inl h1) (by omega) (by omega) n1_z n2_z n3_z
    have D0 := dc kk0 (by omega) (by omega) (by omega) (by decide) (by decide) (by decide)
    have D46 := dc kk46 (by omega) (by omega) (by omega) (by decide) (by decide) (by decide)
    have D1 := dc kk1 (by omega) (by omega) (by omega) (by decide) (by decide) (by decide)
    have D3 := dc kk3 (by omega) (by omega) (by omega) (by decide) (by decide) (by decide)
    have DR := dc r0.2 (knd r0.2 kk49 (by decide)) (by
      have t2_z := fX_1_2 hS.1 (r := 49) (by omega) kk49
      rw [(hS.2.2.2.2.2.1 49 (by omega) kk49).1] at t2_z
      exact knd r0.2 t2_z.2 (by decide)) (by
      have t2_z := fX_1_3 hS.1 (r := 49) (by omega) kk49
      rw [(hS.2.2.2.2.2.1 49 (by omega) kk49).2.1] at t2_z
      exact knd r0.2 t2_z.2 (by decide)) (by decide) (by decide) (by decide)
    have hi_z : ∀ r_z j_z : Int, 100 ≤ r_z → D_z r_z j_z = A r_z j_z := fun r_z j_z hr => hF.hi hS hr j_z
    obtain ⟨L_z, hL⟩ := rwL_ex (R := A (A 0 6)) (n := A 0 7) n0_z.1 (fun i i0_z i1_z => by
      have h1 := eX_21 hS.1 r0.1 r0.2 i0_z (show i < 12 by omega)
      omega)
    have hLD : rwL (D_z (D_z 0 6)) (D_z 0 7) L_z := by
      rw [D0 6, D0 7]
      exact rwL_c hL (fun i _ _ => DR i)
    have hm_z := rwL_m hL (fun i i0_z i1_z => hrow i i0_z i1_z)
    have hself : wvF s ks D_z D_z := ⟨hSD, hT1, fun _ => rfl, fun _ => rfl, fun _ => rfl, fun _ => rfl, fun _ => rfl, fun _ _ _ => rfl, fun _ => rfl⟩
    obtain ⟨k_z, r_z, hk, hrr⟩ := oy_53 (A := D_z) (by rw [D0 6]; exact r0) hLD (fun f_z hf => by rw [d0_z]; exact hm_z f_z hf) (by rw [d49_z 5 (by omega) (by omega)]; exact h5) (by rw [d0_z, D1 0]) (by rw [d1_z, D1 1]) 40 0 D_z (by omega) hself (by show TrX s (ks ++ []) D_z 49; rw [List.append_nil]; exact hTD)
    have e01 : ((0 : Nat) : Int) + 1 = 1 := by omega
    rw [e01] at hk
    obtain ⟨hw, z_z, hz, ho⟩ := hrr
    obtain ⟨w1_z, w2_z, w4_z, w5, w6_z, w7_z, w8, w9, w3_z⟩ := hw
    refine ⟨k_z, r_z, hk, ⟨w1_z, w2_z, fun j_z => (w4_z j_z).trans (D0 j_z), fun j_z => (w5 j_z).trans (D46 j_z), fun j_z => (w6_z j_z).trans (D1 j_z), fun r_z j_z hr => (w9 r_z j_z hr).trans (hi_z r_z j_z hr), fun j_z => (w3_z j_z).trans (D3 j_z)⟩, z_z, hz, Or.inr ⟨hn, hrow, fun L' hL' => ?_⟩⟩
    have eL : L' = L_z := by
      refine List.ext_getElem? (fun i => ?_)
      have g1 := hL.1
      have g2 := hL'.1
      by_cases hi_z : i < L_z.length
      · have q1_z : L_z[i]? = some L_z[i] := List.getElem?_eq_getElem hi_z
        have q2_z : L'[i]? = some (L'[i]'(by omega)) := List.getElem?_eq_getElem (by omega)
        have q3_z := hL.2 i _ q1_z
        have q4_z := hL'.2 i _ q2_z
        rw [q1_z, q2_z]
        refine congrArg some (Fin.ext ?_)
        omega
      · rw [List.getElem?_eq_none (by omega), List.getElem?_eq_none (by omega)]
    rw [eL]
    have cW : bgW D_z 1 = bgW A 1 := by unfold bgW; rw [D1 0, D1 1]
    rw [cW, D1 0] at ho
    exact ho
  · refine ⟨oX_0 z0 kk0 8 rfl, ?_⟩
    refine ⟨oX_0 z0 kk0 0 rfl, ?_⟩
    refine ⟨rX_1 (r := A 0 8) (by rw [a8]; omega) (by rw [a8]; exact kk49), ?_⟩
    show Cl pmt (an_sh wX) 67 [(2, A 0 8), (2, A 0 0)] A _
    rw [a8, a0_z]
    refine (copySeed_ex hH).imp ?_
    rintro ⟨r1_z, D_z⟩ hD
    have hr1 : r1_z = none := hD.1
    subst hr1
    exact ⟨rfl, D_z, hD, rfl⟩
theorem oy_11 {s : cx_Sd 12} {ks : List (Fin 12)} {A : pm_A} (hS : StE A) (hT : TrX s ks A 1) (h5 : A 49 5 = 53) (hn : ¬ A 0 7 = 0) : ∀ (m_z : Nat) (i_z : Int), (12 - i_z).toNat < m_z → 0 ≤ i_z → i_z ≤ A 0 7 → (∀ d_z : Int, 0 ≤ d_z → d_z < i_z → A (A 0 6) d_z < A 1 0) → Tm pmt (an_sh wX) o_X9_order 11 ([(2, 0), (0, i_z)], [], A) (orP s ks A) := by
  have r0 := fX_0_6 hS.1 z0 kk0
  have n0_z := fX_0_7 hS.1 z0 kk0
  intro m_z
  induction m_z with
  | zero => intro i_z h_z; omega
  | succ m_z ih_z =>
    intro i_z hm_z i0_z i1_z hd_z
    refine wq_ok srt_order (fr := []) (cuts := [11, 40]) (J := fun pc st_z => (pc = 40 ∧ i_z = A 0 7 ∧ st_z = ([(2, 0), (0, i_z)], [], A)) ∨ (pc = 11 ∧ (i_z < A 0 7 ∧ A (A 0 6) i_z < A 1 0) ∧ st_z = ([(2, 0), (0, i_z + 1)], [], A))) ?_ 20 11 _ ?_
    · rintro pc st_z (⟨rfl, hi_z, rfl⟩ | ⟨rfl, hi_z, rfl⟩)
      · exact oy_40 hS hT h5 hn (fun d_z d0_z d1_z => hd_z d_z d0_z (by omega))
      · refine ih_z (i_z + 1) (by omega) (by omega) (by omega) (fun d_z d0_z d1_z => ?_)
        by_cases e_z : d_z = i_z
        · rw [e_z]; exact hi_z.2
        · exact hd_z d_z d0_z (by omega)
    · refine ⟨oX_0 z0 kk0 7 rfl, ?_⟩
      refine ⟨fun h_z => Or.inl ⟨rfl, by omega, rfl⟩, fun h_z => ?_⟩
      have e0_z := eX_21 hS.1 r0.1 r0.2 i0_z (show i_z < 12 by omega)
      refine ⟨oX_0 z0 kk0 6 rfl, ?_⟩
      refine ⟨aX_21 r0.1 r0.2 i0_z (by omega), ?_⟩
      refine ⟨rX_0 z0 kk0, ?_⟩
      refine (isPlace_ex hS (k := A (A 0 6) i_z) ⟨by omega, by omega⟩).imp ?_
      rintro ⟨r1_z, C_z⟩ ⟨hC, hr⟩
      simp only at hC hr
      subst hC
      rcases hr with ⟨rfl, _, hlt⟩ | ⟨rfl, hge⟩
      · refine ⟨fun _ => ?_, fun hh => absurd hh (by decide)⟩
        refine ⟨⟨by omega, by omega⟩, ?_⟩
        exact Or.inr ⟨rfl, ⟨h_z, hlt⟩, rfl⟩
      · refine ⟨fun hh => absurd rfl hh, fun _ => ?_⟩
        exact ⟨rfl, ⟨hS, hT, fun _ => rfl, fun _ => rfl, fun _ => rfl, fun _ _ _ => rfl, fun _ => rfl⟩, -1, rfl, Or.inl ⟨rfl, Or.inr ⟨i_z, i0_z, h_z, fun q_z => hge ⟨e0_z.1, q_z⟩⟩⟩⟩
theorem xorder_ex {s : cx_Sd 12} {ks : List (Fin 12)} {A : pm_A} (hS : StE A) (hT : TrX s ks A 1) (h5 : A 49 5 = 53) : Cl pmt (an_sh wX) 102 [(2, 0)] A (orP s ks A) := by
  have n0_z := fX_0_7 hS.1 z0 kk0
  refine Cl.of (Nat.le_of_ble_eq_true rfl) ?_
  refine wq_ok (full := o_X9_order) srt_order (fr := []) (cuts := [11]) (J := fun pc st_z => pc = 11 ∧ ¬ A 0 7 = 0 ∧ st_z = ([(2, 0), (0, 0)], [], A)) ?_ 20 0 _ ?_
  · rintro pc st_z ⟨rfl, hn, rfl⟩
    exact oy_11 hS hT h5 hn _ 0 (Nat.lt_succ_self _) (by omega) (by omega) (fun d_z d0_z d1_z => by omega)
  · refine ⟨oX_0 z0 kk0 7 rfl, ?_⟩
    refine ⟨fun h_z => ?_, fun h_z => ?_⟩
    · exact ⟨rfl, h_z, rfl⟩
    · exact ⟨rfl, ⟨hS, hT, fun _ => rfl, fun _ => rfl, fun _ => rfl, fun _ _ _ => rfl, fun _ => rfl⟩, -1, rfl, Or.inl ⟨rfl, Or.inl h_z⟩⟩
