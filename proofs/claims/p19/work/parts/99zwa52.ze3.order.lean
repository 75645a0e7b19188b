section
/-! the class's order exactly -/
theorem StE.of {A B : pm_A} (h : StE A) (hB : gH wX B) (e0 : ∀ j_z : Int, j_z = 0 ∨ j_z = 2 ∨ j_z = 3 ∨ j_z = 5 ∨ j_z = 8 ∨ j_z = 9 → B 0 j_z = A 0 j_z) (e1 : ∀ g_z j_z : Int, 0 ≤ g_z → wX.2 g_z = 1 → j_z = 2 ∨ j_z = 3 ∨ j_z = 4 → B g_z j_z = A g_z j_z) (e2 : ∀ q_z j_z : Int, 0 ≤ q_z → wX.2 q_z = 2 → j_z = 2 ∨ j_z = 3 → B q_z j_z = A q_z j_z) (e28 : ∀ j_z : Int, 0 ≤ j_z ∧ j_z ≤ 6 → B 28 j_z = A 28 j_z) (e72 : B 72 0 = A 72 0 ∧ B 72 8 = A 72 8) (e4 : ∀ j_z : Int, 0 ≤ j_z → B 4 j_z = A 4 j_z) (e52 : ∀ j_z : Int, 0 ≤ j_z → B 52 j_z = A 52 j_z) (e73 : ∀ j_z : Int, 0 ≤ j_z → B 73 j_z = A 73 j_z) (e82 : ∀ j_z : Int, 0 ≤ j_z → j_z < 6 → 72 < B 82 j_z) (e47 : ∀ j_z : Int, 0 ≤ j_z → B 47 j_z = A 47 j_z) (eK : ∀ k_z j_z : Int, 0 ≤ k_z → k_z < 4 → 0 ≤ j_z → B (423 + 23 * k_z) j_z = A (423 + 23 * k_z) j_z) : StE B := by
  obtain ⟨hA, ⟨⟨a1_z, a2, a3, a4, a5, a6, a7, a8, a9, a10, a11⟩, b_z, c_z, d_z, e_z⟩, ⟨⟨m1_z, m2_z, m3_z, m4_z, m7_z⟩, m5_z, m6_z, m8_z⟩⟩ := h
  have hpc : ∀ i_z : Int, 0 ≤ i_z → i_z ≤ 12 → pc B i_z = pc A i_z := fun i_z i0_z i1_z => by
    unfold pc
    by_cases q_z : i_z < 6
    · rw [if_pos q_z, if_pos q_z, e4 i_z i0_z]
    · rw [if_neg q_z, if_neg q_z]
      by_cases q2_z : i_z < 12
      · rw [if_pos q2_z, if_pos q2_z, e52 _ (by omega)]
      · rw [if_neg q2_z, if_neg q2_z, e28 0 (by omega)]
  refine ⟨hB, ⟨⟨by rw [e0 0 (by omega)]; exact a1_z, by rw [e0 2 (by omega)]; exact a2, by rw [e0 8 (by omega)]; exact a3, by rw [e0 9 (by omega)]; exact a4, by rw [e1 1 4 (by omega) kk1 (by omega)]; exact a5, by rw [e1 49 4 (by omega) kk49 (by omega)]; exact a6, by rw [e72.2]; exact a7, by rw [e72.1]; exact a8, by rw [e1 79 4 (by omega) kk79 (by omega)]; exact a9, by rw [e28 1 (by omega)]; exact a10, by rw [e28 2 (by omega)]; exact a11⟩, fun q_z q0 qk => by rw [e2 q_z 2 q0 qk (by omega)]; exact b_z q_z q0 qk, fun x_z x0_z x1_z => by rw [e73 x_z x0_z]; exact c_z x_z x0_z x1_z, e82, pool_eq hpc e_z⟩, ⟨⟨by rw [e28 3 (by omega)]; exact m1_z, by rw [e28 4 (by omega)]; exact m2_z, by rw [e28 5 (by omega)]; exact m3_z, by rw [e28 6 (by omega)]; exact m4_z, by rw [e0 3 (by omega)]; exact m7_z⟩, fun q_z q0 qk => by rw [e2 q_z 3 q0 qk (by omega)]; exact m5_z q_z q0 qk, fun i_z i0_z i1_z => by rw [hpc i_z i0_z i1_z]; exact m6_z i_z i0_z i1_z, ⟨fun g_z g0 gk => ?_, ?_, fun k_z k0_z k1_z => ?_, fun k_z i_z k0_z k1_z i0_z i1_z => ?_⟩⟩⟩
  · rw [e1 g_z 2 g0 gk (by omega), e1 g_z 3 g0 gk (by omega), e1 g_z 4 g0 gk (by omega)]; exact m8_z.1 g_z g0 gk
  · rw [e0 5 (by omega)]; exact m8_z.2.1
  · rw [e47 k_z k0_z]; exact m8_z.2.2.1 k_z k0_z k1_z
  · rw [eK k_z i_z k0_z k1_z i0_z]; exact m8_z.2.2.2 k_z i_z k0_z k1_z i0_z i1_z
theorem tzF.st {A B : pm_A} {g : Int} (h : tzF A B g) (hS : StE A) (t5 : wX.2 (A g 5) = 13) : StE B :=
  hS.of h.1 (fun j_z _ => h.ce t5 kk0 (by decide) j_z) (fun c_z j_z _ ck _ => h.ce t5 ck (by decide) j_z) (fun c_z j_z _ ck _ => h.ce t5 ck (by decide) j_z) (fun j_z _ => h.ce t5 kk28 (by decide) j_z) ⟨h.ce t5 kk72 (by decide) 0, h.ce t5 kk72 (by decide) 8⟩ (fun j_z _ => h.ce t5 kk4 (by decide) j_z) (fun j_z _ => h.ce t5 kk52 (by decide) j_z) (fun j_z _ => h.ce t5 kk73 (by decide) j_z) (fun j_z j0 j1 => by rw [h.ce t5 kk82 (by decide) j_z]; exact hS.2.1.2.2.2.1 j_z j0 j1) (fun j_z _ => h.ce t5 kk47 (by decide) j_z) (fun k_z j_z k0_z k1_z _ => h.ce t5 (kkK k0_z k1_z) (by decide) j_z)
theorem tzF.tr {s : cx_Sd 12} {ks : List (Fin 12)} {A B : pm_A} {g c : Int} (h : tzF A B g) (hT : TrX s ks A c) (t5 : wX.2 (A g 5) = 13) : TrX s ks B c := by
  have hc_z := hT.2.1
  have p6_z := fX_1_0 hT.1 hc_z.1 hc_z.2
  have t2_z := fX_1_2 hT.1 hc_z.1 hc_z.2
  have l4 := fX_1_4 hT.1 hc_z.1 hc_z.2
  refine hT.cong h.1 (h.ce t5 hc_z.2 (by decide)) (h.ce t5 t2_z.2 (by decide)) (h.ce t5 l4.2 (by decide)) (fun i_z i0_z i1_z => ?_)
  exact h.sm hT.1 t5 (eX_12 hT.1 l4.1 l4.2 i0_z (show i_z < 6 by omega))
def rpt (L : List (Fin 12)) : Nat → List (Fin 12)
  | 0 => []
  | n_z + 1 => rpt L n_z ++ L
def ordA (s : cx_Sd 12) (ks L : List (Fin 12)) (W P : Int) : Nat → Nat → Int → Prop
  | 0, _, z_z => z_z = -2
  | m_z + 1, n_z, z_z => (¬ wkS s W P (ks ++ rpt L n_z) L ∧ z_z = -2) ∨ (wkS s W P (ks ++ rpt L n_z) L ∧ smS s (ks ++ rpt L (n_z + 1)) s ks W P ∧ z_z = (n_z : Int) + 1) ∨ (wkS s W P (ks ++ rpt L n_z) L ∧ ¬ smS s (ks ++ rpt L (n_z + 1)) s ks W P ∧ ordA s ks L W P m_z (n_z + 1) z_z)
theorem ordA_u {s : cx_Sd 12} {ks L : List (Fin 12)} {W P : Int} : ∀ {m_z n_z : Nat} {y_z z_z : Int}, ordA s ks L W P m_z n_z y_z → ordA s ks L W P m_z n_z z_z → y_z = z_z
  | 0, _, y_z, z_z, h1, h2 => by
    have h1 : y_z = -2 := h1
    have h2 : z_z = -2 := h2
    omega
  | m_z + 1, n_z, y_z, z_z, h1, h2 => by
    rcases h1 with ⟨a1_z, a2⟩ | ⟨a1_z, a2, a3⟩ | ⟨a1_z, a2, a3⟩
    · rcases h2 with ⟨b1, b2⟩ | ⟨b1, b2, b3⟩ | ⟨b1, b2, b3⟩
      · omega
      · exact absurd b1 a1_z
      · exact absurd b1 a1_z
    · rcases h2 with ⟨b1, b2⟩ | ⟨b1, b2, b3⟩ | ⟨b1, b2, b3⟩
      · exact absurd a1_z b1
      · omega
      · exact absurd a2 b2
    · rcases h2 with ⟨b1, b2⟩ | ⟨b1, b2, b3⟩ | ⟨b1, b2, b3⟩
      · exact absurd a1_z b1
      · exact absurd b2 a2
      · exact ordA_u a3 b3
def orZ (s : cx_Sd 12) (ks : List (Fin 12)) (R : Int → Int) (n W P : Int) (z : Int) : Prop := (z = -1 ∧ (n = 0 ∨ ∃ i_z : Int, 0 ≤ i_z ∧ i_z < n ∧ ¬ R i_z < P)) ∨ (¬ n = 0 ∧ (∀ i_z : Int, 0 ≤ i_z → i_z < n → R i_z < P) ∧ ∀ L_z, rwL R n L_z → ordA s ks L_z W P 40 0 z)
def orF (s : cx_Sd 12) (ks : List (Fin 12)) (A B : pm_A) : Prop := StE B ∧ TrX s ks B 1 ∧ (∀ j_z : Int, B 0 j_z = A 0 j_z) ∧ (∀ j_z : Int, B 46 j_z = A 46 j_z) ∧ (∀ j_z : Int, B 1 j_z = A 1 j_z) ∧ (∀ r_z j_z : Int, 100 ≤ r_z → B r_z j_z = A r_z j_z) ∧ ∀ j_z : Int, B 3 j_z = A 3 j_z
def orP (s : cx_Sd 12) (ks : List (Fin 12)) (A : pm_A) (r : pm_R) : Prop := orF s ks A r.2 ∧ ∃ z_z, r.1 = some (0, z_z) ∧ orZ s ks (A (A 0 6)) (A 0 7) (bgW A 1) (A 1 0) z_z
theorem or_sm {s : cx_Sd 12} {ks ls : List (Fin 12)} {A : pm_A} (h49 : TrX s ls A 49) (h1 : TrX s ks A 1) (e0 : A 49 0 = A 1 0) (e1 : A 49 1 = A 1 1) : saX A 49 1 ↔ smS s ls s ks (bgW A 1) (A 1 0) := by
  rw [sm_iff h49 h1]
  have eW : bgW A 49 = bgW A 1 := by unfold bgW; rw [e0, e1]
  rw [eW, e0]
  exact ⟨fun q_z => q_z.2, fun q_z => ⟨⟨rfl, e1⟩, q_z⟩⟩
theorem oy_53 {s : cx_Sd 12} {ks L : List (Fin 12)} {A : pm_A} (hr : 0 ≤ A 0 6 ∧ wX.2 (A 0 6) = 21) (hL : rwL (A (A 0 6)) (A 0 7) L) (hP : ∀ f_z ∈ L, (f_z.1 : Int) < A 49 0) (h5 : A 49 5 = 53) (e0 : A 49 0 = A 1 0) (e1 : A 49 1 = A 1 1) : ∀ (m_z n_z : Nat) (B_z : pm_A), m_z + n_z = 40 → wvF s ks A B_z → TrX s (ks ++ rpt L n_z) B_z 49 → Tm pmt (an_sh wX) o_X9_order 53 ([(2, 0), (0, (n_z : Int) + 1)], [], B_z) (fun r_z => wvF s ks A r_z.2 ∧ ∃ z_z, r_z.1 = some (0, z_z) ∧ ordA s ks L (bgW A 1) (A 1 0) m_z n_z z_z) := by
  have eW : bgW A 49 = bgW A 1 := by unfold bgW; rw [e0, e1]
  intro m_z
  induction m_z with
  | zero =>
    intro n_z B_z hn hI hT_z
    refine wq_ok srt_order (fr := []) (cuts := []) (J := fun _ _ => False) (fun _ _ h_z => h_z.elim) 20 53 _ ?_
    refine ⟨fun h_z => ?_, fun h_z => ?_⟩
    · exact ⟨rfl, hI, -2, rfl, rfl⟩
    · exact absurd h_z (by omega)
  | succ m_z ih_z =>
    intro n_z B_z hn hI hT_z
    refine wq_ok srt_order (fr := []) (cuts := [69]) (J := fun pc st_z => pc = 69 ∧ wkS s (bgW A 49) (A 49 0) (ks ++ rpt L n_z) L ∧ ∃ C_z, wvF s ks A C_z ∧ TrX s (ks ++ rpt L n_z ++ L) C_z 49 ∧ st_z = ([(2, 0), (0, (n_z : Int) + 1)], [], C_z)) ?_ 20 53 _ ?_
    · rintro pc st_z ⟨rfl, hw, C_z, hC, hTC, rfl⟩
      rw [eW, e0] at hw
      rw [List.append_assoc] at hTC
      have hTC2 : TrX s (ks ++ rpt L (n_z + 1)) C_z 49 := hTC
      have c0_z : C_z 49 0 = C_z 1 0 := by rw [hC.2.2.2.2.2.2.1 0, hC.2.2.2.2.1 0]; exact e0
      have c1_z : C_z 49 1 = C_z 1 1 := by rw [hC.2.2.2.2.2.2.1 1, hC.2.2.2.2.1 1]; exact e1
      have hsm := or_sm hTC2 hC.2.1 c0_z c1_z
      have cW : bgW C_z 1 = bgW A 1 := by unfold bgW; rw [hC.2.2.2.2.1 0, hC.2.2.2.2.1 1]
      rw [cW, hC.2.2.2.2.1 0] at hsm
      have a0_z := hC.1.2.1.1.1
      have a8 := hC.1.2.1.1.2.2.1
      have c5_z : C_z 49 5 = 53 := by rw [hC.2.2.2.2.2.2.1 5]; exact h5
      have t5_z := (fX_1_5 hC.1.1 (r := 49) (by omega) kk49).2
      have hkeep : ∀ D_z, tzF C_z D_z 49 → wvF s ks A D_z ∧ TrX s (ks ++ rpt L (n_z + 1)) D_z 49 := fun D_z hD => by
        obtain ⟨y1, y2, y4, y5, y6, y7, y8, y9, y3⟩ := hC
        refine ⟨⟨hD.st y1 t5_z, hD.tr y2 t5_z, fun j_z => ?_, fun j_z => ?_, fun j_z => ?_, fun j_z => ?_, fun j_z => ?_, fun r_z j_z hr2 => ?_, fun j_z => ?_⟩, hD.tr hTC2 t5_z⟩
        · rw [hD.ce t5_z kk0 (by decide)]; exact y4 j_z
        · rw [hD.ce t5_z kk46 (by decide)]; exact y5 j_z
        · rw [hD.ce t5_z kk1 (by decide)]; exact y6 j_z
        · rw [hD.ce t5_z hr.2 (by decide)]; exact y7 j_z
        · rw [hD.ce t5_z kk49 (by decide)]; exact y8 j_z
        · rw [hD.2 r_z j_z (by omega)]; exact y9 r_z j_z hr2
        · rw [hD.ce t5_z kk3 (by decide)]; exact y3 j_z
      refine wq_ok srt_order (fr := []) (cuts := [53]) (J := fun pc st_z => pc = 53 ∧ ¬ smS s (ks ++ rpt L (n_z + 1)) s ks (bgW A 1) (A 1 0) ∧ ∃ D_z, tzF C_z D_z 49 ∧ st_z = ([(2, 0), (0, (n_z : Int) + 1 + 1)], [], D_z)) ?_ 20 69 _ ?_
      · rintro pc st_z ⟨rfl, hns, D_z, hD, rfl⟩
        have h1 := hkeep D_z hD
        have e2 : ((n_z : Int) + 1 + 1) = (((n_z + 1 : Nat)) : Int) + 1 := by omega
        rw [e2]
        obtain ⟨k_z, r_z, hk, hrr⟩ := ih_z (n_z + 1) D_z (by omega) h1.1 h1.2
        exact ⟨k_z, r_z, hk, hrr.1, by obtain ⟨z_z, hz, ho⟩ := hrr.2; exact ⟨z_z, hz, Or.inr (Or.inr ⟨hw, hns, ho⟩)⟩⟩
      · refine ⟨oX_0 z0 kk0 8 rfl, ?_⟩
        refine ⟨oX_0 z0 kk0 0 rfl, ?_⟩
        refine ⟨rX_1 (r := C_z 0 8) (by rw [a8]; omega) (by rw [a8]; exact kk49), ?_⟩
        show Cl pmt (an_sh wX) 70 [(2, C_z 0 8), (2, C_z 0 0)] C_z _
        rw [a8, a0_z]
        refine (isSameAs_ex hC.1.1 ⟨by omega, kk49⟩ ⟨by omega, kk1⟩).imp ?_
        rintro ⟨r1_z, D_z⟩ ⟨hD, hrr⟩
        simp only at hD hrr
        rcases hrr with ⟨rfl, hy⟩ | ⟨rfl, hy⟩
        · refine ⟨fun hh => absurd hh (by decide), fun _ => ?_⟩
          exact ⟨rfl, (hkeep D_z hD).1, _, rfl, Or.inr (Or.inl ⟨hw, hsm.1 hy, rfl⟩)⟩
        · refine ⟨fun _ => ?_, fun hh => absurd rfl hh⟩
          refine ⟨⟨by omega, by omega⟩, ?_⟩
          exact ⟨rfl, fun q_z => hy (hsm.2 q_z), D_z, hD, rfl⟩
    · refine ⟨fun h_z => ?_, fun h_z => ?_⟩
      · exact absurd h_z (by omega)
      · refine ⟨rX_0 z0 kk0, ?_⟩
        refine (walkRow_exY hr hL hP hI hT_z).imp ?_
        rintro ⟨r1_z, C_z⟩ ⟨hC, hrr⟩
        simp only at hC hrr
        rcases hrr with ⟨rfl, hno⟩ | ⟨rfl, hw, hTC⟩
        · rw [eW, e0] at hno
          refine ⟨fun hh => absurd rfl hh, fun _ => ?_⟩
          exact ⟨rfl, hC, -2, rfl, Or.inl ⟨hno, rfl⟩⟩
        · refine ⟨fun _ => ?_, fun hh => absurd hh (by decide)⟩
          exact ⟨rfl, hw, C_z, hC, hTC, rfl⟩
theorem StE.walkH {A : pm_A} (hS : StE A) : scH A 49 1 := by
  have hA := hS.1
  have m8_z := hS.2.2.2.2.2
  refine ⟨hA, ⟨⟨by omega, kk49⟩, by omega, kk1⟩, by omega, fun c_z c0_z ck => m8_z.1 c_z c0_z ck, fun a_z a0_z ak => ⟨hS.2.1.2.1 a_z a0_z ak, hS.2.2.2.1 a_z a0_z ak⟩, fun i_z j_z i0_z i1_z j0 j1 => ?_, fun i_z j_z i0_z i1_z j0 j1 hij => ?_⟩
  · have h1 := hS.2.1.2.2.2.2.2 (6 + i_z) j_z (by omega) (by omega) (by omega) (by omega) (by omega)
    rw [own_pc own49 i0_z (by omega)] at h1
    have h2 := own_pc (A := A) own1 j0 (show j_z ≤ 5 by omega)
    rw [Int.zero_add] at h2
    rw [h2] at h1
    exact h1
  · have h1 := hS.2.1.2.2.2.2.2 (6 + i_z) (6 + j_z) (by omega) (by omega) (by omega) (by omega) (by omega)
    rw [own_pc own49 i0_z (by omega), own_pc own49 j0 (by omega)] at h1
    exact h1
theorem scF.hi {A B : pm_A} (hS : StE A) (hF : scF A B 49) {r : Int} (hr : 100 ≤ r) (j : Int) : B r j = A r j := by
  refine hF.2.1 r j (by omega) (by omega) (by omega) (fun n_z n0_z n1_z => ?_)
  have h1 := (hS.2.1.2.2.2.2.1 (6 + n_z) (by omega) (by omega)).1
  rw [own_pc own49 n0_z (by omega)] at h1
  have h1 : A 52 n_z < 72 := h1
  show ¬ r = A 52 n_z ∧ ¬ r = A 52 n_z + 1 ∧ ¬ r = A 52 n_z + 2
  omega
theorem oy_40 {s : cx_Sd 12} {ks : List (Fin 12)} {A : pm_A} {i : Int} (hS : StE A) (hT : TrX s ks A 1) (h5 : A 49 5 = 53) (hn : ¬ A 0 7 = 0) (hrow : ∀ i : Int, 0 ≤ i → i < A 0 7 → A (A 0 6) i < A 1 0) : Tm pmt (an_sh wX) o_X9_order 40 ([(2, 0), (0, i)], [], A) (orP s ks A) := by
  have a0_z := hS.2.1.1.1
  have a8 := hS.2.1.1.2.2.1
  have r0 := fX_0_6 hS.1 z0 kk0
  have n0_z := fX_0_7 hS.1 z0 kk0
  have p6_z := fX_1_0 hS.1 (r := 1) (by omega) kk1
  have hH := hS.walkH
  refine wq_ok srt_order (fr := []) (cuts := [53]) (J := fun pc st_z => pc = 53 ∧ ∃ D_z, scP A 49 1 (none, D_z) ∧ st_z = ([(2, 0), (0, 1)], [], D_z)) ?_ 20 40 _ ?_
  · rintro pc st_z ⟨rfl, D_z, hD, rfl⟩
    have hTD := scP.tr hH hT hD
    obtain ⟨_, hF, ⟨d0_z, d1_z⟩, _⟩ := hD
    simp only at hF d0_z d1_z
    have hl : ∀ i j_z : Int, 0 ≤ i → i < 6 → 0 ≤ j_z → j_z < 6 → ¬ A (49 + 3) i = A (1 + 3) j_z := hH.2.2.2.2.2.1
    have hSD := hS.sc hH hF
    have hT1 := hT.sc hH hF (by omega) hl
    have d49_z : ∀ j_z : Int, ¬ j_z = 0 → ¬ j_z = 1 → D_z 49 j_z = A 49 j_z := fun j_z j1 j2_z => hF.no hH kk49 (Or.inr ⟨j1, j2_z⟩) (by omega) (by omega) (by decide) (by decide) (by decide)
    have dc : ∀ {r_z : Int} {l : Nat}, wX.2 r_z = l → ¬ r_z = 49 → ¬ r_z = 50 → ¬ r_z = 51 → ¬ l = 2 → ¬ l = 14 → ¬ l = 15 → ∀ j_z : Int, D_z r_z j_z = A r_z j_z := fun hr h1 h2 h3 n1_z n2_z n3_z j_z => hF.no hH hr (Or.inl h1) (by omega) (by omega) n1_z n2_z n3_z
    have D0 := dc kk0 (by omega) (by omega) (by omega) (by decide) (by decide) (by decide)
    have D46 := dc kk46 (by omega) (by omega) (by omega) (by decide) (by decide) (by decide)
    have D1 := dc kk1 (by omega) (by omega) (by omega) (by decide) (by decide) (by decide)
    have D3 := dc kk3 (by omega) (by omega) (by omega) (by decide) (by decide) (by decide)
    have DR := dc r0.2 (knd r0.2 kk49 (by decide)) (by
      have t2_z := fX_1_2 hS.1 (r := 49) (by omega) kk49
      rw [(hS.2.2.2.2.2.1 49 (by omega) kk49).1] at t2_z
      exact knd r0.2 t2_z.2 (by decide)) (by
      have t2_z := fX_1_3 hS.1 (r := 49) (by omega) kk49
      rw [(hS.2.2.2.2.2.1 49 (by omega) kk49).2.1] at t2_z
      exact knd r0.2 t2_z.2 (by decide)) (by decide) (by decide) (by decide)
    have hi_z : ∀ r_z j_z : Int, 100 ≤ r_z → D_z r_z j_z = A r_z j_z := fun r_z j_z hr => hF.hi hS hr j_z
    obtain ⟨L_z, hL⟩ := rwL_ex (R := A (A 0 6)) (n := A 0 7) n0_z.1 (fun i i0_z i1_z => by
      have h1 := eX_21 hS.1 r0.1 r0.2 i0_z (show i < 12 by omega)
      omega)
    have hLD : rwL (D_z (D_z 0 6)) (D_z 0 7) L_z := by
      rw [D0 6, D0 7]
      exact rwL_c hL (fun i _ _ => DR i)
    have hm_z := rwL_m hL (fun i i0_z i1_z => hrow i i0_z i1_z)
    have hself : wvF s ks D_z D_z := ⟨hSD, hT1, fun _ => rfl, fun _ => rfl, fun _ => rfl, fun _ => rfl, fun _ => rfl, fun _ _ _ => rfl, fun _ => rfl⟩
    obtain ⟨k_z, r_z, hk, hrr⟩ := oy_53 (A := D_z) (by rw [D0 6]; exact r0) hLD (fun f_z hf => by rw [d0_z]; exact hm_z f_z hf) (by rw [d49_z 5 (by omega) (by omega)]; exact h5) (by rw [d0_z, D1 0]) (by rw [d1_z, D1 1]) 40 0 D_z (by omega) hself (by show TrX s (ks ++ []) D_z 49; rw [List.append_nil]; exact hTD)
    have e01 : ((0 : Nat) : Int) + 1 = 1 := by omega
    rw [e01] at hk
    obtain ⟨hw, z_z, hz, ho⟩ := hrr
    obtain ⟨w1_z, w2_z, w4_z, w5, w6_z, w7_z, w8, w9, w3_z⟩ := hw
    refine ⟨k_z, r_z, hk, ⟨w1_z, w2_z, fun j_z => (w4_z j_z).trans (D0 j_z), fun j_z => (w5 j_z).trans (D46 j_z), fun j_z => (w6_z j_z).trans (D1 j_z), fun r_z j_z hr => (w9 r_z j_z hr).trans (hi_z r_z j_z hr), fun j_z => (w3_z j_z).trans (D3 j_z)⟩, z_z, hz, Or.inr ⟨hn, hrow, fun L' hL' => ?_⟩⟩
    have eL : L' = L_z := by
      refine List.ext_getElem? (fun i => ?_)
      have g1 := hL.1
      have g2 := hL'.1
      by_cases hi_z : i < L_z.length
      · have q1_z : L_z[i]? = some L_z[i] := List.getElem?_eq_getElem hi_z
        have q2_z : L'[i]? = some (L'[i]'(by omega)) := List.getElem?_eq_getElem (by omega)
        have q3_z := hL.2 i _ q1_z
        have q4_z := hL'.2 i _ q2_z
        rw [q1_z, q2_z]
        refine congrArg some (Fin.ext ?_)
        omega
      · rw [List.getElem?_eq_none (by omega), List.getElem?_eq_none (by omega)]
    rw [eL]
    have cW : bgW D_z 1 = bgW A 1 := by unfold bgW; rw [D1 0, D1 1]
    rw [cW, D1 0] at ho
    exact ho
  · refine ⟨oX_0 z0 kk0 8 rfl, ?_⟩
    refine ⟨oX_0 z0 kk0 0 rfl, ?_⟩
    refine ⟨rX_1 (r := A 0 8) (by rw [a8]; omega) (by rw [a8]; exact kk49), ?_⟩
    show Cl pmt (an_sh wX) 67 [(2, A 0 8), (2, A 0 0)] A _
    rw [a8, a0_z]
    refine (copySeed_ex hH).imp ?_
    rintro ⟨r1_z, D_z⟩ hD
    have hr1 : r1_z = none := hD.1
    subst hr1
    exact ⟨rfl, D_z, hD, rfl⟩
theorem oy_11 {s : cx_Sd 12} {ks : List (Fin 12)} {A : pm_A} (hS : StE A) (hT : TrX s ks A 1) (h5 : A 49 5 = 53) (hn : ¬ A 0 7 = 0) : ∀ (m_z : Nat) (i_z : Int), (12 - i_z).toNat < m_z → 0 ≤ i_z → i_z ≤ A 0 7 → (∀ d_z : Int, 0 ≤ d_z → d_z < i_z → A (A 0 6) d_z < A 1 0) → Tm pmt (an_sh wX) o_X9_order 11 ([(2, 0), (0, i_z)], [], A) (orP s ks A) := by
  have r0 := fX_0_6 hS.1 z0 kk0
  have n0_z := fX_0_7 hS.1 z0 kk0
  intro m_z
  induction m_z with
  | zero => intro i_z h_z; omega
  | succ m_z ih_z =>
    intro i_z hm_z i0_z i1_z hd_z
    refine wq_ok srt_order (fr := []) (cuts := [11, 40]) (J := fun pc st_z => (pc = 40 ∧ i_z = A 0 7 ∧ st_z = ([(2, 0), (0, i_z)], [], A)) ∨ (pc = 11 ∧ (i_z < A 0 7 ∧ A (A 0 6) i_z < A 1 0) ∧ st_z = ([(2, 0), (0, i_z + 1)], [], A))) ?_ 20 11 _ ?_
    · rintro pc st_z (⟨rfl, hi_z, rfl⟩ | ⟨rfl, hi_z, rfl⟩)
      · exact oy_40 hS hT h5 hn (fun d_z d0_z d1_z => hd_z d_z d0_z (by omega))
      · refine ih_z (i_z + 1) (by omega) (by omega) (by omega) (fun d_z d0_z d1_z => ?_)
        by_cases e_z : d_z = i_z
        · rw [e_z]; exact hi_z.2
        · exact hd_z d_z d0_z (by omega)
    · refine ⟨oX_0 z0 kk0 7 rfl, ?_⟩
      refine ⟨fun h_z => Or.inl ⟨rfl, by omega, rfl⟩, fun h_z => ?_⟩
      have e0_z := eX_21 hS.1 r0.1 r0.2 i0_z (show i_z < 12 by omega)
      refine ⟨oX_0 z0 kk0 6 rfl, ?_⟩
      refine ⟨aX_21 r0.1 r0.2 i0_z (by omega), ?_⟩
      refine ⟨rX_0 z0 kk0, ?_⟩
      refine (isPlace_ex hS (k := A (A 0 6) i_z) ⟨by omega, by omega⟩).imp ?_
      rintro ⟨r1_z, C_z⟩ ⟨hC, hr⟩
      simp only at hC hr
      subst hC
      rcases hr with ⟨rfl, _, hlt⟩ | ⟨rfl, hge⟩
      · refine ⟨fun _ => ?_, fun hh => absurd hh (by decide)⟩
        refine ⟨⟨by omega, by omega⟩, ?_⟩
        exact Or.inr ⟨rfl, ⟨h_z, hlt⟩, rfl⟩
      · refine ⟨fun hh => absurd rfl hh, fun _ => ?_⟩
        exact ⟨rfl, ⟨hS, hT, fun _ => rfl, fun _ => rfl, fun _ => rfl, fun _ _ _ => rfl, fun _ => rfl⟩, -1, rfl, Or.inl ⟨rfl, Or.inr ⟨i_z, i0_z, h_z, fun q_z => hge ⟨e0_z.1, q_z⟩⟩⟩⟩
theorem xorder_ex {s : cx_Sd 12} {ks : List (Fin 12)} {A : pm_A} (hS : StE A) (hT : TrX s ks A 1) (h5 : A 49 5 = 53) : Cl pmt (an_sh wX) 102 [(2, 0)] A (orP s ks A) := by
  have n0_z := fX_0_7 hS.1 z0 kk0
  refine Cl.of (Nat.le_of_ble_eq_true rfl) ?_
  refine wq_ok (full := o_X9_order) srt_order (fr := []) (cuts := [11]) (J := fun pc st_z => pc = 11 ∧ ¬ A 0 7 = 0 ∧ st_z = ([(2, 0), (0, 0)], [], A)) ?_ 20 0 _ ?_
  · rintro pc st_z ⟨rfl, hn, rfl⟩
    exact oy_11 hS hT h5 hn _ 0 (Nat.lt_succ_self _) (by omega) (by omega) (fun d_z d0_z d1_z => by omega)
  · refine ⟨oX_0 z0 kk0 7 rfl, ?_⟩
    refine ⟨fun h_z => ?_, fun h_z => ?_⟩
    · exact ⟨rfl, h_z, rfl⟩
    · exact ⟨rfl, ⟨hS, hT, fun _ => rfl, fun _ => rfl, fun _ => rfl, fun _ _ _ => rfl, fun _ => rfl⟩, -1, rfl, Or.inl ⟨rfl, Or.inl h_z⟩⟩
end

section
/-! seeds that are the same but for the order of their places turn alike -/
theorem mol_perm {l l' : List (Fin 12)} (h : l.Perm l') (v : Fin 12 → Rat) (a : Fin 12 → Int) : cr_mol l v a = cr_mol l' v a := by
  induction h with
  | nil => rfl
  | cons x_z _ ih_z => rw [cr_mol_cons, cr_mol_cons, ih_z]
  | swap x_z y_z l =>
    rw [cr_mol_cons, cr_mol_cons, cr_mol_cons, cr_mol_cons]
    grind
  | trans _ _ h1 h2 => exact h1.trans h2
theorem mol_map (f : Fin 12 → Fin 12) (v : Fin 12 → Rat) (a : Fin 12 → Int) : ∀ l : List (Fin 12), cr_mol (l.map f) v a = cr_mol l (fun i_z => v (f i_z)) (fun i_z => a (f i_z))
  | [] => rfl
  | x_z :: l => by
    rw [List.map_cons, cr_mol_cons, cr_mol_cons, mol_map f v a l]
theorem fin_nd : (List.finRange 12).Nodup := by decide
theorem fin_surj {f : Fin 12 → Fin 12} (inj : ∀ i_z j_z, f i_z = f j_z → i_z = j_z) (x : Fin 12) : ∃ i_z, f i_z = x := by
  refine Classical.byContradiction (fun hn => ?_)
  have hl := cr_len ((List.finRange 12).map f) ((List.finRange 12).erase x) (by
    rw [List.nodup_iff_pairwise_ne, List.pairwise_map]
    exact (List.nodup_iff_pairwise_ne.1 fin_nd).imp (fun {a_z b_z} hne e_z => hne (inj a_z b_z e_z))) (fun y_z hy => by
    obtain ⟨i_z, _, rfl⟩ := List.mem_map.1 hy
    exact (List.mem_erase_of_ne (fun e_z => hn ⟨i_z, e_z⟩)).2 (List.mem_finRange _))
  rw [List.length_map, List.length_finRange, List.length_erase_of_mem (List.mem_finRange x), List.length_finRange] at hl
  omega
theorem mo_perm {f : Fin 12 → Fin 12} (inj : ∀ i_z j_z, f i_z = f j_z → i_z = j_z) (v : Fin 12 → Rat) (a : Fin 12 → Int) : cr_mo (fun i_z => v (f i_z)) (fun i_z => a (f i_z)) = cr_mo v a := by
  show cr_mol (List.finRange 12) (fun i_z => v (f i_z)) (fun i_z => a (f i_z)) = cr_mol (List.finRange 12) v a
  rw [← mol_map]
  refine mol_perm ?_ v a
  refine (List.perm_ext_iff_of_nodup ?_ fin_nd).2 (fun x_z => ⟨fun _ => List.mem_finRange x_z, fun _ => ?_⟩)
  · rw [List.nodup_iff_pairwise_ne, List.pairwise_map]
    exact (List.nodup_iff_pairwise_ne.1 fin_nd).imp (fun {a b_z} hne e_z => hne (inj a b_z e_z))
  · obtain ⟨i_z, hi_z⟩ := fin_surj inj x_z
    exact List.mem_map.2 ⟨i_z, List.mem_finRange i_z, hi_z⟩
def sxT (s : cx_Sd 12) (ls : List (Fin 12)) (s' : cx_Sd 12) (ks : List (Fin 12)) (W P : Int) (f : Fin 12 → Fin 12) : Prop := (∀ i_z : Fin 12, (i_z.1 : Int) < P → ((f i_z).1 : Int) < P) ∧ (∀ i_z : Fin 12, ¬ (i_z.1 : Int) < P → f i_z = i_z) ∧ (∀ i_z : Fin 12, (i_z.1 : Int) < P → ∀ x_z, (cr_gp s'.b ks x_z).1 (f i_z) = (cr_gp s.b ls x_z).1 i_z) ∧ ∀ i_z j_z : Fin 12, (i_z.1 : Int) < W → (j_z.1 : Int) < P → cr_bs s.b ls i_z j_z = cr_bs s'.b ks (f i_z) (f j_z)
def sgm (P : Int) (S : Int → Int) (i : Fin 12) : Fin 12 := if (i.1 : Int) < P then ⟨(S (i.1 : Int)).toNat % 12, Nat.mod_lt _ (by omega)⟩ else i
theorem sgm_v {P : Int} {S : Int → Int} {i : Fin 12} (hi : (i.1 : Int) < P) (h0 : 0 ≤ S (i.1 : Int)) (h1 : S (i.1 : Int) < 12) : ((sgm P S i).1 : Int) = S (i.1 : Int) := by
  unfold sgm
  rw [if_pos hi]
  show (((S (i.1 : Int)).toNat % 12 : Nat) : Int) = S (i.1 : Int)
  rw [Nat.mod_eq_of_lt (by omega)]
  omega
theorem smS_T {s s' : cx_Sd 12} {ls ks : List (Fin 12)} {W P : Int} (h : smS s ls s' ks W P) : ∃ f_z, sxT s ls s' ks W P f_z := by
  obtain ⟨S_z, h1, h2⟩ := h
  have hv : ∀ i_z : Fin 12, (i_z.1 : Int) < P → ((sgm P S_z i_z).1 : Int) = S_z (i_z.1 : Int) ∧ S_z (i_z.1 : Int) < P := fun i_z hi_z => by
    obtain ⟨f_z, ⟨hf, hP⟩, _⟩ := h1 i_z hi_z
    have := f_z.2
    exact ⟨sgm_v hi_z (by omega) (by omega), by omega⟩
  have hn : ∀ i_z : Fin 12, ¬ (i_z.1 : Int) < P → sgm P S_z i_z = i_z := fun i_z hi_z => if_neg hi_z
  refine ⟨sgm P S_z, fun i_z hi_z => by have := hv i_z hi_z; omega, hn, fun i_z hi_z x_z => ?_, fun i_z j_z hi_z hj => ?_⟩
  · obtain ⟨f_z, ⟨hf, hP⟩, hx⟩ := h1 i_z hi_z
    have e_z : sgm P S_z i_z = f_z := Fin.ext (by have := (hv i_z hi_z).1; omega)
    rw [e_z]
    exact hx x_z
  · refine h2 i_z j_z (sgm P S_z i_z) (sgm P S_z j_z) hi_z hj ?_ (hv j_z hj).1
    unfold rwS
    by_cases q_z : (i_z.1 : Int) < P
    · rw [if_pos q_z]; exact (hv i_z q_z).1
    · rw [if_neg q_z, hn i_z q_z]
theorem smT_S {s s' : cx_Sd 12} {ls ks : List (Fin 12)} {W P : Int} {f : Fin 12 → Fin 12} (h : sxT s ls s' ks W P f) : smS s ls s' ks W P := by
  have hc_z : ∀ i_z : Fin 12, (if q_z : 0 ≤ (i_z.1 : Int) ∧ (i_z.1 : Int) < 12 then (((f ⟨((i_z.1 : Int)).toNat, by omega⟩).1 : Nat) : Int) else 0) = ((f i_z).1 : Int) := fun i_z => by
    have hi_z := i_z.2
    rw [dif_pos ⟨by omega, by omega⟩]
    have e_z : (⟨((i_z.1 : Int)).toNat, by omega⟩ : Fin 12) = i_z := Fin.ext (by show ((i_z.1 : Int)).toNat = i_z.1; omega)
    rw [e_z]
  refine ⟨fun z_z => if q_z : 0 ≤ z_z ∧ z_z < 12 then (((f ⟨z_z.toNat, by omega⟩).1 : Nat) : Int) else 0, fun i_z hi_z => ⟨f i_z, ⟨(hc_z i_z).symm, h.1 i_z hi_z⟩, h.2.2.1 i_z hi_z⟩, fun i_z j_z u_z v_z hi_z hj hu hv => ?_⟩
  have hv2 : (v_z.1 : Int) = ((f j_z).1 : Int) := hv.trans (hc_z j_z)
  have hu2 : (u_z.1 : Int) = ((f i_z).1 : Int) := by
    rw [hu]
    unfold rwS
    by_cases q_z : (i_z.1 : Int) < P
    · rw [if_pos q_z]; exact hc_z i_z
    · rw [if_neg q_z, h.2.1 i_z q_z]
  have e1 : u_z = f i_z := Fin.ext (by omega)
  have e2 : v_z = f j_z := Fin.ext (by omega)
  rw [e1, e2]
  exact h.2.2.2 i_z j_z hi_z hj
theorem sxT.inj {s s' : cx_Sd 12} {ls ks : List (Fin 12)} {W P : Int} {f : Fin 12 → Fin 12} (h : sxT s ls s' ks W P f) : ∀ i_z j_z, f i_z = f j_z → i_z = j_z := by
  intro i_z j_z e_z
  by_cases hi_z : (i_z.1 : Int) < P
  · by_cases hj : (j_z.1 : Int) < P
    · refine Classical.byContradiction (fun hn => gp_ne s ls hn (fun x_z => ?_))
      rw [← h.2.2.1 i_z hi_z x_z, ← h.2.2.1 j_z hj x_z, e_z]
    · have h1 := h.1 i_z hi_z
      rw [e_z, h.2.1 j_z hj] at h1
      exact absurd h1 hj
  · by_cases hj : (j_z.1 : Int) < P
    · have h1 := h.1 j_z hj
      rw [← e_z, h.2.1 i_z hi_z] at h1
      exact absurd h1 hi_z
    · rw [h.2.1 i_z hi_z, h.2.1 j_z hj] at e_z
      exact e_z
def pthP (p : List (Fin 12)) (P : Int) : Prop := ∀ k_z ∈ p, (k_z.1 : Int) < P
def zrw (s : cx_Sd 12) (p : List (Fin 12)) (W P : Int) : Prop := ∀ i_z j_z : Fin 12, W ≤ (i_z.1 : Int) → (j_z.1 : Int) < P → cr_bs s.b p i_z j_z = 0
theorem zrw_n {s : cx_Sd 12} {p : List (Fin 12)} {W P : Int} (h : zrw s p W P) {k : Fin 12} (hk : (k.1 : Int) < P) : zrw s (p ++ [k]) W P := fun i_z j_z hi_z hj => by
  rw [cr_bs_snoc]
  have z1 := h i_z j_z hi_z hj
  have z2 := h i_z k hi_z hk
  unfold cr_turnB
  rw [z1, z2]
  by_cases e_z : i_z = k ∨ j_z = k
  · rw [if_pos e_z]; rfl
  · rw [if_neg e_z]; show (0 : Int) + (((0 : Nat) : Int) * _ + 0 * _) = 0; rw [show ((0 : Nat) : Int) = 0 from rfl, Int.zero_mul, Int.zero_mul]; rfl
theorem pthP_n {p : List (Fin 12)} {P : Int} (h : pthP p P) {k : Fin 12} (hk : (k.1 : Int) < P) : pthP (p ++ [k]) P := fun q_z hq => by
  rcases List.mem_append.1 hq with e_z | e_z
  · exact h q_z e_z
  · have e2 : q_z = k := by simpa using e_z
    rw [e2]; exact hk
theorem sxT.all {s s' : cx_Sd 12} {ls ks : List (Fin 12)} {W P : Int} {f : Fin 12 → Fin 12} (h : sxT s ls s' ks W P f) (h1 : pthP ls P) (h2 : pthP ks P) (i : Fin 12) (x : cr_Pv 12) : (cr_gp s'.b ks x).1 (f i) = (cr_gp s.b ls x).1 i := by
  by_cases hi_z : (i.1 : Int) < P
  · exact h.2.2.1 i hi_z x
  · rw [h.2.1 i hi_z, cr_gp_ne ks s'.b x (fun q_z => hi_z (h2 i q_z)), cr_gp_ne ls s.b x (fun q_z => hi_z (h1 i q_z))]
theorem sxT.tb {s s' : cx_Sd 12} {ls ks : List (Fin 12)} {W P : Int} {f : Fin 12 → Fin 12} (h : sxT s ls s' ks W P f) (hWP : P ≤ W) (z1 : zrw s ls W P) (z2 : zrw s' ks W P) {i j : Fin 12} (hj : (j.1 : Int) < P) : cr_bs s.b ls i j = cr_bs s'.b ks (f i) (f j) := by
  by_cases hi_z : (i.1 : Int) < W
  · exact h.2.2.2 i j hi_z hj
  · have e_z := h.2.1 i (by omega)
    rw [z1 i j (by omega) hj, e_z, z2 i (f j) (by omega) (h.1 j hj)]
theorem sxT.P {s s' : cx_Sd 12} {ls ks : List (Fin 12)} {W P : Int} {f : Fin 12 → Fin 12} (h : sxT s ls s' ks W P f) (hWP : P ≤ W) (h1 : pthP ls P) (h2 : pthP ks P) (z1 : zrw s ls W P) (z2 : zrw s' ks W P) {k : Fin 12} (hk : (k.1 : Int) < P) (x : cr_Pv 12) : cr_P (cr_bs s'.b ks) (f k) (cr_gp s'.b ks x).1 = cr_P (cr_bs s.b ls) k (cr_gp s.b ls x).1 := by
  unfold cr_P
  rw [← mo_perm h.inj (cr_gp s'.b ks x).1 (fun i_z => (cx_pos (cr_bs s'.b ks i_z (f k)) : Int)), ← mo_perm h.inj (cr_gp s'.b ks x).1 (fun i_z => (cx_pos (- cr_bs s'.b ks i_z (f k)) : Int))]
  have e1 : (fun i_z => (cr_gp s'.b ks x).1 (f i_z)) = (cr_gp s.b ls x).1 := funext fun i_z => h.all h1 h2 i_z x
  have e2 : (fun i_z => (cx_pos (cr_bs s'.b ks (f i_z) (f k)) : Int)) = (fun i_z => (cx_pos (cr_bs s.b ls i_z k) : Int)) := funext fun i_z => by rw [h.tb hWP z1 z2 hk]
  have e3 : (fun i_z => (cx_pos (- cr_bs s'.b ks (f i_z) (f k)) : Int)) = (fun i_z => (cx_pos (- cr_bs s.b ls i_z k) : Int)) := funext fun i_z => by rw [h.tb hWP z1 z2 hk]
  rw [e1, e2, e3]
theorem sxT.step {s s' : cx_Sd 12} {ls ks : List (Fin 12)} {W P : Int} {f : Fin 12 → Fin 12} (h : sxT s ls s' ks W P f) (hWP : P ≤ W) (h1 : pthP ls P) (h2 : pthP ks P) (z1 : zrw s ls W P) (z2 : zrw s' ks W P) {k : Fin 12} (hk : (k.1 : Int) < P) : sxT s (ls ++ [k]) s' (ks ++ [f k]) W P f := by
  refine ⟨h.1, h.2.1, fun i_z hi_z x_z => ?_, fun i_z j_z hi_z hj => ?_⟩
  · rw [cr_gp_snoc, cr_gp_snoc]
    show cr_stepv (cr_bs s'.b ks) (f k) (cr_gp s'.b ks x_z).1 (f i_z) = cr_stepv (cr_bs s.b ls) k (cr_gp s.b ls x_z).1 i_z
    by_cases e_z : i_z = k
    · rw [e_z, cr_step_k, cr_step_k, h.P hWP h1 h2 z1 z2 hk x_z, h.all h1 h2 k x_z]
    · rw [cr_step_ne _ _ e_z, cr_step_ne _ _ (fun q_z => e_z (h.inj i_z k q_z)), h.all h1 h2 i_z x_z]
  · rw [cr_bs_snoc, cr_bs_snoc]
    have b1 := h.tb hWP z1 z2 (i := i_z) hj
    have b2 := h.tb hWP z1 z2 (i := i_z) hk
    have b3 := h.tb hWP z1 z2 (i := k) hj
    unfold cr_turnB
    by_cases e_z : i_z = k ∨ j_z = k
    · rw [if_pos e_z, if_pos (by rcases e_z with e_z | e_z; exact Or.inl (by rw [e_z]); exact Or.inr (by rw [e_z])), b1]
    · rw [if_neg e_z, if_neg (fun q_z => e_z (by rcases q_z with q_z | q_z; exact Or.inl (h.inj _ _ q_z); exact Or.inr (h.inj _ _ q_z))), b1, b2, b3]
theorem sxT.symm {s s' : cx_Sd 12} {ls ks : List (Fin 12)} {W P : Int} {f : Fin 12 → Fin 12} (hWP : P ≤ W) (h : sxT s ls s' ks W P f) : ∃ g_z, sxT s' ks s ls W P g_z := by
  have hs : ∀ x_z, ∃ i_z, f i_z = x_z := fin_surj h.inj
  have hg : ∀ x_z, f (Classical.choose (hs x_z)) = x_z := fun x_z => Classical.choose_spec (hs x_z)
  have hl : ∀ x_z : Fin 12, (x_z.1 : Int) < P → ((Classical.choose (hs x_z)).1 : Int) < P := fun x_z hx => by
    refine Classical.byContradiction (fun hn => ?_)
    have h1 := h.2.1 _ hn
    rw [hg x_z] at h1
    rw [← h1] at hn
    exact hn hx
  have he : ∀ x_z : Fin 12, ¬ (x_z.1 : Int) < P → Classical.choose (hs x_z) = x_z := fun x_z hx => h.inj _ _ (by rw [hg x_z, h.2.1 x_z hx])
  refine ⟨fun x_z => Classical.choose (hs x_z), hl, he, fun i_z hi_z x_z => ?_, fun i_z j_z hi_z hj => ?_⟩
  · have h1 := h.2.2.1 _ (hl i_z hi_z) x_z
    rw [hg i_z] at h1
    exact h1.symm
  · have hi2 : ((Classical.choose (hs i_z)).1 : Int) < W := by
      by_cases q_z : (i_z.1 : Int) < P
      · have := hl i_z q_z; omega
      · rw [he i_z q_z]; exact hi_z
    have h1 := h.2.2.2 _ _ hi2 (hl j_z hj)
    rw [hg i_z, hg j_z] at h1
    exact h1.symm
theorem smS.refl (s : cx_Sd 12) (ls : List (Fin 12)) (W P : Int) : smS s ls s ls W P := smT_S (f := fun i_z => i_z) ⟨fun _ h_z => h_z, fun _ _ => rfl, fun _ _ _ => rfl, fun _ _ _ _ => rfl⟩
def bdS (s : cx_Sd 12) (p : List (Fin 12)) (W P : Int) : Prop := ∀ i_z j_z : Fin 12, (i_z.1 : Int) < W → (j_z.1 : Int) < P → -9999 ≤ cr_bs s.b p i_z j_z ∧ cr_bs s.b p i_z j_z ≤ 9999
theorem it_bd {s : cx_Sd 12} {p : List (Fin 12)} {W P : Int} {k : Fin 12} : itS s p W P k ↔ bdS s (p ++ [k]) W P := by
  unfold itS bdS
  rw [cr_bs_snoc]
theorem sxT.bd {s s' : cx_Sd 12} {ls ks : List (Fin 12)} {W P : Int} {f : Fin 12 → Fin 12} (hWP : P ≤ W) (h : sxT s ls s' ks W P f) (hb : bdS s' ks W P) : bdS s ls W P := fun i_z j_z hi_z hj => by
  rw [h.2.2.2 i_z j_z hi_z hj]
  refine hb _ _ ?_ (h.1 j_z hj)
  by_cases q_z : (i_z.1 : Int) < P
  · have := h.1 i_z q_z; omega
  · rw [h.2.1 i_z q_z]; exact hi_z
theorem sxT.back {s s' : cx_Sd 12} {p q : List (Fin 12)} {W P : Int} {f : Fin 12 → Fin 12} {k : Fin 12} (h : sxT s (p ++ [k] ++ [k]) s' q W P f) : sxT s p s' q W P f := by
  refine ⟨h.1, h.2.1, fun i_z hi_z x_z => ?_, fun i_z j_z hi_z hj => ?_⟩
  · rw [← gp_twice s p k x_z]; exact h.2.2.1 i_z hi_z x_z
  · have := h.2.2.2 i_z j_z hi_z hj
    rw [bs_twice] at this
    exact this
/-- turned where the new letter stands it leads back, and by the same sum N -/
theorem mark {s : cx_Sd 12} {p q : List (Fin 12)} {W P : Int} {f : Fin 12 → Fin 12} {k : Fin 12} (h : sxT s (p ++ [k]) s q W P f) (hWP : P ≤ W) (hp : pthP p P) (hq : pthP q P) (zp : zrw s p W P) (zq : zrw s q W P) (hk : (k.1 : Int) < P) (hb : bdS s p W P) (hok : ¬ spB s p k) : okS s q W P (f k) ∧ smS s (q ++ [f k]) s p W P := by
  have hfk := h.1 k hk
  have hp2 := pthP_n hp hk
  have zp2 := zrw_n zp hk
  have st_z := (h.step hWP hp2 hq zp2 zq hk).back
  obtain ⟨g_z, hg⟩ := st_z.symm hWP
  refine ⟨⟨fun hs => hok ?_, it_bd.2 (hg.bd hWP hb)⟩, smT_S hg⟩
  exact hs.eq (fun x_z => (h.P hWP hp2 hq zp2 zq hk x_z).trans (P_twice s p k x_z))
end

section
/-! the atlas's cells; numberOf, load exactly -/
def AT (A : pm_A) : Prop := (A 72 0 = 73 ∧ A 72 2 = 74 ∧ A 72 3 = 75 ∧ A 72 4 = 76 ∧ A 72 5 = 77 ∧ A 72 6 = 78 ∧ A 72 8 = 79 ∧ A 72 9 = 102 ∧ A 72 12 = 103) ∧ (A 72 15 = 104 ∧ A 72 16 = 105 ∧ A 72 17 = 106) ∧ (A 79 2 = 80 ∧ A 79 4 = 82) ∧ ∀ x_z : Int, 0 ≤ x_z → x_z < 100 → A 73 x_z = 107 + 3 * x_z
theorem AT.of {A B : pm_A} (h : AT A) (e72 : ∀ j_z : Int, 0 ≤ j_z → ¬ j_z = 1 → ¬ j_z = 7 → ¬ j_z = 10 → ¬ j_z = 11 → ¬ j_z = 13 → ¬ j_z = 14 → B 72 j_z = A 72 j_z) (e79 : B 79 2 = A 79 2 ∧ B 79 4 = A 79 4) (e73 : ∀ j_z : Int, 0 ≤ j_z → B 73 j_z = A 73 j_z) : AT B := by
  obtain ⟨⟨a1_z, a2, a3, a4, a5, a6, a7, a8, a9⟩, ⟨b1, b2, b3⟩, ⟨c1_z, c2_z⟩, d_z⟩ := h
  refine ⟨⟨?_, ?_, ?_, ?_, ?_, ?_, ?_, ?_, ?_⟩, ⟨?_, ?_, ?_⟩, ⟨by rw [e79.1]; exact c1_z, by rw [e79.2]; exact c2_z⟩, fun x_z x0_z x1_z => by rw [e73 x_z x0_z]; exact d_z x_z x0_z x1_z⟩
  · rw [e72 0 (by omega) (by omega) (by omega) (by omega) (by omega) (by omega) (by omega)]; exact a1_z
  · rw [e72 2 (by omega) (by omega) (by omega) (by omega) (by omega) (by omega) (by omega)]; exact a2
  · rw [e72 3 (by omega) (by omega) (by omega) (by omega) (by omega) (by omega) (by omega)]; exact a3
  · rw [e72 4 (by omega) (by omega) (by omega) (by omega) (by omega) (by omega) (by omega)]; exact a4
  · rw [e72 5 (by omega) (by omega) (by omega) (by omega) (by omega) (by omega) (by omega)]; exact a5
  · rw [e72 6 (by omega) (by omega) (by omega) (by omega) (by omega) (by omega) (by omega)]; exact a6
  · rw [e72 8 (by omega) (by omega) (by omega) (by omega) (by omega) (by omega) (by omega)]; exact a7
  · rw [e72 9 (by omega) (by omega) (by omega) (by omega) (by omega) (by omega) (by omega)]; exact a8
  · rw [e72 12 (by omega) (by omega) (by omega) (by omega) (by omega) (by omega) (by omega)]; exact a9
  · rw [e72 15 (by omega) (by omega) (by omega) (by omega) (by omega) (by omega) (by omega)]; exact b1
  · rw [e72 16 (by omega) (by omega) (by omega) (by omega) (by omega) (by omega) (by omega)]; exact b2
  · rw [e72 17 (by omega) (by omega) (by omega) (by omega) (by omega) (by omega) (by omega)]; exact b3
theorem kk74 : wX.2 74 = 23 := by decide
theorem kk75 : wX.2 75 = 24 := by decide
theorem kk76 : wX.2 76 = 25 := by decide
theorem kk77 : wX.2 77 = 26 := by decide
theorem kk78 : wX.2 78 = 26 := by decide
theorem kk80 : wX.2 80 = 10 := by decide
theorem kk102 : wX.2 102 = 27 := by decide
theorem kk103 : wX.2 103 = 17 := by decide
theorem kkLt {x : Int} (x0 : 0 ≤ x) (x1 : x < 100) : wX.2 (107 + 3 * x) = 2 := by
  have h_z : ∀ k_z : Fin 100, wX.2 (107 + 3 * (k_z.1 : Int)) = 2 := by decide +kernel
  have := h_z ⟨x.toNat, by omega⟩
  rw [show (((⟨x.toNat, by omega⟩ : Fin 100).1 : Nat) : Int) = x by show ((x.toNat : Nat) : Int) = x; omega] at this
  exact this
theorem g5_1 {B : pm_A} {t : Int} (hB : gH wX B) (t0 : 0 ≤ t) (t1 : t ≤ 100) : gH wX (pm_upd B 72 1 t) := by
  refine gH_upd hB (k := (0, 0, 18, [(2, 22, 0), (0, 0, 100), (2, 23, 0), (2, 24, 0), (2, 25, 0), (2, 26, 0), (2, 26, 0), (0, 0, 150), (2, 1, 0), (2, 27, 0), (1, (-9223372036854775808), 9223372036854775807), (1, (-9223372036854775808), 9223372036854775807), (2, 17, 0), (0, (-1), 100), (0, 0, 12), (2, 19, 0), (2, 28, 0), (2, 29, 0)])) (by rw [kk72]; rfl) (fun _ j_z v_z hj ej => ?_) (fun q_z => by cases q_z)
  have : j_z = 1 := by omega
  subst this
  cases hj
  exact ⟨rfl, t0, t1⟩
theorem g5_7 {B : pm_A} {t : Int} (hB : gH wX B) (t0 : 0 ≤ t) (t1 : t ≤ 150) : gH wX (pm_upd B 72 7 t) := by
  refine gH_upd hB (k := (0, 0, 18, [(2, 22, 0), (0, 0, 100), (2, 23, 0), (2, 24, 0), (2, 25, 0), (2, 26, 0), (2, 26, 0), (0, 0, 150), (2, 1, 0), (2, 27, 0), (1, (-9223372036854775808), 9223372036854775807), (1, (-9223372036854775808), 9223372036854775807), (2, 17, 0), (0, (-1), 100), (0, 0, 12), (2, 19, 0), (2, 28, 0), (2, 29, 0)])) (by rw [kk72]; rfl) (fun _ j_z v_z hj ej => ?_) (fun q_z => by cases q_z)
  have : j_z = 7 := by omega
  subst this
  cases hj
  exact ⟨rfl, t0, t1⟩
theorem g5_10 {B : pm_A} {t : Int} (hB : gH wX B) (t0 : -9223372036854775808 ≤ t) (t1 : t ≤ 9223372036854775807) : gH wX (pm_upd B 72 10 t) ∧ gH wX (pm_upd B 72 11 t) := by
  refine ⟨gH_upd hB (k := (0, 0, 18, [(2, 22, 0), (0, 0, 100), (2, 23, 0), (2, 24, 0), (2, 25, 0), (2, 26, 0), (2, 26, 0), (0, 0, 150), (2, 1, 0), (2, 27, 0), (1, (-9223372036854775808), 9223372036854775807), (1, (-9223372036854775808), 9223372036854775807), (2, 17, 0), (0, (-1), 100), (0, 0, 12), (2, 19, 0), (2, 28, 0), (2, 29, 0)])) (by rw [kk72]; rfl) (fun _ j_z v_z hj ej => ?_) (fun q_z => by cases q_z), gH_upd hB (k := (0, 0, 18, [(2, 22, 0), (0, 0, 100), (2, 23, 0), (2, 24, 0), (2, 25, 0), (2, 26, 0), (2, 26, 0), (0, 0, 150), (2, 1, 0), (2, 27, 0), (1, (-9223372036854775808), 9223372036854775807), (1, (-9223372036854775808), 9223372036854775807), (2, 17, 0), (0, (-1), 100), (0, 0, 12), (2, 19, 0), (2, 28, 0), (2, 29, 0)])) (by rw [kk72]; rfl) (fun _ j_z v_z hj ej => ?_) (fun q_z => by cases q_z)⟩
  · have : j_z = 10 := by omega
    subst this
    cases hj
    exact ⟨rfl, t0, t1⟩
  · have : j_z = 11 := by omega
    subst this
    cases hj
    exact ⟨rfl, t0, t1⟩
theorem g79_0 {B : pm_A} {t : Int} (hB : gH wX B) (t0 : 0 ≤ t) (t1 : t ≤ 6) : gH wX (pm_upd B 79 0 t) ∧ gH wX (pm_upd B 79 1 t) := by
  refine ⟨gH_upd hB (k := (0, 7, 6, [(0, 0, 6), (0, 0, 6), (2, 10, 0), (2, 11, 0), (2, 12, 0), (2, 13, 0)])) (by rw [kk79]; rfl) (fun _ j_z v_z hj ej => ?_) (fun q_z => by cases q_z), gH_upd hB (k := (0, 7, 6, [(0, 0, 6), (0, 0, 6), (2, 10, 0), (2, 11, 0), (2, 12, 0), (2, 13, 0)])) (by rw [kk79]; rfl) (fun _ j_z v_z hj ej => ?_) (fun q_z => by cases q_z)⟩
  · have : j_z = 0 := by omega
    subst this
    cases hj
    exact ⟨rfl, t0, t1⟩
  · have : j_z = 1 := by omega
    subst this
    cases hj
    exact ⟨rfl, t0, t1⟩
theorem srt_numberOf : pm_srt o_X0_numberOf = true := by decide +kernel
def nbP (A : pm_A) (c : Int) (r : pm_R) : Prop := (∃ i_z : Int, (0 ≤ i_z ∧ i_z < A 72 1) ∧ lk A (107 + 3 * i_z) c ∧ r = (some (0, i_z), A)) ∨ ((∀ d_z : Int, 0 ≤ d_z → d_z < A 72 1 → ¬ lk A (107 + 3 * d_z) c) ∧ ((A 72 1 = 100 ∧ r = (some (0, -1), A)) ∨ (A 72 1 < 100 ∧ r.1 = some (0, A 72 1) ∧ gH wX r.2 ∧ ∃ C_z, cpP A (107 + 3 * A 72 1) c (none, C_z) ∧ r.2 = pm_upd C_z 72 1 (A 72 1 + 1))))
theorem nb_42 {A : pm_A} {c i : Int} (hA : gH wX A) (hT : AT A) (hs : ∀ a_z : Int, 0 ≤ a_z → wX.2 a_z = 2 → A a_z 2 = a_z + 1 ∧ A a_z 3 = a_z + 2) (hc : 0 ≤ c ∧ wX.2 c = 2) (hne : ∀ x_z : Int, 0 ≤ x_z → x_z < 100 → ¬ 107 + 3 * x_z = c) (hn : ∀ d_z : Int, 0 ≤ d_z → d_z < A 72 1 → ¬ lk A (107 + 3 * d_z) c) (h1 : A 72 1 < 100) : Tm pmt (an_sh wX) o_X0_numberOf 42 ([(2, 72), (2, c), (0, i)], [], A) (nbP A c) := by
  have f1_z := fX_5_1 hA z72 kk72
  have a0_z := hT.1.1
  have eL := hT.2.2.2 (A 72 1) f1_z.1 h1
  have hL : 0 ≤ 107 + 3 * A 72 1 ∧ wX.2 (107 + 3 * A 72 1) = 2 := ⟨by omega, kkLt f1_z.1 h1⟩
  refine wq_ok srt_numberOf (fr := []) (cuts := [55]) (J := fun pc st_z => pc = 55 ∧ ∃ C_z, cpP A (107 + 3 * A 72 1) c (none, C_z) ∧ st_z = ([(2, 72), (2, c), (0, i)], [], C_z)) ?_ 20 42 _ ?_
  · rintro pc st_z ⟨rfl, C_z, hC, rfl⟩
    have hC0 := hC
    obtain ⟨_, c1_z, c2_z, _⟩ := hC
    simp only at c1_z c2_z
    have e3 := hs _ hL.1 hL.2
    have e1 : C_z 72 1 = A 72 1 := c2_z 72 1 (by omega) (by omega) (by omega)
    refine wq_ok srt_numberOf (fr := []) (cuts := []) (J := fun _ _ => False) (fun _ _ h_z => h_z.elim) 20 55 _ ?_
    refine ⟨oX_5 z72 kk72 1 rfl, ?_⟩
    refine ⟨⟨by omega, by omega⟩, ?_⟩
    refine ⟨oX_5 z72 kk72 1 rfl, ?_⟩
    refine ⟨oX_5 z72 kk72 1 rfl, ?_⟩
    have e4_z : pm_upd C_z 72 1 (C_z 72 1 + 1) 72 1 = A 72 1 + 1 := by rw [upd_at, e1]
    refine ⟨⟨by rw [e4_z]; omega, by rw [e4_z]; omega⟩, ?_⟩
    refine ⟨rfl, Or.inr ⟨hn, Or.inr ⟨h1, ?_, ?_, C_z, hC0, ?_⟩⟩⟩
    · show some ((0 : Nat), pm_upd C_z 72 1 (C_z 72 1 + 1) 72 1 - 1) = some (0, A 72 1)
      rw [e4_z, show A 72 1 + 1 - 1 = A 72 1 by omega]
    · show gH wX (pm_upd C_z 72 1 (C_z 72 1 + 1))
      rw [e1]
      exact g5_1 c1_z (by omega) (by omega)
    · show pm_upd C_z 72 1 (C_z 72 1 + 1) = _
      rw [e1]
  · refine ⟨oX_5 z72 kk72 0 rfl, ?_⟩
    refine ⟨oX_5 z72 kk72 1 rfl, ?_⟩
    refine ⟨aX_22 (r := A 72 0) (by rw [a0_z]; omega) (by rw [a0_z]; exact kk73) f1_z.1 h1, ?_⟩
    refine ⟨rX_2 (r := A (A 72 0) (A 72 1)) (by rw [a0_z, eL]; exact hL.1) (by rw [a0_z, eL]; exact hL.2), ?_⟩
    show Cl pmt (an_sh wX) 76 [(2, A (A 72 0) (A 72 1)), (2, c)] A _
    rw [a0_z, eL]
    refine (copyS_ex hA hL hc (ds_of hs hL hc (hne _ f1_z.1 h1))).imp ?_
    rintro ⟨r1_z, C_z⟩ hC
    have hr1 : r1_z = none := hC.1
    subst hr1
    exact ⟨rfl, C_z, hC, rfl⟩
theorem nb_2 {A : pm_A} {c : Int} (hA : gH wX A) (hT : AT A) (hs : ∀ a_z : Int, 0 ≤ a_z → wX.2 a_z = 2 → A a_z 2 = a_z + 1 ∧ A a_z 3 = a_z + 2) (hc : 0 ≤ c ∧ wX.2 c = 2) (hne : ∀ x_z : Int, 0 ≤ x_z → x_z < 100 → ¬ 107 + 3 * x_z = c) : ∀ (m_z : Nat) (i_z : Int), (100 - i_z).toNat < m_z → 0 ≤ i_z → i_z ≤ A 72 1 → (∀ d_z : Int, 0 ≤ d_z → d_z < i_z → ¬ lk A (107 + 3 * d_z) c) → Tm pmt (an_sh wX) o_X0_numberOf 2 ([(2, 72), (2, c), (0, i_z)], [], A) (nbP A c) := by
  have f1_z := fX_5_1 hA z72 kk72
  have a0_z := hT.1.1
  intro m_z
  induction m_z with
  | zero => intro i_z h_z; omega
  | succ m_z ih_z =>
    intro i_z hm_z i0_z i1_z hd_z
    refine wq_ok srt_numberOf (fr := []) (cuts := [2, 42]) (J := fun pc st_z => (pc = 42 ∧ A 72 1 < 100 ∧ i_z = A 72 1 ∧ st_z = ([(2, 72), (2, c), (0, i_z)], [], A)) ∨ (pc = 2 ∧ (i_z < A 72 1 ∧ ¬ lk A (107 + 3 * i_z) c) ∧ st_z = ([(2, 72), (2, c), (0, i_z + 1)], [], A))) ?_ 30 2 _ ?_
    · rintro pc st_z (⟨rfl, h1, h2, rfl⟩ | ⟨rfl, h1, rfl⟩)
      · exact nb_42 hA hT hs hc hne (fun d_z d0_z d1_z => hd_z d_z d0_z (by omega)) h1
      · refine ih_z (i_z + 1) (by omega) (by omega) (by omega) (fun d_z d0_z d1_z => ?_)
        by_cases e_z : d_z = i_z
        · rw [e_z]; exact h1.2
        · exact hd_z d_z d0_z (by omega)
    · refine ⟨oX_5 z72 kk72 1 rfl, ?_⟩
      refine ⟨fun h_z => ?_, fun h_z => ?_⟩
      · refine ⟨oX_5 z72 kk72 1 rfl, ?_⟩
        refine ⟨fun h2 => ?_, fun h2 => ?_⟩
        · exact Or.inl ⟨rfl, h2, by omega, rfl⟩
        · exact ⟨rfl, Or.inr ⟨fun d_z d0_z d1_z => hd_z d_z d0_z (by omega), Or.inl ⟨by omega, rfl⟩⟩⟩
      · have eL := hT.2.2.2 i_z i0_z (by omega)
        have hL : 0 ≤ 107 + 3 * i_z ∧ wX.2 (107 + 3 * i_z) = 2 := ⟨by omega, kkLt i0_z (by omega)⟩
        refine ⟨oX_5 z72 kk72 0 rfl, ?_⟩
        refine ⟨aX_22 (r := A 72 0) (by rw [a0_z]; omega) (by rw [a0_z]; exact kk73) i0_z (by omega), ?_⟩
        refine ⟨rX_2 (r := A (A 72 0) i_z) (by rw [a0_z, eL]; exact hL.1) (by rw [a0_z, eL]; exact hL.2), ?_⟩
        show Cl pmt (an_sh wX) 80 [(2, A (A 72 0) i_z), (2, c)] A _
        rw [a0_z, eL]
        refine (isLike_ex hA hL hc).imp ?_
        rintro ⟨r1_z, C_z⟩ ⟨hC, hr⟩
        simp only at hC hr
        subst hC
        rcases hr with ⟨rfl, hl⟩ | ⟨rfl, hl⟩
        · refine ⟨fun hh => absurd hh (by decide), fun _ => ?_⟩
          exact ⟨rfl, Or.inl ⟨i_z, ⟨i0_z, h_z⟩, hl, rfl⟩⟩
        · refine ⟨fun _ => ?_, fun hh => absurd rfl hh⟩
          refine ⟨⟨by omega, by omega⟩, ?_⟩
          exact Or.inr ⟨rfl, ⟨h_z, hl⟩, rfl⟩
theorem numberOf_ex {A : pm_A} {c : Int} (hA : gH wX A) (hT : AT A) (hs : ∀ a_z : Int, 0 ≤ a_z → wX.2 a_z = 2 → A a_z 2 = a_z + 1 ∧ A a_z 3 = a_z + 2) (hc : 0 ≤ c ∧ wX.2 c = 2) (hne : ∀ x_z : Int, 0 ≤ x_z → x_z < 100 → ¬ 107 + 3 * x_z = c) : Cl pmt (an_sh wX) 11 [(2, 72), (2, c)] A (nbP A c) := by
  have f1_z := fX_5_1 hA z72 kk72
  refine Cl.of (Nat.le_of_ble_eq_true rfl) ?_
  refine wq_ok (full := o_X0_numberOf) srt_numberOf (fr := []) (cuts := [2]) (J := fun pc st_z => pc = 2 ∧ st_z = ([(2, 72), (2, c), (0, 0)], [], A)) ?_ 20 0 _ ?_
  · rintro pc st_z ⟨rfl, rfl⟩
    exact nb_2 hA hT hs hc hne _ 0 (Nat.lt_succ_self _) (by omega) f1_z.1 (fun d_z d0_z d1_z => by omega)
  · exact ⟨rfl, rfl⟩
def ldF (A B : pm_A) (r i : Int) : Prop := gH wX B ∧ (∀ q_z j_z : Int, ¬ q_z = 80 → ¬ q_z = 82 → ¬ q_z = 102 → B q_z j_z = A q_z j_z) ∧ (∀ j_z : Int, 0 ≤ j_z → j_z < 72 → B 80 j_z = A 76 (72 * r + j_z)) ∧ (∀ d_z : Int, i ≤ d_z → B 82 d_z = A 82 d_z) ∧ ∀ d_z : Int, 0 ≤ d_z → d_z < i → B 102 d_z = A 74 (6 * r + d_z) ∧ B 82 d_z = 107 + 3 * A 74 (6 * r + d_z)
def ldP (A : pm_A) (r : Int) (q : pm_R) : Prop := q.1 = none ∧ ldF A q.2 r (A 79 0)
theorem lx_51 {A B : pm_A} {r i : Int} (hT : AT A) (hA : gH wX A) (r0 : 0 ≤ r) (r1 : r ≤ 149) (i0 : 0 ≤ i) (i1 : i < A 79 0) (hB : gH wX B) (hf : ∀ q_z j_z : Int, ¬ q_z = 80 → ¬ q_z = 82 → ¬ q_z = 102 → B q_z j_z = A q_z j_z) (h80 : ∀ j_z : Int, 0 ≤ j_z → j_z < 72 → B 80 j_z = A 76 (72 * r + j_z)) (hd : ∀ d_z : Int, 0 ≤ d_z → d_z < i → B 102 d_z = A 74 (6 * r + d_z) ∧ B 82 d_z = 107 + 3 * A 74 (6 * r + d_z)) (hu : ∀ d_z : Int, i ≤ d_z → B 82 d_z = A 82 d_z) (hi : B 102 i = A 74 (6 * r + i)) (H : ∀ C_z, ldF A C_z r (i + 1) → Tm pmt (an_sh wX) o_X0_load 23 ([(2, 72), (0, r), (0, i + 1)], [], C_z) (ldP A r)) : Tm pmt (an_sh wX) o_X0_load 51 ([(2, 72), (0, r), (0, i)], [], B) (ldP A r) := by
  have b72 : ∀ j_z : Int, B 72 j_z = A 72 j_z := fun j_z => hf 72 j_z (by omega) (by omega) (by omega)
  have p6_z := fX_1_0 hA z79 kk79
  have a8 : B 72 8 = 79 := by rw [b72]; exact hT.1.2.2.2.2.2.2.1
  have a0_z : B 72 0 = 73 := by rw [b72]; exact hT.1.1
  have a9 : B 72 9 = 102 := by rw [b72]; exact hT.1.2.2.2.2.2.2.2.1
  have a4 : B 79 4 = 82 := by rw [hf 79 4 (by omega) (by omega) (by omega)]; exact hT.2.2.1.2
  have v0_z := eX_23 hA (r := 74) (by omega) kk74 (j := 6 * r + i) (by omega) (by omega)
  have hx : 0 ≤ B 102 i ∧ B 102 i < 100 := by rw [hi]; omega
  have eL : B 73 (B 102 i) = 107 + 3 * B 102 i := by rw [hf 73 _ (by omega) (by omega) (by omega)]; exact hT.2.2.2 _ hx.1 hx.2
  have hL : 0 ≤ 107 + 3 * B 102 i ∧ wX.2 (107 + 3 * B 102 i) = 2 := ⟨by omega, kkLt hx.1 hx.2⟩
  have s12 := shX_12 kk82
  have s2_z := shX_2 hL.2
  refine wq_ok srt_load (fr := []) (cuts := [23]) (J := fun pc st_z => pc = 23 ∧ st_z = ([(2, 72), (0, r), (0, i + 1)], [], pm_upd B (B (B 72 8) 4) i (B (B 72 0) (B (B 72 9) i)))) ?_ 30 51 _ ?_
  · rintro pc st_z ⟨rfl, rfl⟩
    rw [a8, a4, a0_z, a9, eL]
    refine H _ ⟨gH_upd hB (k := (1, 5, 6, [(2, 2, 0)])) (by rw [kk82]; rfl) (fun q_z => by cases q_z) (fun _ a_z ha_z => by cases ha_z; exact gv_ref hL.1 hL.2), fun q_z j_z h1 h2 h3 => ?_, fun j_z j0 j1 => ?_, fun d_z d0_z => ?_, fun d_z d0_z d1_z => ?_⟩
    · rw [upd_ne h2]; exact hf q_z j_z h1 h2 h3
    · rw [upd_ne (by omega)]; exact h80 j_z j0 j1
    · rw [upd_n2 (by omega)]; exact hu d_z (by omega)
    · rw [upd_ne (by omega)]
      by_cases e_z : d_z = i
      · rw [e_z, upd_at, hi]; exact ⟨rfl, rfl⟩
      · rw [upd_n2 e_z]; exact hd d_z d0_z (by omega)
  · refine ⟨oX_5 z72 kk72 8 rfl, ?_⟩
    refine ⟨oX_1 (r := B 72 8) (by rw [a8]; omega) (by rw [a8]; exact kk79) 4 rfl, ?_⟩
    refine ⟨oX_5 z72 kk72 0 rfl, ?_⟩
    refine ⟨oX_5 z72 kk72 9 rfl, ?_⟩
    refine ⟨aX_27 (r := B 72 9) (by rw [a9]; omega) (by rw [a9]; exact kk102) i0 (by omega), ?_⟩
    refine ⟨aX_22 (r := B 72 0) (by rw [a0_z]; omega) (by rw [a0_z]; exact kk73) (by rw [a9]; omega) (by rw [a9]; omega), ?_⟩
    refine ⟨⟨by rw [a8, a4]; omega, by rw [a8, a4, s12], by rw [a8, a4, s12], i0, by rw [a8, a4, s12]; simp only; omega, by rw [a0_z, a9, eL]; exact hL.1, by rw [a0_z, a9, eL, s2_z], by rw [a0_z, a9, eL, s2_z]⟩, ?_⟩
    refine ⟨⟨by omega, by omega⟩, ?_⟩
    exact ⟨rfl, rfl⟩
theorem lx_23 {A : pm_A} {r : Int} (hT : AT A) (hA : gH wX A) (r0 : 0 ≤ r) (r1 : r ≤ 149) : ∀ (n_z : Nat) (i_z : Int) (B_z : pm_A), (6 - i_z).toNat < n_z → 0 ≤ i_z → i_z ≤ A 79 0 → ldF A B_z r i_z → Tm pmt (an_sh wX) o_X0_load 23 ([(2, 72), (0, r), (0, i_z)], [], B_z) (ldP A r) := by
  have p6_z := fX_1_0 hA z79 kk79
  intro n_z
  induction n_z with
  | zero => intro i_z B_z h_z; omega
  | succ n_z ih_z =>
    intro i_z B_z hn i0_z i1_z hI
    have hI0 := hI
    obtain ⟨hB_z, hf, h80, hu, hd_z⟩ := hI
    have b72 : ∀ j_z : Int, B_z 72 j_z = A 72 j_z := fun j_z => hf 72 j_z (by omega) (by omega) (by omega)
    have a8 : B_z 72 8 = 79 := by rw [b72]; exact hT.1.2.2.2.2.2.2.1
    have a9 : B_z 72 9 = 102 := by rw [b72]; exact hT.1.2.2.2.2.2.2.2.1
    have a2 : B_z 72 2 = 74 := by rw [b72]; exact hT.1.2.1
    have b79 : B_z 79 0 = A 79 0 := hf 79 0 (by omega) (by omega) (by omega)
    have b74 : ∀ j_z : Int, B_z 74 j_z = A 74 j_z := fun j_z => hf 74 j_z (by omega) (by omega) (by omega)
    refine wq_ok srt_load (fr := []) (cuts := [51]) (J := fun pc st_z => pc = 51 ∧ i_z < A 79 0 ∧ st_z = ([(2, 72), (0, r), (0, i_z)], [], pm_upd B_z (B_z 72 9) i_z (B_z (B_z 72 2) (r * 6 + i_z)))) ?_ 30 23 _ ?_
    · rintro pc st_z ⟨rfl, hi_z, rfl⟩
      have v0_z := eX_23 hA (r := 74) (by omega) kk74 (j := 6 * r + i_z) (by omega) (by omega)
      rw [a9, a2, b74, show r * 6 + i_z = 6 * r + i_z by omega]
      refine lx_51 hT hA r0 r1 i0_z hi_z (uX_27 hB_z kk102 (by omega) (by omega)) (fun q_z j_z h1 h2 h3 => ?_) (fun j_z j0 j1 => ?_) (fun d_z d0_z d1_z => ?_) (fun d_z d0_z => by rw [upd_ne (by omega)]; exact hu d_z d0_z) upd_at (fun C_z hC => ih_z (i_z + 1) C_z (by omega) (by omega) (by omega) hC)
      · rw [upd_ne h3]; exact hf q_z j_z h1 h2 h3
      · rw [upd_ne (by omega)]; exact h80 j_z j0 j1
      · rw [upd_n2 (by omega), upd_ne (by omega)]; exact hd_z d_z d0_z d1_z
    · refine ⟨oX_5 z72 kk72 8 rfl, ?_⟩
      refine ⟨oX_1 (r := B_z 72 8) (by rw [a8]; omega) (by rw [a8]; exact kk79) 0 rfl, ?_⟩
      refine ⟨fun h_z => ?_, fun h_z => ?_⟩
      · rw [a8, b79] at h_z
        have e_z : i_z = A 79 0 := by omega
        rw [e_z] at hI0
        exact ⟨rfl, hI0⟩
      · rw [a8, b79] at h_z
        refine ⟨oX_5 z72 kk72 9 rfl, ?_⟩
        refine ⟨oX_5 z72 kk72 2 rfl, ?_⟩
        refine ⟨⟨by omega, by omega⟩, ?_⟩
        refine ⟨⟨by omega, by omega⟩, ?_⟩
        refine ⟨aX_23 (r := B_z 72 2) (by rw [a2]; omega) (by rw [a2]; exact kk74) (by omega) (by omega), ?_⟩
        refine ⟨tX_27 (r := B_z 72 9) (by rw [a9]; omega) (by rw [a9]; exact kk102) i0_z (by omega) rfl, ?_⟩
        exact ⟨rfl, h_z, rfl⟩
theorem load_ex {A : pm_A} {r : Int} (hT : AT A) (hA : gH wX A) (r0 : 0 ≤ r) (r1 : r ≤ 149) : Cl pmt (an_sh wX) 10 [(2, 72), (0, r)] A (ldP A r) := by
  have p6_z := fX_1_0 hA z79 kk79
  have a8 := hT.1.2.2.2.2.2.2.1
  have a4 := hT.1.2.2.2.1
  have t2_z := hT.2.2.1.1
  have e1 := shX_10 kk80
  have e2 := shX_25 kk76
  refine Cl.of (Nat.le_of_ble_eq_true rfl) ?_
  refine wq_ok (full := o_X0_load) srt_load (fr := []) (cuts := [23]) (J := fun pc st_z => pc = 23 ∧ st_z = ([(2, 72), (0, r), (0, 0)], [], pm_cpy A (A 72 4) (r * 72) (A (A 72 8) 2) 0 72)) ?_ 30 0 _ ?_
  · rintro pc st_z ⟨rfl, rfl⟩
    rw [a4, a8, t2_z]
    refine lx_23 hT hA r0 r1 _ 0 _ (Nat.lt_succ_self _) (by omega) p6_z.1 ⟨gH_cpy hA (ka := (1, 0, 10800, [(0, -2147483648, 2147483647)])) (kb := (1, 0, 72, [(0, -2147483648, 2147483647)])) (by omega) (by rw [kk76]; rfl) (by rw [kk80]; rfl) rfl rfl rfl rfl rfl rfl (by omega) (by omega) (by simp only; omega), fun q_z j_z h1 h2 h3 => cpy_ne h1, fun j_z j0 j1 => ?_, fun d_z _ => cpy_ne (by omega), fun d_z d0_z d1_z => by omega⟩
    rw [cpy_in ⟨by omega, by omega⟩]
    rw [show r * 72 + (j_z - 0) = 72 * r + j_z by omega]
  · refine ⟨oX_5 z72 kk72 4 rfl, ?_⟩
    refine ⟨⟨by omega, by omega⟩, ?_⟩
    refine ⟨oX_5 z72 kk72 8 rfl, ?_⟩
    refine ⟨oX_1 (r := A 72 8) (by rw [a8]; omega) (by rw [a8]; exact kk79) 2 rfl, ?_⟩
    refine ⟨⟨by rw [a4]; omega, by rw [a8, t2_z]; omega, by rw [a4, e2], by rw [a4, e2], by rw [a8, t2_z, e1], by rw [a8, t2_z, e1], by omega, by omega, by omega, by rw [a4, e2]; simp only; omega, by rw [a8, t2_z, e1]; simp only; omega⟩, ?_⟩
    exact ⟨rfl, rfl⟩
end

section
/-! the atlas's masks, seatsMap, rowOf exactly -/
theorem pig {P : Int} {M : Int → Int} (hM : ∀ i_z : Int, 0 ≤ i_z → i_z < P → 0 ≤ M i_z ∧ M i_z < P) (inj : ∀ i_z j_z : Int, 0 ≤ i_z → i_z < P → 0 ≤ j_z → j_z < P → M i_z = M j_z → i_z = j_z) : ∀ j_z : Int, 0 ≤ j_z → j_z < P → ∃ i_z : Int, (0 ≤ i_z ∧ i_z < P) ∧ M i_z = j_z := by
  intro j_z j0 j1
  refine Classical.byContradiction (fun hn => ?_)
  have hl := cr_len ((List.range P.toNat).map (fun i_z : Nat => (M (i_z : Int)).toNat)) ((List.range P.toNat).erase j_z.toNat) (by
    rw [List.nodup_iff_pairwise_ne, List.pairwise_map]
    refine (List.nodup_iff_pairwise_ne.1 List.nodup_range).imp_of_mem (fun {a_z b_z} ha_z hb_z hne e_z => ?_)
    have ha_z := List.mem_range.1 ha_z
    have hb_z := List.mem_range.1 hb_z
    have h1 := hM a_z (by omega) (by omega)
    have h2 := hM b_z (by omega) (by omega)
    have h3 := inj a_z b_z (by omega) (by omega) (by omega) (by omega) (by omega)
    omega) (fun x_z hx => by
    obtain ⟨i_z, hi_z, rfl⟩ := List.mem_map.1 hx
    have hi_z := List.mem_range.1 hi_z
    have h1 := hM i_z (by omega) (by omega)
    exact (List.mem_erase_of_ne (fun e_z => hn ⟨i_z, ⟨by omega, by omega⟩, by omega⟩)).2 (List.mem_range.2 (by omega)))
  rw [List.length_map, List.length_range, List.length_erase_of_mem (List.mem_range.2 (by omega)), List.length_range] at hl
  omega
theorem shl1_e : ∀ b_z : Fin 64, ∀ j_z : Fin 64, (Int64.ofInt (shl1 (b_z.1 : Int))).toBitVec.getLsbD j_z.1 = decide (j_z.1 = b_z.1) := by decide +kernel
theorem shl1_bt {b : Int} (b0 : 0 ≤ b) (b1 : b ≤ 63) {j : Nat} (hj : j < 64) : lbit (shl1 b) j = decide (j = b.toNat) := by
  have h_z := shl1_e ⟨b.toNat, by omega⟩ ⟨j, hj⟩
  have e_z : (((⟨b.toNat, by omega⟩ : Fin 64).1 : Nat) : Int) = b := by show ((b.toNat : Nat) : Int) = b; omega
  rw [e_z] at h_z
  exact h_z
theorem bitsV_bt {bm F : Int → Int} {j : Nat} (hj : j < 64) : ∀ m_z : Nat, (∀ f_z : Int, 0 ≤ f_z → f_z < m_z → ¬ F f_z = 0 → 0 ≤ bm f_z ∧ bm f_z ≤ 63) → (lbit (bitsV bm F m_z) j = true ↔ ∃ f_z : Int, 0 ≤ f_z ∧ f_z < m_z ∧ ¬ F f_z = 0 ∧ bm f_z = j)
  | 0, _ => by
    refine ⟨fun h_z => ?_, fun ⟨f_z, f0_z, f1_z, _⟩ => by omega⟩
    have : lbit 0 j = false := by
      show ((0 : BitVec 64)).getLsbD j = false
      simp
    rw [bitsV, this] at h_z
    cases h_z
  | m_z + 1, hb_z => by
    have ih_z := bitsV_bt hj m_z (fun f_z f0_z f1_z => hb_z f_z f0_z (by omega))
    rw [bitsV]
    by_cases z_z : F m_z = 0
    · rw [if_pos z_z, ih_z]
      refine ⟨fun ⟨f_z, f0_z, f1_z, f2_z, f3_z⟩ => ⟨f_z, f0_z, by omega, f2_z, f3_z⟩, fun ⟨f_z, f0_z, f1_z, f2_z, f3_z⟩ => ⟨f_z, f0_z, ?_, f2_z, f3_z⟩⟩
      by_cases e_z : f_z = m_z
      · rw [e_z] at f2_z; exact absurd z_z f2_z
      · omega
    · have b_z := hb_z m_z (by omega) (by omega) z_z
      rw [if_neg z_z, lbit_or, shl1_bt b_z.1 b_z.2 hj, Bool.or_eq_true, decide_eq_true_eq, ih_z]
      refine ⟨?_, fun ⟨f_z, f0_z, f1_z, f2_z, f3_z⟩ => ?_⟩
      · rintro (⟨f_z, f0_z, f1_z, f2_z, f3_z⟩ | e_z)
        · exact ⟨f_z, f0_z, by omega, f2_z, f3_z⟩
        · exact ⟨m_z, by omega, by omega, z_z, by omega⟩
      · by_cases e_z : f_z = m_z
        · subst e_z; exact Or.inr (by omega)
        · exact Or.inl ⟨f_z, f0_z, by omega, f2_z, f3_z⟩
def lwF (S : Int → Int) : Int → Int := fun f_z => if S f_z < 64 then 1 else 0
def hgF (S : Int → Int) : Int → Int := fun f_z => if S f_z < 64 then 0 else 1
def loM (S : Int → Int) (n : Nat) : Int := bitsV S (lwF S) n
def hgM (S : Int → Int) (n : Nat) : Int := bitsV (fun f_z => S f_z - 64) (hgF S) n
theorem lw_iff {S : Int → Int} {n : Nat} (hS : ∀ f_z : Int, 0 ≤ f_z → f_z < n → 0 ≤ S f_z ∧ S f_z ≤ 99) {j : Nat} (hj : j < 64) : lbit (loM S n) j = true ↔ ∃ f_z : Int, (0 ≤ f_z ∧ f_z < n) ∧ S f_z = j := by
  unfold loM
  rw [bitsV_bt hj n (fun f_z f0_z f1_z hz => by
    have := hS f_z f0_z f1_z
    unfold lwF at hz
    by_cases e_z : S f_z < 64
    · omega
    · rw [if_neg e_z] at hz; exact absurd rfl hz)]
  refine ⟨fun ⟨f_z, f0_z, f1_z, _, f3_z⟩ => ⟨f_z, ⟨f0_z, f1_z⟩, f3_z⟩, fun ⟨f_z, ⟨f0_z, f1_z⟩, f3_z⟩ => ⟨f_z, f0_z, f1_z, ?_, f3_z⟩⟩
  unfold lwF
  rw [if_pos (by omega)]
  decide
theorem hg_iff {S : Int → Int} {n : Nat} (hS : ∀ f_z : Int, 0 ≤ f_z → f_z < n → 0 ≤ S f_z ∧ S f_z ≤ 99) {j : Nat} (hj : j < 64) : lbit (hgM S n) j = true ↔ ∃ f_z : Int, (0 ≤ f_z ∧ f_z < n) ∧ S f_z = 64 + (j : Int) := by
  unfold hgM
  rw [bitsV_bt hj n (fun f_z f0_z f1_z hz => by
    have := hS f_z f0_z f1_z
    unfold hgF at hz
    by_cases e_z : S f_z < 64
    · rw [if_pos e_z] at hz; exact absurd rfl hz
    · show 0 ≤ S f_z - 64 ∧ S f_z - 64 ≤ 63
      omega)]
  refine ⟨fun ⟨f_z, f0_z, f1_z, _, f3_z⟩ => ⟨f_z, ⟨f0_z, f1_z⟩, ?_⟩, fun ⟨f_z, ⟨f0_z, f1_z⟩, f3_z⟩ => ⟨f_z, f0_z, f1_z, ?_, ?_⟩⟩
  · have f4_z : S f_z - 64 = (j : Int) := f3_z
    omega
  · unfold hgF
    rw [if_neg (by omega)]
    decide
  · show S f_z - 64 = (j : Int)
    omega
theorem mask_eq {S R : Int → Int} {n : Nat} (hS : ∀ f_z : Int, 0 ≤ f_z → f_z < n → 0 ≤ S f_z ∧ S f_z ≤ 99) (hR : ∀ f_z : Int, 0 ≤ f_z → f_z < n → 0 ≤ R f_z ∧ R f_z ≤ 99) : (loM S n = loM R n ∧ hgM S n = hgM R n) ↔ ∀ v_z : Int, (∃ f_z : Int, (0 ≤ f_z ∧ f_z < n) ∧ S f_z = v_z) ↔ ∃ f_z : Int, (0 ≤ f_z ∧ f_z < n) ∧ R f_z = v_z := by
  constructor
  · rintro ⟨e1, e2⟩ v_z
    by_cases hv : 0 ≤ v_z ∧ v_z ≤ 99
    · by_cases h6 : v_z < 64
      · have h1 := lw_iff hS (j := v_z.toNat) (by omega)
        have h2 := lw_iff hR (j := v_z.toNat) (by omega)
        rw [e1, h2] at h1
        rw [Int.toNat_of_nonneg hv.1] at h1
        exact h1.symm
      · have h1 := hg_iff hS (j := (v_z - 64).toNat) (by omega)
        have h2 := hg_iff hR (j := (v_z - 64).toNat) (by omega)
        rw [e2, h2] at h1
        rw [show 64 + (((v_z - 64).toNat : Nat) : Int) = v_z by omega] at h1
        exact h1.symm
    · refine ⟨fun ⟨f_z, ⟨f0_z, f1_z⟩, f3_z⟩ => ?_, fun ⟨f_z, ⟨f0_z, f1_z⟩, f3_z⟩ => ?_⟩
      · have := hS f_z f0_z f1_z; omega
      · have := hR f_z f0_z f1_z; omega
  · intro h_z
    constructor
    · refine lbit_ext (bitsV_i64 _ _ _) (bitsV_i64 _ _ _) (fun j_z hj => ?_)
      have h1 := lw_iff hS hj
      have h2 := lw_iff hR hj
      have h3 := h_z (j_z : Int)
      rw [← h1, ← h2] at h3
      exact Bool.eq_iff_iff.2 h3
    · refine lbit_ext (bitsV_i64 _ _ _) (bitsV_i64 _ _ _) (fun j_z hj => ?_)
      have h1 := hg_iff hS hj
      have h2 := hg_iff hR hj
      have h3 := h_z (64 + (j_z : Int))
      rw [← h1, ← h2] at h3
      exact Bool.eq_iff_iff.2 h3
theorem i64_bd {v : Int} (h : i64 v) : -9223372036854775808 ≤ v ∧ v ≤ 9223372036854775807 := by
  have h1 := i64_rng (Int64.ofInt v)
  have h2 : (Int64.ofInt v).toInt = v := h
  rw [h2] at h1
  exact h1
theorem srt_gather : pm_srt o_X0_gatherLetters = true := by decide +kernel
def gaF (A B : pm_A) (n : Nat) : Prop := gH wX B ∧ (∀ q_z j_z : Int, ¬ (q_z = 72 ∧ (j_z = 10 ∨ j_z = 11)) → B q_z j_z = A q_z j_z) ∧ B 72 10 = loM (A 102) n ∧ B 72 11 = hgM (A 102) n
def gaP (A : pm_A) (r : pm_R) : Prop := r.1 = none ∧ gaF A r.2 (A 79 0).toNat
theorem ga_12 {A : pm_A} (hA : gH wX A) (hT : AT A) : ∀ (m_z n_z : Nat) (B_z : pm_A), 6 - n_z < m_z → (n_z : Int) ≤ A 79 0 → gaF A B_z n_z → Tm pmt (an_sh wX) o_X0_gatherLetters 12 ([(2, 72), (0, (n_z : Int))], [], B_z) (gaP A) := by
  have p6_z := fX_1_0 hA z79 kk79
  intro m_z
  induction m_z with
  | zero => intro n_z B_z h_z; omega
  | succ m_z ih_z =>
    intro n_z B_z hm_z n1_z hI
    have hI0 := hI
    obtain ⟨hB_z, hf, h10, h11⟩ := hI
    have a8 : B_z 72 8 = 79 := by rw [hf 72 8 (by omega)]; exact hT.1.2.2.2.2.2.2.1
    have a9 : B_z 72 9 = 102 := by rw [hf 72 9 (by omega)]; exact hT.1.2.2.2.2.2.2.2.1
    have b79 : B_z 79 0 = A 79 0 := hf 79 0 (by omega)
    have b102_z : ∀ j_z : Int, B_z 102 j_z = A 102 j_z := fun j_z => hf 102 j_z (by omega)
    have sl_z : loM (A 102) (n_z + 1) = if lwF (A 102) n_z = 0 then loM (A 102) n_z else pp_lb 4 (loM (A 102) n_z) (shl1 (A 102 n_z)) := rfl
    have sh_z : hgM (A 102) (n_z + 1) = if hgF (A 102) n_z = 0 then hgM (A 102) n_z else pp_lb 4 (hgM (A 102) n_z) (shl1 (A 102 n_z - 64)) := rfl
    refine wq_ok srt_gather (fr := []) (cuts := [12]) (J := fun pc st_z => (pc = 12 ∧ ((n_z : Int) < A 79 0 ∧ A 102 n_z < 64) ∧ st_z = ([(2, 72), (0, (n_z : Int) + 1)], [], pm_upd B_z 72 10 (pp_lb 4 (B_z 72 10) (shl1 (B_z (B_z 72 9) (n_z : Int)))))) ∨ (pc = 12 ∧ ((n_z : Int) < A 79 0 ∧ ¬ A 102 n_z < 64) ∧ st_z = ([(2, 72), (0, (n_z : Int) + 1)], [], pm_upd B_z 72 11 (pp_lb 4 (B_z 72 11) (shl1 (B_z (B_z 72 9) (n_z : Int) - 64)))))) ?_ 40 12 _ ?_
    · rintro pc st_z (⟨rfl, h1, rfl⟩ | ⟨rfl, h1, rfl⟩)
      · rw [a9, b102_z, h10, show (n_z : Int) + 1 = ((n_z + 1 : Nat) : Int) by omega]
        have e1 : lwF (A 102) n_z = 1 := if_pos h1.2
        have e2 : hgF (A 102) n_z = 0 := if_pos h1.2
        rw [e1, if_neg (by decide)] at sl_z
        rw [e2, if_pos rfl] at sh_z
        rw [← sl_z]
        have hb_z := i64_bd (bitsV_i64 (A 102) (lwF (A 102)) (n_z + 1))
        refine ih_z (n_z + 1) _ (by omega) (by omega) ⟨(g5_10 hB_z hb_z.1 hb_z.2).1, fun q_z j_z hq => ?_, upd_at, ?_⟩
        · by_cases e_z : q_z = 72
          · rw [e_z, upd_n2 (by omega)]; rw [e_z] at hq; exact hf 72 j_z hq
          · rw [upd_ne e_z]; exact hf q_z j_z hq
        · rw [upd_n2 (by omega), sh_z]; exact h11
      · rw [a9, b102_z, h11, show (n_z : Int) + 1 = ((n_z + 1 : Nat) : Int) by omega]
        have e1 : lwF (A 102) n_z = 0 := if_neg h1.2
        have e2 : hgF (A 102) n_z = 1 := if_neg h1.2
        rw [e1, if_pos rfl] at sl_z
        rw [e2, if_neg (by decide)] at sh_z
        rw [← sh_z]
        have hb_z := i64_bd (bitsV_i64 (fun f_z => A 102 f_z - 64) (hgF (A 102)) (n_z + 1))
        refine ih_z (n_z + 1) _ (by omega) (by omega) ⟨(g5_10 hB_z hb_z.1 hb_z.2).2, fun q_z j_z hq => ?_, ?_, upd_at⟩
        · by_cases e_z : q_z = 72
          · rw [e_z, upd_n2 (by omega)]; rw [e_z] at hq; exact hf 72 j_z hq
          · rw [upd_ne e_z]; exact hf q_z j_z hq
        · rw [upd_n2 (by omega), sl_z]; exact h10
    · refine ⟨oX_5 z72 kk72 8 rfl, ?_⟩
      refine ⟨oX_1 (r := B_z 72 8) (by rw [a8]; omega) (by rw [a8]; exact kk79) 0 rfl, ?_⟩
      refine ⟨fun h_z => ?_, fun h_z => ?_⟩
      · rw [a8, b79] at h_z
        have e_z : n_z = (A 79 0).toNat := by omega
        rw [e_z] at hI0
        exact ⟨rfl, hI0⟩
      · rw [a8, b79] at h_z
        have v0_z := eX_27 hA (r := 102) (by omega) kk102 (j := (n_z : Int)) (by omega) (by omega)
        have ev_z : B_z (B_z 72 9) (n_z : Int) = A 102 n_z := by rw [a9]; exact b102_z _
        refine ⟨oX_5 z72 kk72 9 rfl, ?_⟩
        refine ⟨aX_27 (r := B_z 72 9) (by rw [a9]; omega) (by rw [a9]; exact kk102) (by omega) (by omega), ?_⟩
        refine ⟨fun h2 => ?_, fun h2 => ?_⟩
        · rw [ev_z] at h2
          refine ⟨oX_5 z72 kk72 11 rfl, ?_⟩
          refine ⟨oX_5 z72 kk72 9 rfl, ?_⟩
          refine ⟨aX_27 (r := B_z 72 9) (by rw [a9]; omega) (by rw [a9]; exact kk102) (by omega) (by omega), ?_⟩
          refine ⟨⟨by rw [ev_z]; omega, by rw [ev_z]; omega⟩, ?_⟩
          refine ⟨oX_5 z72 kk72 11 rfl, ?_⟩
          refine ⟨⟨by omega, by omega⟩, ?_⟩
          exact Or.inr ⟨rfl, ⟨h_z, by omega⟩, rfl⟩
        · rw [ev_z] at h2
          refine ⟨oX_5 z72 kk72 10 rfl, ?_⟩
          refine ⟨oX_5 z72 kk72 9 rfl, ?_⟩
          refine ⟨aX_27 (r := B_z 72 9) (by rw [a9]; omega) (by rw [a9]; exact kk102) (by omega) (by omega), ?_⟩
          refine ⟨oX_5 z72 kk72 10 rfl, ?_⟩
          refine ⟨⟨by omega, by omega⟩, ?_⟩
          exact Or.inl ⟨rfl, ⟨h_z, by omega⟩, rfl⟩
theorem gather_ex {A : pm_A} (hA : gH wX A) (hT : AT A) : Cl pmt (an_sh wX) 8 [(2, 72)] A (gaP A) := by
  have p6_z := fX_1_0 hA z79 kk79
  have g1 := (g5_10 hA (t := 0) (by omega) (by omega)).1
  have g2 := (g5_10 g1 (t := 0) (by omega) (by omega)).2
  refine Cl.of (Nat.le_of_ble_eq_true rfl) ?_
  refine wq_ok (full := o_X0_gatherLetters) srt_gather (fr := []) (cuts := [12]) (J := fun pc st_z => pc = 12 ∧ st_z = ([(2, 72), (0, 0)], [], pm_upd (pm_upd A 72 10 0) 72 11 0)) ?_ 20 0 _ ?_
  · rintro pc st_z ⟨rfl, rfl⟩
    refine ga_12 hA hT _ 0 _ (Nat.lt_succ_self _) (by omega) ⟨g2, fun q_z j_z hq => ?_, ?_, ?_⟩
    · by_cases e_z : q_z = 72
      · rw [e_z] at hq ⊢
        rw [upd_n2 (by omega), upd_n2 (by omega)]
      · rw [upd_ne e_z, upd_ne e_z]
    · rw [upd_n2 (by omega), upd_at]; rfl
    · rw [upd_at]; rfl
  · refine ⟨oX_5 z72 kk72 10 rfl, ?_⟩
    refine ⟨oX_5 z72 kk72 11 rfl, ?_⟩
    exact ⟨rfl, rfl⟩
theorem srt_seatsMap : pm_srt o_X0_seatsMap = true := by decide +kernel
def smO (A B : pm_A) : Prop := gH wX B ∧ ∀ q_z j_z : Int, ¬ q_z = 103 → B q_z j_z = A q_z j_z
def smU (A : pm_A) (r i j : Int) : Prop := (0 ≤ j ∧ j < A 79 0) ∧ A 74 (6 * r + j) = A 102 i ∧ ∀ d_z : Int, 0 ≤ d_z → d_z < A 79 0 → A 74 (6 * r + d_z) = A 102 i → d_z = j
def smQ (A : pm_A) (r : Int) (q : pm_R) : Prop := q.1 = none ∧ smO A q.2 ∧ ∀ i_z j_z : Int, 0 ≤ i_z → i_z < A 79 0 → smU A r i_z j_z → q.2 103 i_z = j_z
theorem mp_15 {A : pm_A} {r i : Int} (hA : gH wX A) (hT : AT A) (r0 : 0 ≤ r) (r1 : r ≤ 149) (i0 : 0 ≤ i) (i1 : i < A 79 0) (H : ∀ (C_z : pm_A) (v_z : pm_V), smO A C_z → (∀ d_z j_z : Int, 0 ≤ d_z → d_z < i + 1 → smU A r d_z j_z → C_z 103 d_z = j_z) → Tm pmt (an_sh wX) o_X0_seatsMap 59 ([(2, 72), (0, r), (0, i), v_z], [], C_z) (smQ A r)) : ∀ (m_z : Nat) (j_z : Int) (B_z : pm_A), (6 - j_z).toNat < m_z → 0 ≤ j_z → j_z ≤ A 79 0 → smO A B_z → (∀ d_z e_z : Int, 0 ≤ d_z → d_z < i → smU A r d_z e_z → B_z 103 d_z = e_z) → (∀ e_z : Int, e_z < j_z → smU A r i e_z → B_z 103 i = e_z) → Tm pmt (an_sh wX) o_X0_seatsMap 15 ([(2, 72), (0, r), (0, i), (0, j_z)], [], B_z) (smQ A r) := by
  have p6_z := fX_1_0 hA z79 kk79
  intro m_z
  induction m_z with
  | zero => intro j_z B_z h_z; omega
  | succ m_z ih_z =>
    intro j_z B_z hm_z j0 j1 hO hd_z he
    have b72 : ∀ k_z : Int, B_z 72 k_z = A 72 k_z := fun k_z => hO.2 72 k_z (by omega)
    have a8 : B_z 72 8 = 79 := by rw [b72]; exact hT.1.2.2.2.2.2.2.1
    have a9 : B_z 72 9 = 102 := by rw [b72]; exact hT.1.2.2.2.2.2.2.2.1
    have a2 : B_z 72 2 = 74 := by rw [b72]; exact hT.1.2.1
    have a12 : B_z 72 12 = 103 := by rw [b72]; exact hT.1.2.2.2.2.2.2.2.2
    have b79 : B_z 79 0 = A 79 0 := hO.2 79 0 (by omega)
    have b74 : ∀ k_z : Int, B_z 74 k_z = A 74 k_z := fun k_z => hO.2 74 k_z (by omega)
    have b102_z : ∀ k_z : Int, B_z 102 k_z = A 102 k_z := fun k_z => hO.2 102 k_z (by omega)
    have go_z : ∀ C_z : pm_A, j_z < A 79 0 → smO A C_z → (∀ d_z e_z : Int, 0 ≤ d_z → d_z < i → smU A r d_z e_z → C_z 103 d_z = e_z) → (∀ e_z : Int, e_z < j_z + 1 → smU A r i e_z → C_z 103 i = e_z) → Tm pmt (an_sh wX) o_X0_seatsMap 53 ([(2, 72), (0, r), (0, i), (0, j_z)], [], C_z) (smQ A r) := fun C_z hj c1_z c2_z c3_z => by
      refine wq_ok srt_seatsMap (fr := []) (cuts := [15]) (J := fun pc st_z => pc = 15 ∧ st_z = ([(2, 72), (0, r), (0, i), (0, j_z + 1)], [], C_z)) ?_ 20 53 _ ?_
      · rintro pc st_z ⟨rfl, rfl⟩
        exact ih_z (j_z + 1) C_z (by omega) (by omega) (by omega) c1_z c2_z c3_z
      · refine ⟨⟨by omega, by omega⟩, ?_⟩
        exact ⟨rfl, rfl⟩
    refine wq_ok srt_seatsMap (fr := []) (cuts := [53, 59]) (J := fun pc st_z => (pc = 59 ∧ j_z = A 79 0 ∧ st_z = ([(2, 72), (0, r), (0, i), (0, j_z)], [], B_z)) ∨ (pc = 53 ∧ (j_z < A 79 0 ∧ A 74 (6 * r + j_z) = A 102 i) ∧ st_z = ([(2, 72), (0, r), (0, i), (0, j_z)], [], pm_upd B_z (B_z 72 12) i j_z)) ∨ (pc = 53 ∧ (j_z < A 79 0 ∧ ¬ A 74 (6 * r + j_z) = A 102 i) ∧ st_z = ([(2, 72), (0, r), (0, i), (0, j_z)], [], B_z))) ?_ 40 15 _ ?_
    · rintro pc st_z (⟨rfl, h1, rfl⟩ | ⟨rfl, h1, rfl⟩ | ⟨rfl, h1, rfl⟩)
      · refine H B_z _ hO (fun d_z e_z d0_z d1_z hu => ?_)
        by_cases q_z : d_z = i
        · rw [q_z] at hu ⊢; exact he e_z (by have := hu.1; omega) hu
        · exact hd_z d_z e_z d0_z (by omega) hu
      · rw [a12]
        refine go_z _ h1.1 ⟨uX_17 hO.1 kk103 (by omega) (by omega), fun q_z k_z hq => by rw [upd_ne hq]; exact hO.2 q_z k_z hq⟩ (fun d_z e_z d0_z d1_z hu => ?_) (fun e_z e1 hu => ?_)
        · rw [upd_n2 (by omega)]; exact hd_z d_z e_z d0_z d1_z hu
        · rw [upd_at]; exact hu.2.2 j_z j0 h1.1 h1.2
      · refine go_z B_z h1.1 hO hd_z (fun e_z e1 hu => ?_)
        by_cases q_z : e_z = j_z
        · rw [q_z] at hu; exact absurd hu.2.1 h1.2
        · exact he e_z (by omega) hu
    · refine ⟨oX_5 z72 kk72 8 rfl, ?_⟩
      refine ⟨oX_1 (r := B_z 72 8) (by rw [a8]; omega) (by rw [a8]; exact kk79) 0 rfl, ?_⟩
      refine ⟨fun h_z => ?_, fun h_z => ?_⟩
      · rw [a8, b79] at h_z
        exact Or.inl ⟨rfl, by omega, rfl⟩
      · rw [a8, b79] at h_z
        have ev_z : B_z (B_z 72 2) (r * 6 + j_z) = A 74 (6 * r + j_z) := by rw [a2, b74, show r * 6 + j_z = 6 * r + j_z by omega]
        have ew : B_z (B_z 72 9) i = A 102 i := by rw [a9]; exact b102_z i
        refine ⟨oX_5 z72 kk72 2 rfl, ?_⟩
        refine ⟨⟨by omega, by omega⟩, ?_⟩
        refine ⟨⟨by omega, by omega⟩, ?_⟩
        refine ⟨aX_23 (r := B_z 72 2) (by rw [a2]; omega) (by rw [a2]; exact kk74) (by omega) (by omega), ?_⟩
        refine ⟨oX_5 z72 kk72 9 rfl, ?_⟩
        refine ⟨aX_27 (r := B_z 72 9) (by rw [a9]; omega) (by rw [a9]; exact kk102) i0 (by omega), ?_⟩
        refine ⟨fun h2 => ?_, fun h2 => ?_⟩
        · rw [ev_z, ew] at h2
          exact Or.inr (Or.inr ⟨rfl, ⟨h_z, h2⟩, rfl⟩)
        · rw [ev_z, ew] at h2
          refine ⟨oX_5 z72 kk72 12 rfl, ?_⟩
          refine ⟨tX_17 (r := B_z 72 12) (by rw [a12]; omega) (by rw [a12]; exact kk103) i0 (by omega) rfl, ?_⟩
          exact Or.inr (Or.inl ⟨rfl, ⟨h_z, h2⟩, rfl⟩)
theorem mp_2 {A : pm_A} {r : Int} (hA : gH wX A) (hT : AT A) (r0 : 0 ≤ r) (r1 : r ≤ 149) : ∀ (m_z : Nat) (i_z : Int) (v_z : pm_V) (B_z : pm_A), (6 - i_z).toNat < m_z → 0 ≤ i_z → i_z ≤ A 79 0 → smO A B_z → (∀ d_z j_z : Int, 0 ≤ d_z → d_z < i_z → smU A r d_z j_z → B_z 103 d_z = j_z) → Tm pmt (an_sh wX) o_X0_seatsMap 2 ([(2, 72), (0, r), (0, i_z), v_z], [], B_z) (smQ A r) := by
  have p6_z := fX_1_0 hA z79 kk79
  intro m_z
  induction m_z with
  | zero => intro i_z v_z B_z h_z; omega
  | succ m_z ih_z =>
    intro i_z v_z B_z hm_z i0_z i1_z hO hd_z
    have b72 : ∀ k_z : Int, B_z 72 k_z = A 72 k_z := fun k_z => hO.2 72 k_z (by omega)
    have a8 : B_z 72 8 = 79 := by rw [b72]; exact hT.1.2.2.2.2.2.2.1
    have b79 : B_z 79 0 = A 79 0 := hO.2 79 0 (by omega)
    refine wq_ok srt_seatsMap (fr := []) (cuts := [15]) (J := fun pc st_z => pc = 15 ∧ i_z < A 79 0 ∧ st_z = ([(2, 72), (0, r), (0, i_z), (0, 0)], [], B_z)) ?_ 40 2 _ ?_
    · rintro pc st_z ⟨rfl, h1, rfl⟩
      refine mp_15 hA hT r0 r1 i0_z h1 (fun C_z v_z hC hc_z => ?_) _ 0 B_z (Nat.lt_succ_self _) (by omega) p6_z.1 hO hd_z (fun e_z e1 hu => by have := hu.1; omega)
      refine wq_ok srt_seatsMap (fr := []) (cuts := [2]) (J := fun pc st_z => pc = 2 ∧ st_z = ([(2, 72), (0, r), (0, i_z + 1), v_z], [], C_z)) ?_ 40 59 _ ?_
      · rintro pc st_z ⟨rfl, rfl⟩
        exact ih_z (i_z + 1) v_z C_z (by omega) (by omega) (by omega) hC hc_z
      · refine ⟨⟨by omega, by omega⟩, ?_⟩
        exact ⟨rfl, rfl⟩
    · refine ⟨oX_5 z72 kk72 8 rfl, ?_⟩
      refine ⟨oX_1 (r := B_z 72 8) (by rw [a8]; omega) (by rw [a8]; exact kk79) 0 rfl, ?_⟩
      refine ⟨fun h_z => ?_, fun h_z => ?_⟩
      · rw [a8, b79] at h_z
        exact ⟨rfl, hO, fun d_z j_z d0_z d1_z hu => hd_z d_z j_z d0_z (by omega) hu⟩
      · rw [a8, b79] at h_z
        exact ⟨rfl, h_z, rfl⟩
theorem seatsMap_ex {A : pm_A} {r : Int} (hA : gH wX A) (hT : AT A) (r0 : 0 ≤ r) (r1 : r ≤ 149) : Cl pmt (an_sh wX) 14 [(2, 72), (0, r)] A (smQ A r) := by
  have p6_z := fX_1_0 hA z79 kk79
  refine Cl.of (Nat.le_of_ble_eq_true rfl) ?_
  refine wq_ok (full := o_X0_seatsMap) srt_seatsMap (fr := []) (cuts := [2]) (J := fun pc st_z => pc = 2 ∧ ∃ v_z, st_z = ([(2, 72), (0, r), (0, 0), v_z], [], A)) ?_ 20 0 _ ?_
  · rintro pc st_z ⟨rfl, v_z, rfl⟩
    exact mp_2 hA hT r0 r1 _ 0 v_z A (Nat.lt_succ_self _) (by omega) p6_z.1 ⟨hA, fun _ _ _ => rfl⟩ (fun d_z j_z d0_z d1_z => by omega)
  · exact ⟨rfl, _, rfl⟩
def htd (F : Int) (T U : Int → Int) (S : Int → Int) (W P : Int) : Prop := ∀ i_z j_z : Int, 0 ≤ i_z → i_z < W → 0 ≤ j_z → j_z < P → T (i_z * 6 + j_z) = U (F + rwS P S i_z * 6 + S j_z)
def htY (A : pm_A) (g o S F : Int) : Prop := gH wX A ∧ (0 ≤ g ∧ wX.2 g = 1) ∧ (0 ≤ o ∧ wX.2 o = 25) ∧ (0 ≤ S ∧ wX.2 S = 17) ∧ (∀ i_z : Int, 0 ≤ i_z → i_z < A g 0 → 0 ≤ A S i_z ∧ A S i_z ≤ 5) ∧ 0 ≤ F ∧ F ≤ 10728
theorem hty_40 {A : pm_A} {g o S F i : Int} (hH : htY A g o S F) (i0 : 0 ≤ i) (i1 : i < bgW A g) (H : ∀ v6 : pm_V, (∀ j_z : Int, 0 ≤ j_z → j_z < A g 0 → A (A g 2) (i * 6 + j_z) = A o (F + rwS (A g 0) (A S) i * 6 + A S j_z)) → Tm pmt (an_sh wX) o_X7_hasTable 87 ([(2, g), (2, o), (0, F), (2, S), (0, i), (0, rwS (A g 0) (A S) i), v6], [], A) (abP A (htd F (A (A g 2)) (A o) (A S) (bgW A g) (A g 0)))) : ∀ (m_z : Nat) (j_z : Int), (6 - j_z).toNat < m_z → 0 ≤ j_z → j_z ≤ A g 0 → (∀ d_z : Int, 0 ≤ d_z → d_z < j_z → A (A g 2) (i * 6 + d_z) = A o (F + rwS (A g 0) (A S) i * 6 + A S d_z)) → Tm pmt (an_sh wX) o_X7_hasTable 40 ([(2, g), (2, o), (0, F), (2, S), (0, i), (0, rwS (A g 0) (A S) i), (0, j_z)], [], A) (abP A (htd F (A (A g 2)) (A o) (A S) (bgW A g) (A g 0))) := by
  obtain ⟨hA, hg, ho, hS_z, hs, hF⟩ := hH
  have p6_z := fX_1_0 hA hg.1 hg.2
  have h6 := fX_1_1 hA hg.1 hg.2
  have t2_z := fX_1_2 hA hg.1 hg.2
  have hw : bgW A g = A g 0 + A g 1 := rfl
  have hrw : 0 ≤ rwS (A g 0) (A S) i ∧ rwS (A g 0) (A S) i ≤ 11 := by
    by_cases e_z : i < A g 0
    · rw [show rwS (A g 0) (A S) i = A S i from if_pos e_z]
      have := hs i i0 e_z
      omega
    · rw [show rwS (A g 0) (A S) i = i from if_neg e_z]
      omega
  generalize hR : rwS (A g 0) (A S) i = R_z at H hrw ⊢
  intro m_z
  induction m_z with
  | zero => intro j_z h_z; omega
  | succ m_z ih_z =>
    intro j_z hm_z j0 j1 hc_z
    refine wq_ok srt_hasTable (fr := []) (cuts := [40, 87]) (J := fun pc st_z => (pc = 87 ∧ j_z = A g 0 ∧ st_z = ([(2, g), (2, o), (0, F), (2, S), (0, i), (0, R_z), (0, j_z)], [], A)) ∨ (pc = 40 ∧ j_z < A g 0 ∧ A (A g 2) (i * 6 + j_z) = A o (F + R_z * 6 + A S j_z) ∧ st_z = ([(2, g), (2, o), (0, F), (2, S), (0, i), (0, R_z), (0, j_z + 1)], [], A))) ?_ 40 40 _ ?_
    · rintro pc st_z (⟨rfl, hj, rfl⟩ | ⟨rfl, hj, he, rfl⟩)
      · exact H _ (fun d_z d0_z d1_z => hc_z d_z d0_z (by omega))
      · refine ih_z (j_z + 1) (by omega) (by omega) (by omega) (fun d_z d0_z d1_z => ?_)
        by_cases e_z : d_z = j_z
        · rw [e_z]; exact he
        · exact hc_z d_z d0_z (by omega)
    · refine ⟨oX_1 hg.1 hg.2 0 rfl, ?_⟩
      refine ⟨fun h_z => Or.inl ⟨rfl, by omega, rfl⟩, fun h_z => ?_⟩
      have hsj := hs j_z j0 h_z
      refine ⟨oX_1 hg.1 hg.2 2 rfl, ?_⟩
      refine ⟨⟨by omega, by omega⟩, ?_⟩
      refine ⟨⟨by omega, by omega⟩, ?_⟩
      refine ⟨aX_10 t2_z.1 t2_z.2 (by omega) (by omega), ?_⟩
      refine ⟨⟨by omega, by omega⟩, ?_⟩
      refine ⟨⟨by omega, by omega⟩, ?_⟩
      refine ⟨aX_17 hS_z.1 hS_z.2 j0 (by omega), ?_⟩
      refine ⟨⟨by omega, by omega⟩, ?_⟩
      refine ⟨aX_25 ho.1 ho.2 (by omega) (by omega), ?_⟩
      refine ⟨fun h3 => ?_, fun h3 => ?_⟩
      · refine ⟨⟨by omega, by omega⟩, ?_⟩
        exact Or.inr ⟨rfl, h_z, h3, rfl⟩
      · refine ⟨rfl, rfl, Or.inr ⟨rfl, fun q_z => h3 ?_⟩⟩
        have h4 := q_z i j_z i0 i1 j0 h_z
        rw [hR] at h4
        exact h4
theorem hty_3 {A : pm_A} {g o S F : Int} (hH : htY A g o S F) : ∀ (m_z : Nat) (i_z : Int) (v5 v6 : pm_V), (12 - i_z).toNat < m_z → 0 ≤ i_z → i_z ≤ bgW A g → (∀ a_z j_z : Int, 0 ≤ a_z → a_z < i_z → 0 ≤ j_z → j_z < A g 0 → A (A g 2) (a_z * 6 + j_z) = A o (F + rwS (A g 0) (A S) a_z * 6 + A S j_z)) → Tm pmt (an_sh wX) o_X7_hasTable 3 ([(2, g), (2, o), (0, F), (2, S), (0, i_z), v5, v6], [], A) (abP A (htd F (A (A g 2)) (A o) (A S) (bgW A g) (A g 0))) := by
  have hH0 := hH
  obtain ⟨hA, hg, ho, hS_z, hs, hF⟩ := hH
  have p6_z := fX_1_0 hA hg.1 hg.2
  have h6 := fX_1_1 hA hg.1 hg.2
  have hw : bgW A g = A g 0 + A g 1 := rfl
  intro m_z
  induction m_z with
  | zero => intro i_z v5 v6 h_z; omega
  | succ m_z ih_z =>
    intro i_z v5 v6 hm_z i0_z i1_z hc_z
    refine wq_ok srt_hasTable (fr := []) (cuts := [40]) (J := fun pc st_z => pc = 40 ∧ i_z < bgW A g ∧ st_z = ([(2, g), (2, o), (0, F), (2, S), (0, i_z), (0, rwS (A g 0) (A S) i_z), (0, 0)], [], A)) ?_ 40 3 _ ?_
    · rintro pc st_z ⟨rfl, hi_z, rfl⟩
      refine hty_40 hH0 i0_z hi_z (fun v6 hrow => ?_) _ 0 (Nat.lt_succ_self _) (by omega) p6_z.1 (fun d_z d0_z d1_z => by omega)
      refine wq_ok srt_hasTable (fr := []) (cuts := [3]) (J := fun pc st_z => pc = 3 ∧ st_z = ([(2, g), (2, o), (0, F), (2, S), (0, i_z + 1), (0, rwS (A g 0) (A S) i_z), v6], [], A)) ?_ 40 87 _ ?_
      · rintro pc st_z ⟨rfl, rfl⟩
        refine ih_z (i_z + 1) _ v6 (by omega) (by omega) (by omega) (fun a_z j_z a0_z a1_z j0 j1 => ?_)
        by_cases e_z : a_z = i_z
        · rw [e_z]; exact hrow j_z j0 j1
        · exact hc_z a_z j_z a0_z (by omega) j0 j1
      · refine ⟨⟨by omega, by omega⟩, ?_⟩
        exact ⟨rfl, rfl⟩
    · refine ⟨oX_1 hg.1 hg.2 0 rfl, ?_⟩
      refine ⟨oX_1 hg.1 hg.2 1 rfl, ?_⟩
      refine ⟨⟨by omega, by omega⟩, ?_⟩
      refine ⟨fun h_z => ?_, fun h_z => ?_⟩
      · exact ⟨rfl, rfl, Or.inl ⟨rfl, fun a_z j_z a0_z a1_z j0 j1 => hc_z a_z j_z a0_z (by omega) j0 j1⟩⟩
      · refine ⟨oX_1 hg.1 hg.2 0 rfl, ?_⟩
        refine ⟨fun h2 => ?_, fun h2 => ?_⟩
        · refine ⟨rfl, h_z, ?_⟩
          rw [show rwS (A g 0) (A S) i_z = i_z from if_neg (by omega)]
          rfl
        · refine ⟨aX_17 hS_z.1 hS_z.2 i0_z (by omega), ?_⟩
          refine ⟨rfl, h_z, ?_⟩
          rw [show rwS (A g 0) (A S) i_z = A S i_z from if_pos h2]
          rfl
theorem hasTable_ey {A : pm_A} {g o S F : Int} (hH : htY A g o S F) : Cl pmt (an_sh wX) 68 [(2, g), (2, o), (0, F), (2, S)] A (abP A (htd F (A (A g 2)) (A o) (A S) (bgW A g) (A g 0))) := by
  have p6_z := fX_1_0 hH.1 hH.2.1.1 hH.2.1.2
  have h6 := fX_1_1 hH.1 hH.2.1.1 hH.2.1.2
  refine Cl.of (Nat.le_of_ble_eq_true rfl) ?_
  refine wq_ok (full := o_X7_hasTable) srt_hasTable (fr := []) (cuts := [3]) (J := fun pc st_z => pc = 3 ∧ ∃ v5 v6, st_z = ([(2, g), (2, o), (0, F), (2, S), (0, 0), v5, v6], [], A)) ?_ 20 0 _ ?_
  · rintro pc st_z ⟨rfl, v5, v6, rfl⟩
    exact hty_3 hH _ 0 v5 v6 (Nat.lt_succ_self _) (by omega) (by unfold bgW; omega) (fun a_z j_z a0_z a1_z => by omega)
  · exact ⟨rfl, _, _, rfl⟩
theorem htd_cong {F : Int} {T U S S' : Int → Int} {W P : Int} (e : ∀ i_z : Int, 0 ≤ i_z → i_z < P → S i_z = S' i_z) (h : htd F T U S W P) : htd F T U S' W P := by
  intro i_z j_z i0_z i1_z j0 j1
  have h1 := h i_z j_z i0_z i1_z j0 j1
  rw [e j_z j0 j1] at h1
  have e2 : rwS P S i_z = rwS P S' i_z := by
    unfold rwS
    by_cases q_z : i_z < P
    · rw [if_pos q_z, if_pos q_z, e i_z i0_z q_z]
    · rw [if_neg q_z, if_neg q_z]
  rw [e2] at h1
  exact h1
theorem srt_rowOf : pm_srt o_X0_rowOf = true := by decide +kernel
/-- the row r of the atlas is the seed at hand, its places standing at M -/
def thr (A : pm_A) (r : Int) (M : Int → Int) : Prop := (∀ i_z : Int, 0 ≤ i_z → i_z < A 79 0 → (0 ≤ M i_z ∧ M i_z < A 79 0) ∧ A 74 (6 * r + M i_z) = A 102 i_z) ∧ htd (72 * r) (A 80) (A 76) M (bgW A 79) (A 79 0)
def dst (S : Int → Int) (P : Int) : Prop := (∀ i_z : Int, 0 ≤ i_z → i_z < P → 0 ≤ S i_z ∧ S i_z ≤ 99) ∧ ∀ i_z j_z : Int, 0 ≤ i_z → i_z < P → 0 ≤ j_z → j_z < P → S i_z = S j_z → i_z = j_z
def roH (A : pm_A) : Prop := AT A ∧ dst (A 102) (A 79 0) ∧ (A 72 10 = loM (A 102) (A 79 0).toNat ∧ A 72 11 = hgM (A 102) (A 79 0).toNat) ∧ ∀ r_z : Int, 0 ≤ r_z → r_z < A 72 7 → dst (fun j_z => A 74 (6 * r_z + j_z)) (A 79 0) ∧ A 77 r_z = loM (fun j_z => A 74 (6 * r_z + j_z)) (A 79 0).toNat ∧ A 78 r_z = hgM (fun j_z => A 74 (6 * r_z + j_z)) (A 79 0).toNat
def roP (A : pm_A) (q : pm_R) : Prop := smO A q.2 ∧ ((q.1 = some (0, -1) ∧ ∀ r_z : Int, 0 ≤ r_z → r_z < A 72 7 → ¬ ∃ M_z, thr A r_z M_z) ∨ ∃ r_z : Int, (0 ≤ r_z ∧ r_z < A 72 7) ∧ q.1 = some (0, r_z) ∧ thr A r_z (q.2 103))
theorem thr_mask {A : pm_A} {r : Int} {M : Int → Int} (h1 : dst (A 102) (A 79 0)) (h2 : dst (fun j_z => A 74 (6 * r + j_z)) (A 79 0)) (p0 : 0 ≤ A 79 0) (h : thr A r M) : loM (A 102) (A 79 0).toNat = loM (fun j_z => A 74 (6 * r + j_z)) (A 79 0).toNat ∧ hgM (A 102) (A 79 0).toNat = hgM (fun j_z => A 74 (6 * r + j_z)) (A 79 0).toNat := by
  refine (mask_eq (fun f_z f0_z f1_z => h1.1 f_z f0_z (by omega)) (fun f_z f0_z f1_z => h2.1 f_z f0_z (by omega))).2 (fun v_z => ?_)
  refine ⟨fun ⟨f_z, ⟨f0_z, f1_z⟩, f3_z⟩ => ?_, fun ⟨f_z, ⟨f0_z, f1_z⟩, f3_z⟩ => ?_⟩
  · have h5 := h.1 f_z f0_z (by omega)
    exact ⟨M f_z, ⟨h5.1.1, by omega⟩, by rw [← f3_z]; exact h5.2⟩
  · obtain ⟨i_z, ⟨i0_z, i1_z⟩, hi_z⟩ := pig (M := M) (fun i_z i0_z i1_z => (h.1 i_z i0_z i1_z).1) (fun i_z j_z i0_z i1_z j0 j1 e_z => h1.2 i_z j_z i0_z i1_z j0 j1 (by rw [← (h.1 i_z i0_z i1_z).2, ← (h.1 j_z j0 j1).2, e_z])) f_z f0_z (by omega)
    refine ⟨i_z, ⟨i0_z, by omega⟩, ?_⟩
    rw [← (h.1 i_z i0_z i1_z).2, hi_z]
    exact f3_z
theorem thr_u {A : pm_A} {r : Int} {M N : Int → Int} (h2 : dst (fun j_z => A 74 (6 * r + j_z)) (A 79 0)) (h : thr A r M) (hN : ∀ i : Int, 0 ≤ i → i < A 79 0 → (0 ≤ N i ∧ N i < A 79 0) ∧ A 74 (6 * r + N i) = A 102 i) {i : Int} (i0 : 0 ≤ i) (i1 : i < A 79 0) : M i = N i := by
  have a_z := h.1 i i0 i1
  have b_z := hN i i0 i1
  exact h2.2 (M i) (N i) a_z.1.1 a_z.1.2 b_z.1.1 b_z.1.2 (by show A 74 (6 * r + M i) = A 74 (6 * r + N i); rw [a_z.2, b_z.2])
theorem rz_2 {A : pm_A} (hA : gH wX A) (hH : roH A) : ∀ (m_z : Nat) (r_z : Int) (B_z : pm_A), (150 - r_z).toNat < m_z → 0 ≤ r_z → r_z ≤ A 72 7 → smO A B_z → (∀ d_z : Int, 0 ≤ d_z → d_z < r_z → ¬ ∃ M_z, thr A d_z M_z) → Tm pmt (an_sh wX) o_X0_rowOf 2 ([(2, 72), (0, r_z)], [], B_z) (roP A) := by
  have p6_z := fX_1_0 hA z79 kk79
  have q6_z := fX_1_1 hA z79 kk79
  have f7_z := fX_5_7 hA z72 kk72
  obtain ⟨hT_z, hdS, hm_z, hrow⟩ := hH
  intro m_z
  induction m_z with
  | zero => intro r_z B_z h_z; omega
  | succ m_z ih_z =>
    intro r_z B_z hmm r0 r1_z hO hd_z
    have b72 : ∀ k_z : Int, B_z 72 k_z = A 72 k_z := fun k_z => hO.2 72 k_z (by omega)
    have a8 : B_z 72 8 = 79 := by rw [b72]; exact hT_z.1.2.2.2.2.2.2.1
    have a5 : B_z 72 5 = 77 := by rw [b72]; exact hT_z.1.2.2.2.2.1
    have a6 : B_z 72 6 = 78 := by rw [b72]; exact hT_z.1.2.2.2.2.2.1
    have b77 : ∀ k_z : Int, B_z 77 k_z = A 77 k_z := fun k_z => hO.2 77 k_z (by omega)
    have b78 : ∀ k_z : Int, B_z 78 k_z = A 78 k_z := fun k_z => hO.2 78 k_z (by omega)
    have nx : ∀ C_z : pm_A, r_z < A 72 7 → smO A C_z → (¬ ∃ M_z, thr A r_z M_z) → Tm pmt (an_sh wX) o_X0_rowOf 67 ([(2, 72), (0, r_z)], [], C_z) (roP A) := fun C_z hr hC hno => by
      refine wq_ok srt_rowOf (fr := []) (cuts := [2]) (J := fun pc st_z => pc = 2 ∧ st_z = ([(2, 72), (0, r_z + 1)], [], C_z)) ?_ 20 67 _ ?_
      · rintro pc st_z ⟨rfl, rfl⟩
        refine ih_z (r_z + 1) C_z (by omega) (by omega) (by omega) hC (fun d_z d0_z d1_z => ?_)
        by_cases e_z : d_z = r_z
        · rw [e_z]; exact hno
        · exact hd_z d_z d0_z (by omega)
      · refine ⟨⟨by omega, by omega⟩, ?_⟩
        exact ⟨rfl, rfl⟩
    refine wq_ok srt_rowOf (fr := []) (cuts := [43, 67]) (J := fun pc st_z => (pc = 67 ∧ (r_z < A 72 7 ∧ ¬ (A 77 r_z = A 72 10 ∧ A 78 r_z = A 72 11)) ∧ st_z = ([(2, 72), (0, r_z)], [], B_z)) ∨ (pc = 43 ∧ (r_z < A 72 7 ∧ A 77 r_z = A 72 10 ∧ A 78 r_z = A 72 11) ∧ ∃ C_z, smQ B_z r_z (none, C_z) ∧ st_z = ([(2, 72), (0, r_z)], [], C_z))) ?_ 40 2 _ ?_
    · rintro pc st_z (⟨rfl, h1, rfl⟩ | ⟨rfl, h1, C_z, hC, rfl⟩)
      · have hw := hrow r_z r0 h1.1
        refine nx B_z h1.1 hO (fun ⟨M_z, hM_z⟩ => h1.2 ?_)
        have h3 := thr_mask hdS hw.1 p6_z.1 hM_z
        rw [hw.2.1, hw.2.2, hm_z.1, hm_z.2]
        exact ⟨h3.1.symm, h3.2.symm⟩
      · have hw := hrow r_z r0 h1.1
        obtain ⟨_, ⟨c1_z, c2_z⟩, c3_z⟩ := hC
        simp only at c1_z c2_z c3_z
        have hOC : smO A C_z := ⟨c1_z, fun q_z k_z hq => (c2_z q_z k_z hq).trans (hO.2 q_z k_z hq)⟩
        have hset := (mask_eq (n := (A 79 0).toNat) (fun f_z f0_z f1_z => hdS.1 f_z f0_z (by omega)) (fun f_z f0_z f1_z => hw.1.1 f_z f0_z (by omega))).1 (by
          rw [← hm_z.1, ← hm_z.2, ← hw.2.1, ← hw.2.2]
          exact ⟨h1.2.1.symm, h1.2.2.symm⟩)
        have bsm : ∀ i_z j_z : Int, smU A r_z i_z j_z → smU B_z r_z i_z j_z := fun i_z j_z hu => by
          unfold smU at hu ⊢
          rw [hO.2 79 0 (by omega), hO.2 74 _ (by omega), hO.2 102 _ (by omega)]
          exact ⟨hu.1, hu.2.1, fun d_z d0_z d1_z hd2 => hu.2.2 d_z d0_z d1_z (by rw [hO.2 74 _ (by omega)] at hd2; exact hd2)⟩
        have hM_z : ∀ i_z : Int, 0 ≤ i_z → i_z < A 79 0 → (0 ≤ C_z 103 i_z ∧ C_z 103 i_z < A 79 0) ∧ A 74 (6 * r_z + C_z 103 i_z) = A 102 i_z := fun i_z i0_z i1_z => by
          obtain ⟨f_z, ⟨f0_z, f1_z⟩, f3_z⟩ := (hset (A 102 i_z)).1 ⟨i_z, ⟨i0_z, by omega⟩, rfl⟩
          have hu : smU A r_z i_z f_z := ⟨⟨f0_z, by omega⟩, f3_z, fun d_z d0_z d1_z hd2 => hw.1.2 d_z f_z d0_z d1_z f0_z (by omega) (by show A 74 (6 * r_z + d_z) = A 74 (6 * r_z + f_z); rw [hd2]; exact f3_z.symm)⟩
          have e_z := c3_z i_z f_z i0_z (by rw [hO.2 79 0 (by omega)]; exact i1_z) (bsm i_z f_z hu)
          rw [e_z]
          exact ⟨hu.1, f3_z⟩
        have cc : ∀ q_z k_z : Int, ¬ q_z = 103 → C_z q_z k_z = A q_z k_z := hOC.2
        have e8 : C_z 72 8 = 79 := by rw [cc 72 8 (by omega)]; exact hT_z.1.2.2.2.2.2.2.1
        have e4_z : C_z 72 4 = 76 := by rw [cc 72 4 (by omega)]; exact hT_z.1.2.2.2.1
        have e12_z : C_z 72 12 = 103 := by rw [cc 72 12 (by omega)]; exact hT_z.1.2.2.2.2.2.2.2.2
        have c80 : C_z (C_z 79 2) = A 80 := by rw [cc 79 2 (by omega), hT_z.2.2.1.1]; exact funext fun k_z => cc 80 k_z (by omega)
        have c76 : C_z 76 = A 76 := funext fun k_z => cc 76 k_z (by omega)
        have cW : bgW C_z 79 = bgW A 79 := by unfold bgW; rw [cc 79 0 (by omega), cc 79 1 (by omega)]
        refine wq_ok srt_rowOf (fr := []) (cuts := [67]) (J := fun pc st_z => pc = 67 ∧ (¬ ∃ M_z, thr A r_z M_z) ∧ st_z = ([(2, 72), (0, r_z)], [], C_z)) ?_ 40 43 _ ?_
        · rintro pc st_z ⟨rfl, hno, rfl⟩
          exact nx C_z h1.1 hOC hno
        · refine ⟨oX_5 z72 kk72 8 rfl, ?_⟩
          refine ⟨oX_5 z72 kk72 4 rfl, ?_⟩
          refine ⟨⟨by omega, by omega⟩, ?_⟩
          refine ⟨oX_5 z72 kk72 12 rfl, ?_⟩
          refine ⟨rX_1 (r := C_z 72 8) (by rw [e8]; omega) (by rw [e8]; exact kk79), ?_⟩
          show Cl pmt (an_sh wX) 68 [(2, C_z 72 8), (2, C_z 72 4), (0, r_z * 72), (2, C_z 72 12)] C_z _
          rw [e8, e4_z, e12_z, show r_z * 72 = 72 * r_z by omega]
          refine (hasTable_ey (A := C_z) (g := 79) (o := 76) (S := 103) (F := 72 * r_z) ⟨c1_z, ⟨by omega, kk79⟩, ⟨by omega, kk76⟩, ⟨by omega, kk103⟩, fun i_z i0_z i1_z => ?_, by omega, by omega⟩).imp ?_
          · rw [cc 79 0 (by omega)] at i1_z
            have := hM_z i_z i0_z i1_z
            omega
          · rw [c80, c76, cW, cc 79 0 (by omega)]
            rintro ⟨q1_z, D_z⟩ ⟨hD, hr⟩
            simp only at hD hr
            subst hD
            rcases hr with ⟨rfl, hy⟩ | ⟨rfl, hy⟩
            · refine ⟨fun hh => absurd hh (by decide), fun _ => ?_⟩
              exact ⟨rfl, hOC, Or.inr ⟨r_z, ⟨r0, h1.1⟩, rfl, hM_z, hy⟩⟩
            · refine ⟨fun _ => ?_, fun hh => absurd rfl hh⟩
              exact ⟨rfl, fun ⟨M_z, hMM⟩ => hy (htd_cong (fun i_z i0_z i1_z => thr_u hw.1 hMM hM_z i0_z i1_z) hMM.2), rfl⟩
    · refine ⟨oX_5 z72 kk72 7 rfl, ?_⟩
      refine ⟨fun h_z => ?_, fun h_z => ?_⟩
      · rw [b72] at h_z
        exact ⟨rfl, hO, Or.inl ⟨rfl, fun d_z d0_z d1_z => hd_z d_z d0_z (by omega)⟩⟩
      · rw [b72] at h_z
        have ea : B_z (B_z 72 5) r_z = A 77 r_z := by rw [a5]; exact b77 r_z
        have eb : B_z (B_z 72 6) r_z = A 78 r_z := by rw [a6]; exact b78 r_z
        refine ⟨oX_5 z72 kk72 5 rfl, ?_⟩
        refine ⟨aX_26 (r := B_z 72 5) (by rw [a5]; omega) (by rw [a5]; exact kk77) r0 (by omega), ?_⟩
        refine ⟨oX_5 z72 kk72 10 rfl, ?_⟩
        refine ⟨fun h1 => ?_, fun h1 => ?_, fun h1 => ?_⟩
        · rw [ea, b72] at h1
          refine ⟨fun _ => ?_, fun hh => absurd hh (by decide)⟩
          exact Or.inl ⟨rfl, ⟨h_z, fun q_z => by omega⟩, rfl⟩
        · rw [ea, b72] at h1
          refine ⟨fun hh => absurd hh (by decide), fun _ => ?_⟩
          refine ⟨oX_5 z72 kk72 6 rfl, ?_⟩
          refine ⟨aX_26 (r := B_z 72 6) (by rw [a6]; omega) (by rw [a6]; exact kk78) r0 (by omega), ?_⟩
          refine ⟨oX_5 z72 kk72 11 rfl, ?_⟩
          refine ⟨fun h2 => ?_, fun h2 => ?_, fun h2 => ?_⟩
          · rw [eb, b72] at h2
            refine ⟨fun _ => ?_, fun hh => absurd hh (by decide)⟩
            exact Or.inl ⟨rfl, ⟨h_z, fun q_z => by omega⟩, rfl⟩
          · rw [eb, b72] at h2
            refine ⟨fun hh => absurd hh (by decide), fun _ => ?_⟩
            refine ⟨rX_5 z72 kk72, ?_⟩
            have hTB : AT B_z := hT_z.of (fun j_z _ _ _ _ _ _ _ => b72 j_z) ⟨hO.2 79 2 (by omega), hO.2 79 4 (by omega)⟩ (fun j_z _ => hO.2 73 j_z (by omega))
            refine (seatsMap_ex hO.1 hTB r0 (by omega)).imp ?_
            rintro ⟨q1_z, C_z⟩ hC
            have hr1 : q1_z = none := hC.1
            subst hr1
            exact Or.inr ⟨rfl, ⟨h_z, h1, h2⟩, C_z, hC, rfl⟩
          · rw [eb, b72] at h2
            refine ⟨fun _ => ?_, fun hh => absurd hh (by decide)⟩
            exact Or.inl ⟨rfl, ⟨h_z, fun q_z => by omega⟩, rfl⟩
        · rw [ea, b72] at h1
          refine ⟨fun _ => ?_, fun hh => absurd hh (by decide)⟩
          exact Or.inl ⟨rfl, ⟨h_z, fun q_z => by omega⟩, rfl⟩
theorem rowOf_ex {A : pm_A} (hA : gH wX A) (hH : roH A) : Cl pmt (an_sh wX) 13 [(2, 72)] A (roP A) := by
  have f7_z := fX_5_7 hA z72 kk72
  refine Cl.of (Nat.le_of_ble_eq_true rfl) ?_
  refine wq_ok (full := o_X0_rowOf) srt_rowOf (fr := []) (cuts := [2]) (J := fun pc st_z => pc = 2 ∧ st_z = ([(2, 72), (0, 0)], [], A)) ?_ 20 0 _ ?_
  · rintro pc st_z ⟨rfl, rfl⟩
    exact rz_2 hA hH _ 0 A (Nat.lt_succ_self _) (by omega) f7_z.1 ⟨hA, fun _ _ _ => rfl⟩ (fun d_z d0_z d1_z => by omega)
  · exact ⟨rfl, rfl⟩
end

section
/-! the atlas's enter and arrive exactly -/
def enJ (A B : pm_A) (a b c : Int) : Prop := gH wX B ∧ (∀ q_z j_z : Int, ¬ q_z = 103 → ¬ q_z = 74 → ¬ q_z = 75 → B q_z j_z = A q_z j_z) ∧ (∀ j_z : Int, j_z < 6 * A 72 7 → B 74 j_z = A 74 j_z ∧ B 75 j_z = A 75 j_z) ∧ (∀ d_z : Int, 0 ≤ d_z → d_z < a → B 103 d_z = d_z) ∧ (∀ d_z : Int, 0 ≤ d_z → d_z < b → B 74 (6 * A 72 7 + d_z) = A 102 d_z) ∧ ∀ d_z : Int, 0 ≤ d_z → d_z < c → B 75 (6 * A 72 7 + d_z) = 0
def enF (A B : pm_A) : Prop := gH wX B ∧ (∀ q_z j_z : Int, ¬ (q_z = 72 ∧ j_z = 7) → ¬ q_z = 103 → ¬ q_z = 74 → ¬ q_z = 75 → ¬ q_z = 76 → ¬ q_z = 77 → ¬ q_z = 78 → B q_z j_z = A q_z j_z) ∧ (∀ j_z : Int, j_z < 6 * A 72 7 → B 74 j_z = A 74 j_z ∧ B 75 j_z = A 75 j_z) ∧ (∀ d_z : Int, 0 ≤ d_z → d_z < A 79 0 → B 103 d_z = d_z ∧ B 74 (6 * A 72 7 + d_z) = A 102 d_z ∧ B 75 (6 * A 72 7 + d_z) = 0) ∧ ((∀ j_z : Int, j_z < 72 * A 72 7 → B 76 j_z = A 76 j_z) ∧ ∀ j_z : Int, 0 ≤ j_z → j_z < 72 → B 76 (72 * A 72 7 + j_z) = A 80 j_z) ∧ ((∀ j_z : Int, ¬ j_z = A 72 7 → B 77 j_z = A 77 j_z ∧ B 78 j_z = A 78 j_z) ∧ B 77 (A 72 7) = A 72 10 ∧ B 78 (A 72 7) = A 72 11) ∧ B 72 7 = A 72 7 + 1
def enP (A : pm_A) (r : pm_R) : Prop := (r = (some (0, 0), A) ∧ ¬ A 72 7 < 150) ∨ (A 72 7 < 150 ∧ r.1 = some (0, 1) ∧ enF A r.2)
theorem eq_123 {A B : pm_A} {i : Int} (hA : gH wX A) (h7 : A 72 7 < 150) (hB : gH wX B) (h1 : ∀ q_z j_z : Int, ¬ q_z = 103 → ¬ q_z = 74 → ¬ q_z = 75 → ¬ q_z = 76 → ¬ q_z = 77 → ¬ q_z = 78 → B q_z j_z = A q_z j_z) (h2 : ∀ j_z : Int, j_z < 6 * A 72 7 → B 74 j_z = A 74 j_z ∧ B 75 j_z = A 75 j_z) (h3 : ∀ d_z : Int, 0 ≤ d_z → d_z < A 79 0 → B 103 d_z = d_z ∧ B 74 (6 * A 72 7 + d_z) = A 102 d_z ∧ B 75 (6 * A 72 7 + d_z) = 0) (h4 : (∀ j_z : Int, j_z < 72 * A 72 7 → B 76 j_z = A 76 j_z) ∧ ∀ j_z : Int, 0 ≤ j_z → j_z < 72 → B 76 (72 * A 72 7 + j_z) = A 80 j_z) (h5 : (∀ j_z : Int, ¬ j_z = A 72 7 → B 77 j_z = A 77 j_z ∧ B 78 j_z = A 78 j_z) ∧ B 77 (A 72 7) = A 72 10 ∧ B 78 (A 72 7) = A 72 11) : Tm pmt (an_sh wX) o_X0_enter 123 ([(2, 72), (0, i)], [], B) (enP A) := by
  have f7_z := fX_5_7 hA z72 kk72
  have e7_z : B 72 7 = A 72 7 := h1 72 7 (by omega) (by omega) (by omega) (by omega) (by omega) (by omega)
  refine wq_ok srt_enter (fr := []) (cuts := []) (J := fun pc st_z => False) (fun _ _ h_z => h_z.elim) 20 123 _ ?_
  refine ⟨oX_5 z72 kk72 7 rfl, ?_⟩
  refine ⟨⟨by omega, by omega⟩, ?_⟩
  refine ⟨oX_5 z72 kk72 7 rfl, ?_⟩
  refine ⟨rfl, Or.inr ⟨h7, rfl, ?_⟩⟩
  show enF A (pm_upd B 72 7 (B 72 7 + 1))
  rw [e7_z]
  refine ⟨g5_7 hB (by omega) (by omega), fun q_z j_z hq n1_z n2_z n3_z n4_z n5_z n6_z => ?_, fun j_z hj => ?_, fun d_z d0_z d1_z => ?_, ⟨fun j_z hj => ?_, fun j_z j0 j1 => ?_⟩, ⟨fun j_z hj => ?_, ?_, ?_⟩, upd_at⟩
  · by_cases e_z : q_z = 72
    · rw [e_z] at hq ⊢
      rw [upd_n2 (by omega)]; exact h1 72 j_z (by omega) (by omega) (by omega) (by omega) (by omega) (by omega)
    · rw [upd_ne e_z]; exact h1 q_z j_z n1_z n2_z n3_z n4_z n5_z n6_z
  · rw [upd_ne (by omega), upd_ne (by omega)]; exact h2 j_z hj
  · rw [upd_ne (by omega), upd_ne (by omega), upd_ne (by omega)]; exact h3 d_z d0_z d1_z
  · rw [upd_ne (by omega)]; exact h4.1 j_z hj
  · rw [upd_ne (by omega)]; exact h4.2 j_z j0 j1
  · rw [upd_ne (by omega), upd_ne (by omega)]; exact h5.1 j_z hj
  · rw [upd_ne (by omega)]; exact h5.2.1
  · rw [upd_ne (by omega)]; exact h5.2.2
theorem eq_73 {A B : pm_A} {i : Int} (hA : gH wX A) (hT : AT A) (h7 : A 72 7 < 150) (hI : enJ A B (A 79 0) (A 79 0) (A 79 0)) : Tm pmt (an_sh wX) o_X0_enter 73 ([(2, 72), (0, i)], [], B) (enP A) := by
  have f7_z := fX_5_7 hA z72 kk72
  have v10 := fX_5_10 hA z72 kk72
  have v11 := fX_5_11 hA z72 kk72
  obtain ⟨hB_z, h1, h2, g1, g2, g3_z⟩ := hI
  have b72 : ∀ j_z : Int, B 72 j_z = A 72 j_z := fun j_z => h1 72 j_z (by omega) (by omega) (by omega)
  have e7_z : B 72 7 = A 72 7 := b72 7
  have e8 : B 72 8 = 79 := by rw [b72]; exact hT.1.2.2.2.2.2.2.1
  have e4_z : B 72 4 = 76 := by rw [b72]; exact hT.1.2.2.2.1
  have t2_z : B 79 2 = 80 := by rw [h1 79 2 (by omega) (by omega) (by omega)]; exact hT.2.2.1.1
  have s1_z := shX_10 kk80
  have s2_z := shX_25 kk76
  refine wq_ok srt_enter (fr := []) (cuts := [97]) (J := fun pc st_z => pc = 97 ∧ st_z = ([(2, 72), (0, i)], [], pm_cpy B (B (B 72 8) 2) 0 (B 72 4) (B 72 7 * 72) 72)) ?_ 20 73 _ ?_
  · rintro pc st_z ⟨rfl, rfl⟩
    rw [e8, t2_z, e4_z, e7_z]
    have hC : gH wX (pm_cpy B 80 0 76 (A 72 7 * 72) 72) := gH_cpy hB_z (ka := (1, 0, 72, [(0, -2147483648, 2147483647)])) (kb := (1, 0, 10800, [(0, -2147483648, 2147483647)])) (by omega) (by rw [kk80]; rfl) (by rw [kk76]; rfl) rfl rfl rfl rfl rfl rfl (by omega) (by omega) (by simp only; omega)
    have c1_z : ∀ q_z j_z : Int, ¬ q_z = 76 → pm_cpy B 80 0 76 (A 72 7 * 72) 72 q_z j_z = B q_z j_z := fun q_z j_z hq => cpy_ne hq
    have c2_z : ∀ j_z : Int, j_z < 72 * A 72 7 → pm_cpy B 80 0 76 (A 72 7 * 72) 72 76 j_z = A 76 j_z := fun j_z hj => by
      rw [cpy_out (by omega)]; exact h1 76 j_z (by omega) (by omega) (by omega)
    have c3_z : ∀ j_z : Int, 0 ≤ j_z → j_z < 72 → pm_cpy B 80 0 76 (A 72 7 * 72) 72 76 (72 * A 72 7 + j_z) = A 80 j_z := fun j_z j0 j1 => by
      rw [cpy_in ⟨by omega, by omega⟩, show 0 + (72 * A 72 7 + j_z - A 72 7 * 72) = j_z by omega]
      exact h1 80 j_z (by omega) (by omega) (by omega)
    generalize pm_cpy B 80 0 76 (A 72 7 * 72) 72 = C_z at hC c1_z c2_z c3_z
    have d72_z : ∀ j_z : Int, C_z 72 j_z = A 72 j_z := fun j_z => (c1_z 72 j_z (by omega)).trans (b72 j_z)
    have k5_z : C_z 72 5 = 77 := by rw [d72_z]; exact hT.1.2.2.2.2.1
    have k6_z : C_z 72 6 = 78 := by rw [d72_z]; exact hT.1.2.2.2.2.2.1
    refine wq_ok srt_enter (fr := []) (cuts := [110]) (J := fun pc st_z => pc = 110 ∧ st_z = ([(2, 72), (0, i)], [], pm_upd C_z (C_z 72 5) (C_z 72 7) (C_z 72 10))) ?_ 20 97 _ ?_
    · rintro pc st_z ⟨rfl, rfl⟩
      rw [k5_z, d72_z 7, d72_z 10]
      have hD : gH wX (pm_upd C_z 77 (A 72 7) (A 72 10)) := uX_26 hC kk77 v10.1 v10.2
      have d1_z : ∀ q_z j_z : Int, ¬ q_z = 77 → pm_upd C_z 77 (A 72 7) (A 72 10) q_z j_z = C_z q_z j_z := fun q_z j_z hq => upd_ne hq
      have d2_z : ∀ j_z : Int, ¬ j_z = A 72 7 → pm_upd C_z 77 (A 72 7) (A 72 10) 77 j_z = C_z 77 j_z := fun j_z hj => upd_n2 hj
      have d3_z : pm_upd C_z 77 (A 72 7) (A 72 10) 77 (A 72 7) = A 72 10 := upd_at
      generalize pm_upd C_z 77 (A 72 7) (A 72 10) = D_z at hD d1_z d2_z d3_z
      have m72 : ∀ j_z : Int, D_z 72 j_z = A 72 j_z := fun j_z => (d1_z 72 j_z (by omega)).trans (d72_z j_z)
      have m6_z : D_z 72 6 = 78 := by rw [m72]; exact hT.1.2.2.2.2.2.1
      refine wq_ok srt_enter (fr := []) (cuts := [123]) (J := fun pc st_z => pc = 123 ∧ st_z = ([(2, 72), (0, i)], [], pm_upd D_z (D_z 72 6) (D_z 72 7) (D_z 72 11))) ?_ 20 110 _ ?_
      · rintro pc st_z ⟨rfl, rfl⟩
        rw [m6_z, m72 7, m72 11]
        have hE : gH wX (pm_upd D_z 78 (A 72 7) (A 72 11)) := uX_26 hD kk78 v11.1 v11.2
        refine eq_123 hA h7 hE (fun q_z j_z n1_z n2_z n3_z n4_z n5_z n6_z => ?_) (fun j_z hj => ?_) (fun d_z d0_z d4_z => ?_) ⟨fun j_z hj => ?_, fun j_z j0 j1 => ?_⟩ ⟨fun j_z hj => ⟨?_, ?_⟩, ?_, upd_at⟩
        · rw [upd_ne n6_z, d1_z q_z j_z n5_z, c1_z q_z j_z n4_z]; exact h1 q_z j_z n1_z n2_z n3_z
        · rw [upd_ne (by omega), upd_ne (by omega), d1_z 74 j_z (by omega), d1_z 75 j_z (by omega), c1_z 74 j_z (by omega), c1_z 75 j_z (by omega)]; exact h2 j_z hj
        · rw [upd_ne (by omega), upd_ne (by omega), upd_ne (by omega), d1_z 103 _ (by omega), d1_z 74 _ (by omega), d1_z 75 _ (by omega), c1_z 103 _ (by omega), c1_z 74 _ (by omega), c1_z 75 _ (by omega)]
          exact ⟨g1 d_z d0_z d4_z, g2 d_z d0_z d4_z, g3_z d_z d0_z d4_z⟩
        · rw [upd_ne (by omega), d1_z 76 j_z (by omega)]; exact c2_z j_z hj
        · rw [upd_ne (by omega), d1_z 76 _ (by omega)]; exact c3_z j_z j0 j1
        · rw [upd_ne (by omega), d2_z j_z hj, c1_z 77 j_z (by omega)]; exact h1 77 j_z (by omega) (by omega) (by omega)
        · rw [upd_n2 hj, d1_z 78 j_z (by omega), c1_z 78 j_z (by omega)]; exact h1 78 j_z (by omega) (by omega) (by omega)
        · rw [upd_ne (by omega)]; exact d3_z
      · refine ⟨oX_5 z72 kk72 6 rfl, ?_⟩
        refine ⟨oX_5 z72 kk72 7 rfl, ?_⟩
        refine ⟨oX_5 z72 kk72 11 rfl, ?_⟩
        refine ⟨tX_26 (r := D_z 72 6) (by rw [m6_z]; omega) (by rw [m6_z]; exact kk78) (by rw [m72]; exact f7_z.1) (by rw [m72]; exact h7) rfl, ?_⟩
        exact ⟨rfl, rfl⟩
    · refine ⟨oX_5 z72 kk72 5 rfl, ?_⟩
      refine ⟨oX_5 z72 kk72 7 rfl, ?_⟩
      refine ⟨oX_5 z72 kk72 10 rfl, ?_⟩
      refine ⟨tX_26 (r := C_z 72 5) (by rw [k5_z]; omega) (by rw [k5_z]; exact kk77) (by rw [d72_z]; exact f7_z.1) (by rw [d72_z]; exact h7) rfl, ?_⟩
      exact ⟨rfl, rfl⟩
  · refine ⟨oX_5 z72 kk72 8 rfl, ?_⟩
    refine ⟨oX_1 (r := B 72 8) (by rw [e8]; omega) (by rw [e8]; exact kk79) 2 rfl, ?_⟩
    refine ⟨oX_5 z72 kk72 4 rfl, ?_⟩
    refine ⟨oX_5 z72 kk72 7 rfl, ?_⟩
    refine ⟨⟨by omega, by omega⟩, ?_⟩
    refine ⟨⟨by rw [e8, t2_z]; omega, by rw [e4_z]; omega, by rw [e8, t2_z, s1_z], by rw [e8, t2_z, s1_z], by rw [e4_z, s2_z], by rw [e4_z, s2_z], by omega, by omega, by omega, by rw [e8, t2_z, s1_z]; simp only; omega, by rw [e4_z, s2_z]; simp only; omega⟩, ?_⟩
    exact ⟨rfl, rfl⟩
theorem eq_52 {A B : pm_A} {i : Int} (hA : gH wX A) (hT : AT A) (h7 : A 72 7 < 150) (i0 : 0 ≤ i) (i1 : i < A 79 0) (hI : enJ A B (i + 1) (i + 1) i) (H : ∀ C_z, enJ A C_z (i + 1) (i + 1) (i + 1) → Tm pmt (an_sh wX) o_X0_enter 14 ([(2, 72), (0, i + 1)], [], C_z) (enP A)) : Tm pmt (an_sh wX) o_X0_enter 52 ([(2, 72), (0, i)], [], B) (enP A) := by
  have f7_z := fX_5_7 hA z72 kk72
  have p6_z := fX_1_0 hA z79 kk79
  obtain ⟨hB_z, h1, h2, g1, g2, g3_z⟩ := hI
  have b72 : ∀ j_z : Int, B 72 j_z = A 72 j_z := fun j_z => h1 72 j_z (by omega) (by omega) (by omega)
  have e7_z : B 72 7 = A 72 7 := b72 7
  have e3 : B 72 3 = 75 := by rw [b72]; exact hT.1.2.2.1
  refine wq_ok srt_enter (fr := []) (cuts := [14]) (J := fun pc st_z => pc = 14 ∧ st_z = ([(2, 72), (0, i + 1)], [], pm_upd B (B 72 3) (B 72 7 * 6 + i) 0)) ?_ 20 52 _ ?_
  · rintro pc st_z ⟨rfl, rfl⟩
    rw [e3, e7_z, show A 72 7 * 6 + i = 6 * A 72 7 + i by omega]
    refine H _ ⟨uX_24 hB_z kk75 (by omega) (by omega), fun q_z j_z n1_z n2_z n3_z => ?_, fun j_z hj => ?_, fun d_z d0_z d1_z => ?_, fun d_z d0_z d1_z => ?_, fun d_z d0_z d1_z => ?_⟩
    · rw [upd_ne n3_z]; exact h1 q_z j_z n1_z n2_z n3_z
    · rw [upd_ne (by omega), upd_n2 (by omega)]; exact h2 j_z hj
    · rw [upd_ne (by omega)]; exact g1 d_z d0_z d1_z
    · rw [upd_ne (by omega)]; exact g2 d_z d0_z d1_z
    · by_cases e_z : d_z = i
      · rw [e_z, upd_at]
      · rw [upd_n2 (by omega)]; exact g3_z d_z d0_z (by omega)
  · refine ⟨oX_5 z72 kk72 3 rfl, ?_⟩
    refine ⟨oX_5 z72 kk72 7 rfl, ?_⟩
    refine ⟨⟨by omega, by omega⟩, ?_⟩
    refine ⟨⟨by omega, by omega⟩, ?_⟩
    refine ⟨tX_24 (r := B 72 3) (by rw [e3]; omega) (by rw [e3]; exact kk75) (by omega) (by omega) rfl, ?_⟩
    refine ⟨⟨by omega, by omega⟩, ?_⟩
    exact ⟨rfl, rfl⟩
theorem eq_32 {A B : pm_A} {i : Int} (hA : gH wX A) (hT : AT A) (h7 : A 72 7 < 150) (hs : ∀ d_z : Int, 0 ≤ d_z → d_z < A 79 0 → 0 ≤ A 102 d_z) (i0 : 0 ≤ i) (i1 : i < A 79 0) (hI : enJ A B (i + 1) i i) (H : ∀ C_z, enJ A C_z (i + 1) (i + 1) (i + 1) → Tm pmt (an_sh wX) o_X0_enter 14 ([(2, 72), (0, i + 1)], [], C_z) (enP A)) : Tm pmt (an_sh wX) o_X0_enter 32 ([(2, 72), (0, i)], [], B) (enP A) := by
  have f7_z := fX_5_7 hA z72 kk72
  have p6_z := fX_1_0 hA z79 kk79
  obtain ⟨hB_z, h1, h2, g1, g2, g3_z⟩ := hI
  have b72 : ∀ j_z : Int, B 72 j_z = A 72 j_z := fun j_z => h1 72 j_z (by omega) (by omega) (by omega)
  have e7_z : B 72 7 = A 72 7 := b72 7
  have e2 : B 72 2 = 74 := by rw [b72]; exact hT.1.2.1
  have e9_z : B 72 9 = 102 := by rw [b72]; exact hT.1.2.2.2.2.2.2.2.1
  have b102_z : B 102 i = A 102 i := h1 102 i (by omega) (by omega) (by omega)
  have v0_z := eX_27 hA (r := 102) (by omega) kk102 i0 (show i < 6 by omega)
  have v1_z := hs i i0 i1
  refine wq_ok srt_enter (fr := []) (cuts := [52]) (J := fun pc st_z => pc = 52 ∧ st_z = ([(2, 72), (0, i)], [], pm_upd B (B 72 2) (B 72 7 * 6 + i) (B (B 72 9) i))) ?_ 20 32 _ ?_
  · rintro pc st_z ⟨rfl, rfl⟩
    rw [e2, e7_z, e9_z, b102_z, show A 72 7 * 6 + i = 6 * A 72 7 + i by omega]
    refine eq_52 hA hT h7 i0 i1 ⟨uX_23 hB_z kk74 v1_z v0_z.2, fun q_z j_z n1_z n2_z n3_z => ?_, fun j_z hj => ?_, fun d_z d0_z d1_z => ?_, fun d_z d0_z d1_z => ?_, fun d_z d0_z d1_z => ?_⟩ H
    · rw [upd_ne n2_z]; exact h1 q_z j_z n1_z n2_z n3_z
    · rw [upd_n2 (by omega), upd_ne (by omega)]; exact h2 j_z hj
    · rw [upd_ne (by omega)]; exact g1 d_z d0_z d1_z
    · by_cases e_z : d_z = i
      · rw [e_z, upd_at]
      · rw [upd_n2 (by omega)]; exact g2 d_z d0_z (by omega)
    · rw [upd_ne (by omega)]; exact g3_z d_z d0_z d1_z
  · refine ⟨oX_5 z72 kk72 2 rfl, ?_⟩
    refine ⟨oX_5 z72 kk72 7 rfl, ?_⟩
    refine ⟨⟨by omega, by omega⟩, ?_⟩
    refine ⟨⟨by omega, by omega⟩, ?_⟩
    refine ⟨oX_5 z72 kk72 9 rfl, ?_⟩
    refine ⟨aX_27 (r := B 72 9) (by rw [e9_z]; omega) (by rw [e9_z]; exact kk102) i0 (by omega), ?_⟩
    refine ⟨tX_23 (r := B 72 2) (by rw [e2]; omega) (by rw [e2]; exact kk74) (by omega) (by omega) rfl, ?_⟩
    exact ⟨rfl, rfl⟩
theorem eq_14 {A : pm_A} (hA : gH wX A) (hT : AT A) (h7 : A 72 7 < 150) (hs : ∀ d_z : Int, 0 ≤ d_z → d_z < A 79 0 → 0 ≤ A 102 d_z) : ∀ (n_z : Nat) (i_z : Int) (B_z : pm_A), (7 - i_z).toNat < n_z → 0 ≤ i_z → i_z ≤ A 79 0 → enJ A B_z i_z i_z i_z → Tm pmt (an_sh wX) o_X0_enter 14 ([(2, 72), (0, i_z)], [], B_z) (enP A) := by
  have p6_z := fX_1_0 hA z79 kk79
  intro n_z
  induction n_z with
  | zero => intro i_z B_z h_z; omega
  | succ n_z ih_z =>
    intro i_z B_z hn i0_z i1_z hI
    have hI0 := hI
    obtain ⟨hB_z, h1, h2, g1, g2, g3_z⟩ := hI
    have b72 : ∀ j_z : Int, B_z 72 j_z = A 72 j_z := fun j_z => h1 72 j_z (by omega) (by omega) (by omega)
    have e8 : B_z 72 8 = 79 := by rw [b72]; exact hT.1.2.2.2.2.2.2.1
    have e12_z : B_z 72 12 = 103 := by rw [b72]; exact hT.1.2.2.2.2.2.2.2.2
    have b79 : B_z 79 0 = A 79 0 := h1 79 0 (by omega) (by omega) (by omega)
    refine wq_ok srt_enter (fr := []) (cuts := [32, 73]) (J := fun pc st_z => (pc = 73 ∧ i_z = A 79 0 ∧ st_z = ([(2, 72), (0, i_z)], [], B_z)) ∨ (pc = 32 ∧ i_z < A 79 0 ∧ st_z = ([(2, 72), (0, i_z)], [], pm_upd B_z (B_z 72 12) i_z i_z))) ?_ 20 14 _ ?_
    · rintro pc st_z (⟨rfl, hi_z, rfl⟩ | ⟨rfl, hi_z, rfl⟩)
      · rw [hi_z] at hI0
        exact eq_73 hA hT h7 hI0
      · rw [e12_z]
        refine eq_32 hA hT h7 hs i0_z hi_z ⟨uX_17 hB_z kk103 (by omega) (by omega), fun q_z j_z n1_z n2_z n3_z => ?_, fun j_z hj => ?_, fun d_z d0_z d1_z => ?_, fun d_z d0_z d1_z => ?_, fun d_z d0_z d1_z => ?_⟩ (fun C_z hC => ih_z (i_z + 1) C_z (by omega) (by omega) (by omega) hC)
        · rw [upd_ne n1_z]; exact h1 q_z j_z n1_z n2_z n3_z
        · rw [upd_ne (by omega), upd_ne (by omega)]; exact h2 j_z hj
        · by_cases e_z : d_z = i_z
          · rw [e_z, upd_at]
          · rw [upd_n2 e_z]; exact g1 d_z d0_z (by omega)
        · rw [upd_ne (by omega)]; exact g2 d_z d0_z d1_z
        · rw [upd_ne (by omega)]; exact g3_z d_z d0_z d1_z
    · refine ⟨oX_5 z72 kk72 8 rfl, ?_⟩
      refine ⟨oX_1 (r := B_z 72 8) (by rw [e8]; omega) (by rw [e8]; exact kk79) 0 rfl, ?_⟩
      refine ⟨fun h_z => ?_, fun h_z => ?_⟩
      · rw [e8, b79] at h_z
        exact Or.inl ⟨rfl, by omega, rfl⟩
      · rw [e8, b79] at h_z
        refine ⟨oX_5 z72 kk72 12 rfl, ?_⟩
        refine ⟨tX_17 (r := B_z 72 12) (by rw [e12_z]; omega) (by rw [e12_z]; exact kk103) i0_z (by omega) rfl, ?_⟩
        exact Or.inr ⟨rfl, h_z, rfl⟩
theorem enter_ex {A : pm_A} (hA : gH wX A) (hT : AT A) (hs : ∀ d_z : Int, 0 ≤ d_z → d_z < A 79 0 → 0 ≤ A 102 d_z) : Cl pmt (an_sh wX) 5 [(2, 72)] A (enP A) := by
  have p6_z := fX_1_0 hA z79 kk79
  refine Cl.of (Nat.le_of_ble_eq_true rfl) ?_
  refine wq_ok (full := o_X0_enter) srt_enter (fr := []) (cuts := [14]) (J := fun pc st_z => pc = 14 ∧ A 72 7 < 150 ∧ st_z = ([(2, 72), (0, 0)], [], A)) ?_ 20 0 _ ?_
  · rintro pc st_z ⟨rfl, h_z, rfl⟩
    exact eq_14 hA hT h_z hs _ 0 A (Nat.lt_succ_self _) (by omega) p6_z.1 ⟨hA, fun _ _ _ _ _ => rfl, fun _ _ => ⟨rfl, rfl⟩, fun d_z d0_z d1_z => by omega, fun d_z d0_z d1_z => by omega, fun d_z d0_z d1_z => by omega⟩
  · refine ⟨oX_5 z72 kk72 7 rfl, ?_⟩
    refine ⟨fun h_z => ?_, fun h_z => ?_⟩
    · exact ⟨rfl, h_z, rfl⟩
    · exact ⟨rfl, Or.inl ⟨rfl, by omega⟩⟩
/-- behind arrive: the masks are told anew, and the seed at hand is row r, its place k marked there -/
def avF (A B : pm_A) : Prop := gH wX B ∧ ∀ q_z j_z : Int, ¬ (q_z = 72 ∧ (j_z = 10 ∨ j_z = 11)) → ¬ q_z = 103 → B q_z j_z = A q_z j_z
def avP (A : pm_A) (k : Int) (q : pm_R) : Prop := ((∀ r_z : Int, 0 ≤ r_z → r_z < A 72 7 → ¬ ∃ M_z, thr A r_z M_z) ∧ ((¬ A 72 7 < 150 ∧ q.1 = some (0, 0) ∧ avF A q.2) ∨ (A 72 7 < 150 ∧ q.1 = some (0, 1) ∧ ∃ B_z C_z, (gaF A B_z (A 79 0).toNat ∧ smO B_z C_z) ∧ ∃ D_z, enF C_z D_z ∧ gH wX q.2 ∧ q.2 = pm_upd D_z 75 (6 * A 72 7 + k) 1))) ∨ ∃ r_z : Int, (0 ≤ r_z ∧ r_z < A 72 7) ∧ ∃ M_z, thr A r_z M_z ∧ q.1 = some (0, 1) ∧ ∃ C_z, avF A C_z ∧ gH wX q.2 ∧ q.2 = pm_upd C_z 75 (6 * r_z + M_z k) 1
theorem thr_c {A B : pm_A} {r : Int} {M : Int → Int} (e : ∀ q_z j_z : Int, ¬ (q_z = 72 ∧ (j_z = 10 ∨ j_z = 11)) → B q_z j_z = A q_z j_z) : thr B r M ↔ thr A r M := by
  have e74_z : B 74 = A 74 := funext fun j_z => e 74 j_z (by omega)
  have e102_z : B 102 = A 102 := funext fun j_z => e 102 j_z (by omega)
  have e80 : B 80 = A 80 := funext fun j_z => e 80 j_z (by omega)
  have e76 : B 76 = A 76 := funext fun j_z => e 76 j_z (by omega)
  unfold thr bgW
  rw [e74_z, e102_z, e80, e76, e 79 0 (by omega), e 79 1 (by omega)]
theorem av_28 {A C : pm_A} {k r : Int} {q : pm_R → Prop} (hT : AT A) (k0 : 0 ≤ k) (k1 : k ≤ 5) (r0 : 0 ≤ r) (r1 : r ≤ 149) (hC : gH wX C) (c72 : ∀ j_z : Int, j_z = 3 ∨ j_z = 12 → C 72 j_z = A 72 j_z) (hq : q (some (0, 1), pm_upd C 75 (6 * r + C 103 k) 1)) : Tm pmt (an_sh wX) o_X0_arrive 28 ([(2, 72), (0, k), (0, r)], [], C) q := by
  have e3 : C 72 3 = 75 := by rw [c72 3 (by omega)]; exact hT.1.2.2.1
  have e12_z : C 72 12 = 103 := by rw [c72 12 (by omega)]; exact hT.1.2.2.2.2.2.2.2.2
  have v0_z := eX_17 hC (r := 103) (by omega) kk103 k0 (show k < 6 by omega)
  refine wq_ok srt_arrive (fr := []) (cuts := []) (J := fun pc st_z => False) (fun _ _ h_z => h_z.elim) 20 28 _ ?_
  refine ⟨oX_5 z72 kk72 3 rfl, ?_⟩
  refine ⟨⟨by omega, by omega⟩, ?_⟩
  refine ⟨oX_5 z72 kk72 12 rfl, ?_⟩
  refine ⟨aX_17 (r := C 72 12) (by rw [e12_z]; omega) (by rw [e12_z]; exact kk103) k0 (by omega), ?_⟩
  have ev_z : C (C 72 12) k = C 103 k := by rw [e12_z]
  refine ⟨⟨by rw [ev_z]; omega, by rw [ev_z]; omega⟩, ?_⟩
  refine ⟨tX_24 (r := C 72 3) (by rw [e3]; omega) (by rw [e3]; exact kk75) (by rw [ev_z]; omega) (by rw [ev_z]; omega) rfl, ?_⟩
  refine ⟨rfl, ?_⟩
  show q (some (0, 1), pm_upd C (C 72 3) (r * 6 + C (C 72 12) k) 1)
  rw [e3, ev_z, show r * 6 + C 103 k = 6 * r + C 103 k by omega]
  exact hq
/-- what arrive wants of the rows -/
def avH (A : pm_A) : Prop := AT A ∧ dst (A 102) (A 79 0) ∧ ∀ r_z : Int, 0 ≤ r_z → r_z < A 72 7 → dst (fun j_z => A 74 (6 * r_z + j_z)) (A 79 0) ∧ A 77 r_z = loM (fun j_z => A 74 (6 * r_z + j_z)) (A 79 0).toNat ∧ A 78 r_z = hgM (fun j_z => A 74 (6 * r_z + j_z)) (A 79 0).toNat
theorem arrive_ex {A : pm_A} {k : Int} (hA : gH wX A) (hH : avH A) (k0 : 0 ≤ k) (k1 : k < A 79 0) : Cl pmt (an_sh wX) 4 [(2, 72), (0, k)] A (avP A k) := by
  have p6_z := fX_1_0 hA z79 kk79
  have f7_z := fX_5_7 hA z72 kk72
  obtain ⟨hT_z, hdS, hrow⟩ := hH
  refine Cl.of (Nat.le_of_ble_eq_true rfl) ?_
  refine wq_ok (full := o_X0_arrive) srt_arrive (fr := []) (cuts := [4]) (J := fun pc st_z => pc = 4 ∧ ∃ B_z v_z, gaF A B_z (A 79 0).toNat ∧ st_z = ([(2, 72), (0, k), v_z], [], B_z)) ?_ 20 0 _ ?_
  · rintro pc st_z ⟨rfl, B_z, v_z, hB_z, rfl⟩
    have hB0 := hB_z
    obtain ⟨b1, b2, b10, b11⟩ := hB_z
    have b72 : ∀ j_z : Int, ¬ j_z = 10 → ¬ j_z = 11 → B_z 72 j_z = A 72 j_z := fun j_z h1 h2 => b2 72 j_z (by omega)
    have hTB : AT B_z := hT_z.of (fun j_z _ _ _ n1_z n2_z _ _ => b72 j_z n1_z n2_z) ⟨b2 79 2 (by omega), b2 79 4 (by omega)⟩ (fun j_z _ => b2 73 j_z (by omega))
    have e102_z : B_z 102 = A 102 := funext fun j_z => b2 102 j_z (by omega)
    have e74_z : B_z 74 = A 74 := funext fun j_z => b2 74 j_z (by omega)
    have e79 : B_z 79 0 = A 79 0 := b2 79 0 (by omega)
    have hro : roH B_z := by
      unfold roH
      rw [e102_z, e79, e74_z, b10, b11, b72 7 (by omega) (by omega)]
      refine ⟨hTB, hdS, ⟨rfl, rfl⟩, fun r_z r0 r1_z => ?_⟩
      rw [b2 77 r_z (by omega), b2 78 r_z (by omega)]
      exact hrow r_z r0 r1_z
    refine wq_ok srt_arrive (fr := []) (cuts := [14, 28]) (J := fun pc st_z => (pc = 14 ∧ ∃ C_z, smO B_z C_z ∧ (∀ r_z : Int, 0 ≤ r_z → r_z < A 72 7 → ¬ ∃ M_z, thr A r_z M_z) ∧ ∃ v_z, st_z = ([(2, 72), (0, k), v_z], [], C_z)) ∨ (pc = 28 ∧ ∃ r_z C_z, (0 ≤ r_z ∧ r_z < A 72 7) ∧ smO B_z C_z ∧ thr A r_z (C_z 103) ∧ st_z = ([(2, 72), (0, k), (0, r_z)], [], C_z))) ?_ 30 4 _ ?_
    · rintro pc st_z (⟨rfl, C_z, hC, hno, v_z, rfl⟩ | ⟨rfl, r_z, C_z, hr, hC, hy, rfl⟩)
      · have cc : ∀ q_z j_z : Int, ¬ (q_z = 72 ∧ (j_z = 10 ∨ j_z = 11)) → ¬ q_z = 103 → C_z q_z j_z = A q_z j_z := fun q_z j_z h1 h2 => (hC.2 q_z j_z h2).trans (b2 q_z j_z h1)
        have c7_z : C_z 72 7 = A 72 7 := cc 72 7 (by omega) (by omega)
        have hTC : AT C_z := hTB.of (fun j_z _ _ _ _ _ _ _ => hC.2 72 j_z (by omega)) ⟨hC.2 79 2 (by omega), hC.2 79 4 (by omega)⟩ (fun j_z _ => hC.2 73 j_z (by omega))
        refine wq_ok srt_arrive (fr := []) (cuts := [28]) (J := fun pc st_z => pc = 28 ∧ A 72 7 < 150 ∧ ∃ D_z, enF C_z D_z ∧ st_z = ([(2, 72), (0, k), (0, C_z 72 7)], [], D_z)) ?_ 30 14 _ ?_
        · rintro pc st_z ⟨rfl, h7, D_z, hD, rfl⟩
          have d103_z : D_z 103 k = k := (hD.2.2.2.1 k k0 (by rw [cc 79 0 (by omega) (by omega)]; exact k1)).1
          rw [c7_z]
          refine av_28 hTC k0 (by omega) f7_z.1 (by omega) hD.1 (fun j_z hj => hD.2.1 72 j_z (by omega) (by omega) (by omega) (by omega) (by omega) (by omega) (by omega)) ?_
          rw [d103_z]
          exact Or.inl ⟨hno, Or.inr ⟨h7, rfl, B_z, C_z, ⟨hB0, hC⟩, D_z, hD, uX_24 hD.1 kk75 (by omega) (by omega), rfl⟩⟩
        · refine ⟨oX_5 z72 kk72 7 rfl, ?_⟩
          refine ⟨rX_5 z72 kk72, ?_⟩
          refine (enter_ex hC.1 hTC (fun d_z d0_z d1_z => ?_)).imp ?_
          · rw [cc 79 0 (by omega) (by omega)] at d1_z
            rw [cc 102 d_z (by omega) (by omega)]
            exact (hdS.1 d_z d0_z d1_z).1
          · rintro ⟨q1_z, D_z⟩ hD
            rcases hD with ⟨e_z, h7⟩ | ⟨h7, e_z, hD⟩
            · injection e_z with e1 e2
              subst e1
              subst e2
              refine ⟨fun hh => absurd rfl hh, fun _ => ?_⟩
              exact ⟨rfl, Or.inl ⟨hno, Or.inl ⟨by rw [← c7_z]; exact h7, rfl, hC.1, cc⟩⟩⟩
            · simp only at e_z hD
              subst e_z
              refine ⟨fun _ => ?_, fun hh => absurd hh (by decide)⟩
              exact ⟨rfl, by rw [← c7_z]; exact h7, D_z, hD, rfl⟩
      · refine av_28 hTB k0 (by omega) hr.1 (by omega) hC.1 (fun j_z hj => hC.2 72 j_z (by omega)) ?_
        exact Or.inr ⟨r_z, hr, C_z 103, hy, rfl, C_z, ⟨hC.1, fun q_z j_z h1 h2 => (hC.2 q_z j_z h2).trans (b2 q_z j_z h1)⟩, uX_24 hC.1 kk75 (by omega) (by omega), rfl⟩
    · refine ⟨rX_5 z72 kk72, ?_⟩
      refine (rowOf_ex b1 hro).imp ?_
      rintro ⟨q1_z, C_z⟩ ⟨hC, hr⟩
      simp only at hC hr
      rw [b72 7 (by omega) (by omega)] at hr
      rcases hr with ⟨rfl, hno⟩ | ⟨r_z, hr, rfl, hy⟩
      · refine ⟨fun hh => absurd rfl hh, fun _ => ?_⟩
        exact Or.inl ⟨rfl, C_z, hC, fun r_z r0 r1_z ⟨M_z, hM_z⟩ => hno r_z r0 r1_z ⟨M_z, (thr_c b2).2 hM_z⟩, _, rfl⟩
      · refine ⟨fun _ => ?_, fun hh => absurd hh (by omega)⟩
        exact Or.inr ⟨rfl, r_z, C_z, hr, hC, (thr_c b2).1 hy, rfl⟩
  · refine ⟨rX_5 z72 kk72, ?_⟩
    refine (gather_ex hA hT_z).imp ?_
    rintro ⟨q1_z, B_z⟩ hB_z
    have hr1 : q1_z = none := hB_z.1
    subst hr1
    exact ⟨rfl, B_z, _, hB_z.2, rfl⟩
end

section
/-! the reference: areAlike and isBegun exactly -/
def mao (A : pm_A) (a b : Int) (r : pm_R) : Prop := r.2 = A ∧ ((r.1 = some (0, 0) ∧ ¬ LSm A a = LSm A b) ∨ (r.1 = some (0, 1) ∧ LSm A a = LSm A b))
theorem LSm_at {A B : pm_A} {a b : Int} (h : LSm A a = LSm B b) (a0 : 0 ≤ A 1 a) (b0 : 0 ≤ B 1 b) : A 1 a = B 1 b ∧ ∀ t_z : Int, 0 ≤ t_z → t_z < A 1 a → A 2 (200 * a + t_z) = B 2 (200 * b + t_z) ∧ ∀ v_z : Int, 0 ≤ v_z → v_z < 12 → A 3 (12 * (200 * a + t_z) + v_z) = B 3 (12 * (200 * b + t_z) + v_z) := by
  have hlen : A 1 a = B 1 b := by
    have h1 := congrArg List.length h
    rw [LSm_len, LSm_len] at h1
    omega
  refine ⟨hlen, fun t_z t0_z t1_z => ?_⟩
  have h2 : (LSm A a)[t_z.toNat]? = (LSm B b)[t_z.toNat]? := by rw [h]
  unfold LSm at h2
  rw [List.getElem?_map, List.getElem?_map, List.getElem?_range (by omega), List.getElem?_range (by omega)] at h2
  have h3 : (A 2 (200 * a + ((t_z.toNat : Nat) : Int)), xe A a ((t_z.toNat : Nat) : Int)) = (B 2 (200 * b + ((t_z.toNat : Nat) : Int)), xe B b ((t_z.toNat : Nat) : Int)) := Option.some.inj h2
  rw [Int.toNat_of_nonneg t0_z] at h3
  refine ⟨congrArg Prod.fst h3, fun v_z v0_z v1_z => ?_⟩
  have h4 := congrFun (congrArg Prod.snd h3) ⟨v_z.toNat, by omega⟩
  have h5 : A 3 (12 * (200 * a + t_z) + ((v_z.toNat : Nat) : Int)) = B 3 (12 * (200 * b + t_z) + ((v_z.toNat : Nat) : Int)) := h4
  rw [Int.toNat_of_nonneg v0_z] at h5
  exact h5
theorem alb_v {A : pm_A} {a b t : Int} (hA : gH wM A) (ha : 0 ≤ a ∧ a ≤ 151) (hb : 0 ≤ b ∧ b ≤ 151) (ht : 0 ≤ t ∧ t ≤ 199) {z : pm_R → Prop} (H0 : (∃ v_z : Int, (0 ≤ v_z ∧ v_z < 12) ∧ ¬ A 3 (12 * (200 * a + t) + v_z) = A 3 (12 * (200 * b + t) + v_z)) → z (some (0, 0), A)) (H : (∀ v_z : Int, 0 ≤ v_z → v_z < 12 → A 3 (12 * (200 * a + t) + v_z) = A 3 (12 * (200 * b + t) + v_z)) → ∀ w4_z, Tm pmt (an_sh wM) o_X10_areAlike 19 ([(2, 0), (0, a), (0, b), (0, t + 1), w4_z], [], A) z) : ∀ (m_z : Nat) (v_z : Int), (12 - v_z).toNat < m_z → 0 ≤ v_z → v_z ≤ 12 → (∀ i_z : Int, 0 ≤ i_z → i_z < v_z → A 3 (12 * (200 * a + t) + i_z) = A 3 (12 * (200 * b + t) + i_z)) → Tm pmt (an_sh wM) o_X10_areAlike 62 ([(2, 0), (0, a), (0, b), (0, t), (0, v_z)], [], A) z := by
  have c3_z := pM_3 hA
  intro m_z
  induction m_z with
  | zero => intro v_z h_z; omega
  | succ m_z ih_z =>
    intro v_z hm_z v0_z v1_z hv
    refine wq_ok srt_areAlike (fr := []) (cuts := [19, 62]) (J := fun pc st_z => (pc = 19 ∧ (12 ≤ v_z) ∧ st_z = ([(2, 0), (0, a), (0, b), (0, t + 1), (0, v_z)], [], A)) ∨ (pc = 62 ∧ (v_z < 12) ∧ ((A (A 0 3) ((12 * ((200 * a) + t)) + v_z)) = (A (A 0 3) ((12 * ((200 * b) + t)) + v_z))) ∧ st_z = ([(2, 0), (0, a), (0, b), (0, t), (0, v_z + 1)], [], A))) ?_ 35 62 _ ?_
    · rintro pc st_z (⟨rfl, h0, rfl⟩ | ⟨rfl, h0, h1, rfl⟩)
      · exact H (fun i_z i0_z i1_z => hv i_z i0_z (by omega)) _
      · rw [c3_z] at h1
        refine ih_z (v_z + 1) (by omega) (by omega) (by omega) (fun i_z i0_z i1_z => ?_)
        by_cases e_z : i_z = v_z
        · rw [e_z]; exact h1
        · exact hv i_z i0_z (by omega)
    · refine ⟨fun h0 => ?_, fun h0 => ?_⟩
      · refine ⟨⟨by omega, by omega⟩, ?_⟩
        exact Or.inl (⟨rfl, h0, rfl⟩)
      · refine ⟨oM_0 (by omega) km0 3 rfl, ?_⟩
        refine ⟨⟨by omega, by omega⟩, ?_⟩
        refine ⟨⟨by omega, by omega⟩, ?_⟩
        refine ⟨⟨by omega, by omega⟩, ?_⟩
        refine ⟨⟨by omega, by omega⟩, ?_⟩
        refine ⟨aM_3 (r := A 0 3) (by rw [c3_z]; omega) (by rw [c3_z]; exact kn3) (by omega) (by omega), ?_⟩
        have e1 : A (A 0 3) ((12 * ((200 * a) + t)) + v_z) = A 3 ((12 * ((200 * a) + t)) + v_z) := by rw [c3_z]
        refine ⟨oM_0 (by omega) km0 3 rfl, ?_⟩
        refine ⟨⟨by omega, by omega⟩, ?_⟩
        refine ⟨⟨by omega, by omega⟩, ?_⟩
        refine ⟨⟨by omega, by omega⟩, ?_⟩
        refine ⟨⟨by omega, by omega⟩, ?_⟩
        refine ⟨aM_3 (r := A 0 3) (by rw [c3_z]; omega) (by rw [c3_z]; exact kn3) (by omega) (by omega), ?_⟩
        have e2 : A (A 0 3) ((12 * ((200 * b) + t)) + v_z) = A 3 ((12 * ((200 * b) + t)) + v_z) := by rw [c3_z]
        refine ⟨fun h1 => ?_, fun h1 => ?_⟩
        · refine ⟨⟨by omega, by omega⟩, ?_⟩
          exact Or.inr (⟨rfl, h0, h1, rfl⟩)
        · exact ⟨rfl, H0 ⟨v_z, ⟨v0_z, h0⟩, by rw [c3_z] at h1; exact h1⟩⟩
theorem alb_19 {A : pm_A} {a b : Int} (hA : gH wM A) (ha : 0 ≤ a ∧ a ≤ 151) (hb : 0 ≤ b ∧ b ≤ 151) (hm0 : A 1 a = A 1 b) : ∀ (m_z : Nat) (t_z : Int) (w4_z : pm_V), (A 1 a - t_z).toNat < m_z → 0 ≤ t_z → t_z ≤ A 1 a → (∀ q_z v_z : Int, 0 ≤ q_z → q_z < t_z → 0 ≤ v_z → v_z < 12 → A 2 (200 * a + q_z) = A 2 (200 * b + q_z) ∧ A 3 (12 * (200 * a + q_z) + v_z) = A 3 (12 * (200 * b + q_z) + v_z)) → Tm pmt (an_sh wM) o_X10_areAlike 19 ([(2, 0), (0, a), (0, b), (0, t_z), w4_z], [], A) (mao A a b) := by
  have c1_z := pM_1 hA
  have c2_z := pM_2 hA
  have ma := eM_1 hA (r := 1) (by omega) kn1 ha.1 (show a < 152 by omega)
  intro m_z
  induction m_z with
  | zero => intro t_z w4_z h_z; omega
  | succ m_z ih_z =>
    intro t_z w4_z hm_z t0_z t1_z hq
    refine wq_ok srt_areAlike (fr := []) (cuts := [62]) (J := fun pc st_z => (pc = 62 ∧ (t_z < (A (A 0 1) a)) ∧ ((A (A 0 2) ((200 * a) + t_z)) = (A (A 0 2) ((200 * b) + t_z))) ∧ st_z = ([(2, 0), (0, a), (0, b), (0, t_z), (0, 0)], [], A))) ?_ 31 19 _ ?_
    · rintro pc st_z (⟨rfl, h0, h1, rfl⟩)
      rw [c1_z] at h0
      rw [c2_z] at h1
      refine alb_v hA ha hb ⟨t0_z, by omega⟩ (fun ⟨v_z, hv, hne⟩ => ⟨rfl, Or.inl ⟨rfl, fun q_z => hne ((LSm_at q_z ma.1 (eM_1 hA (r := 1) (by omega) kn1 hb.1 (show b < 152 by omega)).1).2 t_z t0_z h0 |>.2 v_z hv.1 hv.2)⟩⟩) (fun hv w4_z => ih_z (t_z + 1) w4_z (by omega) (by omega) (by omega) (fun q_z v_z q0 q1_z v0_z v1_z => ?_)) _ 0 (Nat.lt_succ_self _) (by omega) (by omega) (fun i_z i0_z i1_z => by omega)
      by_cases e_z : q_z = t_z
      · rw [e_z]; exact ⟨h1, hv v_z v0_z v1_z⟩
      · exact hq q_z v_z q0 (by omega) v0_z v1_z
    · refine ⟨oM_0 (by omega) km0 1 rfl, ?_⟩
      refine ⟨aM_1 (r := A 0 1) (by rw [c1_z]; omega) (by rw [c1_z]; exact kn1) (by omega) (by omega), ?_⟩
      have e1 : A (A 0 1) a = A 1 a := by rw [c1_z]
      refine ⟨fun h0 => ?_, fun h0 => ?_⟩
      · exact ⟨rfl, rfl, Or.inr ⟨rfl, LSm_ext hm0 (fun q_z v_z q0 q1_z v0_z v1_z => hq q_z v_z q0 (by rw [c1_z] at h0; omega) v0_z v1_z)⟩⟩
      · refine ⟨oM_0 (by omega) km0 2 rfl, ?_⟩
        refine ⟨⟨by omega, by omega⟩, ?_⟩
        refine ⟨⟨by omega, by omega⟩, ?_⟩
        refine ⟨aM_2 (r := A 0 2) (by rw [c2_z]; omega) (by rw [c2_z]; exact kn2) (by omega) (by omega), ?_⟩
        have e2 : A (A 0 2) ((200 * a) + t_z) = A 2 ((200 * a) + t_z) := by rw [c2_z]
        refine ⟨oM_0 (by omega) km0 2 rfl, ?_⟩
        refine ⟨⟨by omega, by omega⟩, ?_⟩
        refine ⟨⟨by omega, by omega⟩, ?_⟩
        refine ⟨aM_2 (r := A 0 2) (by rw [c2_z]; omega) (by rw [c2_z]; exact kn2) (by omega) (by omega), ?_⟩
        have e3 : A (A 0 2) ((200 * b) + t_z) = A 2 ((200 * b) + t_z) := by rw [c2_z]
        refine ⟨fun h1 => ?_, fun h1 => ?_, fun h1 => ?_⟩
        · refine ⟨fun hh => absurd hh (by decide), fun _ => ?_⟩
          exact ⟨rfl, rfl, Or.inl ⟨rfl, fun q_z => by
            have h5 := ((LSm_at q_z ma.1 (eM_1 hA (r := 1) (by omega) kn1 hb.1 (show b < 152 by omega)).1).2 t_z t0_z (by rw [c1_z] at h0; exact h0)).1
            rw [c2_z] at h1
            omega⟩⟩
        · refine ⟨fun _ => ?_, fun hh => absurd hh (by decide)⟩
          exact ⟨rfl, h0, h1, rfl⟩
        · refine ⟨fun hh => absurd hh (by decide), fun _ => ?_⟩
          exact ⟨rfl, rfl, Or.inl ⟨rfl, fun q_z => by
            have h5 := ((LSm_at q_z ma.1 (eM_1 hA (r := 1) (by omega) kn1 hb.1 (show b < 152 by omega)).1).2 t_z t0_z (by rw [c1_z] at h0; exact h0)).1
            rw [c2_z] at h1
            omega⟩⟩
theorem areAlike_exq {A : pm_A} {a b : Int} (hA : gH wM A) (ha : 0 ≤ a ∧ a ≤ 151) (hb : 0 ≤ b ∧ b ≤ 151) : Cl pmt (an_sh wM) 124 [(2, 0), (0, a), (0, b)] A (mao A a b) := by
  have c1_z := pM_1 hA
  have ma := eM_1 hA (r := 1) (by omega) kn1 ha.1 (show a < 152 by omega)
  refine Cl.of (Nat.le_of_ble_eq_true rfl) ?_
  refine wq_ok (full := o_X10_areAlike) srt_areAlike (fr := []) (cuts := [19]) (J := fun pc st_z => (pc = 19 ∧ ((A (A 0 1) a) = (A (A 0 1) b)) ∧ st_z = ([(2, 0), (0, a), (0, b), (0, 0), (9, 0)], [], A))) ?_ 16 0 _ ?_
  · rintro pc st_z (⟨rfl, h0, rfl⟩)
    rw [c1_z] at h0
    exact alb_19 hA ha hb h0 _ 0 _ (Nat.lt_succ_self _) (by omega) (by omega) (fun q_z v_z q0 q1_z v0_z v1_z => by omega)
  · refine ⟨oM_0 (by omega) km0 1 rfl, ?_⟩
    refine ⟨aM_1 (r := A 0 1) (by rw [c1_z]; omega) (by rw [c1_z]; exact kn1) (by omega) (by omega), ?_⟩
    have e1 : A (A 0 1) a = A 1 a := by rw [c1_z]
    refine ⟨oM_0 (by omega) km0 1 rfl, ?_⟩
    refine ⟨aM_1 (r := A 0 1) (by rw [c1_z]; omega) (by rw [c1_z]; exact kn1) (by omega) (by omega), ?_⟩
    have e2 : A (A 0 1) b = A 1 b := by rw [c1_z]
    refine ⟨fun h0 => ?_, fun h0 => ?_⟩
    · exact ⟨rfl, h0, rfl⟩
    · exact ⟨rfl, rfl, Or.inl ⟨rfl, fun q_z => h0 (by rw [c1_z]; exact (LSm_at q_z ma.1 (eM_1 hA (r := 1) (by omega) kn1 hb.1 (show b < 152 by omega)).1).1)⟩⟩
def boF (A B : pm_A) : Prop := gH wM B ∧ ∀ r_z j_z : Int, ¬ r_z = 16 → B r_z j_z = A r_z j_z
theorem boF.ls {A B : pm_A} (h : boF A B) (p : Int) : LSm B p = LSm A p := by
  have e1 : B 1 = A 1 := funext fun j_z => h.2 1 j_z (by omega)
  have e2 : B 2 = A 2 := funext fun j_z => h.2 2 j_z (by omega)
  have e3 : B 3 = A 3 := funext fun j_z => h.2 3 j_z (by omega)
  unfold LSm xe
  rw [e1, e2, e3]
theorem boF.put {A B : pm_A} {k x : Int} (h : boF A B) (x0 : -1 ≤ x) (x1 : x ≤ 5) : boF A (pm_upd B 16 k x) := ⟨uM_16 h.1 km16 x0 x1, fun r_z j_z hr => by rw [upd_ne hr]; exact h.2 r_z j_z hr⟩
/-- z is the last of the first l slots from K on that is alike with slot i -/
def lstM (A : pm_A) (K i l z : Int) : Prop := (z = -1 ∧ ∀ d_z : Int, 0 ≤ d_z → d_z < l → ¬ LSm A i = LSm A (K + d_z)) ∨ ((0 ≤ z ∧ z < l) ∧ LSm A i = LSm A (K + z) ∧ ∀ d_z : Int, z < d_z → d_z < l → ¬ LSm A i = LSm A (K + d_z))
theorem lstM_u {A : pm_A} {K i l y z : Int} (h1 : lstM A K i l y) (h2 : lstM A K i l z) : y = z := by
  rcases h1 with ⟨a1_z, a2⟩ | ⟨a1_z, a2, a3⟩
  · rcases h2 with ⟨b1, b2⟩ | ⟨b1, b2, b3⟩
    · omega
    · exact absurd b2 (a2 z b1.1 b1.2)
  · rcases h2 with ⟨b1, b2⟩ | ⟨b1, b2, b3⟩
    · exact absurd a2 (b2 y a1_z.1 a1_z.2)
    · rcases Int.lt_trichotomy y z with e_z | e_z | e_z
      · exact absurd b2 (a3 z e_z b1.2)
      · exact e_z
      · exact absurd a2 (b3 y e_z a1_z.2)
def mtc (T U S : Int → Int) (W P : Int) : Prop := ∀ i_z j_z : Int, 0 ≤ i_z → i_z < W → 0 ≤ j_z → j_z < P → T (6 * i_z + j_z) = U (6 * rwS P S i_z + S j_z)
theorem mtc_cong {T U S S' : Int → Int} {W P : Int} (e : ∀ i_z : Int, 0 ≤ i_z → i_z < P → S i_z = S' i_z) (h : mtc T U S W P) : mtc T U S' W P := by
  intro i_z j_z i0_z i1_z j0 j1
  have h1 := h i_z j_z i0_z i1_z j0 j1
  rw [e j_z j0 j1] at h1
  have e2 : rwS P S i_z = rwS P S' i_z := by
    unfold rwS
    by_cases q_z : i_z < P
    · rw [if_pos q_z, if_pos q_z, e i_z i0_z q_z]
    · rw [if_neg q_z, if_neg q_z]
  rw [e2] at h1
  exact h1
def mdM (A : pm_A) (K : Int) (U : Int → Int) : Prop := ∃ S_z : Int → Int, (∀ i_z : Int, 0 ≤ i_z → i_z < A 0 7 → ¬ S_z i_z = -1 ∧ lstM A K i_z (A 0 7) (S_z i_z)) ∧ mtc (A 5) U S_z (A 0 7 + A 0 8) (A 0 7)
def ibP (A : pm_A) (r : pm_R) : Prop := boF A r.2 ∧ ((r.1 = some (0, 1) ∧ mdM A 36 (A 22)) ∨ (r.1 = some (0, 0) ∧ ¬ mdM A 36 (A 22)))
theorem ic_106 {A B : pm_A} {i : Int} (hA : gH wM A) (hB : boF A B) (ho : ∀ d_z : Int, 0 ≤ d_z → d_z < A 0 7 → ¬ B 16 d_z = -1 ∧ lstM A 36 d_z (A 0 7) (B 16 d_z)) (i0 : 0 ≤ i) (i1 : i < A 0 7 + A 0 8) (H : (∀ j_z : Int, 0 ≤ j_z → j_z < A 0 7 → A 5 (6 * i + j_z) = A 22 (6 * rwS (A 0 7) (B 16) i + B 16 j_z)) → ∀ v3, Tm pmt (an_sh wM) o_X10_isBegun 152 ([(2, 0), (0, i), (0, rwS (A 0 7) (B 16) i), v3], [], B) (ibP A)) : ∀ (n_z : Nat) (j_z : Int), (6 - j_z).toNat < n_z → 0 ≤ j_z → j_z ≤ A 0 7 → (∀ d_z : Int, 0 ≤ d_z → d_z < j_z → A 5 (6 * i + d_z) = A 22 (6 * rwS (A 0 7) (B 16) i + B 16 d_z)) → Tm pmt (an_sh wM) o_X10_isBegun 106 ([(2, 0), (0, i), (0, rwS (A 0 7) (B 16) i), (0, j_z)], [], B) (ibP A) := by
  have p6_z := fM_0_7 hA (r := 0) (by omega) km0
  have p8 := fM_0_8 hA (r := 0) (by omega) km0
  have c9_z := pM_9 hB.1
  have c34_z := pM_34 hB.1
  have c23_z := pM_23 hB.1
  have e7_z : B 0 7 = A 0 7 := hB.2 0 7 (by omega)
  have hS_z : ∀ d_z : Int, 0 ≤ d_z → d_z < A 0 7 → 0 ≤ B 16 d_z ∧ B 16 d_z < A 0 7 := fun d_z d0_z d1_z => by
    rcases ho d_z d0_z d1_z with ⟨h1, ⟨h2, _⟩ | ⟨h2, _⟩⟩
    · exact absurd h2 h1
    · exact h2
  have hr : 0 ≤ rwS (A 0 7) (B 16) i ∧ rwS (A 0 7) (B 16) i ≤ 11 := by
    unfold rwS
    by_cases q_z : i < A 0 7
    · rw [if_pos q_z]; have := hS_z i i0 q_z; omega
    · rw [if_neg q_z]; omega
  have hno : ∀ j_z : Int, 0 ≤ j_z → j_z < A 0 7 → ¬ A 5 (6 * i + j_z) = A 22 (6 * rwS (A 0 7) (B 16) i + B 16 j_z) → ¬ mdM A 36 (A 22) := fun j_z j0 j1 hne ⟨S_z, hS1, hS2⟩ => hne (mtc_cong (fun d_z d0_z d1_z => lstM_u (hS1 d_z d0_z d1_z).2 (ho d_z d0_z d1_z).2) hS2 i j_z i0 i1 j0 j1)
  generalize rwS (A 0 7) (B 16) i = r_z at H hr hno
  intro n_z
  induction n_z with
  | zero => intro j_z h_z; omega
  | succ n_z ih_z =>
    intro j_z hn j0 j1 hd_z
    refine wq_ok srt_isBegun (fr := []) (cuts := [106, 152]) (J := fun pc st_z => (pc = 152 ∧ j_z = A 0 7 ∧ st_z = ([(2, 0), (0, i), (0, r_z), (0, j_z)], [], B)) ∨ (pc = 106 ∧ (j_z < A 0 7 ∧ A 5 (6 * i + j_z) = A 22 (6 * r_z + B 16 j_z)) ∧ st_z = ([(2, 0), (0, i), (0, r_z), (0, j_z + 1)], [], B))) ?_ 60 106 _ ?_
    · rintro pc st_z (⟨rfl, hj, rfl⟩ | ⟨rfl, hj, rfl⟩)
      · exact H (fun d_z d0_z d1_z => hd_z d_z d0_z (by omega)) _
      · refine ih_z (j_z + 1) (by omega) (by omega) (by omega) (fun d_z d0_z d1_z => ?_)
        by_cases e_z : d_z = j_z
        · rw [e_z]; exact hj.2
        · exact hd_z d_z d0_z (by omega)
    · refine ⟨oM_0 (by omega) km0 7 rfl, ?_⟩
      refine ⟨fun h_z => Or.inl ⟨rfl, by omega, rfl⟩, fun h_z => ?_⟩
      have hj : j_z < A 0 7 := by omega
      have oj := hS_z j_z j0 hj
      have e23_z : B (B 0 23) j_z = B 16 j_z := by rw [c23_z]
      refine ⟨oM_0 (by omega) km0 9 rfl, ?_⟩
      refine ⟨⟨by omega, by omega⟩, ?_⟩
      refine ⟨⟨by omega, by omega⟩, ?_⟩
      refine ⟨aM_5 (r := B 0 9) (by rw [c9_z]; omega) (by rw [c9_z]; exact km5) (by omega) (by omega), ?_⟩
      refine ⟨oM_0 (by omega) km0 34 rfl, ?_⟩
      refine ⟨⟨by omega, by omega⟩, ?_⟩
      refine ⟨oM_0 (by omega) km0 23 rfl, ?_⟩
      refine ⟨aM_16 (r := B 0 23) (by rw [c23_z]; omega) (by rw [c23_z]; exact km16) j0 (by omega), ?_⟩
      refine ⟨by show r32 (6 * r_z + B (B 0 23) j_z); rw [e23_z]; exact ⟨by omega, by omega⟩, ?_⟩
      refine ⟨aM_22 (r := B 0 34) (by rw [c34_z]; omega) (by rw [c34_z]; exact km22) (by show 0 ≤ 6 * r_z + B (B 0 23) j_z; rw [e23_z]; omega) (by show 6 * r_z + B (B 0 23) j_z < 72; rw [e23_z]; omega), ?_⟩
      have ea : B (B 0 9) (6 * i + j_z) = A 5 (6 * i + j_z) := by rw [c9_z]; exact hB.2 5 _ (by omega)
      have eb : B (B 0 34) (6 * r_z + B (B 0 23) j_z) = A 22 (6 * r_z + B 16 j_z) := by rw [c34_z, e23_z]; exact hB.2 22 _ (by omega)
      refine ⟨fun h2 => ?_, fun h2 => ?_⟩
      · rw [ea, eb] at h2
        refine ⟨⟨by omega, by omega⟩, ?_⟩
        exact Or.inr ⟨rfl, ⟨hj, h2⟩, rfl⟩
      · rw [ea, eb] at h2
        exact ⟨rfl, hB, Or.inr ⟨rfl, hno j_z j0 hj h2⟩⟩
theorem ic_72 {A B : pm_A} (hA : gH wM A) (hB : boF A B) (ho : ∀ d_z : Int, 0 ≤ d_z → d_z < A 0 7 → ¬ B 16 d_z = -1 ∧ lstM A 36 d_z (A 0 7) (B 16 d_z)) : ∀ (n_z : Nat) (i_z : Int) (v2 v3 : pm_V), (12 - i_z).toNat < n_z → 0 ≤ i_z → i_z ≤ A 0 7 + A 0 8 → (∀ a_z j_z : Int, 0 ≤ a_z → a_z < i_z → 0 ≤ j_z → j_z < A 0 7 → A 5 (6 * a_z + j_z) = A 22 (6 * rwS (A 0 7) (B 16) a_z + B 16 j_z)) → Tm pmt (an_sh wM) o_X10_isBegun 72 ([(2, 0), (0, i_z), v2, v3], [], B) (ibP A) := by
  have p6_z := fM_0_7 hA (r := 0) (by omega) km0
  have h6 := fM_0_8 hA (r := 0) (by omega) km0
  have c23_z := pM_23 hB.1
  have e7_z : B 0 7 = A 0 7 := hB.2 0 7 (by omega)
  have e8 : B 0 8 = A 0 8 := hB.2 0 8 (by omega)
  intro n_z
  induction n_z with
  | zero => intro i_z v2 v3 h_z; omega
  | succ n_z ih_z =>
    intro i_z v2 v3 hn i0_z i1_z hd_z
    refine wq_ok srt_isBegun (fr := []) (cuts := [106]) (J := fun pc st_z => pc = 106 ∧ i_z < A 0 7 + A 0 8 ∧ st_z = ([(2, 0), (0, i_z), (0, rwS (A 0 7) (B 16) i_z), (0, 0)], [], B)) ?_ 40 72 _ ?_
    · rintro pc st_z ⟨rfl, hi_z, rfl⟩
      refine ic_106 hA hB ho i0_z hi_z (fun hrow v3 => ?_) _ 0 (Nat.lt_succ_self _) (by omega) p6_z.1 (fun d_z d0_z d1_z => by omega)
      refine wq_ok srt_isBegun (fr := []) (cuts := [72]) (J := fun pc st_z => pc = 72 ∧ st_z = ([(2, 0), (0, i_z + 1), (0, rwS (A 0 7) (B 16) i_z), v3], [], B)) ?_ 20 152 _ ?_
      · rintro pc st_z ⟨rfl, rfl⟩
        refine ih_z (i_z + 1) _ _ (by omega) (by omega) (by omega) (fun a_z j_z a0_z a1_z j0 j1 => ?_)
        by_cases e_z : a_z = i_z
        · rw [e_z]; exact hrow j_z j0 j1
        · exact hd_z a_z j_z a0_z (by omega) j0 j1
      · refine ⟨⟨by omega, by omega⟩, ?_⟩
        exact ⟨rfl, rfl⟩
    · refine ⟨oM_0 (by omega) km0 7 rfl, ?_⟩
      refine ⟨oM_0 (by omega) km0 8 rfl, ?_⟩
      refine ⟨⟨by omega, by omega⟩, ?_⟩
      refine ⟨fun h_z => ?_, fun h_z => ?_⟩
      · exact ⟨rfl, hB, Or.inl ⟨rfl, B 16, ho, fun a_z j_z a0_z a1_z j0 j1 => hd_z a_z j_z a0_z (by omega) j0 j1⟩⟩
      · have hi_z : i_z < A 0 7 + A 0 8 := by omega
        refine ⟨oM_0 (by omega) km0 7 rfl, ?_⟩
        refine ⟨fun h2 => ?_, fun h2 => ?_⟩
        · refine ⟨rfl, hi_z, ?_⟩
          rw [show rwS (A 0 7) (B 16) i_z = i_z from if_neg (by omega)]
          rfl
        · refine ⟨oM_0 (by omega) km0 23 rfl, ?_⟩
          refine ⟨aM_16 (r := B 0 23) (by rw [c23_z]; omega) (by rw [c23_z]; exact km16) i0_z (by omega), ?_⟩
          refine ⟨rfl, hi_z, ?_⟩
          rw [show rwS (A 0 7) (B 16) i_z = B (B 0 23) i_z by rw [c23_z]; exact if_pos (by omega)]
          rfl
theorem ic_19 {A : pm_A} {i : Int} {v3 : pm_V} (hA : gH wM A) (i0 : 0 ≤ i) (i1 : i < A 0 7) (H : ∀ B_z v2, boF A B_z → (∀ d_z : Int, 0 ≤ d_z → d_z < i → ¬ B_z 16 d_z = -1 ∧ lstM A 36 d_z (A 0 7) (B_z 16 d_z)) → lstM A 36 i (A 0 7) (B_z 16 i) → Tm pmt (an_sh wM) o_X10_isBegun 52 ([(2, 0), (0, i), v2, v3], [], B_z) (ibP A)) : ∀ (n_z : Nat) (l : Int) (B_z : pm_A), (6 - l).toNat < n_z → 0 ≤ l → l ≤ A 0 7 → boF A B_z → (∀ d_z : Int, 0 ≤ d_z → d_z < i → ¬ B_z 16 d_z = -1 ∧ lstM A 36 d_z (A 0 7) (B_z 16 d_z)) → lstM A 36 i l (B_z 16 i) → Tm pmt (an_sh wM) o_X10_isBegun 19 ([(2, 0), (0, i), (0, l), v3], [], B_z) (ibP A) := by
  have p6_z := fM_0_7 hA (r := 0) (by omega) km0
  intro n_z
  induction n_z with
  | zero => intro l B_z h_z; omega
  | succ n_z ih_z =>
    intro l B_z hn l0 l1 hB_z ho hl
    have e7_z : B_z 0 7 = A 0 7 := hB_z.2 0 7 (by omega)
    have c23_z := pM_23 hB_z.1
    refine wq_ok srt_isBegun (fr := []) (cuts := [19, 52]) (J := fun pc st_z => (pc = 52 ∧ l = A 0 7 ∧ st_z = ([(2, 0), (0, i), (0, l), v3], [], B_z)) ∨ (pc = 19 ∧ (l < A 0 7 ∧ ¬ LSm A i = LSm A (36 + l)) ∧ st_z = ([(2, 0), (0, i), (0, l + 1), v3], [], B_z)) ∨ (pc = 19 ∧ (l < A 0 7 ∧ LSm A i = LSm A (36 + l)) ∧ st_z = ([(2, 0), (0, i), (0, l + 1), v3], [], pm_upd B_z (B_z 0 23) i l))) ?_ 40 19 _ ?_
    · rintro pc st_z (⟨rfl, h1, rfl⟩ | ⟨rfl, h1, rfl⟩ | ⟨rfl, h1, rfl⟩)
      · rw [h1] at hl
        exact H B_z _ hB_z ho hl
      · refine ih_z (l + 1) B_z (by omega) (by omega) (by omega) hB_z ho ?_
        rcases hl with ⟨a1_z, a2⟩ | ⟨a1_z, a2, a3⟩
        · refine Or.inl ⟨a1_z, fun d_z d0_z d1_z => ?_⟩
          by_cases e_z : d_z = l
          · rw [e_z]; exact h1.2
          · exact a2 d_z d0_z (by omega)
        · refine Or.inr ⟨⟨a1_z.1, by omega⟩, a2, fun d_z d0_z d1_z => ?_⟩
          by_cases e_z : d_z = l
          · rw [e_z]; exact h1.2
          · exact a3 d_z d0_z (by omega)
      · rw [c23_z]
        refine ih_z (l + 1) _ (by omega) (by omega) (by omega) (hB_z.put (by omega) (by omega)) (fun d_z d0_z d1_z => ?_) ?_
        · rw [upd_n2 (by omega)]; exact ho d_z d0_z d1_z
        · rw [upd_at]
          exact Or.inr ⟨⟨l0, by omega⟩, h1.2, fun d_z d0_z d1_z => by omega⟩
    · refine ⟨oM_0 (by omega) km0 7 rfl, ?_⟩
      refine ⟨fun h_z => Or.inl ⟨rfl, by omega, rfl⟩, fun h_z => ?_⟩
      refine ⟨⟨by omega, by omega⟩, ?_⟩
      refine ⟨rM_0 (by omega) km0, ?_⟩
      refine (areAlike_exq (A := B_z) (a := i) (b := 36 + l) hB_z.1 ⟨i0, by omega⟩ ⟨by omega, by omega⟩).imp ?_
      rintro ⟨r1_z, C_z⟩ ⟨hC, hr⟩
      simp only at hC hr
      subst hC
      rw [hB_z.ls, hB_z.ls] at hr
      rcases hr with ⟨rfl, hne⟩ | ⟨rfl, heq⟩
      · refine ⟨fun _ => ?_, fun hh => absurd rfl hh⟩
        refine ⟨⟨by omega, by omega⟩, ?_⟩
        exact Or.inr (Or.inl ⟨rfl, ⟨by omega, hne⟩, rfl⟩)
      · refine ⟨fun hh => absurd hh (by decide), fun _ => ?_⟩
        refine ⟨oM_0 (by omega) km0 23 rfl, ?_⟩
        refine ⟨tM_16 (r := C_z 0 23) (by rw [c23_z]; omega) (by rw [c23_z]; exact km16) i0 (by omega) rfl, ?_⟩
        refine ⟨⟨by omega, by omega⟩, ?_⟩
        exact Or.inr (Or.inr ⟨rfl, ⟨by omega, heq⟩, rfl⟩)
theorem ic_2 {A : pm_A} (hA : gH wM A) : ∀ (n_z : Nat) (i_z : Int) (v2 v3 : pm_V) (B_z : pm_A), (6 - i_z).toNat < n_z → 0 ≤ i_z → i_z ≤ A 0 7 → boF A B_z → (∀ d_z : Int, 0 ≤ d_z → d_z < i_z → ¬ B_z 16 d_z = -1 ∧ lstM A 36 d_z (A 0 7) (B_z 16 d_z)) → Tm pmt (an_sh wM) o_X10_isBegun 2 ([(2, 0), (0, i_z), v2, v3], [], B_z) (ibP A) := by
  have p6_z := fM_0_7 hA (r := 0) (by omega) km0
  have h8 := fM_0_8 hA (r := 0) (by omega) km0
  intro n_z
  induction n_z with
  | zero => intro i_z v2 v3 B_z h_z; omega
  | succ n_z ih_z =>
    intro i_z v2 v3 B_z hn i0_z i1_z hB_z ho
    have e7_z : B_z 0 7 = A 0 7 := hB_z.2 0 7 (by omega)
    have c23_z := pM_23 hB_z.1
    refine wq_ok srt_isBegun (fr := []) (cuts := [19, 72]) (J := fun pc st_z => (pc = 72 ∧ i_z = A 0 7 ∧ st_z = ([(2, 0), (0, 0), v2, v3], [], B_z)) ∨ (pc = 19 ∧ i_z < A 0 7 ∧ st_z = ([(2, 0), (0, i_z), (0, 0), v3], [], pm_upd B_z (B_z 0 23) i_z (-1)))) ?_ 40 2 _ ?_
    · rintro pc st_z (⟨rfl, hi_z, rfl⟩ | ⟨rfl, hi_z, rfl⟩)
      · rw [hi_z] at ho
        exact ic_72 hA hB_z ho _ 0 v2 v3 (Nat.lt_succ_self _) (by omega) (by omega) (fun a_z j_z a0_z a1_z => by omega)
      · rw [c23_z]
        refine ic_19 hA i0_z hi_z (fun C_z w2_z hC hC2 hl => ?_) _ 0 _ (Nat.lt_succ_self _) (by omega) p6_z.1 (hB_z.put (by omega) (by omega)) (fun d_z d0_z d1_z => by rw [upd_n2 (by omega)]; exact ho d_z d0_z d1_z) (Or.inl ⟨upd_at, fun d_z d0_z d1_z => by omega⟩)
        have d23_z := pM_23 hC.1
        refine wq_ok srt_isBegun (fr := []) (cuts := [2]) (J := fun pc st_z => pc = 2 ∧ ¬ C_z (C_z 0 23) i_z = -1 ∧ st_z = ([(2, 0), (0, i_z + 1), w2_z, v3], [], C_z)) ?_ 30 52 _ ?_
        · rintro pc st_z ⟨rfl, h3, rfl⟩
          rw [d23_z] at h3
          refine ih_z (i_z + 1) w2_z v3 C_z (by omega) (by omega) (by omega) hC (fun j_z j0 j1 => ?_)
          by_cases w_z : j_z = i_z
          · rw [w_z]; exact ⟨h3, hl⟩
          · exact hC2 j_z j0 (by omega)
        · refine ⟨oM_0 (by omega) km0 23 rfl, ?_⟩
          refine ⟨aM_16 (r := C_z 0 23) (by rw [d23_z]; omega) (by rw [d23_z]; exact km16) i0_z (by omega), ?_⟩
          refine ⟨fun q_z => ?_, fun q_z => ?_⟩
          · refine ⟨⟨by omega, by omega⟩, ?_⟩
            exact ⟨rfl, q_z, rfl⟩
          · rw [d23_z] at q_z
            refine ⟨rfl, hC, Or.inr ⟨rfl, fun ⟨S_z, hS_z, _⟩ => (hS_z i_z i0_z hi_z).1 ?_⟩⟩
            exact (lstM_u (hS_z i_z i0_z hi_z).2 hl).trans q_z
    · refine ⟨oM_0 (by omega) km0 7 rfl, ?_⟩
      refine ⟨fun h_z => Or.inl ⟨rfl, by omega, rfl⟩, fun h_z => ?_⟩
      refine ⟨oM_0 (by omega) km0 23 rfl, ?_⟩
      refine ⟨tM_16 (r := B_z 0 23) (by rw [c23_z]; omega) (by rw [c23_z]; exact km16) i0_z (by omega) rfl, ?_⟩
      exact Or.inr ⟨rfl, by omega, rfl⟩
theorem isBegun_ex {A : pm_A} (hA : gH wM A) : Cl pmt (an_sh wM) 153 [(2, 0)] A (ibP A) := by
  have p6_z := fM_0_7 hA (r := 0) (by omega) km0
  refine Cl.of (Nat.le_of_ble_eq_true rfl) ?_
  refine wq_ok (full := o_X10_isBegun) srt_isBegun (fr := []) (cuts := [2]) (J := fun pc st_z => pc = 2 ∧ ∃ v2 v3, st_z = ([(2, 0), (0, 0), v2, v3], [], A)) ?_ 30 0 _ ?_
  · rintro pc st_z ⟨rfl, v2, v3, rfl⟩
    exact ic_2 hA _ 0 v2 v3 A (Nat.lt_succ_self _) (by omega) p6_z.1 ⟨hA, fun _ _ _ => rfl⟩ (fun j_z j0 j1 => by omega)
  · exact ⟨rfl, _, _, rfl⟩
/-- slots from K on, and a table, hold a true seed -/
def TrK (s : cx_Sd 12) (ks : List (Fin 12)) (A : pm_A) (K : Int) (U : Int → Int) (W P : Int) : Prop := (∀ i_z : Fin 12, (i_z.1 : Int) < P → cr_Shr (LSm A (K + i_z.1)) ∧ ∀ x_z : cr_Pv 12, (cr_gp s.b ks x_z).1 i_z = cr_vl x_z.1 (LSm A (K + i_z.1))) ∧ ∀ i_z j_z : Fin 12, (i_z.1 : Int) < W → (j_z.1 : Int) < P → cr_bs s.b ks i_z j_z = U (6 * (i_z.1 : Int) + (j_z.1 : Int))
theorem Tru.likeK {s s' : cx_Sd 12} {ks ls : List (Fin 12)} {A : pm_A} {K W : Int} {U : Int → Int} (hg : Tru s ls A) (hh : TrK s' ks A K U W (A 0 7)) {i f : Fin 12} (hi : (i.1 : Int) < A 0 7) (hf : (f.1 : Int) < A 0 7) : LSm A i.1 = LSm A (K + f.1) ↔ ∀ x_z, (cr_gp s'.b ks x_z).1 f = (cr_gp s.b ls x_z).1 i := by
  obtain ⟨a1_z, a2, a3⟩ := hg.2.2.2.2.2.2 i hi
  obtain ⟨b1, b2⟩ := hh.1 f hf
  constructor
  · intro hl x_z
    rw [b2 x_z, ← hl, a3 x_z]
    rfl
  · intro hx
    refine cr_Shr.eq (shr_of a1_z a2) b1 (cr_vl_unique (fun x_z => ?_))
    have h1 := a3 x_z
    unfold VS at h1
    rw [← h1, ← b2 x_z]
    exact (hx x_z).symm
theorem md_iff {s s' : cx_Sd 12} {ks ls : List (Fin 12)} {A : pm_A} {K : Int} {U : Int → Int} (hg : Tru s ls A) (hh : TrK s' ks A K U (A 0 7 + A 0 8) (A 0 7)) : mdM A K U ↔ smS s ls s' ks (A 0 7 + A 0 8) (A 0 7) := by
  have pg := fM_0_7 hg.1 (r := 0) (by omega) km0
  have qg := fM_0_8 hg.1 (r := 0) (by omega) km0
  constructor
  · rintro ⟨S_z, hS_z, hT_z⟩
    have hb_z : ∀ i_z : Int, 0 ≤ i_z → i_z < A 0 7 → (0 ≤ S_z i_z ∧ S_z i_z < A 0 7) ∧ LSm A i_z = LSm A (K + S_z i_z) := fun i_z i0_z i1_z => by
      rcases hS_z i_z i0_z i1_z with ⟨h1, ⟨h2, _⟩ | ⟨h2, h3, _⟩⟩
      · exact absurd h2 h1
      · exact ⟨h2, h3⟩
    refine ⟨S_z, fun i_z hi_z => ?_, fun i_z j_z f_z q_z hi_z hj hf hq => ?_⟩
    · obtain ⟨h1, h2⟩ := hb_z i_z.1 (by omega) hi_z
      have hf : ((⟨(S_z i_z.1).toNat, by omega⟩ : Fin 12).1 : Int) = S_z i_z.1 := by show (((S_z i_z.1).toNat : Nat) : Int) = S_z i_z.1; omega
      refine ⟨⟨(S_z i_z.1).toNat, by omega⟩, ⟨hf, by rw [hf]; omega⟩, ?_⟩
      exact (hg.likeK hh hi_z (by rw [hf]; omega)).1 (by rw [hf]; exact h2)
    · have h1 := hT_z i_z.1 j_z.1 (by omega) hi_z (by omega) hj
      rw [(hg.2.2.1 i_z j_z hj).1 hi_z, hh.2 f_z q_z ?_ ?_, h1, hf, hq]
      · rw [hf]
        unfold rwS
        by_cases q2_z : (i_z.1 : Int) < A 0 7
        · rw [if_pos q2_z]
          have := (hb_z i_z.1 (by omega) q2_z).1
          omega
        · rw [if_neg q2_z]; exact hi_z
      · rw [hq]
        have := (hb_z j_z.1 (by omega) hj).1
        omega
  · rintro ⟨S_z, hS_z, hT_z⟩
    have hS2 : ∀ i_z : Int, 0 ≤ i_z → i_z < A 0 7 → (0 ≤ S_z i_z ∧ S_z i_z < A 0 7) ∧ lstM A K i_z (A 0 7) (S_z i_z) := fun i_z i0_z i1_z => by
      obtain ⟨w_z, hw⟩ : ∃ w_z : Fin 12, i_z = (w_z.1 : Int) := ⟨⟨i_z.toNat, by omega⟩, by show i_z = ((i_z.toNat : Nat) : Int); omega⟩
      rw [hw] at i1_z ⊢
      obtain ⟨f_z, ⟨hf, hfP⟩, hx⟩ := hS_z w_z i1_z
      rw [← hf]
      refine ⟨⟨by omega, hfP⟩, Or.inr ⟨⟨by omega, hfP⟩, (hg.likeK hh i1_z hfP).2 hx, fun d_z d0_z d1_z hl => ?_⟩⟩
      obtain ⟨u_z, hu⟩ : ∃ u_z : Fin 12, d_z = (u_z.1 : Int) := ⟨⟨d_z.toNat, by omega⟩, by show d_z = ((d_z.toNat : Nat) : Int); omega⟩
      rw [hu] at hl d0_z d1_z
      have hx2 := (hg.likeK hh i1_z d1_z).1 hl
      exact gp_ne s' ks (i := u_z) (j := f_z) (fun q_z => by rw [q_z] at d0_z; omega) (fun x_z => (hx2 x_z).trans (hx x_z).symm)
    refine ⟨S_z, fun i_z i0_z i1_z => ⟨by have := (hS2 i_z i0_z i1_z).1; omega, (hS2 i_z i0_z i1_z).2⟩, fun i_z j_z i0_z i1_z j0 j1 => ?_⟩
    obtain ⟨w_z, hw⟩ : ∃ w_z : Fin 12, i_z = (w_z.1 : Int) := ⟨⟨i_z.toNat, by omega⟩, by show i_z = ((i_z.toNat : Nat) : Int); omega⟩
    obtain ⟨u_z, hu⟩ : ∃ u_z : Fin 12, j_z = (u_z.1 : Int) := ⟨⟨j_z.toNat, by omega⟩, by show j_z = ((j_z.toNat : Nat) : Int); omega⟩
    have hr : 0 ≤ rwS (A 0 7) S_z i_z ∧ rwS (A 0 7) S_z i_z < A 0 7 + A 0 8 := by
      unfold rwS
      by_cases q2_z : i_z < A 0 7
      · rw [if_pos q2_z]
        have := (hS2 i_z i0_z q2_z).1
        omega
      · rw [if_neg q2_z]; exact ⟨i0_z, i1_z⟩
    have hs := (hS2 j_z j0 j1).1
    obtain ⟨f_z, hf⟩ : ∃ f_z : Fin 12, rwS (A 0 7) S_z i_z = (f_z.1 : Int) := ⟨⟨(rwS (A 0 7) S_z i_z).toNat, by omega⟩, by show rwS (A 0 7) S_z i_z = (((rwS (A 0 7) S_z i_z).toNat : Nat) : Int); omega⟩
    obtain ⟨q_z, hq⟩ : ∃ q_z : Fin 12, S_z j_z = (q_z.1 : Int) := ⟨⟨(S_z j_z).toNat, by omega⟩, by show S_z j_z = (((S_z j_z).toNat : Nat) : Int); omega⟩
    have h1 := hT_z w_z u_z f_z q_z (by rw [← hw]; exact i1_z) (by rw [← hu]; exact j1) (by rw [← hw, hf]) (by rw [← hu, hq])
    rw [(hg.2.2.1 w_z u_z (by rw [← hu]; exact j1)).1 (by rw [← hw]; exact i1_z), hh.2 f_z q_z (by rw [← hf]; exact hr.2) (by rw [← hq]; omega)] at h1
    rw [hf, hq, hw, hu]
    exact h1
end

section
/-! the reference's order exactly -/
theorem tuq_od {s : cx_Sd 12} {ks : List (Fin 12)} {A : pm_A} {k : Fin 12} {r : pm_R} (hk : (k.1 : Int) ≤ 5) (h : tuq_post s ks A k r) : odF A r.2 := by
  rcases h with ⟨_, q2_z, _⟩ | ⟨_, _, q3_z, q4_z, _⟩
  · exact ⟨q2_z.1, fun r j_z r0 r1_z j0 j1 a1_z a2 a3 a4 a5 a6 => q2_z.2 r j_z (fun t_z t0_z t1_z => a1_z t_z (Or.inr ⟨t0_z, t1_z⟩)) a2 a4 a6⟩
  · exact ⟨q3_z, fun r j_z r0 r1_z j0 j1 a1_z a2 a3 a4 a5 a6 => q4_z r j_z (fun t_z t0_z t1_z => a1_z t_z (Or.inr ⟨t0_z, t1_z⟩)) (a1_z _ (Or.inl ⟨by omega, by omega⟩)) a2 a3 a4 a6⟩
def mrI (s : cx_Sd 12) (A1 B : pm_A) (p : List (Fin 12)) : Prop := Tru s p B ∧ odF A1 B
def moP (s : cx_Sd 12) (ks : List (Fin 12)) (A : pm_A) (Z : Int → Prop) (r : pm_R) : Prop := (Tru s ks r.2 ∧ ∀ p_z : Int, 6 ≤ p_z → p_z ≤ 29 → LSm r.2 p_z = LSm A p_z) ∧ ∃ z_z, r.1 = some (0, z_z) ∧ Z z_z
theorem mq_120 {s : cx_Sd 12} {ks : List (Fin 12)} {A A1 B : pm_A} {Z : Int → Prop} (hT : Tru s ks A) (h1 : savesJ A A1 36 72) (hB : odF A1 B) {ans : Int} (hz : Z ans) (w2 w3 w4 : pm_V) : Tm pmt (an_sh wM) o_X10_order 120 ([(2, 0), (0, ans), w2, w3, w4], [], B) (moP s ks A Z) := by
  have p7_z := fM_0_7 hT.1 (r := 0) (by omega) km0
  have s1_z : ∀ r_z j_z : Int, r_z ≠ 22 → (∀ t_z : Int, 36 ≤ t_z → t_z ≤ 41 → ¬ inS t_z r_z j_z) → A1 r_z j_z = A r_z j_z := fun r_z j_z hr hn => h1.2.1 r_z j_z (fun t_z t0_z t1_z ht => hn (36 + t_z) (by omega) (by omega) ht) hr
  have e7_z : B 0 7 = A 0 7 := by rw [hB.fld (by omega) (by omega) (by omega) (by omega)]; exact s1_z 0 7 (by omega) (fun t_z t0_z t1_z ht => by unfold inS at ht; omega)
  refine wq_ok srt_Morder (fr := []) (cuts := [126]) (J := fun pc st_z => (pc = 126 ∧ ∃ C_z, restoresJ B C_z 36 72 ∧ st_z = ([(2, 0), (0, ans), w2, w3, w4], [], C_z))) ?_ 7 120 _ ?_
  · rintro pc st_z (⟨rfl, C_z, ⟨q2_z, q3_z, q4_z, q5_z⟩, rfl⟩)
    have c0_z : ∀ j_z : Int, 0 ≤ j_z → j_z < 100 → j_z ≠ 4 → j_z ≠ 5 → C_z 0 j_z = A 0 j_z := fun j_z j0 j3_z j1 j2_z => by rw [q3_z 0 j_z (fun t_z t0_z t1_z ht => by unfold inS at ht; omega) (by omega), hB.fld j0 j3_z j1 j2_z]; exact s1_z 0 j_z (by omega) (fun t_z t0_z t1_z ht => by unfold inS at ht; omega)
    have hC : Tru s ks C_z := by
      refine hT.ls q2_z (c0_z 7 (by omega) (by omega) (by omega) (by omega)) (c0_z 8 (by omega) (by omega) (by omega) (by omega)) (fun j_z j0 j1 => ?_) (fun p_z p0_z p1_z => ?_)
      · rw [q5_z j_z j0 j1, hB.cell (by omega) (by omega) (by omega) (by omega) j0]; exact h1.2.2.2 j_z j0 j1
      · rw [q4_z p_z p0_z (by omega)]
        have m1_z := eM_1 h1.1 (r := 1) (by omega) kn1 (j := 36 + p_z) (by omega) (by omega)
        rw [LSm_same m1_z.2 (hB.slot (p := 36 + p_z) (by omega) (by omega))]
        exact h1.2.2.1 p_z p0_z p1_z
    refine wq_ok srt_Morder (fr := []) (cuts := []) (J := fun _ _ => False) ?_ 6 126 _ ?_
    · intro pc st_z h_z; exact h_z.elim
    · refine ⟨rfl, ⟨hC, fun p_z a0_z a1_z => ?_⟩, ans, rfl, hz⟩
      have mA := eM_1 hT.1 (r := 1) (by omega) kn1 (j := p_z) (by omega) (by omega)
      refine LSm_same mA.2 (fun r_z j_z hr => ?_)
      show C_z r_z j_z = A r_z j_z
      rw [q3_z r_z j_z (fun t_z t0_z t1_z ht => by unfold inS at *; omega) (by unfold inS at hr; omega), hB.slot (p := p_z) (by omega) (by omega) r_z j_z hr]
      exact s1_z r_z j_z (by unfold inS at hr; omega) (fun t_z t0_z t1_z ht => by unfold inS at *; omega)
  · refine ⟨rM_0 (by omega) km0, ?_⟩
    refine (restores_ex (p := 36) hB.1 (by omega) (by omega)).imp ?_
    rintro ⟨r1_z, C_z⟩ ⟨q1_z, q2_z, q3_z, q4_z, q5_z⟩
    simp only at q1_z q2_z q3_z q4_z q5_z
    subst q1_z
    exact ⟨rfl, C_z, ⟨q2_z, q3_z, q4_z, q5_z⟩, rfl⟩
theorem mq_70 {s : cx_Sd 12} {ls L : List (Fin 12)} {A1 : pm_A} {ans n : Int} {z : pm_R → Prop} (hL : rwL (A1 30) (A1 0 46) L) (hP : ∀ f_z ∈ L, (f_z.1 : Int) < A1 0 7) (h12 : A1 0 46 ≤ 12) (H1 : wkS s (A1 0 7 + A1 0 8) (A1 0 7) ls L → ∀ w4_z B_z, mrI s A1 B_z (ls ++ L) → Tm pmt (an_sh wM) o_X10_order 101 ([(2, 0), (0, ans), (0, 1), (0, n), w4_z], [], B_z) z) (H0 : ¬ wkS s (A1 0 7 + A1 0 8) (A1 0 7) ls L → ∀ w4_z B_z, odF A1 B_z → Tm pmt (an_sh wM) o_X10_order 101 ([(2, 0), (0, ans), (0, 0), (0, n), w4_z], [], B_z) z) : ∀ (m_z j_z : Nat) (B_z : pm_A), 12 - j_z < m_z → j_z ≤ L.length → mrI s A1 B_z (ls ++ L.take j_z) → wkS s (A1 0 7 + A1 0 8) (A1 0 7) ls (L.take j_z) → Tm pmt (an_sh wM) o_X10_order 70 ([(2, 0), (0, ans), (0, 1), (0, n), (0, (j_z : Int))], [], B_z) z := by
  intro m_z
  induction m_z with
  | zero => intro j_z B_z h_z; omega
  | succ m_z ih_z =>
    intro j_z B_z hm_z j1 hB_z hw
    have hgB := hB_z.2.1
    have c47_z := pM_47 hgB
    have p7_z := fM_0_7 hgB (r := 0) (by omega) km0
    have e46 : B_z 0 46 = A1 0 46 := hB_z.2.fld (by omega) (by omega) (by omega) (by omega)
    have e7_z : B_z 0 7 = A1 0 7 := hB_z.2.fld (by omega) (by omega) (by omega) (by omega)
    have e8 : B_z 0 8 = A1 0 8 := hB_z.2.fld (by omega) (by omega) (by omega) (by omega)
    have e30 : ∀ i_z : Int, 0 ≤ i_z → B_z 30 i_z = A1 30 i_z := fun i_z i0_z => hB_z.2.cell (by omega) (by omega) (by omega) (by omega) i0_z
    have hlen := hL.1
    refine wq_ok srt_Morder (fr := []) (cuts := [94, 101]) (J := fun pc st_z => (pc = 101 ∧ ((B_z 0 46) ≤ (j_z : Int)) ∧ st_z = ([(2, 0), (0, ans), (0, 1), (0, n), (0, (j_z : Int))], [], B_z)) ∨ (pc = 94 ∧ ∃ (f_z : Fin 12) (C_z : pm_A) (y_z : Int), L[j_z]? = some f_z ∧ tuq_post s (ls ++ L.take j_z) B_z f_z (some (0, y_z), C_z) ∧ st_z = ([(2, 0), (0, ans), (0, 1), (0, n), (0, (j_z : Int))], [(0, y_z)], C_z))) ?_ 16 70 _ ?_
    · rintro pc st_z (⟨rfl, h0, rfl⟩ | ⟨rfl, f_z, C_z, y_z, hf, hC, rfl⟩)
      · have hj : j_z = L.length := by omega
        rw [hj, List.take_length] at hB_z hw
        exact H1 hw _ B_z hB_z
      · have hj := (List.getElem?_eq_some_iff.mp hf).1
        have hfP := hP f_z (List.mem_of_getElem? hf)
        have hod := tuq_od (by omega) hC
        have hodA := hB_z.2.tr hod
        have hits := hB_z.1.its (k := f_z) (by omega)
        rw [e7_z, e8] at hits
        have e2 : L = L.take j_z ++ f_z :: L.drop (j_z + 1) := by
          have e3 : L.drop j_z = f_z :: L.drop (j_z + 1) := by
            rw [List.drop_eq_getElem_cons hj]
            have e4_z : L[j_z]? = some L[j_z] := List.getElem?_eq_getElem hj
            rw [hf] at e4_z
            rw [Option.some.inj e4_z]
          rw [← e3, List.take_append_drop]
        rcases hC with ⟨q1_z, q2_z, q3_z, q4_z⟩ | ⟨q1_z, q2_z, q3_z, q4_z, q5_z, q6_z⟩
        · have hy : y_z = 0 := by injection q1_z with q_z; injection q_z
          subst hy
          have hn2 := nok hits q4_z
          have hno : ¬ wkS s (A1 0 7 + A1 0 8) (A1 0 7) ls L := fun hall => by
            rw [e2, wkS_app] at hall
            exact hn2 hall.2.1
          refine wq_ok srt_Morder (fr := []) (cuts := [101]) (J := fun pc st_z => (pc = 101 ∧ st_z = ([(2, 0), (0, ans), (0, 0), (0, n), (0, (j_z : Int) + 1)], [], C_z))) ?_ 20 94 _ ?_
          · rintro pc st_z (⟨rfl, rfl⟩)
            exact H0 hno _ C_z hodA
          · refine ⟨⟨by omega, by omega⟩, ?_⟩
            refine ⟨oM_0 (by omega) km0 46 rfl, ?_⟩
            refine ⟨fun h0 => ?_, fun h0 => ?_⟩
            · exact ⟨rfl, rfl⟩
            · refine ⟨fun h1 => ?_, fun h1 => absurd rfl h1⟩
              exact ⟨rfl, rfl⟩
        · have hy : y_z = 1 := by injection q1_z with q_z; injection q_z
          subst hy
          refine wq_ok srt_Morder (fr := []) (cuts := [70]) (J := fun pc st_z => (pc = 70 ∧ st_z = ([(2, 0), (0, ans), (0, 1), (0, n), (0, (j_z : Int) + 1)], [], C_z))) ?_ 8 94 _ ?_
          · rintro pc st_z (⟨rfl, rfl⟩)
            rw [show (j_z : Int) + 1 = ((j_z + 1 : Nat) : Int) by omega]
            refine ih_z (j_z + 1) C_z (by omega) (by omega) ⟨?_, hodA⟩ ?_
            · rw [take_s hf, ← List.append_assoc]; exact q2_z
            · rw [take_s hf, wkS_app]
              exact ⟨hw, ⟨q5_z, hits.1 q6_z⟩, trivial⟩
          · refine ⟨⟨by omega, by omega⟩, ?_⟩
            exact ⟨rfl, rfl⟩
    · refine ⟨oM_0 (by omega) km0 46 rfl, ?_⟩
      refine ⟨fun h0 => ?_, fun h0 => ?_⟩
      · exact Or.inl (⟨rfl, h0, rfl⟩)
      · refine ⟨fun h1 => absurd h1 (by decide), fun h1 => ?_⟩
        have hj : j_z < L.length := by omega
        have hf : L[j_z]? = some L[j_z] := List.getElem?_eq_getElem hj
        generalize L[j_z] = f_z at hf
        have hfP := hP f_z (List.mem_of_getElem? hf)
        refine ⟨oM_0 (by omega) km0 47 rfl, ?_⟩
        refine ⟨aM_30 (r := B_z 0 47) (by rw [c47_z]; omega) (by rw [c47_z]; exact kn30) (by omega) (by omega), ?_⟩
        refine ⟨rM_0 (by omega) km0, ?_⟩
        show Cl pmt (an_sh wM) 200 [(2, 0), (0, B_z (B_z 0 47) (j_z : Int))] B_z _
        rw [c47_z, e30 _ (by omega), hL.2 j_z f_z hf]
        refine (turns_exq hB_z.1 (show (f_z.1 : Int) < B_z 0 7 by omega)).imp ?_
        rintro ⟨r1_z, C_z⟩ hC
        have hr1 : ∃ y_z, r1_z = some (0, y_z) := by
          rcases hC with ⟨q1_z, _⟩ | ⟨q1_z, _⟩
          · exact ⟨0, q1_z⟩
          · exact ⟨1, q1_z⟩
        obtain ⟨y_z, rfl⟩ := hr1
        exact Or.inr ⟨rfl, f_z, C_z, y_z, hf, hC, rfl⟩
theorem mq_53 {s : cx_Sd 12} {ks L : List (Fin 12)} {A A1 : pm_A} {Z : Int → Prop} (hT : Tru s ks A) (hsv : savesJ A A1 36 72) (hL : rwL (A1 30) (A1 0 46) L) (hP : ∀ f_z ∈ L, (f_z.1 : Int) < A1 0 7) (h12 : A1 0 46 ≤ 12) (e7 : A1 0 7 = A 0 7) (e8 : A1 0 8 = A 0 8) : ∀ (m_z n_z : Nat) (w4_z : pm_V) (B_z : pm_A), m_z + n_z = 40 → (∀ z_z, ordA s ks L (A 0 7 + A 0 8) (A 0 7) m_z n_z z_z → Z z_z) → mrI s A1 B_z (ks ++ rpt L n_z) → Tm pmt (an_sh wM) o_X10_order 53 ([(2, 0), (0, -2), (0, 1), (0, (n_z : Int) + 1), w4_z], [], B_z) (moP s ks A Z) := by
  have p7_z := fM_0_7 hT.1 (r := 0) (by omega) km0
  have p8 := fM_0_8 hT.1 (r := 0) (by omega) km0
  have stop_z : ∀ (ans_z g_z n_z : Int) (w4_z : pm_V) (B_z : pm_A), odF A1 B_z → Z ans_z → (g_z = 0 ∨ 0 ≤ ans_z ∨ 40 < n_z) → Tm pmt (an_sh wM) o_X10_order 53 ([(2, 0), (0, ans_z), (0, g_z), (0, n_z), w4_z], [], B_z) (moP s ks A Z) := fun ans_z g_z n_z w4_z B_z hB_z hz hs => by
    refine wq_ok srt_Morder (fr := []) (cuts := [120]) (J := fun pc st_z => (pc = 120 ∧ st_z = ([(2, 0), (0, ans_z), (0, g_z), (0, n_z), w4_z], [], B_z))) ?_ 14 53 _ ?_
    · rintro pc st_z ⟨rfl, rfl⟩
      exact mq_120 hT hsv hB_z hz _ _ _
    · refine ⟨fun h0 => ⟨rfl, rfl⟩, fun h0 => ?_⟩
      refine ⟨fun h1 => ⟨rfl, rfl⟩, fun h1 => ?_⟩
      refine ⟨fun h2 => ⟨rfl, rfl⟩, fun h2 => ?_⟩
      rcases hs with q_z | q_z | q_z
      · exact absurd q_z h1
      · exact absurd q_z (by omega)
      · exact absurd q_z (by omega)
  have next : ∀ (ans_z g_z n_z : Int) (w4_z : pm_V) (B_z : pm_A), n_z ≤ 40 → 1 ≤ n_z → Tm pmt (an_sh wM) o_X10_order 53 ([(2, 0), (0, ans_z), (0, g_z), (0, n_z + 1), w4_z], [], B_z) (moP s ks A Z) → Tm pmt (an_sh wM) o_X10_order 114 ([(2, 0), (0, ans_z), (0, g_z), (0, n_z), w4_z], [], B_z) (moP s ks A Z) := fun ans_z g_z n_z w4_z B_z hn n0_z hh => by
    refine wq_ok srt_Morder (fr := []) (cuts := [53]) (J := fun pc st_z => (pc = 53 ∧ st_z = ([(2, 0), (0, ans_z), (0, g_z), (0, n_z + 1), w4_z], [], B_z))) ?_ 7 114 _ ?_
    · rintro pc st_z (⟨rfl, rfl⟩)
      exact hh
    · refine ⟨⟨by omega, by omega⟩, ?_⟩
      exact ⟨rfl, rfl⟩
  intro m_z
  induction m_z with
  | zero =>
    intro n_z w4_z B_z hn hZ hB_z
    exact stop_z _ _ _ _ _ hB_z.2 (hZ (-2) rfl) (Or.inr (Or.inr (by omega)))
  | succ m_z ih_z =>
    intro n_z w4_z B_z hn hZ hB_z
    have hW : A1 0 7 + A1 0 8 = A 0 7 + A 0 8 := by rw [e7, e8]
    refine wq_ok srt_Morder (fr := []) (cuts := [70]) (J := fun pc st_z => (pc = 70 ∧ st_z = ([(2, 0), (0, -2), (0, 1), (0, (n_z : Int) + 1), (0, 0)], [], B_z))) ?_ 14 53 _ ?_
    · rintro pc st_z ⟨rfl, rfl⟩
      refine mq_70 (s := s) (ls := ks ++ rpt L n_z) hL hP h12 (fun hw w4_z C_z hC => ?_) (fun hw w4_z C_z hC => ?_) _ 0 B_z (Nat.lt_succ_self _) (Nat.zero_le _) (by rw [List.take_zero, List.append_nil]; exact hB_z) trivial
      · rw [hW, e7] at hw
        have hTC : Tru s (ks ++ rpt L (n_z + 1)) C_z := by
          have := hC.1
          rw [List.append_assoc] at this
          exact this
        have c7_z : C_z 0 7 = A 0 7 := (hC.2.fld (by omega) (by omega) (by omega) (by omega)).trans e7
        have c8_z : C_z 0 8 = A 0 8 := (hC.2.fld (by omega) (by omega) (by omega) (by omega)).trans e8
        have hK_z : TrK s ks C_z 36 (C_z 22) (C_z 0 7 + C_z 0 8) (C_z 0 7) := by
          rw [c7_z, c8_z]
          refine ⟨fun i_z hi_z => ?_, fun i_z j_z hi_z hj => ?_⟩
          · have m1_z := eM_1 hsv.1 (r := 1) (by omega) kn1 (j := 36 + (i_z.1 : Int)) (by omega) (by omega)
            have e1 : LSm C_z (36 + (i_z.1 : Int)) = LSm A (i_z.1 : Int) := by
              rw [LSm_same m1_z.2 (hC.2.slot (p := 36 + (i_z.1 : Int)) (by omega) (by omega))]
              exact hsv.2.2.1 _ (by omega) hi_z
            rw [e1]
            obtain ⟨a1_z, a2, a3⟩ := hT.2.2.2.2.2.2 i_z hi_z
            exact ⟨shr_of a1_z a2, fun x_z => a3 x_z⟩
          · rw [hC.2.cell (by omega) (by omega) (by omega) (by omega) (by omega), hsv.2.2.2 _ (by omega) (by omega)]
            exact (hT.2.2.1 i_z j_z hj).1 hi_z
        have hmd := md_iff hTC hK_z
        rw [c7_z, c8_z] at hmd
        refine wq_ok srt_Morder (fr := []) (cuts := [109]) (J := fun pc st_z => (pc = 109 ∧ ∃ (D_z : pm_A) (y_z : Int), ibP C_z (some (0, y_z), D_z) ∧ st_z = ([(2, 0), (0, -2), (0, 1), (0, (n_z : Int) + 1), w4_z], [(0, y_z)], D_z))) ?_ 8 101 _ ?_
        · rintro pc st_z (⟨rfl, D_z, y_z, hD, rfl⟩)
          obtain ⟨d1_z, d2_z⟩ := hD
          simp only at d1_z d2_z
          have hod : odF A1 D_z := hC.2.tr ⟨d1_z.1, fun r_z j_z r0 r1_z j0 j1 _ _ _ _ h16_z _ => d1_z.2 r_z j_z h16_z⟩
          have hTD : Tru s (ks ++ rpt L (n_z + 1)) D_z := hTC.ls d1_z.1 (d1_z.2 0 7 (by omega)) (d1_z.2 0 8 (by omega)) (fun j_z _ _ => d1_z.2 5 j_z (by omega)) (fun p_z _ _ => d1_z.ls p_z)
          rcases d2_z with ⟨q_z, hy⟩ | ⟨q_z, hy⟩
          · have hy1 : y_z = 1 := by injection q_z with q_z; injection q_z
            subst hy1
            refine wq_ok srt_Morder (fr := []) (cuts := [114]) (J := fun pc st_z => (pc = 114 ∧ st_z = ([(2, 0), (0, (n_z : Int) + 1), (0, 1), (0, (n_z : Int) + 1), w4_z], [], D_z))) ?_ 8 109 _ ?_
            · rintro pc st_z ⟨rfl, rfl⟩
              refine next _ _ _ _ _ (by omega) (by omega) (stop_z _ _ _ _ _ hod (hZ _ ?_) (Or.inr (Or.inl (by omega))))
              exact Or.inr (Or.inl ⟨hw, hmd.1 hy, rfl⟩)
            · refine ⟨fun h0 => absurd h0 (by decide), fun h0 => ?_⟩
              exact ⟨rfl, rfl⟩
          · have hy1 : y_z = 0 := by injection q_z with q_z; injection q_z
            subst hy1
            refine wq_ok srt_Morder (fr := []) (cuts := [114]) (J := fun pc st_z => (pc = 114 ∧ st_z = ([(2, 0), (0, -2), (0, 1), (0, (n_z : Int) + 1), w4_z], [], D_z))) ?_ 8 109 _ ?_
            · rintro pc st_z ⟨rfl, rfl⟩
              refine next _ _ _ _ _ (by omega) (by omega) ?_
              rw [show (n_z : Int) + 1 + 1 = ((n_z + 1 : Nat) : Int) + 1 by omega]
              exact ih_z (n_z + 1) w4_z D_z (by omega) (fun z_z hz => hZ z_z (Or.inr (Or.inr ⟨hw, fun q_z => hy (hmd.2 q_z), hz⟩))) ⟨hTD, hod⟩
            · refine ⟨fun h0 => ?_, fun h0 => absurd rfl h0⟩
              exact ⟨rfl, rfl⟩
        · refine ⟨fun h0 => absurd h0 (by decide), fun h0 => ?_⟩
          refine ⟨rM_0 (by omega) km0, ?_⟩
          refine (isBegun_ex hC.2.1).imp ?_
          rintro ⟨r1_z, D_z⟩ hD
          have hr1 : ∃ y_z, r1_z = some (0, y_z) := by
            rcases hD.2 with ⟨q1_z, _⟩ | ⟨q1_z, _⟩
            · exact ⟨1, q1_z⟩
            · exact ⟨0, q1_z⟩
          obtain ⟨y_z, rfl⟩ := hr1
          exact ⟨rfl, D_z, y_z, hD, rfl⟩
      · rw [hW, e7] at hw
        refine wq_ok srt_Morder (fr := []) (cuts := [114]) (J := fun pc st_z => (pc = 114 ∧ st_z = ([(2, 0), (0, -2), (0, 0), (0, (n_z : Int) + 1), w4_z], [], C_z))) ?_ 8 101 _ ?_
        · rintro pc st_z ⟨rfl, rfl⟩
          exact next _ _ _ _ _ (by omega) (by omega) (stop_z _ _ _ _ _ hC (hZ _ (Or.inl ⟨hw, rfl⟩)) (Or.inl rfl))
        · refine ⟨fun h0 => ⟨rfl, rfl⟩, fun h0 => absurd rfl h0⟩
    · refine ⟨fun h0 => absurd h0 (by omega), fun h0 => ?_⟩
      refine ⟨fun h1 => absurd h1 (by decide), fun h1 => ?_⟩
      refine ⟨fun h2 => absurd h2 (by decide), fun h2 => ?_⟩
      exact ⟨rfl, rfl⟩
theorem mq_11 {s : cx_Sd 12} {ks : List (Fin 12)} {A : pm_A} (hT : Tru s ks A) (h0 : ¬ A 0 46 = 0) : ∀ (m_z : Nat) (j_z : Int) (w2_z w3_z w4_z : pm_V), (12 - j_z).toNat < m_z → 0 ≤ j_z → j_z ≤ A 0 46 → (∀ i_z : Int, 0 ≤ i_z → i_z < j_z → A 30 i_z < A 0 7) → Tm pmt (an_sh wM) o_X10_order 11 ([(2, 0), (0, j_z), w2_z, w3_z, w4_z], [], A) (moP s ks A (orZ s ks (A 30) (A 0 46) (A 0 7 + A 0 8) (A 0 7))) := by
  have hg := hT.1
  have c47_z := pM_47 hg
  have p46 := fM_0_46 hg (r := 0) (by omega) km0
  have p7_z := fM_0_7 hg (r := 0) (by omega) km0
  intro m_z
  induction m_z with
  | zero => intro j_z w2_z w3_z w4_z h_z; omega
  | succ m_z ih_z =>
    intro j_z w2_z w3_z w4_z hm_z j0 j1 hj
    refine wq_ok srt_Morder (fr := []) (cuts := [11, 46]) (J := fun pc st_z => (pc = 46 ∧ A 0 46 ≤ j_z ∧ ∃ C_z, savesJ A C_z 36 72 ∧ st_z = ([(2, 0), (0, j_z), w2_z, w3_z, w4_z], [], C_z)) ∨ (pc = 11 ∧ (j_z < (A 0 46)) ∧ ((A (A 0 47) j_z) < (A 0 7)) ∧ st_z = ([(2, 0), (0, j_z + 1), w2_z, w3_z, w4_z], [], A))) ?_ 18 11 _ ?_
    · rintro pc st_z (⟨rfl, hjj, C_z, q2_z, rfl⟩ | ⟨rfl, h0, h1, rfl⟩)
      · have s1_z : ∀ r_z j_z : Int, r_z ≠ 22 → (∀ t_z : Int, 36 ≤ t_z → t_z ≤ 41 → ¬ inS t_z r_z j_z) → C_z r_z j_z = A r_z j_z := fun r_z j_z hr hn => q2_z.2.1 r_z j_z (fun t_z t0_z t1_z ht => hn (36 + t_z) (by omega) (by omega) ht) hr
        have c0_z : ∀ j_z : Int, C_z 0 j_z = A 0 j_z := fun j_z => s1_z 0 j_z (by omega) (fun t_z t0_z t1_z ht => by unfold inS at ht; omega)
        have c30_z : ∀ j_z : Int, C_z 30 j_z = A 30 j_z := fun j_z => s1_z 30 j_z (by omega) (fun t_z t0_z t1_z ht => by unfold inS at ht; omega)
        have hrow : ∀ i_z : Int, 0 ≤ i_z → i_z < A 0 46 → A 30 i_z < A 0 7 := fun i_z i0_z i1_z => hj i_z i0_z (by omega)
        obtain ⟨L_z, hL⟩ := rwL_ex (R := A 30) (n := A 0 46) p46.1 (fun i_z i0_z i1_z => by
          have := eM_30 hg (r := 30) (by omega) kn30 i0_z (show i_z < 12 by omega)
          omega)
        have hLC : rwL (C_z 30) (C_z 0 46) L_z := by
          rw [c0_z 46]
          exact rwL_c hL (fun i_z _ _ => c30_z i_z)
        have hm_z := rwL_m hL hrow
        have hTC : Tru s ks C_z := hT.ls q2_z.1 (c0_z 7) (c0_z 8) (fun j_z _ _ => s1_z 5 j_z (by omega) (fun t_z t0_z t1_z ht => by unfold inS at ht; omega)) (fun p_z p0_z p1_z => by
          have mA := eM_1 hT.1 (r := 1) (by omega) kn1 (j := p_z) (by omega) (by omega)
          exact LSm_same mA.2 (fun r_z j_z hr => s1_z r_z j_z (by unfold inS at hr; omega) (fun t_z t0_z t1_z ht => by unfold inS at *; omega)))
        have hu : ∀ z_z, ordA s ks L_z (A 0 7 + A 0 8) (A 0 7) 40 0 z_z → orZ s ks (A 30) (A 0 46) (A 0 7 + A 0 8) (A 0 7) z_z := fun z_z hz => by
          refine Or.inr ⟨h0, hrow, fun L' hL' => ?_⟩
          have eL : L' = L_z := by
            refine List.ext_getElem? (fun i_z => ?_)
            have g1 := hL.1
            have g2 := hL'.1
            by_cases hi_z : i_z < L_z.length
            · have q1_z : L_z[i_z]? = some L_z[i_z] := List.getElem?_eq_getElem hi_z
              have q2_z : L'[i_z]? = some (L'[i_z]'(by omega)) := List.getElem?_eq_getElem (by omega)
              have q3_z := hL.2 i_z _ q1_z
              have q4_z := hL'.2 i_z _ q2_z
              rw [q1_z, q2_z]
              refine congrArg some (Fin.ext ?_)
              omega
            · rw [List.getElem?_eq_none (by omega), List.getElem?_eq_none (by omega)]
          rw [eL]
          exact hz
        refine wq_ok srt_Morder (fr := []) (cuts := [53]) (J := fun pc st_z => (pc = 53 ∧ st_z = ([(2, 0), (0, -2), (0, 1), (0, 1), w4_z], [], C_z))) ?_ 12 46 _ ?_
        · rintro pc st_z ⟨rfl, rfl⟩
          obtain ⟨k_z, r_z, hk, hrr⟩ := mq_53 hT q2_z hLC (fun f_z hf => by rw [c0_z 7]; exact hm_z f_z hf) (by rw [c0_z 46]; exact p46.2) (c0_z 7) (c0_z 8) 40 0 w4_z C_z (by omega) hu ⟨by show Tru s (ks ++ []) C_z; rw [List.append_nil]; exact hTC, q2_z.1, fun _ _ _ _ _ _ _ _ _ _ _ _ => rfl⟩
          have e01 : ((0 : Nat) : Int) + 1 = 1 := by omega
          rw [e01] at hk
          exact ⟨k_z, r_z, hk, hrr⟩
        · exact ⟨rfl, rfl⟩
      · rw [c47_z] at h1
        refine ih_z (j_z + 1) w2_z w3_z w4_z (by omega) (by omega) (by omega) (fun i_z i0_z i1_z => ?_)
        by_cases e_z : i_z = j_z
        · rw [e_z]; exact h1
        · exact hj i_z i0_z (by omega)
    · refine ⟨oM_0 (by omega) km0 46 rfl, ?_⟩
      refine ⟨fun h0 => ?_, fun h0 => ?_⟩
      · refine ⟨rM_0 (by omega) km0, ?_⟩
        refine (saves_ex (p := 36) hg (by omega) (by omega)).imp ?_
        rintro ⟨r1_z, C_z⟩ ⟨q1_z, q2_z⟩
        simp only at q1_z q2_z
        subst q1_z
        exact Or.inl ⟨rfl, h0, C_z, q2_z, rfl⟩
      · refine ⟨oM_0 (by omega) km0 47 rfl, ?_⟩
        refine ⟨aM_30 (r := A 0 47) (by rw [c47_z]; omega) (by rw [c47_z]; exact kn30) (by omega) (by omega), ?_⟩
        refine ⟨oM_0 (by omega) km0 7 rfl, ?_⟩
        refine ⟨fun h1 => ?_, fun h1 => ?_⟩
        · refine ⟨⟨by omega, by omega⟩, ?_⟩
          exact Or.inr (⟨rfl, h0, h1, rfl⟩)
        · rw [c47_z] at h1
          exact ⟨rfl, ⟨hT, fun _ _ _ => rfl⟩, -1, rfl, Or.inl ⟨rfl, Or.inr ⟨j_z, j0, h0, by omega⟩⟩⟩
theorem morder_ex {s : cx_Sd 12} {ks : List (Fin 12)} {A : pm_A} (hT : Tru s ks A) : Cl pmt (an_sh wM) 170 [(2, 0)] A (moP s ks A (orZ s ks (A 30) (A 0 46) (A 0 7 + A 0 8) (A 0 7))) := by
  have p46 := fM_0_46 hT.1 (r := 0) (by omega) km0
  refine Cl.of (Nat.le_of_ble_eq_true rfl) ?_
  refine wq_ok (full := o_X10_order) srt_Morder (fr := []) (cuts := [11]) (J := fun pc st_z => (pc = 11 ∧ (¬ (A 0 46) = 0) ∧ st_z = ([(2, 0), (0, 0), (9, 0), (9, 0), (9, 0)], [], A))) ?_ 10 0 _ ?_
  · rintro pc st_z ⟨rfl, h0, rfl⟩
    exact mq_11 hT h0 _ 0 _ _ _ (Nat.lt_succ_self _) (by omega) p46.1 (fun i_z i0_z i1_z => by omega)
  · refine ⟨oM_0 (by omega) km0 46 rfl, ?_⟩
    refine ⟨fun h0 => ?_, fun h0 => ?_⟩
    · exact ⟨rfl, h0, rfl⟩
    · exact ⟨rfl, ⟨hT, fun _ _ _ => rfl⟩, -1, rfl, Or.inl ⟨rfl, Or.inl h0⟩⟩
end

section
/-! the row of all seeds, as mathematics says it, and its picture in the class's atlas -/
abbrev Fun12 : Type := cr_Pv 12 → Rat
def gpf (s : cx_Sd 12) (p : List (Fin 12)) (i : Fin 12) : Fun12 := fun x_z => (cr_gp s.b p x_z).1 i
def stepA (s : cx_Sd 12) (W P : Int) (La : List Fun12) (Rh : List (List (Fin 12))) (p : List (Fin 12)) (k : Fin 12) (o : Option (List Fun12 × List (List (Fin 12)))) : Prop := (¬ okS s p W P k ∧ o = none) ∨ (okS s p W P k ∧ (∃ q_z ∈ Rh, smS s (p ++ [k]) s q_z W P) ∧ o = some (La, Rh)) ∨ (okS s p W P k ∧ (¬ ∃ q_z ∈ Rh, smS s (p ++ [k]) s q_z W P) ∧ ((¬ Rh.length < 150 ∧ o = none) ∨ (gpf s (p ++ [k]) k ∈ La ∧ Rh.length < 150 ∧ o = some (La, Rh ++ [p ++ [k]])) ∨ (¬ gpf s (p ++ [k]) k ∈ La ∧ ¬ La.length < 100 ∧ o = none) ∨ (¬ gpf s (p ++ [k]) k ∈ La ∧ La.length < 100 ∧ Rh.length < 150 ∧ o = some (La ++ [gpf s (p ++ [k]) k], Rh ++ [p ++ [k]]))))
theorem stepA_u {s : cx_Sd 12} {W P : Int} {La : List Fun12} {Rh : List (List (Fin 12))} {p : List (Fin 12)} {k : Fin 12} {o o' : Option (List Fun12 × List (List (Fin 12)))} (h : stepA s W P La Rh p k o) (h' : stepA s W P La Rh p k o') : o = o' := by
  rcases h with ⟨a1_z, a2⟩ | ⟨a1_z, a2, a3⟩ | ⟨a1_z, a2, a3⟩
  · rcases h' with ⟨b1, b2⟩ | ⟨b1, b2, b3⟩ | ⟨b1, b2, b3⟩
    · rw [a2, b2]
    · exact absurd b1 a1_z
    · exact absurd b1 a1_z
  · rcases h' with ⟨b1, b2⟩ | ⟨b1, b2, b3⟩ | ⟨b1, b2, b3⟩
    · exact absurd a1_z b1
    · rw [a3, b3]
    · exact absurd a2 b2
  · rcases h' with ⟨b1, b2⟩ | ⟨b1, b2, b3⟩ | ⟨b1, b2, b3⟩
    · exact absurd a1_z b1
    · exact absurd b2 a2
    · rcases a3 with ⟨c1_z, c2_z⟩ | ⟨c1_z, c2_z, c3_z⟩ | ⟨c1_z, c2_z, c3_z⟩ | ⟨c1_z, c2_z, c3_z, c4_z⟩
      · rcases b3 with ⟨d1_z, d2_z⟩ | ⟨d1_z, d2_z, d3_z⟩ | ⟨d1_z, d2_z, d3_z⟩ | ⟨d1_z, d2_z, d3_z, d4_z⟩
        · rw [c2_z, d2_z]
        · exact absurd d2_z c1_z
        · rw [c2_z, d3_z]
        · exact absurd d3_z c1_z
      · rcases b3 with ⟨d1_z, d2_z⟩ | ⟨d1_z, d2_z, d3_z⟩ | ⟨d1_z, d2_z, d3_z⟩ | ⟨d1_z, d2_z, d3_z, d4_z⟩
        · exact absurd c2_z d1_z
        · rw [c3_z, d3_z]
        · exact absurd c1_z d1_z
        · exact absurd c1_z d1_z
      · rcases b3 with ⟨d1_z, d2_z⟩ | ⟨d1_z, d2_z, d3_z⟩ | ⟨d1_z, d2_z, d3_z⟩ | ⟨d1_z, d2_z, d3_z, d4_z⟩
        · rw [c3_z, d2_z]
        · exact absurd d1_z c1_z
        · rw [c3_z, d3_z]
        · exact absurd d2_z c2_z
      · rcases b3 with ⟨d1_z, d2_z⟩ | ⟨d1_z, d2_z, d3_z⟩ | ⟨d1_z, d2_z, d3_z⟩ | ⟨d1_z, d2_z, d3_z, d4_z⟩
        · exact absurd c3_z d1_z
        · exact absurd d1_z c1_z
        · exact absurd c2_z d2_z
        · rw [c4_z, d4_z]
def allA (s : cx_Sd 12) (W P : Int) : Nat → List Fun12 → List (List (Fin 12)) → Nat → Nat → Option (List Fun12 × List (List (Fin 12))) → Prop
  | 0, _, _, _, _, _ => False
  | n_z + 1, La_z, Rh, r_z, k_z, o => (Rh.length ≤ r_z ∧ o = some (La_z, Rh)) ∨ (r_z < Rh.length ∧ P ≤ (k_z : Int) ∧ allA s W P n_z La_z Rh (r_z + 1) 0 o) ∨ ((k_z : Int) < P ∧ ∃ (p_z : List (Fin 12)) (f_z : Fin 12), Rh[r_z]? = some p_z ∧ f_z.1 = k_z ∧ ((stepA s W P La_z Rh p_z f_z none ∧ o = none) ∨ ∃ (La' : List Fun12) (Rh' : List (List (Fin 12))), stepA s W P La_z Rh p_z f_z (some (La', Rh')) ∧ allA s W P n_z La' Rh' r_z (k_z + 1) o))
theorem allA_u {s : cx_Sd 12} {W P : Int} : ∀ {n_z m_z : Nat} {La_z : List Fun12} {Rh : List (List (Fin 12))} {r_z k_z : Nat} {o o' : Option (List Fun12 × List (List (Fin 12)))}, allA s W P n_z La_z Rh r_z k_z o → allA s W P m_z La_z Rh r_z k_z o' → o = o'
  | 0, _, _, _, _, _, _, _, h_z, _ => h_z.elim
  | _ + 1, 0, _, _, _, _, _, _, _, h_z => h_z.elim
  | n_z + 1, m_z + 1, La_z, Rh, r_z, k_z, o, o', h_z, h' => by
    rcases h_z with ⟨a1_z, a2⟩ | ⟨a1_z, a2, a3⟩ | ⟨a1_z, p_z, f_z, a2, a3, a4⟩
    · rcases h' with ⟨b1, b2⟩ | ⟨b1, b2, b3⟩ | ⟨b1, q_z, g_z, b2, b3, b4⟩
      · rw [a2, b2]
      · omega
      · have := (List.getElem?_eq_some_iff.mp b2).1
        omega
    · rcases h' with ⟨b1, b2⟩ | ⟨b1, b2, b3⟩ | ⟨b1, q_z, g_z, b2, b3, b4⟩
      · omega
      · exact allA_u a3 b3
      · omega
    · rcases h' with ⟨b1, b2⟩ | ⟨b1, b2, b3⟩ | ⟨b1, q_z, g_z, b2, b3, b4⟩
      · have := (List.getElem?_eq_some_iff.mp a2).1
        omega
      · omega
      · rw [a2] at b2
        have e1 := Option.some.inj b2
        have e2 : f_z = g_z := Fin.ext (by omega)
        subst e1
        subst e2
        rcases a4 with ⟨c1_z, c2_z⟩ | ⟨L1, R1, c1_z, c2_z⟩
        · rcases b4 with ⟨d1_z, d2_z⟩ | ⟨L2_z, R2, d1_z, d2_z⟩
          · rw [c2_z, d2_z]
          · have := stepA_u c1_z d1_z
            cases this
        · rcases b4 with ⟨d1_z, d2_z⟩ | ⟨L2_z, R2, d1_z, d2_z⟩
          · have := stepA_u c1_z d1_z
            cases this
          · have h3 := Option.some.inj (stepA_u c1_z d1_z)
            injection h3 with h4 h5
            subst h4
            subst h5
            exact allA_u c2_z d2_z
def ltr (B : pm_A) (c : Int) (f : Fun12) (W : Int) : Prop := srX B c ∧ cfX B c ∧ B c 0 = W ∧ ∀ x_z, f x_z = VX B c x_z
theorem ltr.sm {B C : pm_A} {c W : Int} {f : Fun12} (h : ltr B c f W) (sm : sme B C c) : ltr C c f W := ⟨sm.sr h.1, sm.cf h.2.1, by rw [sm.1 0]; exact h.2.2.1, fun x_z => by rw [VX_of sm x_z]; exact h.2.2.2 x_z⟩
theorem ltr.like {B : pm_A} {a c W : Int} {f g : Fun12} (hB : gH wX B) (ha : 0 ≤ a ∧ wX.2 a = 2) (hc : 0 ≤ c ∧ wX.2 c = 2) (hW : 1 ≤ W ∧ W ≤ 12) (h1 : ltr B a f W) (h2 : ltr B c g W) : lk B a c ↔ f = g := by
  have ma := fX_2_1 hB ha.1 ha.2
  have mc_z := fX_2_1 hB hc.1 hc.2
  constructor
  · intro hl
    refine funext fun x_z => ?_
    rw [h1.2.2.2 x_z, h2.2.2.2 x_z]
    unfold VX
    rw [lk_ls hl]
  · intro e_z
    refine ls_lk ma.1 mc_z.1 (by rw [h1.2.2.1]; exact hW) (by rw [h1.2.2.1, h2.2.2.1]) ?_
    refine cr_Shr.eq (shrX h1.1 (fun q_z q0 q1_z => (h1.2.1 q_z q0 q1_z).1)) (shrX h2.1 (fun q_z q0 q1_z => (h2.2.1 q_z q0 q1_z).1)) (cr_vl_unique (fun x_z => ?_))
    have e1 := h1.2.2.2 x_z
    have e2 := h2.2.2.2 x_z
    unfold VX at e1 e2
    rw [← e1, ← e2, e_z]
def posL (La : List Fun12) : Prop := ∀ f_z ∈ La, ∀ x_z, 0 < f_z x_z
theorem gpf_pos (s : cx_Sd 12) (p : List (Fin 12)) (i : Fin 12) (x : cr_Pv 12) : 0 < gpf s p i x := (cr_gp s.b p x).2 i
def pcL (B : pm_A) (La : List Fun12) (W : Int) : Prop := (B 72 1 = (La.length : Int) ∧ La.length ≤ 100) ∧ (∀ (l : Nat) (f_z : Fun12), La[l]? = some f_z → ltr B (107 + 3 * (l : Int)) f_z W) ∧ (∀ (l m_z : Nat) (f_z : Fun12), La[l]? = some f_z → La[m_z]? = some f_z → l = m_z) ∧ posL La
def pcR (s : cx_Sd 12) (B : pm_A) (La : List Fun12) (W P : Int) (r : Int) (p : List (Fin 12)) : Prop := (pthP p P ∧ zrw s p W P ∧ bdS s p W P) ∧ (∀ i_z : Fin 12, (i_z.1 : Int) < P → ∃ l : Nat, B 74 (6 * r + (i_z.1 : Int)) = (l : Int) ∧ La[l]? = some (gpf s p i_z)) ∧ (∀ i_z j_z : Fin 12, (i_z.1 : Int) < W → (j_z.1 : Int) < P → cr_bs s.b p i_z j_z = B 76 (72 * r + ((i_z.1 : Int) * 6 + (j_z.1 : Int)))) ∧ B 77 r = loM (fun j_z => B 74 (6 * r + j_z)) P.toNat ∧ B 78 r = hgM (fun j_z => B 74 (6 * r + j_z)) P.toNat
def pcX (s : cx_Sd 12) (B : pm_A) (Rh : List (List (Fin 12))) (W P : Int) : Prop := ∀ (r_z : Nat) (p_z : List (Fin 12)) (k_z : Fin 12), Rh[r_z]? = some p_z → (k_z.1 : Int) < P → ¬ B 75 (6 * (r_z : Int) + (k_z.1 : Int)) = 0 → okS s p_z W P k_z ∧ ∃ q_z ∈ Rh, smS s (p_z ++ [k_z]) s q_z W P
def pcA (s : cx_Sd 12) (B : pm_A) (La : List Fun12) (Rh : List (List (Fin 12))) (W P : Int) : Prop := (B 79 0 = P ∧ B 79 0 + B 79 1 = W) ∧ pcL B La W ∧ (B 72 7 = (Rh.length : Int) ∧ Rh.length ≤ 150) ∧ (∀ (r_z : Nat) (p_z : List (Fin 12)), Rh[r_z]? = some p_z → pcR s B La W P r_z p_z) ∧ pcX s B Rh W P
/-- bounds that stay through the search -/
def sWP (s : cx_Sd 12) (W P : Int) : Prop := (1 ≤ P ∧ P ≤ 6) ∧ (P ≤ W ∧ W ≤ 12) ∧ ∀ v_z k_z : Fin 12, (k_z.1 : Int) < P → s.b v_z k_z ≤ 9 ∧ -9 ≤ s.b v_z k_z
theorem fin_of {i W : Int} (i0 : 0 ≤ i) (i1 : i < W) (hW : W ≤ 12) : ∃ f_z : Fin 12, i = (f_z.1 : Int) := ⟨⟨i.toNat, by omega⟩, by show i = ((i.toNat : Nat) : Int); omega⟩
theorem num_dst {s : cx_Sd 12} {S : Int → Int} {La : List Fun12} {p : List (Fin 12)} {P : Int} (hP : P ≤ 6) (hL : La.length ≤ 100) (h : ∀ i_z : Fin 12, (i_z.1 : Int) < P → ∃ l : Nat, S (i_z.1 : Int) = (l : Int) ∧ La[l]? = some (gpf s p i_z)) : dst S P := by
  refine ⟨fun i_z i0_z i1_z => ?_, fun i_z j_z i0_z i1_z j0 j1 e_z => ?_⟩
  · obtain ⟨f_z, rfl⟩ := fin_of i0_z i1_z (by omega)
    obtain ⟨l, h1, h2⟩ := h f_z i1_z
    have h3 := (List.getElem?_eq_some_iff.mp h2).1
    omega
  · obtain ⟨f_z, rfl⟩ := fin_of i0_z i1_z (by omega)
    obtain ⟨g_z, rfl⟩ := fin_of j0 j1 (by omega)
    obtain ⟨l, h1, h2⟩ := h f_z i1_z
    obtain ⟨m_z, h3, h4⟩ := h g_z j1
    have hlm : l = m_z := by omega
    rw [hlm, h4] at h2
    have h5 := Option.some.inj h2
    refine Classical.byContradiction (fun hn => gp_ne s p (i := f_z) (j := g_z) (fun q_z => hn (by rw [q_z])) (fun x_z => ?_))
    exact (congrFun h5 x_z).symm
/-- the seed at hand, by numbers of letters -/
def cuS (s : cx_Sd 12) (B : pm_A) (La : List Fun12) (W P : Int) (p : List (Fin 12)) : Prop := (∀ i_z : Fin 12, (i_z.1 : Int) < P → ∃ l : Nat, B 102 (i_z.1 : Int) = (l : Int) ∧ La[l]? = some (gpf s p i_z)) ∧ ∀ i_z j_z : Fin 12, (i_z.1 : Int) < W → (j_z.1 : Int) < P → cr_bs s.b p i_z j_z = B 80 ((i_z.1 : Int) * 6 + (j_z.1 : Int))
theorem thr_T {s : cx_Sd 12} {B : pm_A} {La : List Fun12} {W P r : Int} {p q : List (Fin 12)} {M : Int → Int} (hs : sWP s W P) (e : B 79 0 = P ∧ B 79 0 + B 79 1 = W) (hc : cuS s B La W P p) (hr : pcR s B La W P r q) (h : thr B r M) : sxT s p s q W P (sgm P M) ∧ ∀ k_z : Fin 12, (k_z.1 : Int) < P → ((sgm P M k_z).1 : Int) = M (k_z.1 : Int) := by
  obtain ⟨h1, h2⟩ := h
  rw [e.1] at h1
  have hW : bgW B 79 = W := e.2
  rw [hW, e.1] at h2
  have hv : ∀ i_z : Fin 12, (i_z.1 : Int) < P → ((sgm P M i_z).1 : Int) = M (i_z.1 : Int) := fun i_z hi_z => by
    have h3 := (h1 i_z.1 (by omega) hi_z).1
    exact sgm_v hi_z h3.1 (by have := hs.1; omega)
  have hn : ∀ i_z : Fin 12, ¬ (i_z.1 : Int) < P → sgm P M i_z = i_z := fun i_z hi_z => if_neg hi_z
  refine ⟨⟨fun i_z hi_z => ?_, hn, fun i_z hi_z x_z => ?_, fun i_z j_z hi_z hj => ?_⟩, hv⟩
  · rw [hv i_z hi_z]
    exact (h1 i_z.1 (by omega) hi_z).1.2
  · have h3 := h1 i_z.1 (by omega) hi_z
    obtain ⟨l, a1_z, a2⟩ := hc.1 i_z hi_z
    obtain ⟨m_z, b1, b2⟩ := hr.2.1 (sgm P M i_z) (by rw [hv i_z hi_z]; exact h3.1.2)
    rw [hv i_z hi_z] at b1
    have hlm : l = m_z := by have := h3.2; omega
    rw [hlm, b2] at a2
    exact congrFun (Option.some.inj a2) x_z
  · have h3 := h2 i_z.1 j_z.1 (by omega) hi_z (by omega) hj
    rw [hc.2 i_z j_z hi_z hj, h3]
    have e1 : ((sgm P M i_z).1 : Int) = rwS P M i_z.1 := by
      unfold rwS
      by_cases q2_z : (i_z.1 : Int) < P
      · rw [if_pos q2_z]; exact hv i_z q2_z
      · rw [if_neg q2_z, hn i_z q2_z]
    rw [hr.2.2.1 (sgm P M i_z) (sgm P M j_z) ?_ ?_, e1, hv j_z hj, Int.add_assoc]
    · by_cases q2_z : (i_z.1 : Int) < P
      · rw [hv i_z q2_z]
        have := (h1 i_z.1 (by omega) q2_z).1
        have := hs.2.1
        omega
      · rw [hn i_z q2_z]; exact hi_z
    · rw [hv j_z hj]
      exact (h1 j_z.1 (by omega) hj).1.2
theorem T_thr {s : cx_Sd 12} {B : pm_A} {La : List Fun12} {W P r : Int} {p q : List (Fin 12)} (hs : sWP s W P) (e : B 79 0 = P ∧ B 79 0 + B 79 1 = W) (hnd : ∀ (l m_z : Nat) (f_z : Fun12), La[l]? = some f_z → La[m_z]? = some f_z → l = m_z) (hc : cuS s B La W P p) (hr : pcR s B La W P r q) (h : smS s p s q W P) : ∃ M_z, thr B r M_z := by
  obtain ⟨f_z, hf⟩ := smS_T h
  have hc2 : ∀ i_z : Fin 12, (if w_z : 0 ≤ (i_z.1 : Int) ∧ (i_z.1 : Int) < 12 then (((f_z ⟨((i_z.1 : Int)).toNat, by omega⟩).1 : Nat) : Int) else 0) = ((f_z i_z).1 : Int) := fun i_z => by
    have hi_z := i_z.2
    rw [dif_pos ⟨by omega, by omega⟩]
    have e : (⟨((i_z.1 : Int)).toNat, by omega⟩ : Fin 12) = i_z := Fin.ext (by show ((i_z.1 : Int)).toNat = i_z.1; omega)
    rw [e]
  refine ⟨fun z_z => if w_z : 0 ≤ z_z ∧ z_z < 12 then (((f_z ⟨z_z.toNat, by omega⟩).1 : Nat) : Int) else 0, fun i_z i0_z i1_z => ?_, fun i_z j_z i0_z i1_z j0 j1 => ?_⟩
  · rw [e.1] at i1_z ⊢
    obtain ⟨w_z, rfl⟩ := fin_of i0_z i1_z (by have := hs.1; omega)
    show (0 ≤ (if w_1 : 0 ≤ (w_z.1 : Int) ∧ (w_z.1 : Int) < 12 then (((f_z ⟨((w_z.1 : Int)).toNat, by omega⟩).1 : Nat) : Int) else 0) ∧ (if w_1 : 0 ≤ (w_z.1 : Int) ∧ (w_z.1 : Int) < 12 then (((f_z ⟨((w_z.1 : Int)).toNat, by omega⟩).1 : Nat) : Int) else 0) < P) ∧ B 74 (6 * r + (if w_1 : 0 ≤ (w_z.1 : Int) ∧ (w_z.1 : Int) < 12 then (((f_z ⟨((w_z.1 : Int)).toNat, by omega⟩).1 : Nat) : Int) else 0)) = B 102 (w_z.1 : Int)
    rw [hc2 w_z]
    have hw := hf.1 w_z i1_z
    refine ⟨⟨by omega, hw⟩, ?_⟩
    obtain ⟨l, a1_z, a2⟩ := hc.1 w_z i1_z
    obtain ⟨m_z, b1, b2⟩ := hr.2.1 (f_z w_z) hw
    have e3 : gpf s q (f_z w_z) = gpf s p w_z := funext fun x_z => hf.2.2.1 w_z i1_z x_z
    rw [e3] at b2
    have hlm := hnd l m_z _ a2 b2
    rw [a1_z, b1, hlm]
  · have hW : bgW B 79 = W := e.2
    rw [hW] at i1_z
    rw [e.1] at j1 ⊢
    obtain ⟨w_z, rfl⟩ := fin_of i0_z i1_z hs.2.1.2
    obtain ⟨u_z, rfl⟩ := fin_of j0 j1 (by have := hs.1; omega)
    have e1 : rwS P (fun z_z => if w_z : 0 ≤ z_z ∧ z_z < 12 then (((f_z ⟨z_z.toNat, by omega⟩).1 : Nat) : Int) else 0) (w_z.1 : Int) = ((f_z w_z).1 : Int) := by
      unfold rwS
      by_cases q2_z : (w_z.1 : Int) < P
      · rw [if_pos q2_z]; exact hc2 w_z
      · rw [if_neg q2_z, hf.2.1 w_z q2_z]
    show B 80 ((w_z.1 : Int) * 6 + (u_z.1 : Int)) = B 76 (72 * r + rwS P (fun z_z => if w_z : 0 ≤ z_z ∧ z_z < 12 then (((f_z ⟨z_z.toNat, by omega⟩).1 : Nat) : Int) else 0) (w_z.1 : Int) * 6 + (if w_1 : 0 ≤ (u_z.1 : Int) ∧ (u_z.1 : Int) < 12 then (((f_z ⟨((u_z.1 : Int)).toNat, by omega⟩).1 : Nat) : Int) else 0))
    rw [e1, hc2 u_z, ← hc.2 w_z u_z i1_z j1, hf.2.2.2 w_z u_z i1_z j1, hr.2.2.1 (f_z w_z) (f_z u_z) ?_ (hf.1 u_z j1), Int.add_assoc]
    by_cases q2_z : (w_z.1 : Int) < P
    · have := hf.1 w_z q2_z
      have := hs.2.1
      omega
    · rw [hf.2.1 w_z q2_z]; exact i1_z
end

section
/-! what the search leaves; its picture through each of its steps -/
def atC (r j : Int) : Prop := (r = 72 ∧ (j = 1 ∨ j = 7 ∨ j = 10 ∨ j = 11 ∨ j = 13 ∨ j = 14)) ∨ (r = 79 ∧ (j = 0 ∨ j = 1)) ∨ (74 ≤ r ∧ r ≤ 78) ∨ r = 80 ∨ r = 82 ∨ (102 ≤ r ∧ r ≤ 406)
theorem atk {r : Int} (h0 : 102 ≤ r) (h1 : r ≤ 406) : ¬ wX.2 r = 1 := by
  have h_z : ∀ k_z : Fin 305, ¬ wX.2 (102 + (k_z.1 : Int)) = 1 := by decide +kernel
  have h2 := h_z ⟨(r - 102).toNat, by omega⟩
  rw [show 102 + (((⟨(r - 102).toNat, by omega⟩ : Fin 305).1 : Nat) : Int) = r by show 102 + (((r - 102).toNat : Nat) : Int) = r; omega] at h2
  exact h2
theorem at_1 {g j : Int} (gk : wX.2 g = 1) (hj : j = 2 ∨ j = 3 ∨ j = 4) : ¬ atC g j := by
  unfold atC
  rintro (q_z | q_z | q_z | q_z | q_z | q_z)
  · omega
  · omega
  · have h_z : g = 74 ∨ g = 75 ∨ g = 76 ∨ g = 77 ∨ g = 78 := by omega
    rcases h_z with rfl | rfl | rfl | rfl | rfl <;> exact absurd gk (by decide)
  · rw [q_z] at gk; exact absurd gk (by decide)
  · rw [q_z] at gk; exact absurd gk (by decide)
  · exact atk q_z.1 q_z.2 gk
def xaF (s : cx_Sd 12) (ks : List (Fin 12)) (A B : pm_A) : Prop := StE B ∧ AT B ∧ TrX s ks B 1 ∧ (∀ j_z : Int, B 0 j_z = A 0 j_z) ∧ (∀ j_z : Int, B 46 j_z = A 46 j_z) ∧ (∀ j_z : Int, B 1 j_z = A 1 j_z) ∧ (∀ j_z : Int, B 3 j_z = A 3 j_z) ∧ (∀ j_z : Int, B 28 j_z = A 28 j_z) ∧ ∀ r_z j_z : Int, 407 ≤ r_z → B r_z j_z = A r_z j_z
theorem shr_lo {c : Int} (ck : wX.2 c = 2) (h : c < 72) : c ≤ 69 := by
  by_cases e1 : c = 70
  · rw [e1] at ck; exact absurd ck (by decide)
  · by_cases e2 : c = 71
    · rw [e2] at ck; exact absurd ck (by decide)
    · omega
theorem xaF.put {s : cx_Sd 12} {ks : List (Fin 12)} {A B C : pm_A} (h : xaF s ks A B) (hC : gH wX C) (hf : ∀ r_z j_z : Int, ¬ atC r_z j_z → C r_z j_z = B r_z j_z) (hs : ∀ q_z j_z : Int, 0 ≤ q_z → wX.2 q_z = 2 → j_z = 2 ∨ j_z = 3 → C q_z j_z = B q_z j_z) (h82 : ∀ j_z : Int, 0 ≤ j_z → j_z < 6 → 72 < C 82 j_z) : xaF s ks A C := by
  obtain ⟨h1, h2, h3, h4, h5, h6, h7, h8, h9⟩ := h
  have m8_z := h1.2.2.2.2.2.1 1 (by omega) kk1
  have p6_z := fX_1_0 h1.1 (r := 1) (by omega) kk1
  refine ⟨h1.of hC (fun j_z _ => hf 0 j_z (by unfold atC; omega)) (fun g_z j_z _ gk hj => hf g_z j_z (at_1 gk hj)) hs (fun j_z _ => hf 28 j_z (by unfold atC; omega)) ⟨hf 72 0 (by unfold atC; omega), hf 72 8 (by unfold atC; omega)⟩ (fun j_z _ => hf 4 j_z (by unfold atC; omega)) (fun j_z _ => hf 52 j_z (by unfold atC; omega)) (fun j_z _ => hf 73 j_z (by unfold atC; omega)) h82 (fun j_z _ => hf 47 j_z (by unfold atC; omega)) (fun k_z j_z k0_z k1_z _ => hf _ j_z (by unfold atC; omega)), h2.of (fun j_z _ n1_z n2_z n3_z n4_z n5_z n6_z => hf 72 j_z (by unfold atC; omega)) ⟨hf 79 2 (by unfold atC; omega), hf 79 4 (by unfold atC; omega)⟩ (fun j_z _ => hf 73 j_z (by unfold atC; omega)), ?_, fun j_z => (hf 0 j_z (by unfold atC; omega)).trans (h4 j_z), fun j_z => (hf 46 j_z (by unfold atC; omega)).trans (h5 j_z), fun j_z => (hf 1 j_z (by unfold atC; omega)).trans (h6 j_z), fun j_z => (hf 3 j_z (by unfold atC; omega)).trans (h7 j_z), fun j_z => (hf 28 j_z (by unfold atC; omega)).trans (h8 j_z), fun r_z j_z hr => (hf r_z j_z (by unfold atC; omega)).trans (h9 r_z j_z hr)⟩
  refine h3.cong hC (fun j_z => hf 1 j_z (by unfold atC; omega)) (fun j_z => by rw [m8_z.1]; exact hf _ j_z (by unfold atC; omega)) (fun j_z => by rw [m8_z.2.2]; exact hf _ j_z (by unfold atC; omega)) (fun i_z i0_z i1_z => ?_)
  rw [m8_z.2.2]
  have l4 := fX_1_4 h1.1 (r := 1) (by omega) kk1
  rw [m8_z.2.2] at l4
  have e0_z := eX_12 h1.1 l4.1 l4.2 i0_z (show i_z < 6 by omega)
  have hp := (h1.2.1.2.2.2.2.1 i_z (by omega) (by omega)).1
  have e1 := own_pc (A := B) own1 i0_z (show i_z ≤ 5 by omega)
  rw [Int.zero_add] at e1
  rw [e1] at hp
  have hp2 := shr_lo e0_z.2 hp
  have a2 := h1.2.1.2.1 _ e0_z.1 e0_z.2
  have a3 := h1.2.2.2.1 _ e0_z.1 e0_z.2
  show sme B C (B 4 i_z)
  have hp3 : B 4 i_z ≤ 69 := hp2
  have a2' : B (B 4 i_z) 2 = B 4 i_z + 1 := a2
  have a3' : B (B 4 i_z) 3 = B 4 i_z + 2 := a3
  exact ⟨fun j_z => hf _ j_z (by unfold atC; omega), fun j_z => by rw [a2']; exact hf _ j_z (by unfold atC; omega), fun j_z => by rw [a3']; exact hf _ j_z (by unfold atC; omega)⟩
theorem xaF.ex {s : cx_Sd 12} {ks : List (Fin 12)} {A B C : pm_A} (h : xaF s ks A B) (hF : exF B C 28) : xaF s ks A C := by
  obtain ⟨h1, h2, h3, h4, h5, h6, h7, h8, h9⟩ := h
  refine ⟨h1.keep hF, h2.of (fun j_z _ _ _ _ _ _ _ => hF.ce h1.1 kk72 (by decide) (by decide) (by decide) (by decide) j_z) ⟨hF.ce h1.1 kk79 (by decide) (by decide) (by decide) (by decide) 2, hF.ce h1.1 kk79 (by decide) (by decide) (by decide) (by decide) 4⟩ (fun j_z _ => hF.ce h1.1 kk73 (by decide) (by decide) (by decide) (by decide) j_z), h3.keep (h1.ex own1) hF, fun j_z => ?_, fun j_z => ?_, fun j_z => ?_, fun j_z => ?_, fun j_z => ?_, fun r_z j_z hr => ?_⟩
  · rw [hF.ce h1.1 kk0 (by decide) (by decide) (by decide) (by decide)]; exact h4 j_z
  · rw [hF.ce h1.1 kk46 (by decide) (by decide) (by decide) (by decide)]; exact h5 j_z
  · rw [hF.ce h1.1 kk1 (by decide) (by decide) (by decide) (by decide)]; exact h6 j_z
  · rw [hF.ce h1.1 kk3 (by decide) (by decide) (by decide) (by decide)]; exact h7 j_z
  · rw [hF.ce h1.1 kk28 (by decide) (by decide) (by decide) (by decide)]; exact h8 j_z
  · rw [hF.hi h1 (by omega) j_z]; exact h9 r_z j_z hr
theorem mil72 {A : pm_A} (hS : StE A) {n : Int} (n0 : 0 ≤ n) (n1 : n ≤ 4) : A 28 n < 72 := by
  have a10 := hS.2.1.1.2.2.2.2.2.2.2.2.2.1
  have a11 := hS.2.1.1.2.2.2.2.2.2.2.2.2.2
  have m1_z := hS.2.2.1
  have p_z := (hS.2.1.2.2.2.2.1 12 (by omega) (by omega)).1
  rw [pc_12] at p_z
  have hn2 : n = 0 ∨ n = 1 ∨ n = 2 ∨ n = 3 ∨ n = 4 := by omega
  rcases hn2 with rfl | rfl | rfl | rfl | rfl <;> omega
theorem StE.ex79 {A : pm_A} (hS : StE A) : exH3 A 28 79 := by
  have p6_z := fX_1_0 hS.1 z79 kk79
  have a9 := hS.2.1.1.2.2.2.2.2.2.2.2.1
  refine ⟨⟨by omega, kk28⟩, ⟨by omega, kk79⟩, fun a_z a0_z ak => ⟨hS.2.1.2.1 a_z a0_z ak, hS.2.2.2.1 a_z a0_z ak⟩, by rw [hS.2.2.1.2.2.1, hS.2.2.1.2.2.2.1]; omega, ml_cells hS.2.1 hS.2.2, fun i_z j_z i0_z i1_z j0 j1 => ?_⟩
  rw [a9]
  have h1 := mil72 hS i0_z i1_z
  have h2 := hS.2.1.2.2.2.1 j_z j0 (by omega)
  omega
theorem bitsV_c {bm bm' F G : Int → Int} : ∀ m_z : Nat, (∀ f_z : Int, 0 ≤ f_z → f_z < m_z → bm f_z = bm' f_z ∧ F f_z = G f_z) → bitsV bm F m_z = bitsV bm' G m_z
  | 0, _ => rfl
  | m_z + 1, h_z => by
    have h1 := h_z m_z (by omega) (by omega)
    rw [bitsV, bitsV, bitsV_c m_z (fun f_z f0_z f1_z => h_z f_z f0_z (by omega)), h1.1, h1.2]
theorem bitsV_c2 {S R : Int → Int} {n : Nat} (h : ∀ f_z : Int, 0 ≤ f_z → f_z < n → S f_z = R f_z) : loM S n = loM R n := by
  unfold loM
  exact bitsV_c n (fun f_z f0_z f1_z => ⟨h f_z f0_z f1_z, by unfold lwF; rw [h f_z f0_z f1_z]⟩)
theorem bitsV_c3 {S R : Int → Int} {n : Nat} (h : ∀ f_z : Int, 0 ≤ f_z → f_z < n → S f_z = R f_z) : hgM S n = hgM R n := by
  unfold hgM
  exact bitsV_c n (fun f_z f0_z f1_z => ⟨by show S f_z - 64 = R f_z - 64; rw [h f_z f0_z f1_z], by unfold hgF; rw [h f_z f0_z f1_z]⟩)
theorem knd2 {q j : Int} (qk : wX.2 q = 2) : ¬ (q = 72 ∧ j = 1) := fun e_z => by
  rw [e_z.1] at qk
  exact absurd qk (by decide)
theorem pcL.of {B C : pm_A} {La : List Fun12} {W : Int} (h : pcL B La W) (e1 : C 72 1 = B 72 1) (hs : ∀ l : Int, 0 ≤ l → l < B 72 1 → sme B C (107 + 3 * l)) : pcL C La W := by
  refine ⟨by rw [e1]; exact h.1, fun l f_z hl => ?_, h.2.2⟩
  have h1 := (List.getElem?_eq_some_iff.mp hl).1
  have h2 := h.1.1
  exact (h.2.1 l f_z hl).sm (hs l (by omega) (by omega))
theorem pcR.of {s : cx_Sd 12} {B C : pm_A} {La La' : List Fun12} {W P r : Int} {p : List (Fin 12)} (h : pcR s B La W P r p) (hLa : ∀ (l : Nat) (f_z : Fun12), La[l]? = some f_z → La'[l]? = some f_z) (e74 : ∀ j_z : Int, 6 * r ≤ j_z → j_z < 6 * r + 6 → C 74 j_z = B 74 j_z) (e76 : ∀ j_z : Int, 72 * r ≤ j_z → j_z < 72 * r + 72 → C 76 j_z = B 76 j_z) (e77 : C 77 r = B 77 r ∧ C 78 r = B 78 r) (hP : P ≤ 6) (hW : W ≤ 12) : pcR s C La' W P r p := by
  obtain ⟨h1, h2, h3, h4, h5⟩ := h
  refine ⟨h1, fun i_z hi_z => ?_, fun i_z j_z hi_z hj => ?_, ?_, ?_⟩
  · obtain ⟨l, a1_z, a2⟩ := h2 i_z hi_z
    exact ⟨l, by rw [e74 _ (by omega) (by omega)]; exact a1_z, hLa l _ a2⟩
  · rw [e76 _ (by omega) (by omega)]; exact h3 i_z j_z hi_z hj
  · rw [e77.1, h4]
    exact bitsV_c2 (fun f_z f0_z f1_z => (e74 _ (by omega) (by omega)).symm)
  · rw [e77.2, h5]
    exact bitsV_c3 (fun f_z f0_z f1_z => (e74 _ (by omega) (by omega)).symm)
theorem pcA.of {s : cx_Sd 12} {B C : pm_A} {La : List Fun12} {Rh : List (List (Fin 12))} {W P : Int} (h : pcA s B La Rh W P) (hs : sWP s W P) (e1 : C 72 1 = B 72 1) (e7 : C 72 7 = B 72 7) (e79 : C 79 0 = B 79 0 ∧ C 79 1 = B 79 1) (ea : ∀ r_z j_z : Int, 74 ≤ r_z → r_z ≤ 78 → C r_z j_z = B r_z j_z) (hsm : ∀ l : Int, 0 ≤ l → l < B 72 1 → sme B C (107 + 3 * l)) : pcA s C La Rh W P := by
  obtain ⟨h1, h2, h3, h4, h5⟩ := h
  refine ⟨by rw [e79.1, e79.2]; exact h1, h2.of e1 hsm, by rw [e7]; exact h3, fun r_z p_z hr => (h4 r_z p_z hr).of (fun _ _ q_z => q_z) (fun j_z _ _ => ea 74 j_z (by omega) (by omega)) (fun j_z _ _ => ea 76 j_z (by omega) (by omega)) ⟨ea 77 _ (by omega) (by omega), ea 78 _ (by omega) (by omega)⟩ hs.1.2 hs.2.1.2, fun r_z p_z k_z hr hk hne => h5 r_z p_z k_z hr hk (by rw [← ea 75 _ (by omega) (by omega)]; exact hne)⟩
/-- behind load -/
theorem ld_pic {s : cx_Sd 12} {ks : List (Fin 12)} {A B C : pm_A} {La : List Fun12} {Rh : List (List (Fin 12))} {W P : Int} {r : Nat} {p : List (Fin 12)} (hs : sWP s W P) (hX : xaF s ks A B) (hp : pcA s B La Rh W P) (hr : Rh[r]? = some p) (hC : ldF B C r (B 79 0)) : xaF s ks A C ∧ pcA s C La Rh W P ∧ TrX s p C 79 ∧ ∀ i_z : Int, 0 ≤ i_z → i_z < P → C 102 i_z = C 74 (6 * (r : Int) + i_z) := by
  obtain ⟨c1_z, c2_z, c3_z, c4_z, c5_z⟩ := hC
  obtain ⟨p1_z, p2_z, p3_z, p4_z, p5_z⟩ := hp
  have hp0 : pcA s B La Rh W P := ⟨p1_z, p2_z, p3_z, p4_z, p5_z⟩
  rw [p1_z.1] at c4_z c5_z
  have hrow := p4_z r p hr
  have hr1 := (List.getElem?_eq_some_iff.mp hr).1
  have q6_z := fX_1_1 hX.1.1 z79 kk79
  have num_z : ∀ i_z : Int, 0 ≤ i_z → i_z < P → ∃ (w_z : Fin 12) (l : Nat), i_z = (w_z.1 : Int) ∧ B 74 (6 * (r : Int) + i_z) = (l : Int) ∧ l < 100 ∧ La[l]? = some (gpf s p w_z) := fun i_z i0_z i1_z => by
    obtain ⟨w_z, rfl⟩ := fin_of i0_z i1_z (by have := hs.1; omega)
    obtain ⟨l, a1_z, a2⟩ := hrow.2.1 w_z i1_z
    have h1 := (List.getElem?_eq_some_iff.mp a2).1
    have h2 := p2_z.1.2
    exact ⟨w_z, l, rfl, a1_z, by omega, a2⟩
  have hXC : xaF s ks A C := hX.put c1_z (fun q_z j_z hq => c2_z q_z j_z (fun e_z => hq (by unfold atC; omega)) (fun e_z => hq (by unfold atC; omega)) (fun e_z => hq (by unfold atC; omega))) (fun q_z j_z q0 qk hj => c2_z q_z j_z (knd qk kk80 (by decide)) (knd qk kk82 (by decide)) (knd qk kk102 (by decide))) (fun j_z j0 j1 => by
    by_cases e_z : j_z < P
    · rw [(c5_z j_z j0 e_z).2]
      obtain ⟨w_z, l, _, a1_z, _, _⟩ := num_z j_z j0 e_z
      omega
    · rw [c4_z j_z (by omega)]; exact hX.1.2.1.2.2.2.1 j_z j0 j1)
  have hpC : pcA s C La Rh W P := hp0.of hs (c2_z 72 1 (by omega) (by omega) (by omega)) (c2_z 72 7 (by omega) (by omega) (by omega)) ⟨c2_z 79 0 (by omega) (by omega) (by omega), c2_z 79 1 (by omega) (by omega) (by omega)⟩ (fun q_z j_z q0 q1_z => c2_z q_z j_z (by omega) (by omega) (by omega)) (fun l l0 l1 => by
    have e_z := hX.1.2.1.2.1 (107 + 3 * l) (by omega) (kkLt l0 (by have := p2_z.1; omega))
    have e3 := hX.1.2.2.2.1 (107 + 3 * l) (by omega) (kkLt l0 (by have := p2_z.1; omega))
    exact ⟨fun j_z => c2_z _ j_z (by omega) (by omega) (by omega), fun j_z => by rw [e_z]; exact c2_z _ j_z (by omega) (by omega) (by omega), fun j_z => by rw [e3]; exact c2_z _ j_z (by omega) (by omega) (by omega)⟩)
  refine ⟨hXC, hpC, ?_, fun i_z i0_z i1_z => by rw [(c5_z i_z i0_z i1_z).1, c2_z 74 _ (by omega) (by omega) (by omega)]⟩
  have e0_z : C 79 0 = P := hpC.1.1
  have eW : bgW C 79 = W := hpC.1.2
  have t2_z : C 79 2 = 80 := hXC.2.1.2.2.1.1
  have t4_z : C 79 4 = 82 := hXC.2.1.2.2.1.2
  obtain ⟨g1, g2, g3_z, _⟩ := hrow
  refine ⟨c1_z, ⟨by omega, kk79⟩, by rw [e0_z]; exact hs.1.1, fun i_z j_z hj => ?_, fun k_z hk => by rw [e0_z]; exact g1.1 k_z hk, fun v_z k_z hk => hs.2.2 v_z k_z (by rw [e0_z] at hk; exact hk), fun i_z j_z i0_z i1_z j0 j1 => ?_, fun i_z hi_z => ?_⟩
  · rw [e0_z] at hj
    rw [eW, t2_z]
    refine ⟨fun hi_z => ?_, fun hi_z => g1.2.1 i_z j_z hi_z hj⟩
    rw [c3_z _ (by omega) (by have := hs.1; have := hs.2.1; omega)]
    exact g3_z i_z j_z hi_z hj
  · rw [eW] at i1_z
    rw [e0_z] at j1
    have h6 := hs.1
    have h7 := hs.2.1
    obtain ⟨w_z, rfl⟩ := fin_of i0_z i1_z h7.2
    obtain ⟨u_z, rfl⟩ := fin_of j0 j1 (by omega)
    rw [t2_z, c3_z _ (by omega) (by omega), ← g3_z w_z u_z i1_z j1]
    exact g1.2.2 w_z u_z i1_z j1
  · rw [e0_z] at hi_z
    obtain ⟨w_z, l, hw, a1_z, a3, a2⟩ := num_z i_z.1 (by omega) hi_z
    have ew : w_z = i_z := Fin.ext (by omega)
    rw [ew] at a2
    have h8 := hpC.2.1.2.1 l _ a2
    rw [t4_z, (c5_z i_z.1 (by omega) hi_z).2, a1_z, eW]
    exact ⟨h8.1, h8.2.1, h8.2.2.1, h8.2.2.2⟩
/-- behind numberOf -/
theorem nb_pic {s : cx_Sd 12} {ks : List (Fin 12)} {A E F : pm_A} {La : List Fun12} {Rh : List (List (Fin 12))} {W P c l : Int} {f : Fun12} (hs : sWP s W P) (hX : xaF s ks A E) (hp : pcA s E La Rh W P) (hc : 0 ≤ c ∧ wX.2 c = 2) (hc2 : c < 72) (hf : ltr E c f W) (hfp : ∀ x_z, 0 < f x_z) (hN : nbP E c (some (0, l), F)) : (l = -1 ∧ ¬ f ∈ La ∧ ¬ La.length < 100 ∧ F = E) ∨ ∃ La' : List Fun12, ((f ∈ La ∧ La' = La) ∨ (¬ f ∈ La ∧ La.length < 100 ∧ La' = La ++ [f])) ∧ (0 ≤ l ∧ l ≤ 99) ∧ La'[l.toNat]? = some f ∧ pcA s F La' Rh W P ∧ xaF s ks A F ∧ ∀ q_z j_z : Int, ¬ (q_z = 72 ∧ j_z = 1) → q_z < 107 → F q_z j_z = E q_z j_z := by
  obtain ⟨p1_z, p2_z, p3_z, p4_z, p5_z⟩ := hp
  have hp0 : pcA s E La Rh W P := ⟨p1_z, p2_z, p3_z, p4_z, p5_z⟩
  have hW : 1 ≤ W ∧ W ≤ 12 := by have := hs.1; have := hs.2.1; omega
  have hlk : ∀ (m_z : Nat) (g_z : Fun12), La[m_z]? = some g_z → (lk E (107 + 3 * (m_z : Int)) c ↔ g_z = f) := fun m_z g_z hm_z => by
    have h1 := (List.getElem?_eq_some_iff.mp hm_z).1
    have h2 := p2_z.1.2
    exact (p2_z.2.1 m_z g_z hm_z).like hX.1.1 ⟨by omega, kkLt (by omega) (by omega)⟩ hc hW hf
  rcases hN with ⟨i_z, hi_z, hl, e_z⟩ | ⟨hno, hN⟩
  · injection e_z with e1 e2
    injection e1 with e1
    injection e1 with _ e1
    subst e1
    subst e2
    have h1 := p2_z.1
    have hm_z : La[l.toNat]? = some (La[l.toNat]'(by omega)) := List.getElem?_eq_getElem (by omega)
    have h2 := hlk l.toNat _ hm_z
    rw [Int.toNat_of_nonneg hi_z.1] at h2
    have h3 := h2.1 hl
    rw [h3] at hm_z
    exact Or.inr ⟨La, Or.inl ⟨List.mem_of_getElem? hm_z, rfl⟩, ⟨hi_z.1, by omega⟩, hm_z, hp0, hX, fun _ _ _ _ => rfl⟩
  · have hnot : ¬ f ∈ La := fun hin => by
      obtain ⟨m_z, hm_z⟩ := List.mem_iff_getElem?.mp hin
      have h1 := (List.getElem?_eq_some_iff.mp hm_z).1
      have h2 := p2_z.1.1
      exact hno m_z (by omega) (by omega) ((hlk m_z f hm_z).2 rfl)
    rcases hN with ⟨h100, e_z⟩ | ⟨h100, e_z, hF, C_z, hC, hFC⟩
    · injection e_z with e1 e2
      injection e1 with e1
      injection e1 with _ e1
      have h2 := p2_z.1.1
      exact Or.inl ⟨e1, hnot, by omega, e2⟩
    · simp only at e_z hF hFC
      injection e_z with e1
      injection e1 with _ e1
      have hn := p2_z.1.1
      have f1_z := fX_5_1 hX.1.1 z72 kk72
      have hL : 0 ≤ 107 + 3 * E 72 1 ∧ wX.2 (107 + 3 * E 72 1) = 2 := ⟨by omega, kkLt f1_z.1 h100⟩
      have e2 := hX.1.2.1.2.1 _ hL.1 hL.2
      have e3 := hX.1.2.2.2.1 _ hL.1 hL.2
      have hC0 := hC
      obtain ⟨_, c1_z, c2_z, c3_z, c4_z, _⟩ := hC
      simp only at c1_z c2_z c3_z c4_z
      have cE : ∀ q_z j_z : Int, ¬ (107 + 3 * E 72 1 ≤ q_z ∧ q_z ≤ 109 + 3 * E 72 1) → C_z q_z j_z = E q_z j_z := fun q_z j_z hq => c2_z q_z j_z (by omega) (by omega) (by omega)
      have fC_z : ∀ q_z j_z : Int, ¬ (q_z = 72 ∧ j_z = 1) → F q_z j_z = C_z q_z j_z := fun q_z j_z hq => by
        rw [hFC]
        by_cases e_z : q_z = 72
        · rw [e_z, upd_n2 (by omega)]
        · exact upd_ne e_z
      have fE_z : ∀ q_z j_z : Int, ¬ (q_z = 72 ∧ j_z = 1) → ¬ (107 + 3 * E 72 1 ≤ q_z ∧ q_z ≤ 109 + 3 * E 72 1) → F q_z j_z = E q_z j_z := fun q_z j_z h1 h2 => (fC_z q_z j_z h1).trans (cE q_z j_z h2)
      have f721 : F 72 1 = E 72 1 + 1 := by rw [hFC]; exact upd_at
      have smC : sme C_z F (107 + 3 * E 72 1) := ⟨fun j_z => fC_z _ j_z (by omega), fun j_z => fC_z _ j_z (by rw [c3_z.1, e2]; omega), fun j_z => fC_z _ j_z (by rw [c3_z.2, e3]; omega)⟩
      have hnew : ltr F (107 + 3 * E 72 1) f W := by
        have h5 : ltr C_z (107 + 3 * E 72 1) f W := ⟨hC0.sr hf.1, hC0.cf hf.2.1, by rw [c4_z.1]; exact hf.2.2.1, fun x_z => by rw [hf.2.2.2 x_z]; unfold VX; rw [hC0.ls]⟩
        exact h5.sm smC
      have hold : ∀ m_z : Int, 0 ≤ m_z → m_z < E 72 1 → sme E F (107 + 3 * m_z) := fun m_z m0_z m1_z => by
        have g2 := hX.1.2.1.2.1 (107 + 3 * m_z) (by omega) (kkLt m0_z (by omega))
        have g3_z := hX.1.2.2.2.1 (107 + 3 * m_z) (by omega) (kkLt m0_z (by omega))
        exact ⟨fun j_z => fE_z _ j_z (by omega) (by omega), fun j_z => by rw [g2]; exact fE_z _ j_z (by omega) (by omega), fun j_z => by rw [g3_z]; exact fE_z _ j_z (by omega) (by omega)⟩
      have hpre : ∀ (m_z : Nat) (g_z : Fun12), La[m_z]? = some g_z → (La ++ [f])[m_z]? = some g_z := fun m_z g_z hm_z => by
        rw [List.getElem?_append_left (List.getElem?_eq_some_iff.mp hm_z).1]; exact hm_z
      have hsplit : ∀ (m_z : Nat) (g_z : Fun12), (La ++ [f])[m_z]? = some g_z → La[m_z]? = some g_z ∨ (m_z = La.length ∧ g_z = f) := fun m_z g_z hm_z => by
        by_cases q_z : m_z < La.length
        · rw [List.getElem?_append_left q_z] at hm_z; exact Or.inl hm_z
        · have h1 := (List.getElem?_eq_some_iff.mp hm_z).1
          rw [List.length_append, List.length_singleton] at h1
          have h2 : m_z = La.length := by omega
          rw [h2, List.getElem?_append_right (Nat.le_refl _), Nat.sub_self] at hm_z
          exact Or.inr ⟨h2, (Option.some.inj hm_z).symm⟩
      refine Or.inr ⟨La ++ [f], Or.inr ⟨hnot, by omega, rfl⟩, ⟨by omega, by omega⟩, ?_, ⟨?_, ⟨⟨?_, ?_⟩, fun m_z g_z hm_z => ?_, fun m_z m' g_z hm_z hm' => ?_, fun g_z hg x_z => ?_⟩, ?_, fun r_z p_z hr => ?_, fun r_z p_z k_z hr hk hne => ?_⟩, ?_, fun q_z j_z h1 h2 => fE_z q_z j_z h1 (by omega)⟩
      · have h3 : l.toNat = La.length := by omega
        rw [h3, List.getElem?_append_right (Nat.le_refl _), Nat.sub_self]; rfl
      · rw [fE_z 79 0 (by omega) (by omega), fE_z 79 1 (by omega) (by omega)]; exact p1_z
      · rw [f721, List.length_append, List.length_singleton]; omega
      · rw [List.length_append, List.length_singleton]; omega
      · rcases hsplit m_z g_z hm_z with h1 | ⟨h1, h2⟩
        · have h3 := (List.getElem?_eq_some_iff.mp h1).1
          exact (p2_z.2.1 m_z g_z h1).sm (hold m_z (by omega) (by omega))
        · rw [h2, show ((m_z : Nat) : Int) = E 72 1 by omega]; exact hnew
      · rcases hsplit m_z g_z hm_z with h1 | ⟨h1, h2⟩
        · rcases hsplit m' g_z hm' with h3 | ⟨h3, h4⟩
          · exact p2_z.2.2.1 m_z m' g_z h1 h3
          · rw [h4] at h1; exact absurd (List.mem_of_getElem? h1) hnot
        · rcases hsplit m' g_z hm' with h3 | ⟨h3, h4⟩
          · rw [h2] at h3; exact absurd (List.mem_of_getElem? h3) hnot
          · omega
      · rcases List.mem_append.1 hg with w_z | w_z
        · exact p2_z.2.2.2 g_z w_z x_z
        · rw [List.mem_singleton.1 w_z]; exact hfp x_z
      · rw [fE_z 72 7 (by omega) (by omega)]; exact p3_z
      · exact (p4_z r_z p_z hr).of hpre (fun j_z _ _ => fE_z 74 j_z (by omega) (by omega)) (fun j_z _ _ => fE_z 76 j_z (by omega) (by omega)) ⟨fE_z 77 _ (by omega) (by omega), fE_z 78 _ (by omega) (by omega)⟩ hs.1.2 hs.2.1.2
      · rw [fE_z 75 _ (by omega) (by omega)] at hne
        exact p5_z r_z p_z k_z hr hk hne
      · refine hX.put hF (fun q_z j_z hq => fE_z q_z j_z (fun w_z => hq (by unfold atC; omega)) (fun w_z => hq (by unfold atC; omega))) (fun q_z j_z q0 qk hj => ?_) (fun j_z j0 j1 => by rw [fE_z 82 j_z (by omega) (by omega)]; exact hX.1.2.1.2.2.2.1 j_z j0 j1)
        rw [fC_z q_z j_z (knd2 qk)]
        by_cases w_z : q_z = 107 + 3 * E 72 1
        · rw [w_z]
          rcases hj with rfl | rfl
          · exact c3_z.1
          · exact c3_z.2
        · refine c2_z q_z j_z w_z (fun e_z => ?_) (fun e_z => ?_)
          · have h6 := fX_2_2 hX.1.1 hL.1 hL.2
            rw [← e_z] at h6
            exact absurd (h6.2.symm.trans qk) (by decide)
          · have h6 := fX_2_3 hX.1.1 hL.1 hL.2
            rw [← e_z] at h6
            exact absurd (h6.2.symm.trans qk) (by decide)
end
