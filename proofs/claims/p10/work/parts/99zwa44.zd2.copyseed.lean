/-! the class's copy of a seed, exactly -/
theorem srt_copySeed : pm_srt o_X7_copyFrom = true := by decide +kernel
def scH (A : pm_A) (g h : Int) : Prop := gH wX A ∧ ((0 ≤ g ∧ wX.2 g = 1) ∧ (0 ≤ h ∧ wX.2 h = 1)) ∧ (¬ g = h) ∧ (∀ c_z : Int, 0 ≤ c_z → wX.2 c_z = 1 → A c_z 2 = c_z + 1 ∧ A c_z 3 = c_z + 2 ∧ A c_z 4 = c_z + 3) ∧ (∀ a_z : Int, 0 ≤ a_z → wX.2 a_z = 2 → A a_z 2 = a_z + 1 ∧ A a_z 3 = a_z + 2) ∧ (∀ i_z j_z : Int, 0 ≤ i_z → i_z < 6 → 0 ≤ j_z → j_z < 6 → ¬ A (g + 3) i_z = A (h + 3) j_z) ∧ ∀ i_z j_z : Int, 0 ≤ i_z → i_z < 6 → 0 ≤ j_z → j_z < 6 → ¬ i_z = j_z → ¬ A (g + 3) i_z = A (g + 3) j_z
def scF (A B : pm_A) (g : Int) : Prop := gH wX B ∧ (∀ r_z j_z : Int, ¬ (r_z = g ∧ (j_z = 0 ∨ j_z = 1)) → ¬ r_z = g + 1 → ¬ r_z = g + 2 → (∀ n_z : Int, 0 ≤ n_z → n_z < 6 → ¬ r_z = A (g + 3) n_z ∧ ¬ r_z = A (g + 3) n_z + 1 ∧ ¬ r_z = A (g + 3) n_z + 2) → B r_z j_z = A r_z j_z) ∧ ∀ n_z : Int, 0 ≤ n_z → n_z < 6 → B (A (g + 3) n_z) 2 = A (A (g + 3) n_z) 2 ∧ B (A (g + 3) n_z) 3 = A (A (g + 3) n_z) 3
def lcP (A B : pm_A) (s o : Int) : Prop := B s 0 = A o 0 ∧ B s 1 = A o 1 ∧ LSx B s = LSx A o ∧ (srX A o → srX B s) ∧ (cfX A o → cfX B s)
def scI (A B : pm_A) (g h i : Int) : Prop := scF A B g ∧ (B g 0 = A h 0 ∧ B g 1 = A h 1) ∧ (∀ j_z : Int, 0 ≤ j_z → j_z < 72 → B (g + 1) j_z = A (h + 1) j_z) ∧ (∀ j_z : Int, 0 ≤ j_z → j_z < 6 → B (g + 2) j_z = A (h + 2) j_z) ∧ ∀ n_z : Int, 0 ≤ n_z → n_z < i → lcP A B (A (g + 3) n_z) (A (h + 3) n_z)
theorem sc_k {A : pm_A} {g h c : Int} (hH : scH A g h) (hc : 0 ≤ c ∧ wX.2 c = 1) : (wX.2 (c + 1) = 10 ∧ wX.2 (c + 2) = 11 ∧ wX.2 (c + 3) = 12) ∧ ∀ i_z : Int, 0 ≤ i_z → i_z < 6 → 0 ≤ A (c + 3) i_z ∧ wX.2 (A (c + 3) i_z) = 2 := by
  obtain ⟨hA, _, _, hk, _⟩ := hH
  have e_z := hk c hc.1 hc.2
  have t2_z := fX_1_2 hA hc.1 hc.2
  have t3_z := fX_1_3 hA hc.1 hc.2
  have t4_z := fX_1_4 hA hc.1 hc.2
  rw [e_z.1] at t2_z
  rw [e_z.2.1] at t3_z
  rw [e_z.2.2] at t4_z
  exact ⟨⟨t2_z.2, t3_z.2, t4_z.2⟩, fun i_z i0_z i1_z => eX_12 hA t4_z.1 t4_z.2 i0_z i1_z⟩
theorem scF.no {A B : pm_A} {g h r j : Int} {l : Nat} (hF : scF A B g) (hH : scH A g h) (hr : wX.2 r = l) (h1 : ¬ r = g ∨ (¬ j = 0 ∧ ¬ j = 1)) (h2 : ¬ r = g + 1) (h3 : ¬ r = g + 2) (n1 : ¬ l = 2) (n2 : ¬ l = 14) (n3 : ¬ l = 15) : B r j = A r j := by
  have k_z := sc_k hH hH.2.1.1
  obtain ⟨hA, _, _, _, hs, _⟩ := hH
  refine hF.2.1 r j (fun q_z => by omega) h2 h3 (fun n_z m0_z m1_z => ?_)
  have kn_z := k_z.2 n_z m0_z m1_z
  have e_z := hs _ kn_z.1 kn_z.2
  have a2 := fX_2_2 hA kn_z.1 kn_z.2
  have a3 := fX_2_3 hA kn_z.1 kn_z.2
  rw [e_z.1] at a2
  rw [e_z.2] at a3
  exact ⟨knd hr kn_z.2 n1, knd hr a2.2 n2, knd hr a3.2 n3⟩
theorem scF.sm {A B : pm_A} {g h a : Int} (hF : scF A B g) (hH : scH A g h) (ha : 0 ≤ a ∧ wX.2 a = 2) (hne : ∀ n_z : Int, 0 ≤ n_z → n_z < 6 → ¬ A (g + 3) n_z = a) : sme A B a := by
  have k_z := sc_k hH hH.2.1.1
  have hg := hH.2.1.1
  obtain ⟨hA, _, _, _, hs, _⟩ := hH
  have ea := hs a ha.1 ha.2
  have a2 := fX_2_2 hA ha.1 ha.2
  have a3 := fX_2_3 hA ha.1 ha.2
  have hn : ∀ n_z : Int, 0 ≤ n_z → n_z < 6 → ∀ r_z : Int, (r_z = a ∨ r_z = A a 2 ∨ r_z = A a 3) → ¬ r_z = A (g + 3) n_z ∧ ¬ r_z = A (g + 3) n_z + 1 ∧ ¬ r_z = A (g + 3) n_z + 2 := fun n_z m0_z m1_z r_z hr => by
    have kn_z := k_z.2 n_z m0_z m1_z
    have e_z := hs _ kn_z.1 kn_z.2
    have b2 := fX_2_2 hA kn_z.1 kn_z.2
    have b3 := fX_2_3 hA kn_z.1 kn_z.2
    rw [e_z.1] at b2
    rw [e_z.2] at b3
    have hq := hne n_z m0_z m1_z
    rcases hr with rfl | rfl | rfl
    · exact ⟨fun q_z => hq q_z.symm, knd ha.2 b2.2 (by decide), knd ha.2 b3.2 (by decide)⟩
    · exact ⟨knd a2.2 kn_z.2 (by decide), by rw [ea.1]; omega, knd a2.2 b3.2 (by decide)⟩
    · exact ⟨knd a3.2 kn_z.2 (by decide), knd a3.2 b2.2 (by decide), by rw [ea.2]; omega⟩
  refine ⟨fun j_z => ?_, fun j_z => ?_, fun j_z => ?_⟩
  · exact hF.2.1 a j_z (fun q_z => knd ha.2 hg.2 (by decide) q_z.1) (knd ha.2 k_z.1.1 (by decide)) (knd ha.2 k_z.1.2.1 (by decide)) (fun n_z m0_z m1_z => hn n_z m0_z m1_z a (Or.inl rfl))
  · exact hF.2.1 _ j_z (fun q_z => knd a2.2 hg.2 (by decide) q_z.1) (knd a2.2 k_z.1.1 (by decide)) (knd a2.2 k_z.1.2.1 (by decide)) (fun n_z m0_z m1_z => hn n_z m0_z m1_z _ (Or.inr (Or.inl rfl)))
  · exact hF.2.1 _ j_z (fun q_z => knd a3.2 hg.2 (by decide) q_z.1) (knd a3.2 k_z.1.1 (by decide)) (knd a3.2 k_z.1.2.1 (by decide)) (fun n_z m0_z m1_z => hn n_z m0_z m1_z _ (Or.inr (Or.inr rfl)))
theorem lcP.keep {A B C : pm_A} {s o : Int} (h : lcP A B s o) (sm : sme B C s) : lcP A C s o :=
  ⟨by rw [sm.1 0]; exact h.1, by rw [sm.1 1]; exact h.2.1, by rw [sm.ls]; exact h.2.2.1, fun q_z => sm.sr (h.2.2.2.1 q_z), fun q_z => sm.cf (h.2.2.2.2 q_z)⟩
theorem only.sm {A B : pm_A} {s a : Int} (h : only A B s) (hA : gH wX A) (hs : 0 ≤ s ∧ wX.2 s = 2) (ha : 0 ≤ a ∧ wX.2 a = 2) (hd : dsX A s a) : sme A B a := by
  have s2_z := fX_2_2 hA hs.1 hs.2
  have s3_z := fX_2_3 hA hs.1 hs.2
  have a2 := fX_2_2 hA ha.1 ha.2
  have a3 := fX_2_3 hA ha.1 ha.2
  exact ⟨fun j_z => h a j_z (fun e_z => hd.1 e_z.symm) (knd ha.2 s2_z.2 (by decide)) (knd ha.2 s3_z.2 (by decide)), fun j_z => h _ j_z (knd a2.2 hs.2 (by decide)) (fun e_z => hd.2.1 e_z.symm) (knd a2.2 s3_z.2 (by decide)), fun j_z => h _ j_z (knd a3.2 hs.2 (by decide)) (knd a3.2 s2_z.2 (by decide)) (fun e_z => hd.2.2 e_z.symm)⟩
def scP (A : pm_A) (g h : Int) (r : pm_R) : Prop := r.1 = none ∧ scI A r.2 g h (A h 0)
theorem sc_48 {A : pm_A} {g h : Int} (hH : scH A g h) : ∀ (m_z : Nat) (i_z : Int) (B_z : pm_A), (6 - i_z).toNat < m_z → 0 ≤ i_z → i_z ≤ A h 0 → scI A B_z g h i_z → Tm pmt (an_sh wX) o_X7_copyFrom 48 ([(2, g), (2, h), (0, i_z)], [], B_z) (scP A g h) := by
  have hH0 := hH
  have kg := sc_k hH0 hH0.2.1.1
  have kh := sc_k hH0 hH0.2.1.2
  obtain ⟨hA, ⟨hg, hh⟩, hgh, hk, hs, hl1, hl2⟩ := hH
  have p6_z := fX_1_0 hA hh.1 hh.2
  have eg := hk g hg.1 hg.2
  have eh := hk h hh.1 hh.2
  intro m_z
  induction m_z with
  | zero => intro i_z B_z hm_z; omega
  | succ m_z ih_z =>
    intro i_z B_z hm_z i0_z i1_z hI
    have hI0 := hI
    obtain ⟨hF, ⟨b0, b1⟩, bt_z, bz, bl⟩ := hI
    have e4_z : B_z g 4 = g + 3 := by rw [hF.no hH0 hg.2 (Or.inr ⟨by omega, by omega⟩) (by omega) (by omega) (by decide) (by decide) (by decide)]; exact eg.2.2
    have e4h : B_z h 4 = h + 3 := by rw [hF.no hH0 hh.2 (Or.inl (fun e_z => hgh e_z.symm)) (knd hh.2 kg.1.1 (by decide)) (knd hh.2 kg.1.2.1 (by decide)) (by decide) (by decide) (by decide)]; exact eh.2.2
    have el : ∀ n_z : Int, B_z (g + 3) n_z = A (g + 3) n_z := fun n_z => hF.no hH0 kg.1.2.2 (Or.inl (knd kg.1.2.2 hg.2 (by decide))) (by omega) (by omega) (by decide) (by decide) (by decide)
    have elh : ∀ n_z : Int, B_z (h + 3) n_z = A (h + 3) n_z := fun n_z => hF.no hH0 kh.1.2.2 (Or.inl (knd kh.1.2.2 hg.2 (by decide))) (knd kh.1.2.2 kg.1.1 (by decide)) (knd kh.1.2.2 kg.1.2.1 (by decide)) (by decide) (by decide) (by decide)
    refine wq_ok srt_copySeed (fr := []) (cuts := [48]) (J := fun pc st_z => pc = 48 ∧ i_z < A h 0 ∧ ∃ C_z, cpP B_z (A (g + 3) i_z) (A (h + 3) i_z) (none, C_z) ∧ st_z = ([(2, g), (2, h), (0, i_z + 1)], [], C_z)) ?_ 20 48 _ ?_
    · rintro pc st_z ⟨rfl, hi_z, C_z, hC, rfl⟩
      have k1_z := kg.2 i_z i0_z (by omega)
      have k2_z := kh.2 i_z i0_z (by omega)
      have smo := hF.sm hH0 k2_z (fun n_z m0_z m1_z => hl1 n_z i_z m0_z m1_z i0_z (by omega))
      have hC0 := hC
      obtain ⟨_, c1_z, c2_z, ⟨c3_z, c4_z⟩, ⟨c5_z, c6_z⟩, _, _⟩ := hC
      simp only at c1_z c2_z c3_z c4_z c5_z c6_z
      have fs := hF.2.2 i_z i0_z (by omega)
      have es := hs _ k1_z.1 k1_z.2
      have hout : ∀ r_z j_z : Int, ¬ r_z = A (g + 3) i_z → ¬ r_z = A (g + 3) i_z + 1 → ¬ r_z = A (g + 3) i_z + 2 → C_z r_z j_z = B_z r_z j_z := fun r_z j_z a1_z a2 a3 => c2_z r_z j_z a1_z (by rw [fs.1, es.1]; exact a2) (by rw [fs.2, es.2]; exact a3)
      have hno : ∀ {r_z : Int} {l : Nat}, wX.2 r_z = l → ¬ l = 2 → ¬ l = 14 → ¬ l = 15 → ∀ j_z : Int, C_z r_z j_z = B_z r_z j_z := fun hr n1_z n2_z n3_z j_z => by
        have a2 := fX_2_2 hA k1_z.1 k1_z.2
        have a3 := fX_2_3 hA k1_z.1 k1_z.2
        rw [es.1] at a2
        rw [es.2] at a3
        exact hout _ j_z (knd hr k1_z.2 n1_z) (knd hr a2.2 n2_z) (knd hr a3.2 n3_z)
      refine ih_z (i_z + 1) C_z (by omega) (by omega) (by omega) ⟨⟨c1_z, fun r_z j_z a1_z a2 a3 a4 => ?_, fun n_z m0_z m1_z => ?_⟩, ⟨?_, ?_⟩, fun j_z j0 j1 => ?_, fun j_z j0 j1 => ?_, fun n_z m0_z m1_z => ?_⟩
      · have a5 := a4 i_z i0_z (by omega)
        rw [hout r_z j_z a5.1 a5.2.1 a5.2.2]
        exact hF.2.1 r_z j_z a1_z a2 a3 a4
      · by_cases e_z : n_z = i_z
        · rw [e_z, c3_z, c4_z]; exact fs
        · have kn_z := kg.2 n_z m0_z m1_z
          have a2 := fX_2_2 hA k1_z.1 k1_z.2
          have a3 := fX_2_3 hA k1_z.1 k1_z.2
          rw [es.1] at a2
          rw [es.2] at a3
          have h9 : ∀ j_z : Int, C_z (A (g + 3) n_z) j_z = B_z (A (g + 3) n_z) j_z := fun j_z => hout _ j_z (hl2 n_z i_z m0_z m1_z i0_z (by omega) e_z) (knd kn_z.2 a2.2 (by decide)) (knd kn_z.2 a3.2 (by decide))
          rw [h9 2, h9 3]
          exact hF.2.2 n_z m0_z m1_z
      · rw [hno hg.2 (by decide) (by decide) (by decide)]; exact b0
      · rw [hno hg.2 (by decide) (by decide) (by decide)]; exact b1
      · rw [hno kg.1.1 (by decide) (by decide) (by decide)]; exact bt_z j_z j0 j1
      · rw [hno kg.1.2.1 (by decide) (by decide) (by decide)]; exact bz j_z j0 j1
      · by_cases e_z : n_z = i_z
        · rw [e_z]
          exact ⟨by rw [c5_z, smo.1 0], by rw [c6_z, smo.1 1], by rw [hC0.ls, smo.ls], fun q_z => hC0.sr (smo.sr q_z), fun q_z => hC0.cf (smo.cf q_z)⟩
        · have kn_z := kg.2 n_z m0_z (by omega)
          have en := hs _ kn_z.1 kn_z.2
          have fn_z := hF.2.2 n_z m0_z (by omega)
          have hd_z : dsX B_z (A (g + 3) i_z) (A (g + 3) n_z) := ⟨hl2 i_z n_z i0_z (by omega) m0_z (by omega) (fun q_z => e_z q_z.symm), by rw [fs.1, fn_z.1, es.1, en.1]; have := hl2 i_z n_z i0_z (by omega) m0_z (by omega) (fun q_z => e_z q_z.symm); omega, by rw [fs.2, fn_z.2, es.2, en.2]; have := hl2 i_z n_z i0_z (by omega) m0_z (by omega) (fun q_z => e_z q_z.symm); omega⟩
          exact (bl n_z m0_z (by omega)).keep (only.sm c2_z hF.1 k1_z kn_z hd_z)
    · refine ⟨oX_1 hg.1 hg.2 0 rfl, ?_⟩
      refine ⟨fun hx => ?_, fun hx => ?_⟩
      · rw [b0] at hx
        rw [show i_z = A h 0 by omega] at hI0
        exact ⟨rfl, hI0⟩
      · rw [b0] at hx
        have k1_z := kg.2 i_z i0_z (by omega)
        have k2_z := kh.2 i_z i0_z (by omega)
        have eL : B_z (B_z g 4) i_z = A (g + 3) i_z := by rw [e4_z, el]
        have eL2 : B_z (B_z h 4) i_z = A (h + 3) i_z := by rw [e4h, elh]
        have smo := hF.sm hH0 k2_z (fun n_z m0_z m1_z => hl1 n_z i_z m0_z m1_z i0_z (by omega))
        have fs := hF.2.2 i_z i0_z (by omega)
        have es := hs _ k1_z.1 k1_z.2
        have eo := hs _ k2_z.1 k2_z.2
        have hne := hl1 i_z i_z i0_z (by omega) i0_z (by omega)
        refine ⟨oX_1 hg.1 hg.2 4 rfl, ?_⟩
        refine ⟨aX_12 (by rw [e4_z]; omega) (by rw [e4_z]; exact kg.1.2.2) i0_z (by omega), ?_⟩
        refine ⟨oX_1 hh.1 hh.2 4 rfl, ?_⟩
        refine ⟨aX_12 (by rw [e4h]; omega) (by rw [e4h]; exact kh.1.2.2) i0_z (by omega), ?_⟩
        refine ⟨rX_2 (by rw [eL]; exact k1_z.1) (by rw [eL]; exact k1_z.2), ?_⟩
        have hcall := copyS_ex (A := B_z) (s := A (g + 3) i_z) (o := A (h + 3) i_z) hF.1 k1_z k2_z ⟨hne, by rw [fs.1, smo.1 2, es.1, eo.1]; omega, by rw [fs.2, smo.1 3, es.2, eo.2]; omega⟩
        rw [← eL, ← eL2] at hcall
        refine hcall.imp ?_
        rintro ⟨r1_z, C_z⟩ hC
        have hr1 : r1_z = none := hC.1
        subst hr1
        rw [eL, eL2] at hC
        refine ⟨⟨by omega, by omega⟩, ?_⟩
        exact ⟨rfl, hx, C_z, hC, rfl⟩
theorem copySeed_ex {A : pm_A} {g h : Int} (hH : scH A g h) : Cl pmt (an_sh wX) 67 [(2, g), (2, h)] A (scP A g h) := by
  have hH0 := hH
  have kg := sc_k hH0 hH0.2.1.1
  have kh := sc_k hH0 hH0.2.1.2
  obtain ⟨hA, ⟨hg, hh⟩, hgh, hk, hs, hl1, hl2⟩ := hH
  have p6_z := fX_1_0 hA hh.1 hh.2
  have h6 := fX_1_1 hA hh.1 hh.2
  have eg := hk g hg.1 hg.2
  have eh := hk h hh.1 hh.2
  have s10g := shX_10 kg.1.1
  have s10h := shX_10 kh.1.1
  have s11g := shX_11 kg.1.2.1
  have s11h := shX_11 kh.1.2.1
  refine Cl.of (Nat.le_of_ble_eq_true rfl) ?_
  refine wq_ok (full := o_X7_copyFrom) srt_copySeed (fr := []) (cuts := [16]) (J := fun pc st_z => pc = 16 ∧ ∃ v2, st_z = ([(2, g), (2, h), v2], [], pm_upd (pm_upd A g 0 (A h 0)) g 1 (pm_upd A g 0 (A h 0) h 1))) ?_ 20 0 _ ?_
  · rintro pc st_z ⟨rfl, v2, rfl⟩
    have uh1 : pm_upd A g 0 (A h 0) h 1 = A h 1 := upd_ne (fun e_z => hgh e_z.symm)
    rw [uh1]
    have b0 : pm_upd (pm_upd A g 0 (A h 0)) g 1 (A h 1) g 0 = A h 0 := by rw [upd_n2 (by omega), upd_at]
    have b1 : pm_upd (pm_upd A g 0 (A h 0)) g 1 (A h 1) g 1 = A h 1 := upd_at
    have bo : ∀ r_z j_z : Int, ¬ (r_z = g ∧ (j_z = 0 ∨ j_z = 1)) → pm_upd (pm_upd A g 0 (A h 0)) g 1 (A h 1) r_z j_z = A r_z j_z := fun r_z j_z hr => by rw [upd_o (fun q_z => hr ⟨q_z.1, Or.inr q_z.2⟩), upd_o (fun q_z => hr ⟨q_z.1, Or.inl q_z.2⟩)]
    have bg : gH wX (pm_upd (pm_upd A g 0 (A h 0)) g 1 (A h 1)) := by
      have h1 : gH wX (pm_upd A g 0 (A h 0)) := gH_upd hA (k := (0, 7, 6, [(0, 0, 6), (0, 0, 6), (2, 10, 0), (2, 11, 0), (2, 12, 0), (2, 13, 0)])) (by rw [hg.2]; rfl) (fun _ j_z a_z hj ej => by
        have : j_z = 0 := by omega
        subst this
        cases hj
        exact ⟨rfl, p6_z.1, p6_z.2⟩) (fun q_z => by cases q_z)
      exact gH_upd h1 (k := (0, 7, 6, [(0, 0, 6), (0, 0, 6), (2, 10, 0), (2, 11, 0), (2, 12, 0), (2, 13, 0)])) (by rw [hg.2]; rfl) (fun _ j_z a_z hj ej => by
        have : j_z = 1 := by omega
        subst this
        cases hj
        exact ⟨rfl, h6.1, h6.2⟩) (fun q_z => by cases q_z)
    generalize pm_upd (pm_upd A g 0 (A h 0)) g 1 (A h 1) = B_z at b0 b1 bo bg
    have e2g : B_z g 2 = g + 1 := by rw [bo g 2 (by omega)]; exact eg.1
    have e2h : B_z h 2 = h + 1 := by rw [bo h 2 (fun q_z => hgh q_z.1.symm)]; exact eh.1
    have et : ∀ j_z : Int, B_z (h + 1) j_z = A (h + 1) j_z := fun j_z => bo _ j_z (fun q_z => knd kh.1.1 hg.2 (by decide) q_z.1)
    refine wq_ok srt_copySeed (fr := []) (cuts := [31]) (J := fun pc st_z => pc = 31 ∧ st_z = ([(2, g), (2, h), v2], [], pm_cpy B_z (B_z h 2) 0 (B_z g 2) 0 72)) ?_ 20 16 _ ?_
    · rintro pc st_z ⟨rfl, rfl⟩
      rw [e2g, e2h]
      have cin : ∀ j_z : Int, 0 ≤ j_z → j_z < 72 → pm_cpy B_z (h + 1) 0 (g + 1) 0 72 (g + 1) j_z = A (h + 1) j_z := fun j_z j0 j1 => by
        rw [cpy_in ⟨by omega, by omega⟩, et, show (0 : Int) + (j_z - 0) = j_z by omega]
      have cout : ∀ r_z j_z : Int, ¬ r_z = g + 1 → pm_cpy B_z (h + 1) 0 (g + 1) 0 72 r_z j_z = B_z r_z j_z := fun r_z j_z hr => cpy_out (fun e_z => hr e_z.1)
      have cg : gH wX (pm_cpy B_z (h + 1) 0 (g + 1) 0 72) := gH_cpy bg (ka := (1, 0, 72, [(0, -2147483648, 2147483647)])) (kb := (1, 0, 72, [(0, -2147483648, 2147483647)])) (by omega) (by rw [kh.1.1]; rfl) (by rw [kg.1.1]; rfl) rfl rfl rfl rfl rfl rfl (by omega) (by omega) (by simp only; omega)
      generalize pm_cpy B_z (h + 1) 0 (g + 1) 0 72 = C_z at cin cout cg
      have c3g : C_z g 3 = g + 2 := by rw [cout g 3 (by omega), bo g 3 (by omega)]; exact eg.2.1
      have c3h : C_z h 3 = h + 2 := by rw [cout h 3 (knd hh.2 kg.1.1 (by decide)), bo h 3 (fun q_z => hgh q_z.1.symm)]; exact eh.2.1
      have cz : ∀ j_z : Int, C_z (h + 2) j_z = A (h + 2) j_z := fun j_z => by rw [cout _ j_z (knd kh.1.2.1 kg.1.1 (by decide))]; exact bo _ j_z (fun q_z => knd kh.1.2.1 hg.2 (by decide) q_z.1)
      refine wq_ok srt_copySeed (fr := []) (cuts := [48]) (J := fun pc st_z => pc = 48 ∧ st_z = ([(2, g), (2, h), (0, 0)], [], pm_cpy C_z (C_z h 3) 0 (C_z g 3) 0 6)) ?_ 20 31 _ ?_
      · rintro pc st_z ⟨rfl, rfl⟩
        rw [c3g, c3h]
        have dout : ∀ r_z j_z : Int, ¬ r_z = g + 2 → pm_cpy C_z (h + 2) 0 (g + 2) 0 6 r_z j_z = C_z r_z j_z := fun r_z j_z hr => cpy_out (fun e_z => hr e_z.1)
        have dg : gH wX (pm_cpy C_z (h + 2) 0 (g + 2) 0 6) := gH_cpy cg (ka := (1, 1, 6, [(1, -9223372036854775808, 9223372036854775807)])) (kb := (1, 1, 6, [(1, -9223372036854775808, 9223372036854775807)])) (by omega) (by rw [kh.1.2.1]; rfl) (by rw [kg.1.2.1]; rfl) rfl rfl rfl rfl rfl rfl (by omega) (by omega) (by simp only; omega)
        refine sc_48 hH0 _ 0 _ (Nat.lt_succ_self _) (by omega) p6_z.1 ⟨⟨dg, fun r_z j_z a1_z a2 a3 a4 => by rw [dout r_z j_z a3, cout r_z j_z a2]; exact bo r_z j_z a1_z, fun n_z m0_z m1_z => ?_⟩, ⟨?_, ?_⟩, fun j_z j0 j1 => ?_, fun j_z j0 j1 => ?_, fun n_z m0_z m1_z => by omega⟩
        · have kn_z := kg.2 n_z m0_z m1_z
          rw [dout _ 2 (knd kn_z.2 kg.1.2.1 (by decide)), dout _ 3 (knd kn_z.2 kg.1.2.1 (by decide)), cout _ 2 (knd kn_z.2 kg.1.1 (by decide)), cout _ 3 (knd kn_z.2 kg.1.1 (by decide)), bo _ 2 (by omega), bo _ 3 (by omega)]
          exact ⟨rfl, rfl⟩
        · rw [dout g 0 (by omega), cout g 0 (by omega)]; exact b0
        · rw [dout g 1 (by omega), cout g 1 (by omega)]; exact b1
        · rw [dout _ j_z (by omega)]; exact cin j_z j0 j1
        · rw [cpy_in ⟨by omega, by omega⟩, cz, show (0 : Int) + (j_z - 0) = j_z by omega]
      · refine ⟨oX_1 hh.1 hh.2 3 rfl, ?_⟩
        refine ⟨oX_1 hg.1 hg.2 3 rfl, ?_⟩
        refine ⟨⟨by rw [c3h]; omega, by rw [c3g]; omega, by rw [c3h, s11h], by rw [c3h, s11h], by rw [c3g, s11g], by rw [c3g, s11g], by omega, by omega, by omega, by rw [c3h, s11h]; simp only; omega, by rw [c3g, s11g]; simp only; omega⟩, ?_⟩
        exact ⟨rfl, rfl⟩
    · refine ⟨oX_1 hh.1 hh.2 2 rfl, ?_⟩
      refine ⟨oX_1 hg.1 hg.2 2 rfl, ?_⟩
      refine ⟨⟨by rw [e2h]; omega, by rw [e2g]; omega, by rw [e2h, s10h], by rw [e2h, s10h], by rw [e2g, s10g], by rw [e2g, s10g], by omega, by omega, by omega, by rw [e2h, s10h]; simp only; omega, by rw [e2g, s10g]; simp only; omega⟩, ?_⟩
      exact ⟨rfl, rfl⟩
  · refine ⟨oX_1 hh.1 hh.2 0 rfl, ?_⟩
    refine ⟨oX_1 hg.1 hg.2 0 rfl, ?_⟩
    refine ⟨oX_1 hh.1 hh.2 1 rfl, ?_⟩
    refine ⟨oX_1 hg.1 hg.2 1 rfl, ?_⟩
    exact ⟨rfl, _, rfl⟩
theorem scP.tr {s : cx_Sd 12} {ks : List (Fin 12)} {A : pm_A} {g h : Int} {r : pm_R} (hH : scH A g h) (hT : TrX s ks A h) (hP : scP A g h r) : TrX s ks r.2 g := by
  have kg := sc_k hH hH.2.1.1
  have hH0 := hH
  obtain ⟨_, hF, ⟨b0, b1⟩, bt_z, bz, bl⟩ := hP
  obtain ⟨hA, ⟨hg, hh⟩, hgh, hk, hs, hl1, hl2⟩ := hH
  obtain ⟨_, hk2, h1, hb_z, hks, h9, ha_z, hl⟩ := hT
  have p6_z := fX_1_0 hA hh.1 hh.2
  have h6 := fX_1_1 hA hh.1 hh.2
  have eg := hk g hg.1 hg.2
  have eh := hk h hh.1 hh.2
  have e2 : r.2 g 2 = g + 1 := by rw [hF.no hH0 hg.2 (Or.inr ⟨by omega, by omega⟩) (by omega) (by omega) (by decide) (by decide) (by decide)]; exact eg.1
  have e4_z : r.2 g 4 = g + 3 := by rw [hF.no hH0 hg.2 (Or.inr ⟨by omega, by omega⟩) (by omega) (by omega) (by decide) (by decide) (by decide)]; exact eg.2.2
  have el : ∀ n_z : Int, r.2 (g + 3) n_z = A (g + 3) n_z := fun n_z => hF.no hH0 kg.1.2.2 (Or.inl (knd kg.1.2.2 hg.2 (by decide))) (by omega) (by omega) (by decide) (by decide) (by decide)
  have eW : bgW r.2 g = bgW A h := by unfold bgW; rw [b0, b1]
  rw [eh.1] at hb_z ha_z
  rw [eh.2.2] at hl
  have hw : bgW A h ≤ 12 := by unfold bgW; omega
  refine ⟨hF.1, hg, by rw [b0]; exact h1, fun i_z j_z hj => ?_, fun k_z hk3 => by rw [b0]; exact hks k_z hk3, fun v_z k_z hk3 => h9 v_z k_z (by rw [b0] at hk3; exact hk3), fun i_z j_z i0_z i1_z j0 j1 => ?_, fun i_z hi_z => ?_⟩
  · rw [b0] at hj
    rw [eW, e2]
    refine ⟨fun hi_z => ?_, fun hi_z => (hb_z i_z j_z hj).2 hi_z⟩
    rw [bt_z _ (by omega) (by omega)]
    exact (hb_z i_z j_z hj).1 hi_z
  · rw [eW] at i1_z
    rw [b0] at j1
    rw [e2, bt_z _ (by omega) (by omega)]
    exact ha_z i_z j_z i0_z i1_z j0 j1
  · rw [b0] at hi_z
    rw [e4_z, el, eW]
    obtain ⟨l1, l2, l3, l5⟩ := hl i_z hi_z
    have hc_z := bl (i_z.1 : Int) (by omega) hi_z
    refine ⟨hc_z.2.2.2.1 l1, hc_z.2.2.2.2 l2, by rw [hc_z.1]; exact l3, fun x_z => ?_⟩
    rw [l5 x_z]
    unfold VX
    rw [hc_z.2.2.1]
