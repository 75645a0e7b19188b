/-! what a copied or begun seed leaves; keep -/
theorem StE.sc {A B : pm_A} {g h : Int} (hS : StE A) (hH : scH A g h) (hF : scF A B g) : StE B := by
  have kg := sc_k hH hH.2.1.1
  have hg := hH.2.1.1
  obtain ⟨hA, ⟨⟨a1_z, a2, a3, a4, a5, a6, a7, a8, a9, a10, a11⟩, b_z, c_z, d_z, e_z⟩, ⟨⟨m1_z, m2_z, m3_z, m4_z, m7_z⟩, m5_z, m6_z, m8_z⟩⟩ := hS
  have hn : ∀ {r_z : Int} {l : Nat}, wX.2 r_z = l → ¬ l = 1 → ¬ l = 10 → ¬ l = 11 → ¬ l = 2 → ¬ l = 14 → ¬ l = 15 → ∀ j_z : Int, B r_z j_z = A r_z j_z := fun hr n1_z n2_z n3_z n4_z n5_z n6_z j_z => hF.no hH hr (Or.inl (knd hr hg.2 n1_z)) (knd hr kg.1.1 n2_z) (knd hr kg.1.2.1 n3_z) n4_z n5_z n6_z
  have h1 : ∀ r_z j_z : Int, wX.2 r_z = 1 → ¬ j_z = 0 → ¬ j_z = 1 → B r_z j_z = A r_z j_z := fun r_z j_z hr j0 j1 => hF.no hH hr (Or.inr ⟨j0, j1⟩) (knd hr kg.1.1 (by decide)) (knd hr kg.1.2.1 (by decide)) (by decide) (by decide) (by decide)
  have e0_z := hn kk0 (by decide) (by decide) (by decide) (by decide) (by decide) (by decide)
  have e4_z := hn kk4 (by decide) (by decide) (by decide) (by decide) (by decide) (by decide)
  have e28_z := hn kk28 (by decide) (by decide) (by decide) (by decide) (by decide) (by decide)
  have e52 := hn kk52 (by decide) (by decide) (by decide) (by decide) (by decide) (by decide)
  have e72_z := hn kk72 (by decide) (by decide) (by decide) (by decide) (by decide) (by decide)
  have e73 := hn kk73 (by decide) (by decide) (by decide) (by decide) (by decide) (by decide)
  have e82 := hn kk82 (by decide) (by decide) (by decide) (by decide) (by decide) (by decide)
  have e47 := hn kk47 (by decide) (by decide) (by decide) (by decide) (by decide) (by decide)
  have hpc : ∀ i_z, pc B i_z = pc A i_z := fun i_z => by
    unfold pc
    rw [e4_z, e52, e28_z]
  have hsh : ∀ q_z : Int, 0 ≤ q_z → wX.2 q_z = 2 → B q_z 2 = q_z + 1 ∧ B q_z 3 = q_z + 2 := fun q_z q0 qk => by
    by_cases hm_z : ∃ n_z : Int, (0 ≤ n_z ∧ n_z < 6) ∧ A (g + 3) n_z = q_z
    · obtain ⟨n_z, hn2, rfl⟩ := hm_z
      have h5 := hF.2.2 n_z hn2.1 hn2.2
      rw [h5.1, h5.2]
      exact ⟨b_z _ q0 qk, m5_z _ q0 qk⟩
    · have h5 := hF.sm hH ⟨q0, qk⟩ (fun n_z n0_z n1_z e_z => hm_z ⟨n_z, ⟨n0_z, n1_z⟩, e_z⟩)
      rw [h5.1 2, h5.1 3]
      exact ⟨b_z _ q0 qk, m5_z _ q0 qk⟩
  refine ⟨hF.1, ⟨⟨by rw [e0_z]; exact a1_z, by rw [e0_z]; exact a2, by rw [e0_z]; exact a3, by rw [e0_z]; exact a4, by rw [h1 1 4 kk1 (by omega) (by omega)]; exact a5, by rw [h1 49 4 kk49 (by omega) (by omega)]; exact a6, by rw [e72_z]; exact a7, by rw [e72_z]; exact a8, by rw [h1 79 4 kk79 (by omega) (by omega)]; exact a9, by rw [e28_z]; exact a10, by rw [e28_z]; exact a11⟩, fun q_z q0 qk => (hsh q_z q0 qk).1, fun x_z x0_z x1_z => by rw [e73]; exact c_z x_z x0_z x1_z, fun i_z i0_z i1_z => by rw [e82]; exact d_z i_z i0_z i1_z, pool_eq (fun i_z _ _ => hpc i_z) e_z⟩, ⟨⟨by rw [e28_z]; exact m1_z, by rw [e28_z]; exact m2_z, by rw [e28_z]; exact m3_z, by rw [e28_z]; exact m4_z, by rw [e0_z]; exact m7_z⟩, fun q_z q0 qk => (hsh q_z q0 qk).2, fun i_z i0_z i1_z => by rw [hpc i_z]; exact m6_z i_z i0_z i1_z, ?_⟩⟩
  refine ⟨fun c_z c0_z ck => by rw [h1 c_z 2 ck (by omega) (by omega), h1 c_z 3 ck (by omega) (by omega), h1 c_z 4 ck (by omega) (by omega)]; exact m8_z.1 c_z c0_z ck, by rw [e0_z]; exact m8_z.2.1, fun k_z k0_z k1_z => by rw [e47]; exact m8_z.2.2.1 k_z k0_z k1_z, fun k_z i_z k0_z k1_z i0_z i1_z => by rw [hn (kkK k0_z k1_z) (by decide) (by decide) (by decide) (by decide) (by decide) (by decide)]; exact m8_z.2.2.2 k_z i_z k0_z k1_z i0_z i1_z⟩
theorem TrX.sc {s : cx_Sd 12} {ks : List (Fin 12)} {A B : pm_A} {g h c : Int} (hT : TrX s ks A c) (hH : scH A g h) (hF : scF A B g) (hc : ¬ c = g) (hl : ∀ i_z j_z : Int, 0 ≤ i_z → i_z < 6 → 0 ≤ j_z → j_z < 6 → ¬ A (g + 3) i_z = A (c + 3) j_z) : TrX s ks B c := by
  have kg := sc_k hH hH.2.1.1
  have kc_z := sc_k hH hT.2.1
  have ec := hH.2.2.2.1 c hT.2.1.1 hT.2.1.2
  have p6_z := fX_1_0 hT.1 hT.2.1.1 hT.2.1.2
  refine hT.cong hF.1 (fun j_z => ?_) (fun j_z => ?_) (fun j_z => ?_) (fun i_z i0_z i1_z => ?_)
  · exact hF.no hH hT.2.1.2 (Or.inl hc) (knd hT.2.1.2 kg.1.1 (by decide)) (knd hT.2.1.2 kg.1.2.1 (by decide)) (by decide) (by decide) (by decide)
  · rw [ec.1]
    exact hF.no hH kc_z.1.1 (Or.inl (knd kc_z.1.1 hH.2.1.1.2 (by decide))) (by omega) (knd kc_z.1.1 kg.1.2.1 (by decide)) (by decide) (by decide) (by decide)
  · rw [ec.2.2]
    exact hF.no hH kc_z.1.2.2 (Or.inl (knd kc_z.1.2.2 hH.2.1.1.2 (by decide))) (knd kc_z.1.2.2 kg.1.1 (by decide)) (knd kc_z.1.2.2 kg.1.2.1 (by decide)) (by decide) (by decide) (by decide)
  · rw [ec.2.2]
    exact hF.sm hH (kc_z.2 i_z i0_z (by omega)) (fun n_z m0_z m1_z => hl n_z i_z m0_z m1_z i0_z (by omega))
theorem kkS {k : Int} (k0 : 0 ≤ k) (k1 : k < 4) : wX.2 (420 + 23 * k) = 1 := by
  have h_z : k = 0 ∨ k = 1 ∨ k = 2 ∨ k = 3 := by omega
  rcases h_z with rfl | rfl | rfl | rfl <;> decide +kernel
theorem StE.keepH {A : pm_A} {k : Int} (hS : StE A) (k0 : 0 ≤ k) (k1 : k < 4) : scH A (420 + 23 * k) 1 := by
  have hS0 := hS
  obtain ⟨hA, ⟨⟨a1_z, a2, a3, a4, a5, a6, a7, a8, a9, a10, a11⟩, b_z, c_z, d_z, e_z⟩, ⟨⟨m1_z, m2_z, m3_z, m4_z, m7_z⟩, m5_z, m6_z, m8_z⟩⟩ := hS
  have e3 : (420 + 23 * k + 3 : Int) = 423 + 23 * k := by omega
  refine ⟨hA, ⟨⟨by omega, kkS k0 k1⟩, by omega, kk1⟩, by omega, m8_z.1, fun a_z a0_z ak => ⟨b_z a_z a0_z ak, m5_z a_z a0_z ak⟩, fun i_z j_z i0_z i1_z j0 j1 => ?_, fun i_z j_z i0_z i1_z j0 j1 hij => ?_⟩
  · rw [e3, m8_z.2.2.2 k i_z k0 k1 i0_z i1_z]
    have h1 := (e_z.1 j_z j0 (by omega)).1
    have h2 : pc A j_z = A 4 j_z := by unfold pc; rw [if_pos j1]
    rw [h2] at h1
    show ¬ 425 + 23 * k + 3 * i_z = A (1 + 3) j_z
    rw [show (1 + 3 : Int) = 4 from rfl]
    omega
  · rw [e3, m8_z.2.2.2 k i_z k0 k1 i0_z i1_z, m8_z.2.2.2 k j_z k0 k1 j0 j1]
    omega
def kpP (s : cx_Sd 12) (ks : List (Fin 12)) (A : pm_A) (k : Int) (r : pm_R) : Prop := (r = (some (0, 0), A) ∧ ¬ (0 ≤ k ∧ k < 4)) ∨ (r.1 = some (0, 1) ∧ (0 ≤ k ∧ k < 4) ∧ StE r.2 ∧ TrX s ks r.2 1 ∧ scP A (420 + 23 * k) 1 (none, r.2))
theorem keep_exX {s : cx_Sd 12} {ks : List (Fin 12)} {A : pm_A} {k : Int} (hS : StE A) (hT : TrX s ks A 1) : Cl pmt (an_sh wX) 99 [(2, 0), (0, k)] A (kpP s ks A k) := by
  have a1_z := hS.2.1.1.1
  have m8_z := hS.2.2.2.2.2
  refine Cl.of (Nat.le_of_ble_eq_true rfl) ?_
  refine wq_ok (full := o_X9_keep) srt_Xkeep (fr := []) (cuts := []) (J := fun _ _ => False) (fun _ _ h_z => h_z.elim) 30 0 _ ?_
  refine ⟨fun h0 => ?_, fun h0 => ?_⟩
  · exact ⟨rfl, Or.inl ⟨rfl, by omega⟩⟩
  · refine ⟨fun h1 => ?_, fun h1 => ?_⟩
    · have hH := hS.keepH h0 h1
      have e47 : A (A 0 5) k = 420 + 23 * k := by rw [m8_z.2.1]; exact m8_z.2.2.1 k h0 h1
      refine ⟨oX_0 z0 kk0 5 rfl, ?_⟩
      refine ⟨aX_20 (by rw [m8_z.2.1]; omega) (by rw [m8_z.2.1]; exact kk47) h0 h1, ?_⟩
      refine ⟨oX_0 z0 kk0 0 rfl, ?_⟩
      refine ⟨rX_1 (by rw [e47]; omega) (by rw [e47]; exact kkS h0 h1), ?_⟩
      have hcall := copySeed_ex hH
      rw [← e47] at hcall
      have hcall2 : Cl pmt (an_sh wX) 67 [(2, A (A 0 5) k), (2, A 0 0)] A (scP A (A (A 0 5) k) 1) := by rw [a1_z]; exact hcall
      refine hcall2.imp ?_
      rintro ⟨r1_z, C_z⟩ hC
      have hr1 : r1_z = none := hC.1
      subst hr1
      rw [e47] at hC
      refine ⟨rfl, Or.inr ⟨rfl, ⟨h0, h1⟩, hS.sc hH hC.2.1, hT.sc hH hC.2.1 (by omega) (fun i_z j_z i0_z i1_z j0 j1 => hH.2.2.2.2.2.1 i_z j_z i0_z i1_z j0 j1), hC⟩⟩
    · exact ⟨rfl, Or.inl ⟨rfl, by omega⟩⟩
