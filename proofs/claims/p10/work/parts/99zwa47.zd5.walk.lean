/-! the class's walkRow and order leave the bench's seed -/
def wrI (s : cx_Sd 12) (ks : List (Fin 12)) (A B : pm_A) : Prop := StE B ∧ TrX s ks B 1 ∧ (∃ ls, TrX s ls B 49) ∧ (∀ j_z : Int, B 0 j_z = A 0 j_z) ∧ (∀ j_z : Int, B 46 j_z = A 46 j_z) ∧ (∀ j_z : Int, B 1 j_z = A 1 j_z) ∧ (∀ j_z : Int, B (A 0 6) j_z = A (A 0 6) j_z) ∧ B 49 0 = A 49 0
theorem exF.ce {A B : pm_A} {r : Int} {l : Nat} (h : exF A B 28) (hA : gH wX A) (hr : wX.2 r = l) (n1 : ¬ l = 2) (n2 : ¬ l = 14) (n3 : ¬ l = 15) (n4 : ¬ l = 18) (j : Int) : B r j = A r j := h.2.1 r j (ml_no hA ⟨by omega, kk28⟩ hr n1 n2 n3 n4)
theorem wrI.ex {s : cx_Sd 12} {ks : List (Fin 12)} {A B C : pm_A} (h : wrI s ks A B) (hF : exF B C 28) (hk : wX.2 (A 0 6) = 21) : wrI s ks A C := by
  obtain ⟨h1, h2, ⟨ls, h3⟩, h4, h5, h6, h7, h8⟩ := h
  refine ⟨h1.keep hF, h2.keep (h1.ex own1) hF, ⟨ls, h3.keep (h1.ex own49) hF⟩, fun j_z => ?_, fun j_z => ?_, fun j_z => ?_, fun j_z => ?_, ?_⟩
  · rw [hF.ce h1.1 kk0 (by decide) (by decide) (by decide) (by decide)]; exact h4 j_z
  · rw [hF.ce h1.1 kk46 (by decide) (by decide) (by decide) (by decide)]; exact h5 j_z
  · rw [hF.ce h1.1 kk1 (by decide) (by decide) (by decide) (by decide)]; exact h6 j_z
  · rw [hF.ce h1.1 hk (by decide) (by decide) (by decide) (by decide)]; exact h7 j_z
  · rw [hF.ce h1.1 kk49 (by decide) (by decide) (by decide) (by decide)]; exact h8
theorem se_far {s : cx_Sd 12} {ks : List (Fin 12)} {A C : pm_A} {k : Int} (hS : StE A) (hT : TrX s ks A 1) (hP : sePX A 49 52 k (none, C)) : TrX s ks C 1 := by
  obtain ⟨_, c1_z, c2_z, c3_z⟩ := hP
  simp only at c1_z c2_z c3_z
  have m8_z := hS.2.2.2.2.2
  have e49 := m8_z.1 49 (by omega) kk49
  have e1 := m8_z.1 1 (by omega) kk1
  rw [e49.1] at c2_z
  have p6_z := fX_1_0 hS.1 (r := 1) (by omega) kk1
  have t2_z := fX_1_2 hS.1 (r := 49) (by omega) kk49
  rw [e49.1] at t2_z
  have hh : ∀ r_z j_z : Int, ¬ r_z = 50 → ¬ r_z = 52 → ¬ r_z = 28 → C r_z j_z = A r_z j_z := fun r_z j_z h1 h2 h3 => by
    rw [c2_z r_z j_z (by omega)]; exact swp_ne h2 h3
  have hk : ∀ {r_z : Int} {l : Nat}, wX.2 r_z = l → ¬ l = 10 → ¬ l = 12 → ¬ l = 4 → ∀ j_z : Int, C r_z j_z = A r_z j_z := fun hr n1_z n2_z n3_z j_z => hh _ j_z (knd hr t2_z.2 n1_z) (knd hr kk52 n2_z) (knd hr kk28 n3_z)
  refine hT.cong c1_z (fun j_z => hh 1 j_z (by omega) (by omega) (by omega)) (fun j_z => by rw [e1.1]; exact hh _ j_z (by omega) (by omega) (by omega)) (fun j_z => by rw [e1.2.2]; exact hh _ j_z (by omega) (by omega) (by omega)) (fun i_z i0_z i1_z => ?_)
  rw [e1.2.2]
  have l4 := fX_1_4 hS.1 (r := 1) (by omega) kk1
  rw [e1.2.2] at l4
  have e0_z := eX_12 hS.1 l4.1 l4.2 i0_z (show i_z < 6 by omega)
  exact ⟨hk e0_z.2 (by decide) (by decide) (by decide), hk (fX_2_2 hS.1 e0_z.1 e0_z.2).2 (by decide) (by decide) (by decide), hk (fX_2_3 hS.1 e0_z.1 e0_z.2).2 (by decide) (by decide) (by decide)⟩
theorem wq_32 {s : cx_Sd 12} {ks ls : List (Fin 12)} {A B0 B : pm_A} {f : Fin 12} {i : Int} (i0 : 0 ≤ i) (i1 : i ≤ 11) (hI : wrI s ks A B0) (hr : 0 ≤ A 0 6 ∧ wX.2 (A 0 6) = 21) (hT : TrX s ls B0 49) (hf : A (A 0 6) i = (f.1 : Int)) (hk : (f.1 : Int) < B0 49 0) (hB : exPX s ls f B0 28 49 (some (0, 1), B)) {z : pm_R → Prop} (H : ∀ C_z, wrI s ks A C_z → Tm pmt (an_sh wX) o_X9_walkRow 2 ([(2, 0), (0, i + 1)], [], C_z) z) : Tm pmt (an_sh wX) o_X9_walkRow 32 ([(2, 0), (0, i)], [], B) z := by
  obtain ⟨hF, hB⟩ := hB
  simp only at hF hB
  rcases hB with ⟨q_z, _⟩ | ⟨_, hok, c0_z, cs, cc, cv⟩
  · cases q_z
  · have hI2 := hI.ex hF hr.2
    obtain ⟨s1_z, s2_z, s3_z, s4_z, s5, s6_z, s7, s8⟩ := hI2
    have hS0 := hI.1
    have a2 := s1_z.2.1.1.2.1
    have a8 := s1_z.2.1.1.2.2.1
    have hTB := hT.keep (hS0.ex own49) hF
    have eg := (hF.gs hS0.1 (hS0.ex own49)).2.1
    have e06 : B 0 6 = A 0 6 := s4_z 6
    have ef : B (B 0 6) i = (f.1 : Int) := by rw [e06, s7 i]; exact hf
    refine wq_ok srt_walkRow (fr := []) (cuts := [2]) (J := fun pc st_z => pc = 2 ∧ ∃ C_z, sePX B 49 52 f.1 (none, C_z) ∧ st_z = ([(2, 0), (0, i + 1)], [], C_z)) ?_ 20 32 _ ?_
    · rintro pc st_z ⟨rfl, C_z, hC, rfl⟩
      have hSC := s1_z.swap own49 (show (0 : Int) ≤ f.1 by omega) (by have p6_z := fX_1_0 hS0.1 (r := 49) (by omega) kk49; omega) hC.2.1 hC.2.2.1
      have hC0 := hC
      obtain ⟨_, c1_z, c2_z, c3_z⟩ := hC
      simp only at c1_z c2_z c3_z
      have e49 := s1_z.2.2.2.2.2.1 49 (by omega) kk49
      rw [e49.1] at c2_z
      have hh : ∀ r_z j_z : Int, ¬ r_z = 50 → ¬ r_z = 52 → ¬ r_z = 28 → C_z r_z j_z = B r_z j_z := fun r_z j_z h1 h2 h3 => by
        rw [c2_z r_z j_z (by omega)]; exact swp_ne h2 h3
      have t2_z := fX_1_2 s1_z.1 (r := 49) (by omega) kk49
      rw [e49.1] at t2_z
      refine H C_z ⟨hSC, se_far s1_z s2_z hC0, ⟨_, hT.next hS0 own49 hk hF hok.2 c0_z cs cc cv hC0⟩, fun j_z => ?_, fun j_z => ?_, fun j_z => ?_, fun j_z => ?_, ?_⟩
      · rw [hh 0 j_z (by omega) (by omega) (by omega)]; exact s4_z j_z
      · rw [hh 46 j_z (by omega) (by omega) (by omega)]; exact s5 j_z
      · rw [hh 1 j_z (by omega) (by omega) (by omega)]; exact s6_z j_z
      · rw [hh _ j_z (knd hr.2 t2_z.2 (by decide)) (knd hr.2 kk52 (by decide)) (knd hr.2 kk28 (by decide))]; exact s7 j_z
      · rw [hh 49 0 (by omega) (by omega) (by omega)]; exact s8
    · refine ⟨oX_0 z0 kk0 2 rfl, ?_⟩
      refine ⟨oX_0 z0 kk0 8 rfl, ?_⟩
      refine ⟨oX_0 z0 kk0 6 rfl, ?_⟩
      refine ⟨aX_21 (by rw [e06]; exact hr.1) (by rw [e06]; exact hr.2) i0 (by omega), ?_⟩
      refine ⟨rX_4 (r := B 0 2) (by rw [a2]; omega) (by rw [a2]; exact kk28), ?_⟩
      show Cl pmt (an_sh wX) 47 [(2, B 0 2), (2, B 0 8), (0, B (B 0 6) i)] B _
      rw [a8, a2, ef]
      refine (settle_exX s1_z own49 (by omega) (by rw [eg 0]; exact hk) hTB.2.2.2.2.2.2.1).imp ?_
      rintro ⟨r1_z, C_z⟩ hC
      have hr1 : r1_z = none := hC.1
      subst hr1
      refine ⟨⟨by omega, by omega⟩, ?_⟩
      exact ⟨rfl, C_z, hC, rfl⟩
def wrP (s : cx_Sd 12) (ks : List (Fin 12)) (A : pm_A) (r : pm_R) : Prop := (r.1 = some (0, 0) ∨ r.1 = some (0, 1)) ∧ wrI s ks A r.2
theorem wq_2 {s : cx_Sd 12} {ks : List (Fin 12)} {A : pm_A} (hr : 0 ≤ A 0 6 ∧ wX.2 (A 0 6) = 21) (hrow : ∀ i_z : Int, 0 ≤ i_z → i_z < A 0 7 → 0 ≤ A (A 0 6) i_z ∧ A (A 0 6) i_z < A 49 0) : ∀ (n_z : Nat) (i_z : Int) (B_z : pm_A), (12 - i_z).toNat < n_z → 0 ≤ i_z → i_z ≤ 12 → wrI s ks A B_z → Tm pmt (an_sh wX) o_X9_walkRow 2 ([(2, 0), (0, i_z)], [], B_z) (wrP s ks A) := by
  intro n_z
  induction n_z with
  | zero => intro i_z B_z h_z; omega
  | succ n_z ih_z =>
    intro i_z B_z hn i0_z i1_z hI
    have hI0 := hI
    obtain ⟨h1, h2, ⟨ls, h3⟩, h4, h5, h6, h7, h8⟩ := hI
    have a2 := h1.2.1.1.2.1
    have a8 := h1.2.1.1.2.2.1
    have n0_z := fX_0_7 h1.1 z0 kk0
    have e06 : B_z 0 6 = A 0 6 := h4 6
    have e07 : B_z 0 7 = A 0 7 := h4 7
    have p6_z := fX_1_0 h1.1 (r := 49) (by omega) kk49
    refine wq_ok srt_walkRow (fr := []) (cuts := [32]) (J := fun pc st_z => pc = 32 ∧ i_z < A 0 7 ∧ ∃ (f_z : Fin 12) (C_z : pm_A), A (A 0 6) i_z = (f_z.1 : Int) ∧ exPX s ls f_z B_z 28 49 (some (0, 1), C_z) ∧ st_z = ([(2, 0), (0, i_z)], [], C_z)) ?_ 20 2 _ ?_
    · rintro pc st_z ⟨rfl, hi_z, f_z, C_z, hf, hC, rfl⟩
      have hx := hrow i_z i0_z hi_z
      exact wq_32 i0_z (by omega) hI0 hr h3 hf (by omega) hC (fun D_z hD => ih_z (i_z + 1) D_z (by omega) (by omega) (by omega) hD)
    · refine ⟨oX_0 z0 kk0 7 rfl, ?_⟩
      refine ⟨fun h_z => ?_, fun h_z => ?_⟩
      · exact ⟨rfl, Or.inr rfl, hI0⟩
      · have hi_z : i_z < A 0 7 := by rw [← e07]; exact h_z
        have hx := hrow i_z i0_z hi_z
        obtain ⟨f_z, hf⟩ : ∃ f_z : Fin 12, A (A 0 6) i_z = (f_z.1 : Int) := ⟨⟨(A (A 0 6) i_z).toNat, by omega⟩, by show A (A 0 6) i_z = (((A (A 0 6) i_z).toNat : Nat) : Int); omega⟩
        have ef : B_z (B_z 0 6) i_z = (f_z.1 : Int) := by rw [e06, h7 i_z]; exact hf
        refine ⟨oX_0 z0 kk0 2 rfl, ?_⟩
        refine ⟨oX_0 z0 kk0 8 rfl, ?_⟩
        refine ⟨oX_0 z0 kk0 6 rfl, ?_⟩
        refine ⟨aX_21 (by rw [e06]; exact hr.1) (by rw [e06]; exact hr.2) i0_z (by omega), ?_⟩
        refine ⟨rX_4 (r := B_z 0 2) (by rw [a2]; omega) (by rw [a2]; exact kk28), ?_⟩
        show Cl pmt (an_sh wX) 42 [(2, B_z 0 2), (2, B_z 0 8), (0, B_z (B_z 0 6) i_z)] B_z _
        rw [a8, a2, ef]
        refine (exchange_exX h3 (h1.ex own49) (by omega)).imp ?_
        rintro ⟨r1_z, C_z⟩ hC
        have hC0 := hC
        obtain ⟨hF, hC⟩ := hC
        simp only at hF hC
        rcases hC with ⟨rfl, _⟩ | ⟨rfl, _⟩
        · refine ⟨fun hh => absurd rfl hh, fun _ => ?_⟩
          exact ⟨rfl, Or.inl rfl, hI0.ex hF hr.2⟩
        · refine ⟨fun _ => ?_, fun hh => absurd hh (by decide)⟩
          exact ⟨rfl, hi_z, f_z, C_z, hf, hC0, rfl⟩
theorem walkRow_exX {s : cx_Sd 12} {ks : List (Fin 12)} {A B : pm_A} (hr : 0 ≤ A 0 6 ∧ wX.2 (A 0 6) = 21) (hrow : ∀ i_z : Int, 0 ≤ i_z → i_z < A 0 7 → 0 ≤ A (A 0 6) i_z ∧ A (A 0 6) i_z < A 49 0) (hI : wrI s ks A B) : Cl pmt (an_sh wX) 118 [(2, 0)] B (wrP s ks A) := by
  refine Cl.of (Nat.le_of_ble_eq_true rfl) ?_
  refine wq_ok (full := o_X9_walkRow) srt_walkRow (fr := []) (cuts := [2]) (J := fun pc st_z => pc = 2 ∧ st_z = ([(2, 0), (0, 0)], [], B)) ?_ 20 0 _ ?_
  · rintro pc st_z ⟨rfl, rfl⟩
    exact wq_2 hr hrow _ 0 B (Nat.lt_succ_self _) (by omega) (by omega) hI
  · exact ⟨rfl, rfl⟩
