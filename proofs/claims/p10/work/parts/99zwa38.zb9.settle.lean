/-! the class's settle, turn, back, exactly -/
def AK (A : pm_A) : Prop := (∀ g_z : Int, 0 ≤ g_z → wX.2 g_z = 1 → A g_z 2 = g_z + 1 ∧ A g_z 3 = g_z + 2 ∧ A g_z 4 = g_z + 3) ∧ A 0 5 = 47 ∧ (∀ k_z : Int, 0 ≤ k_z → k_z < 4 → A 47 k_z = 420 + 23 * k_z) ∧ ∀ k_z i_z : Int, 0 ≤ k_z → k_z < 4 → 0 ≤ i_z → i_z < 6 → A (423 + 23 * k_z) i_z = 425 + 23 * k_z + 3 * i_z
theorem kk47 : wX.2 47 = 20 := by decide
theorem kkK {k : Int} (k0 : 0 ≤ k) (k1 : k < 4) : wX.2 (423 + 23 * k) = 12 := by
  have h_z : k = 0 ∨ k = 1 ∨ k = 2 ∨ k = 3 := by omega
  rcases h_z with rfl | rfl | rfl | rfl <;> decide +kernel
theorem AK.of {A B : pm_A} (h : AK A) (h1 : ∀ g_z j_z : Int, wX.2 g_z = 1 → B g_z j_z = A g_z j_z) (h2 : B 0 5 = A 0 5) (h3 : ∀ j_z : Int, B 47 j_z = A 47 j_z) (h4 : ∀ k_z j_z : Int, 0 ≤ k_z → k_z < 4 → B (423 + 23 * k_z) j_z = A (423 + 23 * k_z) j_z) : AK B :=
  ⟨fun g_z g0 gk => by rw [h1 g_z 2 gk, h1 g_z 3 gk, h1 g_z 4 gk]; exact h.1 g_z g0 gk, by rw [h2]; exact h.2.1, fun k_z k0_z k1_z => by rw [h3]; exact h.2.2.1 k_z k0_z k1_z, fun k_z i_z k0_z k1_z i0_z i1_z => by rw [h4 k_z i_z k0_z k1_z]; exact h.2.2.2 k_z i_z k0_z k1_z i0_z i1_z⟩
def AE (A : pm_A) : Prop := (A 28 3 = 38 ∧ A 28 4 = 41 ∧ A 28 5 = 44 ∧ A 28 6 = 45 ∧ A 0 3 = 46) ∧ (∀ q_z : Int, 0 ≤ q_z → wX.2 q_z = 2 → A q_z 3 = q_z + 2) ∧ (∀ i_z : Int, 0 ≤ i_z → i_z ≤ 12 → ¬ pc A i_z = 38 ∧ ¬ pc A i_z = 41) ∧ AK A
def StE (A : pm_A) : Prop := gH wX A ∧ AL A ∧ AE A
theorem ml_cells {A : pm_A} (h : AL A) (he : AE A) : ∀ i_z j_z : Int, 0 ≤ i_z → i_z ≤ 4 → 0 ≤ j_z → j_z ≤ 4 → ¬ i_z = j_z → ¬ A 28 i_z = A 28 j_z := by
  obtain ⟨⟨_, _, _, _, _, _, _, _, _, a10, a11⟩, _, _, _, pl⟩ := h
  obtain ⟨⟨b1, b2, _⟩, _, b4, _⟩ := he
  have p1_z := pl.1 12 (by omega) (by omega)
  have p2_z := b4 12 (by omega) (by omega)
  rw [pc_12] at p1_z p2_z
  intro i_z j_z i0_z i1_z j0 j1 hij
  have hi_z : i_z = 0 ∨ i_z = 1 ∨ i_z = 2 ∨ i_z = 3 ∨ i_z = 4 := by omega
  have hj : j_z = 0 ∨ j_z = 1 ∨ j_z = 2 ∨ j_z = 3 ∨ j_z = 4 := by omega
  rcases hi_z with rfl | rfl | rfl | rfl | rfl <;> rcases hj with rfl | rfl | rfl | rfl | rfl <;> omega
theorem ml_pool {A : pm_A} (h : AL A) (he : AE A) {i n : Int} (n0 : 0 ≤ n) (n1 : n ≤ 11) (i0 : 0 ≤ i) (i1 : i ≤ 4) : ¬ A 28 i = pc A n := by
  obtain ⟨⟨_, _, _, _, _, _, _, _, _, a10, a11⟩, _, _, _, pl⟩ := h
  obtain ⟨⟨b1, b2, _⟩, _, b4, _⟩ := he
  have p1_z := pl.1 n n0 (by omega)
  have p2_z := b4 n n0 (by omega)
  have p3_z := pl.2 n 12 n0 (by omega) (by omega) (by omega) (by omega)
  rw [pc_12] at p3_z
  have hi_z : i = 0 ∨ i = 1 ∨ i = 2 ∨ i = 3 ∨ i = 4 := by omega
  rcases hi_z with rfl | rfl | rfl | rfl | rfl <;> omega
theorem StE.ex {A : pm_A} {g L o : Int} (h : StE A) (ho : own g L o) : exH3 A 28 g := by
  have ok_z := own_k ho
  have p6_z := fX_1_0 h.1 ok_z.1.1 ok_z.1.2
  refine ⟨⟨by omega, kk28⟩, ok_z.1, fun a_z a0_z ak => ⟨h.2.1.2.1 a_z a0_z ak, h.2.2.2.1 a_z a0_z ak⟩, by rw [h.2.2.1.2.2.1, h.2.2.1.2.2.2.1]; omega, ml_cells h.2.1 h.2.2, fun i_z j_z i0_z i1_z j0 j1 => ?_⟩
  rw [own_L ho h.2.1, ← own_pc (A := A) ho j0 (by omega)]
  exact ml_pool h.2.1 h.2.2 (by omega) (by omega) i0_z i1_z
theorem StE.keep {A B : pm_A} (h : StE A) (hF : exF A B 28) : StE B := by
  have hq : (0 : Int) ≤ 28 ∧ wX.2 28 = 4 := ⟨by omega, kk28⟩
  obtain ⟨hA, ⟨⟨a1_z, a2, a3, a4, a5, a6, a7, a8, a9, a10, a11⟩, b_z, c_z, d_z, e_z⟩, ⟨⟨m1_z, m2_z, m3_z, m4_z, m7_z⟩, m5_z, m6_z, m8_z⟩⟩ := h
  have hh : ∀ {r_z : Int} {l : Nat}, wX.2 r_z = l → ¬ l = 2 → ¬ l = 14 → ¬ l = 15 → ¬ l = 18 → ∀ j_z : Int, B r_z j_z = A r_z j_z := fun hr n1_z n2_z n3_z n4_z j_z => hF.2.1 _ j_z (ml_no hA hq hr n1_z n2_z n3_z n4_z)
  have e0_z := hh kk0 (by decide) (by decide) (by decide) (by decide)
  have e1 := hh kk1 (by decide) (by decide) (by decide) (by decide)
  have e4_z := hh kk4 (by decide) (by decide) (by decide) (by decide)
  have e28_z := hh kk28 (by decide) (by decide) (by decide) (by decide)
  have e49 := hh kk49 (by decide) (by decide) (by decide) (by decide)
  have e52 := hh kk52 (by decide) (by decide) (by decide) (by decide)
  have e72_z := hh kk72 (by decide) (by decide) (by decide) (by decide)
  have e73 := hh kk73 (by decide) (by decide) (by decide) (by decide)
  have e79 := hh kk79 (by decide) (by decide) (by decide) (by decide)
  have e82 := hh kk82 (by decide) (by decide) (by decide) (by decide)
  have hpc : ∀ i_z, pc B i_z = pc A i_z := fun i_z => by
    unfold pc
    rw [e4_z, e52, e28_z]
  have hsh : ∀ q_z : Int, 0 ≤ q_z → wX.2 q_z = 2 → B q_z 2 = q_z + 1 ∧ B q_z 3 = q_z + 2 := fun q_z q0 qk => by
    by_cases hm_z : ∃ n_z : Int, (0 ≤ n_z ∧ n_z ≤ 4) ∧ A 28 n_z = q_z
    · obtain ⟨n_z, hn, rfl⟩ := hm_z
      have h5 := hF.2.2 n_z hn.1 hn.2
      rw [h5.1, h5.2]
      exact ⟨b_z _ q0 qk, m5_z _ q0 qk⟩
    · have h5 := hF.sm hA hq (fun a_z a0_z ak => ⟨b_z a_z a0_z ak, m5_z a_z a0_z ak⟩) ⟨q0, qk⟩ (fun n_z n0_z n1_z e_z => hm_z ⟨n_z, ⟨n0_z, n1_z⟩, e_z⟩)
      rw [h5.1 2, h5.1 3]
      exact ⟨b_z _ q0 qk, m5_z _ q0 qk⟩
  refine ⟨hF.1, ⟨⟨by rw [e0_z]; exact a1_z, by rw [e0_z]; exact a2, by rw [e0_z]; exact a3, by rw [e0_z]; exact a4, by rw [e1]; exact a5, by rw [e49]; exact a6, by rw [e72_z]; exact a7, by rw [e72_z]; exact a8, by rw [e79]; exact a9, by rw [e28_z]; exact a10, by rw [e28_z]; exact a11⟩, fun q_z q0 qk => (hsh q_z q0 qk).1, fun x_z x0_z x1_z => by rw [e73]; exact c_z x_z x0_z x1_z, fun i_z i0_z i1_z => by rw [e82]; exact d_z i_z i0_z i1_z, pool_eq (fun i_z _ _ => hpc i_z) e_z⟩, ⟨⟨by rw [e28_z]; exact m1_z, by rw [e28_z]; exact m2_z, by rw [e28_z]; exact m3_z, by rw [e28_z]; exact m4_z, by rw [e0_z]; exact m7_z⟩, fun q_z q0 qk => (hsh q_z q0 qk).2, fun i_z i0_z i1_z => by rw [hpc i_z]; exact m6_z i_z i0_z i1_z, m8_z.of (fun g_z j_z gk => hh gk (by decide) (by decide) (by decide) (by decide) j_z) (e0_z 5) (hh kk47 (by decide) (by decide) (by decide) (by decide)) (fun k_z j_z k0_z k1_z => hh (kkK k0_z k1_z) (by decide) (by decide) (by decide) (by decide) j_z)⟩⟩
theorem tv_trX {s : cx_Sd 12} {ks : List (Fin 12)} {A : pm_A} {g : Int} (h : TrX s ks A g) {k i j : Fin 12} (hk : (k.1 : Int) < A g 0) (hj : (j.1 : Int) < A g 0) (hi : (i.1 : Int) < bgW A g) : cr_turnB (cr_bs s.b ks) k i j = tvT (A (A g 2)) k.1 i.1 j.1 := by
  have h6 := fX_1_1 h.1 h.2.1.1 h.2.1.2
  have b1 := (h.2.2.2.1 i j hj).1 hi
  have b2 := (h.2.2.2.1 i k hk).1 hi
  have b3 := (h.2.2.2.1 k j hj).1 (by unfold bgW; omega)
  unfold cr_turnB tvT teX alg
  by_cases e_z : i = k ∨ j = k
  · rw [if_pos e_z, if_pos (by rcases e_z with e_z | e_z; exact Or.inl (by rw [e_z]); exact Or.inr (by rw [e_z])), b1]
  · rw [if_neg e_z, if_neg (fun e2 => e_z (by rcases e2 with e2 | e2; exact Or.inl (Fin.ext (by omega)); exact Or.inr (Fin.ext (by omega)))), b1, b2, b3]
    generalize A (A g 2) ((i.1 : Int) * 6 + (k.1 : Int)) = a_z
    generalize A (A g 2) ((k.1 : Int) * 6 + (j.1 : Int)) = b_z
    generalize A (A g 2) ((i.1 : Int) * 6 + (j.1 : Int)) = c_z
    unfold cx_pos
    by_cases h1 : 0 < a_z
    · rw [Int.toNat_of_nonneg (by omega)]
      by_cases h2 : 0 < b_z
      · rw [if_pos (Or.inl ⟨h1, h2⟩), show ((a_z.natAbs : Nat) : Int) = a_z by omega, show (-b_z).toNat = 0 by omega]; show c_z + (a_z * b_z + a_z * 0) = c_z + a_z * b_z; omega
      · rw [if_neg (by omega), Int.toNat_of_nonneg (by omega), Int.mul_neg]; omega
    · rw [show a_z.toNat = 0 by omega]
      by_cases h2 : a_z < 0 ∧ b_z < 0
      · rw [if_pos (Or.inr h2), show ((a_z.natAbs : Nat) : Int) = -a_z by omega, Int.toNat_of_nonneg (by omega), Int.neg_mul, Int.mul_neg]; show c_z + (0 * b_z + _) = _; omega
      · rw [if_neg (by omega)]
        by_cases h3 : a_z = 0
        · rw [h3]; show c_z + (0 * b_z + 0 * _) = c_z + 0; omega
        · rw [show (-b_z).toNat = 0 by omega]; show c_z + (0 * b_z + a_z * 0) = c_z + 0; omega
def sePX (A : pm_A) (g L k : Int) (r : pm_R) : Prop := r.1 = none ∧ gH wX r.2 ∧ (∀ c_z j_z : Int, ¬ c_z = A g 2 → r.2 c_z j_z = swp A L k c_z j_z) ∧ ∀ a_z b_z : Int, 0 ≤ a_z → a_z < bgW A g → 0 ≤ b_z → b_z < A g 0 → r.2 (A g 2) (a_z * 6 + b_z) = tvT (A (A g 2)) k a_z b_z
theorem settle_exX {A : pm_A} {g L o k : Int} (h : StE A) (ho : own g L o) (k0 : 0 ≤ k) (k1 : k < A g 0) (hb : tbB (A (A g 2)) (bgW A g) (A g 0)) : Cl pmt (an_sh wX) 47 [(2, 28), (2, g), (0, k)] A (sePX A g L k) := by
  have ok_z := own_k ho
  have eL := own_L ho h.2.1
  have p6_z := fX_1_0 h.1 ok_z.1.1 ok_z.1.2
  have h6 := fX_1_1 h.1 ok_z.1.1 ok_z.1.2
  have t2_z := fX_1_2 h.1 ok_z.1.1 ok_z.1.2
  have f0_z := fX_4_0 h.1 (r := 28) (by omega) kk28
  have sg := sw_gH h.1 ho k0 (show k ≤ 5 by omega)
  have s12 := shX_12 ok_z.2.1.2
  have s2_z := shX_2 f0_z.2
  have eg : ∀ j_z : Int, swp A L k g j_z = A g j_z := fun j_z => by
    unfold swp
    rw [upd_ne (knd ok_z.1.2 kk28 (by decide)), upd_ne (knd ok_z.1.2 ok_z.2.1.2 (by decide))]
  have et : ∀ j_z : Int, swp A L k (A g 2) j_z = A (A g 2) j_z := fun j_z => by
    unfold swp
    rw [upd_ne (knd t2_z.2 kk28 (by decide)), upd_ne (knd t2_z.2 ok_z.2.1.2 (by decide))]
  refine Cl.of (Nat.le_of_ble_eq_true rfl) ?_
  refine wq_ok (full := o_X5_settle) srt_settle (fr := []) (cuts := [22]) (J := fun pc st_z => pc = 22 ∧ ∃ v3, st_z = ([(2, 28), (2, g), (0, k), v3], [], pm_upd (pm_upd A (A g 4) k (A 28 0)) 28 0 (A (A g 4) k))) ?_ 20 0 _ ?_
  · rintro pc st_z ⟨rfl, v3, rfl⟩
    rw [eL]
    show Tm pmt (an_sh wX) o_X5_settle 22 ([(2, 28), (2, g), (0, k), v3], [], swp A L k) (sePX A g L k)
    generalize hB_z : swp A L k = B_z at sg eg et
    refine wq_ok srt_settle (fr := []) (cuts := []) (J := fun pc st_z => False) (fun _ _ h => h.elim) 20 22 _ ?_
    refine ⟨oX_1 ok_z.1.1 ok_z.1.2 2 rfl, ?_⟩
    refine ⟨oX_1 ok_z.1.1 ok_z.1.2 0 rfl, ?_⟩
    refine ⟨oX_1 ok_z.1.1 ok_z.1.2 1 rfl, ?_⟩
    have e0_z := eg 0
    have e1 := eg 1
    refine ⟨⟨by omega, by omega⟩, ?_⟩
    refine ⟨oX_1 ok_z.1.1 ok_z.1.2 0 rfl, ?_⟩
    refine ⟨rfl, ?_⟩
    refine (turnTable_ex (A := B_z) (t := B_z g 2) (R := B_z g 0 + B_z g 1) (P := B_z g 0) (k := k) sg.1 ⟨by rw [eg 2]; exact t2_z, ?_, ⟨k0, by omega⟩, by omega, by omega, by omega⟩).imp ?_
    · rw [eg 0, eg 1, eg 2]
      intro a_z b_z a0_z a1_z b0 b1
      rw [et]
      exact hb a_z b_z a0_z a1_z b0 b1
    · rintro ⟨r1_z, C_z⟩ ⟨g1, ⟨g2, g3_z⟩, g4⟩
      simp only at g1 g2 g3_z g4
      subst g1
      rw [eg 2] at g3_z g4
      rw [eg 0, eg 1] at g4
      refine ⟨rfl, g2, fun c_z j_z hc_z => by rw [hB_z]; exact g3_z c_z j_z hc_z, fun a_z b_z a0_z a1_z b0 b1 => ?_⟩
      show C_z (A g 2) (a_z * 6 + b_z) = _
      rw [g4 a_z b_z a0_z a1_z b0 b1]
      have hT_z : B_z (A g 2) = A (A g 2) := funext et
      rw [hT_z]
  · refine ⟨oX_1 ok_z.1.1 ok_z.1.2 4 rfl, ?_⟩
    refine ⟨aX_12 (by rw [eL]; exact ok_z.2.1.1) (by rw [eL]; exact ok_z.2.1.2) k0 (by omega), ?_⟩
    refine ⟨oX_1 ok_z.1.1 ok_z.1.2 4 rfl, ?_⟩
    refine ⟨oX_4 (by omega) kk28 0 rfl, ?_⟩
    refine ⟨⟨by rw [eL]; exact ok_z.2.1.1, by rw [eL, s12], by rw [eL, s12], k0, by rw [eL, s12]; simp only; omega, f0_z.1, by rw [s2_z], by rw [s2_z]⟩, ?_⟩
    refine ⟨oX_4 (by omega) kk28 0 rfl, ?_⟩
    exact ⟨rfl, _, rfl⟩
theorem swp_ne {A : pm_A} {L k r j : Int} (h1 : ¬ r = L) (h2 : ¬ r = 28) : swp A L k r j = A r j := by
  unfold swp
  rw [upd_ne h2, upd_ne h1]
theorem StE.swap {A C : pm_A} {g L o k : Int} (h : StE A) (ho : own g L o) (k0 : 0 ≤ k) (k1 : k ≤ 5) (hC : gH wX C) (hf : ∀ c_z j_z : Int, ¬ c_z = A g 2 → C c_z j_z = swp A L k c_z j_z) : StE C := by
  have ok_z := own_k ho
  have t2_z := fX_1_2 h.1 ok_z.1.1 ok_z.1.2
  have sA := sw_AL h.2.1 ho k0 k1
  have hh : ∀ {r_z : Int} {l : Nat}, wX.2 r_z = l → ¬ l = 10 → ∀ j_z : Int, C r_z j_z = swp A L k r_z j_z := fun hr n1_z j_z => hf _ j_z (knd hr t2_z.2 n1_z)
  have hpc : ∀ i_z, pc C i_z = pc (swp A L k) i_z := fun i_z => by
    unfold pc
    rw [hh kk4 (by decide), hh kk52 (by decide), hh kk28 (by decide)]
  obtain ⟨⟨a1_z, a2, a3, a4, a5, a6, a7, a8, a9, a10, a11⟩, b_z, c_z, d_z, e_z⟩ := sA
  obtain ⟨_, _, ⟨m1_z, m2_z, m3_z, m4_z, m7_z⟩, m5_z, m6_z, m8_z⟩ := h
  have e28_z : ∀ j_z : Int, ¬ j_z = 0 → swp A L k 28 j_z = A 28 j_z := fun j_z hj => by
    unfold swp
    rw [upd_n2 hj, upd_ne (knd kk28 ok_z.2.1.2 (by decide))]
  refine ⟨hC, ⟨⟨by rw [hh kk0 (by decide)]; exact a1_z, by rw [hh kk0 (by decide)]; exact a2, by rw [hh kk0 (by decide)]; exact a3, by rw [hh kk0 (by decide)]; exact a4, by rw [hh kk1 (by decide)]; exact a5, by rw [hh kk49 (by decide)]; exact a6, by rw [hh kk72 (by decide)]; exact a7, by rw [hh kk72 (by decide)]; exact a8, by rw [hh kk79 (by decide)]; exact a9, by rw [hh kk28 (by decide)]; exact a10, by rw [hh kk28 (by decide)]; exact a11⟩, fun q_z q0 qk => by rw [hh qk (by decide)]; exact b_z q_z q0 qk, fun x_z x0_z x1_z => by rw [hh kk73 (by decide)]; exact c_z x_z x0_z x1_z, fun i_z i0_z i1_z => by rw [hh kk82 (by decide)]; exact d_z i_z i0_z i1_z, pool_eq (fun i_z _ _ => hpc i_z) e_z⟩, ⟨⟨?_, ?_, ?_, ?_, ?_⟩, fun q_z q0 qk => ?_, fun i_z i0_z i1_z => ?_, m8_z.of (fun g j_z gk => ?_) ?_ (fun j_z => ?_) (fun k j_z k0 k1 => ?_)⟩⟩
  · rw [hh kk28 (by decide), e28_z 3 (by omega)]; exact m1_z
  · rw [hh kk28 (by decide), e28_z 4 (by omega)]; exact m2_z
  · rw [hh kk28 (by decide), e28_z 5 (by omega)]; exact m3_z
  · rw [hh kk28 (by decide), e28_z 6 (by omega)]; exact m4_z
  · rw [hh kk0 (by decide), swp_ne (knd kk0 ok_z.2.1.2 (by decide)) (by omega)]; exact m7_z
  · rw [hh qk (by decide), swp_ne (knd qk ok_z.2.1.2 (by decide)) (knd qk kk28 (by decide))]; exact m5_z q_z q0 qk
  · rw [hpc i_z, sw_pc ho k0 k1 i0_z i1_z]
    have h9 := sw_3 o k i_z
    have ho6 := ok_z.2.2
    exact m6_z _ (by omega) (by omega)
  · rw [hh gk (by decide), swp_ne (knd gk ok_z.2.1.2 (by decide)) (knd gk kk28 (by decide))]
  · rw [hh kk0 (by decide), swp_ne (knd kk0 ok_z.2.1.2 (by decide)) (by omega)]
  · rw [hh kk47 (by decide), swp_ne (knd kk47 ok_z.2.1.2 (by decide)) (by omega)]
  · rw [hh (kkK k0 k1) (by decide), swp_ne (by rcases ho with ⟨_, rfl, _⟩ | ⟨_, rfl, _⟩ <;> omega) (by omega)]
theorem TrX.next {s : cx_Sd 12} {ks : List (Fin 12)} {k : Fin 12} {A B C : pm_A} {g L o : Int} (hT : TrX s ks A g) (hS : StE A) (ho : own g L o) (hk : (k.1 : Int) < A g 0) (hF : exF A B 28) (hit : itB (A (A g 2)) (bgW A g) (A g 0) k.1) (f0 : B (A 28 0) 0 = bgW A g) (fs : srX B (A 28 0)) (fc : cfX B (A 28 0)) (fv : ∀ x_z, (cr_gp s.b (ks ++ [k]) x_z).1 k = VX B (A 28 0) x_z) (hP : sePX B g L k.1 (none, C)) : TrX s (ks ++ [k]) C g := by
  have h3 := hS.ex ho
  have hTB := hT.keep h3 hF
  obtain ⟨e1, e2, e3, e4_z⟩ := hF.gs hT.1 h3
  obtain ⟨_, c1_z, c2_z, c3_z⟩ := hP
  simp only at c1_z c2_z c3_z
  have ok_z := own_k ho
  have eL := own_L ho hS.2.1
  have p6_z := fX_1_0 hT.1 ok_z.1.1 ok_z.1.2
  have t2_z := fX_1_2 hT.1 ok_z.1.1 ok_z.1.2
  have eW : bgW B g = bgW A g := by unfold bgW; rw [e2 0, e2 1]
  have hT0 := hT
  obtain ⟨hg, hgk, h1, hb_z, hks, h9, ha_z, hl⟩ := hT
  rw [e2 2] at c2_z c3_z
  rw [eW, e2 0] at c3_z
  have hTT : B (A g 2) = A (A g 2) := funext e3
  rw [hTT] at c3_z
  have cg : ∀ j_z : Int, C g j_z = A g j_z := fun j_z => by
    rw [c2_z g j_z (knd ok_z.1.2 t2_z.2 (by decide)), swp_ne (knd ok_z.1.2 ok_z.2.1.2 (by decide)) (knd ok_z.1.2 kk28 (by decide))]
    exact e2 j_z
  have cW : bgW C g = bgW A g := by unfold bgW; rw [cg 0, cg 1]
  have cL : ∀ i_z : Int, C L i_z = if i_z = (k.1 : Int) then A 28 0 else A L i_z := fun i_z => by
    rw [c2_z L i_z (knd ok_z.2.1.2 t2_z.2 (by decide))]
    unfold swp
    rw [upd_ne (knd ok_z.2.1.2 kk28 (by decide))]
    by_cases e_z : i_z = (k.1 : Int)
    · rw [if_pos e_z, e_z, upd_at, e1 0]
    · rw [if_neg e_z, upd_n2 e_z]
      have h5 := e4_z i_z
      rw [eL] at h5
      exact h5
  have csm : ∀ a_z : Int, 0 ≤ a_z → wX.2 a_z = 2 → sme B C a_z := fun a_z a0_z ak => by
    have a2 := fX_2_2 hF.1 a0_z ak
    have a3 := fX_2_3 hF.1 a0_z ak
    refine ⟨fun j_z => ?_, fun j_z => ?_, fun j_z => ?_⟩
    · rw [c2_z a_z j_z (knd ak t2_z.2 (by decide))]; exact swp_ne (knd ak ok_z.2.1.2 (by decide)) (knd ak kk28 (by decide))
    · rw [c2_z _ j_z (knd a2.2 t2_z.2 (by decide))]; exact swp_ne (knd a2.2 ok_z.2.1.2 (by decide)) (knd a2.2 kk28 (by decide))
    · rw [c2_z _ j_z (knd a3.2 t2_z.2 (by decide))]; exact swp_ne (knd a3.2 ok_z.2.1.2 (by decide)) (knd a3.2 kk28 (by decide))
  refine ⟨c1_z, hgk, by rw [cg 0]; exact h1, fun i_z j_z hj => ?_, fun q_z hq => ?_, fun v_z q_z hq => h9 v_z q_z (by rw [cg 0] at hq; exact hq), fun i_z j_z i0_z i1_z j0 j1 => ?_, fun i_z hi_z => ?_⟩
  · rw [cg 0] at hj
    rw [cW, cg 2, cr_bs_snoc]
    refine ⟨fun hi_z => ?_, fun hi_z => ?_⟩
    · rw [c3_z i_z.1 j_z.1 (by omega) hi_z (by omega) hj]
      exact tv_trX hT0 hk hj hi_z
    · have z1 := (hb_z i_z j_z hj).2 hi_z
      have z2 := (hb_z i_z k hk).2 hi_z
      unfold cr_turnB
      rw [z1, z2]
      by_cases e_z : i_z = k ∨ j_z = k
      · rw [if_pos e_z]; rfl
      · rw [if_neg e_z]; show (0 : Int) + (((0 : Nat) : Int) * _ + 0 * _) = 0; rw [show ((0 : Nat) : Int) = 0 from rfl, Int.zero_mul, Int.zero_mul]; rfl
  · rw [cg 0]
    rcases List.mem_append.1 hq with h_z | h_z
    · exact hks q_z h_z
    · simp at h_z; rw [h_z]; exact hk
  · rw [cW] at i1_z
    rw [cg 0] at j1
    rw [cg 2, c3_z i_z j_z i0_z i1_z j0 j1]
    unfold tvT
    by_cases e_z : i_z = (k.1 : Int) ∨ j_z = (k.1 : Int)
    · rw [if_pos e_z]
      have := ha_z i_z j_z i0_z i1_z j0 j1
      omega
    · rw [if_neg e_z]
      exact hit i_z j_z i0_z i1_z j0 j1 (fun q_z => e_z (Or.inl q_z)) (fun q_z => e_z (Or.inr q_z))
  · rw [cg 0] at hi_z
    rw [cg 4, eL, cL i_z.1, cW]
    by_cases e_z : i_z = k
    · subst e_z
      rw [if_pos rfl]
      have kf := fX_4_0 hg (r := 28) (by omega) kk28
      have sm_z := csm _ kf.1 kf.2
      exact ⟨sm_z.sr fs, sm_z.cf fc, by rw [sm_z.1 0]; exact f0, fun x_z => by rw [VX_of sm_z x_z]; exact fv x_z⟩
    · rw [if_neg (fun q_z => e_z (Fin.ext (by omega)))]
      have l4 := fX_1_4 hg hgk.1 hgk.2
      have e0_z := eX_12 hg l4.1 l4.2 (j := (i_z.1 : Int)) (by omega) (by omega)
      rw [eL] at e0_z
      obtain ⟨l1, l2, l3, l5⟩ := hTB.2.2.2.2.2.2.2 i_z (by rw [e2 0]; exact hi_z)
      rw [e2 4, e4_z, eL, eW] at l3
      rw [e2 4, e4_z, eL] at l1 l2 l5
      have sm_z := csm _ e0_z.1 e0_z.2
      refine ⟨sm_z.sr l1, sm_z.cf l2, by rw [sm_z.1 0]; exact l3, fun x_z => ?_⟩
      rw [cr_gp_snoc]
      show cr_stepv (cr_bs s.b ks) k (cr_gp s.b ks x_z).1 i_z = _
      rw [cr_step_ne _ _ e_z, l5 x_z, VX_of sm_z x_z]
