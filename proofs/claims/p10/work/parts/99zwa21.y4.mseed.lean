/-! the reference's leads, seed, exactly -/
def ldq_post (B : pm_A) (i j : Int) (r : pm_R) : Prop := lds_post B i j r ∧ ∀ k_z : Int, r.2 7 k_z = B 7 k_z + ldc i j k_z
theorem leads_exq {B : pm_A} {i j : Int} (hB : gH wM B) (i0 : -1 ≤ i) (i1 : i ≤ 5) (j0 : -1 ≤ j) (j1 : j ≤ 5) (h9 : ∀ k_z : Int, 0 ≤ k_z → k_z < 72 → -100 ≤ B 7 k_z ∧ B 7 k_z ≤ 100) : Cl pmt (an_sh wM) 161 [(2, 0), (0, i), (0, j)] B (ldq_post B i j) := by
  have c14a := pM_14 hB
  have hsame : i = -1 ∨ j = -1 → ldq_post B i j (none, B) := fun hz => ⟨⟨rfl, hB, fun _ _ _ => rfl, fun k_z => by show -2 ≤ B 7 k_z - B 7 k_z ∧ B 7 k_z - B 7 k_z ≤ 2; omega, fun k_z => Or.inr rfl⟩, fun k_z => by show B 7 k_z = B 7 k_z + ldc i j k_z; rw [ldc_n k_z hz]; omega⟩
  have h26 : 0 ≤ i → 0 ≤ j → ∀ C_z, C_z = pm_upd B 7 (6 * i + j) (B 7 (6 * i + j) + 1) → Tm pmt (an_sh wM) o_X10_leads 26 ([(2, 0), (0, i), (0, j)], [], C_z) (ldq_post B i j) := fun i0 j0 C_z hC => by
    have b1 := h9 (6 * i + j) (by omega) (by omega)
    have b2 := h9 (6 * j + i) (by omega) (by omega)
    have hg : gH wM C_z := by rw [hC]; exact uM_7 hB kn7 (by omega) (by omega)
    have c14_z := pM_14 hg
    have hk : ∀ k_z, (k_z = 6 * i + j ∧ C_z 7 k_z = B 7 k_z + 1) ∨ C_z 7 k_z = B 7 k_z := fun k_z => by
      rw [hC]
      by_cases e_z : k_z = 6 * i + j
      · rw [e_z, upd_at]; exact Or.inl ⟨rfl, rfl⟩
      · rw [upd_o (by omega)]; exact Or.inr rfl
    have hx := hk (6 * j + i)
    have hend : ∀ D_z, D_z = pm_upd C_z 7 (6 * j + i) (C_z 7 (6 * j + i) - 1) → ldq_post B i j (none, D_z) := fun D_z hD => by
      have hk2 : ∀ k_z, (k_z = 6 * j + i ∧ D_z 7 k_z = C_z 7 k_z - 1) ∨ D_z 7 k_z = C_z 7 k_z := fun k_z => by
        rw [hD]
        by_cases e_z : k_z = 6 * j + i
        · rw [e_z, upd_at]; exact Or.inl ⟨rfl, rfl⟩
        · rw [upd_o (by omega)]; exact Or.inr rfl
      refine ⟨⟨rfl, by rw [hD]; exact uM_7 hg kn7 (by omega) (by omega), fun q_z k_z hq => ?_, fun k_z => ?_, fun k_z => ?_⟩, fun k_z => ?_⟩
      · show D_z q_z k_z = B q_z k_z
        rw [hD, upd_o (by omega), hC, upd_o (by omega)]
      · show -2 ≤ D_z 7 k_z - B 7 k_z ∧ D_z 7 k_z - B 7 k_z ≤ 2
        have a_z := hk k_z
        have b_z := hk2 k_z
        omega
      · show _ ∨ D_z 7 k_z = B 7 k_z
        have a_z := hk k_z
        have b_z := hk2 k_z
        omega
      · show D_z 7 k_z = B 7 k_z + ldc i j k_z
        rw [ldc_y k_z (by omega) (by omega)]
        have a_z : C_z 7 k_z = B 7 k_z + (if k_z = 6 * i + j then 1 else 0) := by
          rw [hC]
          by_cases e_z : k_z = 6 * i + j
          · rw [e_z, upd_at, if_pos rfl]
          · rw [upd_o (by omega), if_neg e_z]; omega
        have b_z : D_z 7 k_z = C_z 7 k_z - (if k_z = 6 * j + i then 1 else 0) := by
          rw [hD]
          by_cases e_z : k_z = 6 * j + i
          · rw [e_z, upd_at, if_pos rfl]
          · rw [upd_o (by omega), if_neg e_z]; omega
        rw [b_z, a_z]; omega
    refine wq_ok srt_Mleads (fr := []) (cuts := []) (J := fun _ _ => False) ?_ 17 26 _ ?_
    · intro pc st_z h_z; exact h_z.elim
    · refine ⟨oM_0 (by omega) km0 14 rfl, ?_⟩
      refine ⟨⟨by omega, by omega⟩, ?_⟩
      refine ⟨⟨by omega, by omega⟩, ?_⟩
      refine ⟨aM_7 (r := C_z 0 14) (by rw [c14_z]; omega) (by rw [c14_z]; exact kn7) (by omega) (by omega), ?_⟩
      have e1 : C_z (C_z 0 14) ((6 * j) + i) = C_z 7 ((6 * j) + i) := by rw [c14_z]
      refine ⟨⟨by omega, by omega⟩, ?_⟩
      refine ⟨tM_7 (r := C_z 0 14) (by rw [c14_z]; omega) (by rw [c14_z]; exact kn7) (by omega) (by omega) rfl, ?_⟩
      exact (by rw [c14_z]; exact hend _ rfl)
  have c14_z := c14a
  have b1 : 0 ≤ i → 0 ≤ j → -100 ≤ B 7 (6 * i + j) ∧ B 7 (6 * i + j) ≤ 100 := fun i0 j0 => h9 (6 * i + j) (by omega) (by omega)
  refine Cl.of (Nat.le_of_ble_eq_true rfl) ?_
  refine wq_ok (full := o_X10_leads) srt_Mleads (fr := []) (cuts := [26]) (J := fun pc st_z => (pc = 26 ∧ (¬ i = ((-1))) ∧ (¬ j = ((-1))) ∧ st_z = ([(2, 0), (0, i), (0, j)], [], pm_upd B (B 0 14) ((6 * i) + j) ((B (B 0 14) ((6 * i) + j)) + 1)))) ?_ 23 0 _ ?_
  · rintro pc st_z (⟨rfl, h0, h1, rfl⟩)
    rw [c14_z]
    exact h26 (by omega) (by omega) _ rfl
  · refine ⟨fun h0 => ?_, fun h0 => ?_⟩
    · exact hsame (by omega)
    · refine ⟨fun h1 => ?_, fun h1 => ?_⟩
      · refine ⟨oM_0 (by omega) km0 14 rfl, ?_⟩
        refine ⟨⟨by omega, by omega⟩, ?_⟩
        refine ⟨⟨by omega, by omega⟩, ?_⟩
        refine ⟨aM_7 (r := B 0 14) (by rw [c14_z]; omega) (by rw [c14_z]; exact kn7) (by omega) (by omega), ?_⟩
        have e1 : B (B 0 14) ((6 * i) + j) = B 7 ((6 * i) + j) := by rw [c14_z]
        refine ⟨(by have := b1 (by omega) (by omega); exact ⟨by omega, by omega⟩), ?_⟩
        refine ⟨tM_7 (r := B 0 14) (by rw [c14_z]; omega) (by rw [c14_z]; exact kn7) (by omega) (by omega) rfl, ?_⟩
        exact ⟨rfl, h0, h1, rfl⟩
      · exact hsame (by omega)
def sdK (A B : pm_A) (sl n t : Int) : Prop := sdJ A B sl t ∧ (∀ k_z : Int, 0 ≤ k_z → k_z < 72 → B 7 k_z = tsum (ctr n (fcs A sl)) t.toNat k_z) ∧ B 0 12 = n - 3 ∧ B 0 13 = 0
theorem sdK.up {A B : pm_A} {sl n t u : Int} (h : sdK A B sl n t) (t0 : 0 ≤ t) (tu : t ≤ u) (hz : ∀ v_z : Int, t ≤ v_z → v_z < u → ∀ a_z b_z c_z : Int, 0 ≤ a_z → a_z < b_z → b_z < c_z → c_z < n → ¬ v_z = 100 * a_z + 10 * b_z + c_z) : sdK A B sl n u :=
  ⟨h.1.mono tu, fun k_z k0_z k1_z => by rw [ts_to t0 tu hz]; exact h.2.1 k_z k0_z k1_z, h.2.2⟩
theorem sdK.no {A B : pm_A} {sl n a b c : Int} (n1 : n ≤ 10) (a0 : 0 ≤ a) (ab : a < b) (bc : b < c) (cn : c < n) (h : sdK A B sl n (100 * a + 10 * b + c)) (hn : ¬ sdT n (fcs A sl) a b c) : sdK A B sl n (100 * a + 10 * b + c + 1) :=
  ⟨h.1.mono (by omega), fun k_z k0_z k1_z => by rw [ts_s (by omega), ctr_n n1 a0 ab bc cn hn, ← h.2.1 k_z k0_z k1_z]; omega, h.2.2⟩
theorem plV_pv {F : Int → Int} {f p : Int} (h : plV F f p) : p = pvF F f := by
  unfold pvF
  rcases h with ⟨h1, h2⟩ | ⟨⟨_, h1, h2⟩, _⟩
  · rw [if_neg (by omega)]; exact h1
  · rw [if_pos h1]; exact h2
theorem sdK.step {A B B1 B2 B3 : pm_A} {sl n a b c p7 p8 p9 : Int} (n1 : n ≤ 10) (cn : c < n) (hs : sdT n (fcs A sl) a b c) (h : sdK A B sl n (100 * a + 10 * b + c)) (ht : tri3 a b c) (h7 : plV (fcs A sl) (10 * a + b) p7) (h8 : plV (fcs A sl) (10 * b + c) p8) (h9 : plV (fcs A sl) (10 * a + c) p9) (l1 : ldq_post B p7 p8 (none, B1)) (l2 : ldq_post B1 p8 p9 (none, B2)) (l3 : ldq_post B2 p9 p7 (none, B3)) : sdK A B3 sl n (100 * a + 10 * b + c + 1) := by
  have o12 : ∀ j_z : Int, B3 0 j_z = B 0 j_z := fun j_z => by
    have f1_z := l1.1.2.2.1 0 j_z (by omega)
    have f2_z := l2.1.2.2.1 0 j_z (by omega)
    have f3_z := l3.1.2.2.1 0 j_z (by omega)
    simp only at f1_z f2_z f3_z
    rw [f3_z, f2_z, f1_z]
  refine ⟨h.1.step ht h7 h8 h9 l1.1 l2.1 l3.1, fun k_z k0_z k1_z => ?_, by rw [o12]; exact h.2.2.1, by rw [o12]; exact h.2.2.2⟩
  have e1 := l1.2 k_z
  have e2 := l2.2 k_z
  have e3 := l3.2 k_z
  simp only at e1 e2 e3
  unfold tri3 at ht
  rw [e3, e2, e1, h.2.1 k_z k0_z k1_z, ts_s (by omega), ctr_y n1 ht.1 ht.2.1 ht.2.2.1 cn hs, plV_pv h7, plV_pv h8, plV_pv h9]
  unfold ct3
  omega
def msQ (A : pm_A) (sl n : Int) (r : pm_R) : Prop := ri_post r ∧ ∃ B_z x_z, RI B_z ∧ sdF A B_z ∧ (∀ k_z : Int, 0 ≤ k_z → k_z < 72 → B_z 7 k_z = tsum (ctr n (fcs A sl)) 1000 k_z) ∧ (∀ k_z : Int, 0 ≤ k_z → k_z < 72 → -9 ≤ B_z 7 k_z ∧ B_z 7 k_z ≤ 9) ∧ (B_z 0 12 = n - 3 ∧ B_z 0 13 = 0) ∧ bgA (B_z 0 12) (B_z 7) x_z ∧ r.1 = some (0, if x_z = 0 then 1 else 0) ∧ (r.2 0 12 = B_z 0 12 ∧ r.2 0 13 = B_z 0 13 ∧ ∀ k_z : Int, 0 ≤ k_z → r.2 7 k_z = B_z 7 k_z) ∧ ((x_z = 0 ∧ r.2 0 7 = B_z 0 12 ∧ lsz (B_z 0 12) (B_z 7) (r.2 10)) ∨ (¬ x_z = 0 ∧ r.2 0 7 = A 0 7 ∧ ∀ j_z, r.2 10 j_z = A 10 j_z))
theorem kM7 (j : Int) : kcode wM 7 j = 10007 := by
  rw [kc_1 (show (an_sh wM 7).1 = 1 by rw [shM_7 kn7]), kn7]
theorem mbegin_fr {A : pm_A} (h : RI A) : Cl pmt (an_sh wM) 129 [(2, 0)] A (fun r_z => bz_post A r_z ∧ r_z.2 0 12 = A 0 12 ∧ r_z.2 0 13 = A 0 13 ∧ ∀ k_z : Int, 0 ≤ k_z → r_z.2 7 k_z = A 7 k_z) := by
  obtain ⟨k_z, r_z, c1_z, q_z⟩ := mbegin_ex h
  have f_z := (fm_begin c1_z (gK_of h.g)).2
  exact ⟨k_z, r_z, c1_z, q_z, f_z 0 12 (by omega) (by omega) (by rw [kMd 12]; exact nin rfl), f_z 0 13 (by omega) (by omega) (by rw [kMd 13]; exact nin rfl), fun k_z k0_z => f_z 7 k_z (by omega) k0_z (by rw [kM7]; exact nin rfl)⟩
theorem sdq_150 {A B : pm_A} {sl n z3 a b c : Int} (hs : sl = 0 ∨ sl = 1) (hA : gH wM A) (hcut : cntF (fcs A sl) 100 ≤ 6) (n1 : n ≤ 10) (cn : c < n) (hs3 : sdT n (fcs A sl) a b c) (ht : tri3 a b c) (hJ : sdK A B sl n (100 * a + 10 * b + c)) (H : ∀ C_z w7_z w8 w9, sdK A C_z sl n (100 * a + 10 * b + c + 1) → Tm pmt (an_sh wM) o_X10_seed 174 ([(2, 0), (0, sl), (0, n), (0, z3), (0, a), (0, b), (0, c), w7_z, w8, w9], [], C_z) (msQ A sl n)) {p7 p8 p9 : Int} (hp7 : plV (fcs A sl) (10 * a + b) p7) (hp8 : plV (fcs A sl) (10 * b + c) p8) (hp9 : plV (fcs A sl) (10 * a + c) p9) : Tm pmt (an_sh wM) o_X10_seed 150 ([(2, 0), (0, sl), (0, n), (0, z3), (0, a), (0, b), (0, c), (0, p7), (0, p8), (0, p9)], [], B) (msQ A sl n) := by
  have gB := hJ.1.1.1
  have mB : ∀ k_z : Int, 0 ≤ k_z → k_z < 72 → -100 ≤ B 7 k_z ∧ B 7 k_z ≤ 100 := fun k_z k0_z k1_z => by have := hJ.1.b9 k0_z k1_z; omega
  refine wq_ok srt_Mseed (fr := []) (cuts := [158]) (J := fun pc st_z => (pc = 158 ∧ ∃ B1, ldq_post B p7 p8 (none, B1) ∧ st_z = ([(2, 0), (0, sl), (0, n), (0, z3), (0, a), (0, b), (0, c), (0, p7), (0, p8), (0, p9)], [], B1))) ?_ 8 150 _ ?_
  · rintro pc st_z (⟨rfl, B1, lB1, rfl⟩)
    have gB1 := lB1.1.2.1
    have mB1 : ∀ k_z : Int, 0 ≤ k_z → k_z < 72 → -100 ≤ B1 7 k_z ∧ B1 7 k_z ≤ 100 := fun k_z k0_z k1_z => by have := hJ.1.b9 k0_z k1_z; have e1 := lB1.1.2.2.2.1 k_z; simp only at e1; omega
    refine wq_ok srt_Mseed (fr := []) (cuts := [166]) (J := fun pc st_z => (pc = 166 ∧ ∃ B2, ldq_post B1 p8 p9 (none, B2) ∧ st_z = ([(2, 0), (0, sl), (0, n), (0, z3), (0, a), (0, b), (0, c), (0, p7), (0, p8), (0, p9)], [], B2))) ?_ 8 158 _ ?_
    · rintro pc st_z (⟨rfl, B2, lB2, rfl⟩)
      have gB2 := lB2.1.2.1
      have mB2 : ∀ k_z : Int, 0 ≤ k_z → k_z < 72 → -100 ≤ B2 7 k_z ∧ B2 7 k_z ≤ 100 := fun k_z k0_z k1_z => by have := hJ.1.b9 k0_z k1_z; have e1 := lB1.1.2.2.2.1 k_z; have e2 := lB2.1.2.2.2.1 k_z; simp only at e1 e2; omega
      refine wq_ok srt_Mseed (fr := []) (cuts := [174]) (J := fun pc st_z => (pc = 174 ∧ ∃ B3, ldq_post B2 p9 p7 (none, B3) ∧ st_z = ([(2, 0), (0, sl), (0, n), (0, z3), (0, a), (0, b), (0, c), (0, p7), (0, p8), (0, p9)], [], B3))) ?_ 8 166 _ ?_
      · rintro pc st_z (⟨rfl, B3, lB3, rfl⟩)
        exact H B3 _ _ _ (hJ.step n1 cn hs3 ht hp7 hp8 hp9 lB1 lB2 lB3)
      · refine ⟨rM_0 (by omega) km0, ?_⟩
        refine (leads_exq (B := B2) (i := p9) (j := p7) gB2 (by rcases hp9 with e_z | e_z <;> omega) (by rcases hp9 with e_z | e_z <;> omega) (by rcases hp7 with e_z | e_z <;> omega) (by rcases hp7 with e_z | e_z <;> omega) mB2).imp ?_
        rintro ⟨r1_z, B3⟩ lB3
        have q1_z := lB3.1.1
        simp only at q1_z
        subst q1_z
        exact ⟨rfl, B3, lB3, rfl⟩
    · refine ⟨rM_0 (by omega) km0, ?_⟩
      refine (leads_exq (B := B1) (i := p8) (j := p9) gB1 (by rcases hp8 with e_z | e_z <;> omega) (by rcases hp8 with e_z | e_z <;> omega) (by rcases hp9 with e_z | e_z <;> omega) (by rcases hp9 with e_z | e_z <;> omega) mB1).imp ?_
      rintro ⟨r1_z, B2⟩ lB2
      have q1_z := lB2.1.1
      simp only at q1_z
      subst q1_z
      exact ⟨rfl, B2, lB2, rfl⟩
  · refine ⟨rM_0 (by omega) km0, ?_⟩
    refine (leads_exq (B := B) (i := p7) (j := p8) gB (by rcases hp7 with e_z | e_z <;> omega) (by rcases hp7 with e_z | e_z <;> omega) (by rcases hp8 with e_z | e_z <;> omega) (by rcases hp8 with e_z | e_z <;> omega) mB).imp ?_
    rintro ⟨r1_z, B1⟩ lB1
    have q1_z := lB1.1.1
    simp only at q1_z
    subst q1_z
    exact ⟨rfl, B1, lB1, rfl⟩
theorem sdq_117 {A B : pm_A} {sl n z3 a b c : Int} (hs : sl = 0 ∨ sl = 1) (hA : gH wM A) (hcut : cntF (fcs A sl) 100 ≤ 6) (n1 : n ≤ 10) (cn : c < n) (hs3 : sdT n (fcs A sl) a b c) (ht : tri3 a b c) (hJ : sdK A B sl n (100 * a + 10 * b + c)) (H : ∀ C_z w7 w8 w9, sdK A C_z sl n (100 * a + 10 * b + c + 1) → Tm pmt (an_sh wM) o_X10_seed 174 ([(2, 0), (0, sl), (0, n), (0, z3), (0, a), (0, b), (0, c), w7, w8, w9], [], C_z) (msQ A sl n)) {w7 w8 w9 : pm_V} : Tm pmt (an_sh wM) o_X10_seed 117 ([(2, 0), (0, sl), (0, n), (0, z3), (0, a), (0, b), (0, c), w7, w8, w9], [], B) (msQ A sl n) := by
  have ht2 := ht
  unfold tri3 at ht2
  refine wq_ok srt_Mseed (fr := []) (cuts := [126]) (J := fun pc st_z => (pc = 126 ∧ ∃ p7_z, plV (fcs A sl) (10 * a + b) p7_z ∧ st_z = ([(2, 0), (0, sl), (0, n), (0, z3), (0, a), (0, b), (0, c), w7, w8, w9], [(0, p7_z)], B))) ?_ 9 117 _ ?_
  · rintro pc st_z (⟨rfl, p7_z, hp7, rfl⟩)
    refine wq_ok srt_Mseed (fr := []) (cuts := [137]) (J := fun pc st_z => (pc = 137 ∧ ∃ p8, plV (fcs A sl) (10 * b + c) p8 ∧ st_z = ([(2, 0), (0, sl), (0, n), (0, z3), (0, a), (0, b), (0, c), (0, p7_z), w8, w9], [(0, p8)], B))) ?_ 10 126 _ ?_
    · rintro pc st_z (⟨rfl, p8, hp8, rfl⟩)
      refine wq_ok srt_Mseed (fr := []) (cuts := [148]) (J := fun pc st_z => (pc = 148 ∧ ∃ p9, plV (fcs A sl) (10 * a + c) p9 ∧ st_z = ([(2, 0), (0, sl), (0, n), (0, z3), (0, a), (0, b), (0, c), (0, p7_z), (0, p8), w9], [(0, p9)], B))) ?_ 10 137 _ ?_
      · rintro pc st_z (⟨rfl, p9, hp9, rfl⟩)
        refine wq_ok srt_Mseed (fr := []) (cuts := [150]) (J := fun pc st_z => (pc = 150 ∧ st_z = ([(2, 0), (0, sl), (0, n), (0, z3), (0, a), (0, b), (0, c), (0, p7_z), (0, p8), (0, p9)], [], B))) ?_ 6 148 _ ?_
        · rintro pc st_z (⟨rfl, rfl⟩)
          exact sdq_150 hs hA hcut n1 cn hs3 ht hJ H hp7 hp8 hp9
        · exact ⟨rfl, rfl⟩
      · refine ⟨rM_0 (by omega) km0, ?_⟩
        refine (placeOf_ex (A := B) (sl := sl) (x := a) (y := c) hJ.1.1.1 (by omega) (by omega) (by omega) (by omega) (by omega)).imp ?_
        rintro ⟨r1_z, C_z⟩ hpo
        obtain ⟨q1_z, p9, q2_z, hp9⟩ := po_plV hJ.1.1 hA hcut (by omega) (by omega) hpo
        simp only at q1_z q2_z
        subst q1_z
        subst q2_z
        exact ⟨rfl, p9, hp9, rfl⟩
    · refine ⟨rM_0 (by omega) km0, ?_⟩
      refine (placeOf_ex (A := B) (sl := sl) (x := b) (y := c) hJ.1.1.1 (by omega) (by omega) (by omega) (by omega) (by omega)).imp ?_
      rintro ⟨r1_z, C_z⟩ hpo
      obtain ⟨q1_z, p8, q2_z, hp8⟩ := po_plV hJ.1.1 hA hcut (by omega) (by omega) hpo
      simp only at q1_z q2_z
      subst q1_z
      subst q2_z
      exact ⟨rfl, p8, hp8, rfl⟩
  · refine ⟨rM_0 (by omega) km0, ?_⟩
    refine (placeOf_ex (A := B) (sl := sl) (x := a) (y := b) hJ.1.1.1 (by omega) (by omega) (by omega) (by omega) (by omega)).imp ?_
    rintro ⟨r1_z, C_z⟩ hpo
    obtain ⟨q1_z, p7_z, q2_z, hp7⟩ := po_plV hJ.1.1 hA hcut (by omega) (by omega) hpo
    simp only at q1_z q2_z
    subst q1_z
    subst q2_z
    exact ⟨rfl, p7_z, hp7, rfl⟩
theorem sdq_72 {A : pm_A} {sl n z3 a b : Int} (hs : sl = 0 ∨ sl = 1) (hA : gH wM A) (hcut : cntF (fcs A sl) 100 ≤ 6) (n9 : n ≤ 9) (hn : n = A 31 sl) (a0 : 0 ≤ a) (ab : a < b) (bn : b < n) (H : ∀ C_z w6_z w7_z w8 w9, sdK A C_z sl n (100 * a + 10 * b + 10) → Tm pmt (an_sh wM) o_X10_seed 180 ([(2, 0), (0, sl), (0, n), (0, z3), (0, a), (0, b), w6_z, w7_z, w8, w9], [], C_z) (msQ A sl n)) : ∀ (m_z : Nat) (c_z : Int) (w7_z w8 w9 : pm_V) (B_z : pm_A), (10 - c_z).toNat < m_z → b < c_z → c_z ≤ 10 → sdK A B_z sl n (100 * a + 10 * b + c_z) → Tm pmt (an_sh wM) o_X10_seed 72 ([(2, 0), (0, sl), (0, n), (0, z3), (0, a), (0, b), (0, c_z), w7_z, w8, w9], [], B_z) (msQ A sl n) := by
  intro m_z
  induction m_z with
  | zero => intro c_z w7_z w8 w9 B_z h_z; omega
  | succ m_z ih_z =>
    intro c_z w7_z w8 w9 B_z hm_z c0_z c1_z hJ
    have eF : fcs B_z sl = fcs A sl := fcs_sd hJ.1.1
    have e31_z : B_z 31 sl = n := by rw [hJ.1.1.2 31 sl (by omega) (by omega), hn]
    have h174 : c_z < n → ∀ C_z w7_z w8 w9, sdK A C_z sl n (100 * a + 10 * b + c_z + 1) → Tm pmt (an_sh wM) o_X10_seed 174 ([(2, 0), (0, sl), (0, n), (0, z3), (0, a), (0, b), (0, c_z), w7_z, w8, w9], [], C_z) (msQ A sl n) := fun hc_z C_z w7_z w8 w9 hC => by
      refine wq_ok srt_Mseed (fr := []) (cuts := [72]) (J := fun pc st_z => (pc = 72 ∧ st_z = ([(2, 0), (0, sl), (0, n), (0, z3), (0, a), (0, b), (0, c_z + 1), w7_z, w8, w9], [], C_z))) ?_ 7 174 _ ?_
      · rintro pc st_z (⟨rfl, rfl⟩)
        exact ih_z (c_z + 1) _ _ _ C_z (by omega) (by omega) (by omega) (hC.up (by omega) (by omega) (fun v_z v0_z v1_z x_z y_z z_z x0_z xy_z yz zn e_z => by omega))
      · refine ⟨⟨by omega, by omega⟩, ?_⟩
        exact ⟨rfl, rfl⟩
    refine wq_ok srt_Mseed (fr := []) (cuts := [87, 180]) (J := fun pc st_z => (pc = 180 ∧ (n ≤ c_z) ∧ st_z = ([(2, 0), (0, sl), (0, n), (0, z3), (0, a), (0, b), (0, c_z), w7_z, w8, w9], [], B_z)) ∨ (pc = 87 ∧ (c_z < n) ∧ ∃ x1_z : Int, ((x1_z = 1 ∧ side (B_z 31 sl) (fcs B_z sl) a b) ∨ (x1_z = 0 ∧ ¬ side (B_z 31 sl) (fcs B_z sl) a b)) ∧ st_z = ([(2, 0), (0, sl), (0, n), (0, z3), (0, a), (0, b), (0, c_z), w7_z, w8, w9], [(0, x1_z)], B_z))) ?_ 12 72 _ ?_
    · rintro pc st_z (⟨rfl, h0, rfl⟩ | ⟨rfl, hcn, x1_z, hx1, rfl⟩)
      · exact H B_z _ _ _ _ (hJ.up (by omega) (by omega) (fun v_z v0_z v1_z x_z y_z z_z x0_z xy_z yz zn e_z => by omega))
      · refine wq_ok srt_Mseed (fr := []) (cuts := [99, 174]) (J := fun pc st_z => (pc = 174 ∧ (x1_z = 0) ∧ st_z = ([(2, 0), (0, sl), (0, n), (0, z3), (0, a), (0, b), (0, c_z), w7_z, w8, w9], [], B_z)) ∨ (pc = 99 ∧ (¬ x1_z = 0) ∧ ∃ x2_z : Int, ((x2_z = 1 ∧ side (B_z 31 sl) (fcs B_z sl) b c_z) ∨ (x2_z = 0 ∧ ¬ side (B_z 31 sl) (fcs B_z sl) b c_z)) ∧ st_z = ([(2, 0), (0, sl), (0, n), (0, z3), (0, a), (0, b), (0, c_z), w7_z, w8, w9], [(0, x2_z)], B_z))) ?_ 10 87 _ ?_
        · rintro pc st_z (⟨rfl, h0, rfl⟩ | ⟨rfl, hz1, x2_z, hx2, rfl⟩)
          · refine h174 (by omega) B_z _ _ _ (hJ.no (by omega) a0 ab c0_z (by omega) (fun q_z => ?_))
            rw [e31_z, eF] at hx1
            rcases hx1 with ⟨e_z, _⟩ | ⟨_, e_z⟩
            · omega
            · exact e_z q_z.1
          · refine wq_ok srt_Mseed (fr := []) (cuts := [111, 174]) (J := fun pc st_z => (pc = 174 ∧ (x2_z = 0) ∧ st_z = ([(2, 0), (0, sl), (0, n), (0, z3), (0, a), (0, b), (0, c_z), w7_z, w8, w9], [], B_z)) ∨ (pc = 111 ∧ (¬ x2_z = 0) ∧ ∃ x3 : Int, ((x3 = 1 ∧ side (B_z 31 sl) (fcs B_z sl) a c_z) ∨ (x3 = 0 ∧ ¬ side (B_z 31 sl) (fcs B_z sl) a c_z)) ∧ st_z = ([(2, 0), (0, sl), (0, n), (0, z3), (0, a), (0, b), (0, c_z), w7_z, w8, w9], [(0, x3)], B_z))) ?_ 10 99 _ ?_
            · rintro pc st_z (⟨rfl, h0, rfl⟩ | ⟨rfl, hz2, x3, hx3, rfl⟩)
              · refine h174 (by omega) B_z _ _ _ (hJ.no (by omega) a0 ab c0_z (by omega) (fun q_z => ?_))
                rw [e31_z, eF] at hx2
                rcases hx2 with ⟨e_z, _⟩ | ⟨_, e_z⟩
                · omega
                · exact e_z q_z.2.1
              · refine wq_ok srt_Mseed (fr := []) (cuts := [117, 174]) (J := fun pc st_z => (pc = 117 ∧ (¬ x3 = 0) ∧ st_z = ([(2, 0), (0, sl), (0, n), (0, z3), (0, a), (0, b), (0, c_z), w7_z, w8, w9], [], B_z)) ∨ (pc = 174 ∧ (x3 = 0) ∧ st_z = ([(2, 0), (0, sl), (0, n), (0, z3), (0, a), (0, b), (0, c_z), w7_z, w8, w9], [], B_z))) ?_ 7 111 _ ?_
                · rintro pc st_z (⟨rfl, h0, rfl⟩ | ⟨rfl, h0, rfl⟩)
                  · refine sdq_117 hs hA hcut (by omega) (by omega) ⟨?_, ?_, ?_⟩ ⟨a0, ab, c0_z, by omega⟩ hJ (h174 (by omega))
                    · rw [e31_z, eF] at hx1
                      rcases hx1 with ⟨_, e_z⟩ | ⟨e_z, _⟩
                      · exact e_z
                      · omega
                    · rw [e31_z, eF] at hx2
                      rcases hx2 with ⟨_, e_z⟩ | ⟨e_z, _⟩
                      · exact e_z
                      · omega
                    · rw [e31_z, eF] at hx3
                      rcases hx3 with ⟨_, e_z⟩ | ⟨e_z, _⟩
                      · exact e_z
                      · omega
                  · refine h174 (by omega) B_z _ _ _ (hJ.no (by omega) a0 ab c0_z (by omega) (fun q_z => ?_))
                    rw [e31_z, eF] at hx3
                    rcases hx3 with ⟨e_z, _⟩ | ⟨_, e_z⟩
                    · omega
                    · exact e_z q_z.2.2
                · refine ⟨fun h0 => ?_, fun h0 => ?_⟩
                  · exact Or.inl (⟨rfl, h0, rfl⟩)
                  · exact Or.inr (⟨rfl, h0, rfl⟩)
            · refine ⟨fun h0 => ?_, fun h0 => ?_⟩
              · exact Or.inl (⟨rfl, h0, rfl⟩)
              · refine ⟨rM_0 (by omega) km0, ?_⟩
                refine (isSide_ex (A := B_z) (sl := sl) (x := a) (y := c_z) hJ.1.1.1 (by omega) (by omega) (by omega) (by omega) (by omega) (by omega)).imp ?_
                rintro ⟨r1_z, C_z⟩ ⟨q1_z, x3, q2_z, hx3⟩
                simp only at q1_z q2_z
                subst q1_z
                subst q2_z
                exact Or.inr (⟨rfl, h0, x3, hx3, rfl⟩)
        · refine ⟨fun h0 => ?_, fun h0 => ?_⟩
          · exact Or.inl (⟨rfl, h0, rfl⟩)
          · refine ⟨rM_0 (by omega) km0, ?_⟩
            refine (isSide_ex (A := B_z) (sl := sl) (x := b) (y := c_z) hJ.1.1.1 (by omega) (by omega) (by omega) (by omega) (by omega) (by omega)).imp ?_
            rintro ⟨r1_z, C_z⟩ ⟨q1_z, x2_z, q2_z, hx2⟩
            simp only at q1_z q2_z
            subst q1_z
            subst q2_z
            exact Or.inr (⟨rfl, h0, x2_z, hx2, rfl⟩)
    · refine ⟨fun h0 => ?_, fun h0 => ?_⟩
      · exact Or.inl (⟨rfl, h0, rfl⟩)
      · refine ⟨rM_0 (by omega) km0, ?_⟩
        refine (isSide_ex (A := B_z) (sl := sl) (x := a) (y := b) hJ.1.1.1 (by omega) (by omega) (by omega) (by omega) (by omega) (by omega)).imp ?_
        rintro ⟨r1_z, C_z⟩ ⟨q1_z, x1_z, q2_z, hx1⟩
        simp only at q1_z q2_z
        subst q1_z
        subst q2_z
        exact Or.inr (⟨rfl, h0, x1_z, hx1, rfl⟩)
theorem sdq_60 {A : pm_A} {sl n z3 a : Int} (hs : sl = 0 ∨ sl = 1) (hA : gH wM A) (hcut : cntF (fcs A sl) 100 ≤ 6) (n9 : n ≤ 9) (hn : n = A 31 sl) (a0 : 0 ≤ a) (an : a < n) (H : ∀ C_z w5 w6_z w7_z w8 w9, sdK A C_z sl n (100 * a + 100) → Tm pmt (an_sh wM) o_X10_seed 186 ([(2, 0), (0, sl), (0, n), (0, z3), (0, a), w5, w6_z, w7_z, w8, w9], [], C_z) (msQ A sl n)) : ∀ (m_z : Nat) (b_z : Int) (w6_z w7_z w8 w9 : pm_V) (B_z : pm_A), (10 - b_z).toNat < m_z → a < b_z → b_z ≤ 10 → sdK A B_z sl n (100 * a + 10 * b_z) → Tm pmt (an_sh wM) o_X10_seed 60 ([(2, 0), (0, sl), (0, n), (0, z3), (0, a), (0, b_z), w6_z, w7_z, w8, w9], [], B_z) (msQ A sl n) := by
  intro m_z
  induction m_z with
  | zero => intro b_z w6_z w7_z w8 w9 B_z h_z; omega
  | succ m_z ih_z =>
    intro b_z w6_z w7_z w8 w9 B_z hm_z b0 b1 hJ
    have h180 : b_z < n → ∀ C_z w6_z w7_z w8 w9, sdK A C_z sl n (100 * a + 10 * b_z + 10) → Tm pmt (an_sh wM) o_X10_seed 180 ([(2, 0), (0, sl), (0, n), (0, z3), (0, a), (0, b_z), w6_z, w7_z, w8, w9], [], C_z) (msQ A sl n) := fun hc_z C_z w6_z w7_z w8 w9 hC => by
      refine wq_ok srt_Mseed (fr := []) (cuts := [60]) (J := fun pc st_z => (pc = 60 ∧ st_z = ([(2, 0), (0, sl), (0, n), (0, z3), (0, a), (0, b_z + 1), w6_z, w7_z, w8, w9], [], C_z))) ?_ 7 180 _ ?_
      · rintro pc st_z (⟨rfl, rfl⟩)
        exact ih_z (b_z + 1) _ _ _ _ C_z (by omega) (by omega) (by omega) (hC.up (by omega) (by omega) (fun v_z v0_z v1_z x_z y_z z_z x0_z xy_z yz zn e_z => by omega))
      · refine ⟨⟨by omega, by omega⟩, ?_⟩
        exact ⟨rfl, rfl⟩
    refine wq_ok srt_Mseed (fr := []) (cuts := [72, 186]) (J := fun pc st_z => (pc = 186 ∧ (n ≤ b_z) ∧ st_z = ([(2, 0), (0, sl), (0, n), (0, z3), (0, a), (0, b_z), w6_z, w7_z, w8, w9], [], B_z)) ∨ (pc = 72 ∧ (b_z < n) ∧ st_z = ([(2, 0), (0, sl), (0, n), (0, z3), (0, a), (0, b_z), (0, b_z + 1), w7_z, w8, w9], [], B_z))) ?_ 12 60 _ ?_
    · rintro pc st_z (⟨rfl, h0, rfl⟩ | ⟨rfl, h0, rfl⟩)
      · exact H B_z _ _ _ _ _ (hJ.up (by omega) (by omega) (fun v_z v0_z v1_z x_z y_z z_z x0_z xy_z yz zn e_z => by rcases Int.lt_trichotomy x_z a with q_z | q_z | q_z <;> omega))
      · exact sdq_72 hs hA hcut n9 hn a0 b0 (by omega) (h180 (by omega)) _ (b_z + 1) _ _ _ B_z (Nat.lt_succ_self _) (by omega) (by omega) (hJ.up (by omega) (by omega) (fun v_z v0_z v1_z x_z y_z z_z x0_z xy_z yz zn e_z => by omega))
    · refine ⟨fun h0 => ?_, fun h0 => ?_⟩
      · exact Or.inl (⟨rfl, h0, rfl⟩)
      · refine ⟨⟨by omega, by omega⟩, ?_⟩
        exact Or.inr (⟨rfl, h0, rfl⟩)
theorem sdq_192 {A B : pm_A} {sl n : Int} (h : RI A) (hJ : sdK A B sl n 1000) {w1 w2 w3 w4 w5 w6 w7 w8 w9 : pm_V} : Tm pmt (an_sh wM) o_X10_seed 192 ([(2, 0), w1, w2, w3, w4, w5, w6, w7, w8, w9], [], B) (msQ A sl n) := by
  have hB_z : RI B := hJ.1.1.ri h (fun j_z j0 j1 => by have := hJ.1.b9 j0 j1; omega)
  refine wq_ok srt_Mseed (fr := []) (cuts := [196]) (J := fun pc st_z => (pc = 196 ∧ ∃ C_z x_z, RI C_z ∧ (bgA (B 0 12) (B 7) x_z ∧ (C_z 0 12 = B 0 12 ∧ C_z 0 13 = B 0 13 ∧ ∀ k_z : Int, 0 ≤ k_z → C_z 7 k_z = B 7 k_z) ∧ ((x_z = 0 ∧ C_z 0 7 = B 0 12 ∧ lsz (B 0 12) (B 7) (C_z 10)) ∨ (¬ x_z = 0 ∧ C_z 0 7 = B 0 7 ∧ ∀ j_z, C_z 10 j_z = B 10 j_z))) ∧ st_z = ([(2, 0), w1, w2, w3, w4, w5, w6, w7, w8, w9], [(0, x_z)], C_z))) ?_ 6 192 _ ?_
  · rintro pc st_z (⟨rfl, C_z, x_z, q2_z, ⟨q3_z, q4_z, q5_z⟩, rfl⟩)
    have q6_z : (x_z = 0 ∧ C_z 0 7 = B 0 12 ∧ lsz (B 0 12) (B 7) (C_z 10)) ∨ (¬ x_z = 0 ∧ C_z 0 7 = A 0 7 ∧ ∀ j_z, C_z 10 j_z = A 10 j_z) := q5_z.imp id (fun e_z => ⟨e_z.1, by rw [e_z.2.1, hJ.1.1.2 0 7 (by omega) (by omega)], fun j_z => by rw [e_z.2.2 j_z, hJ.1.1.2 10 j_z (by omega) (by omega)]⟩)
    have b9 : ∀ k_z : Int, 0 ≤ k_z → k_z < 72 → -9 ≤ B 7 k_z ∧ B 7 k_z ≤ 9 := fun k_z k0_z k1_z => by have := hJ.1.b9 k0_z k1_z; omega
    refine wq_ok srt_Mseed (fr := []) (cuts := []) (J := fun _ _ => False) ?_ 8 196 _ ?_
    · intro pc st_z h; exact h.elim
    · refine ⟨fun h0 => ?_, fun h0 => ?_⟩
      · exact ⟨rfl, ⟨⟨_, rfl⟩, q2_z⟩, B, x_z, hB_z, hJ.1.1, hJ.2.1, b9, hJ.2.2, q3_z, by rw [if_neg h0], q4_z, q6_z⟩
      · exact ⟨rfl, ⟨⟨_, rfl⟩, q2_z⟩, B, x_z, hB_z, hJ.1.1, hJ.2.1, b9, hJ.2.2, q3_z, by rw [if_pos h0], q4_z, q6_z⟩
  · refine ⟨rM_0 (by omega) km0, ?_⟩
    refine (mbegin_fr hB_z).imp ?_
    rintro ⟨r1_z, C_z⟩ ⟨⟨⟨_, q2_z⟩, x_z, q1_z, q3_z, q5_z⟩, q4_z⟩
    simp only at q1_z q2_z q3_z q4_z q5_z
    subst q1_z
    exact ⟨rfl, C_z, x_z, q2_z, ⟨q3_z, q4_z, q5_z⟩, rfl⟩
theorem sdq_48 {A : pm_A} {sl n z3 : Int} (h : RI A) (hs : sl = 0 ∨ sl = 1) (hcut : cntF (fcs A sl) 100 ≤ 6) (n9 : n ≤ 9) (hn : n = A 31 sl) : ∀ (m_z : Nat) (a_z : Int) (w5 w6_z w7_z w8 w9 : pm_V) (B_z : pm_A), (10 - a_z).toNat < m_z → 0 ≤ a_z → a_z ≤ 10 → sdK A B_z sl n (100 * a_z) → Tm pmt (an_sh wM) o_X10_seed 48 ([(2, 0), (0, sl), (0, n), (0, z3), (0, a_z), w5, w6_z, w7_z, w8, w9], [], B_z) (msQ A sl n) := by
  intro m_z
  induction m_z with
  | zero => intro a_z w5 w6_z w7_z w8 w9 B_z h; omega
  | succ m_z ih_z =>
    intro a_z w5 w6_z w7_z w8 w9 B_z hm_z a0_z a1_z hJ
    have h186 : a_z < n → ∀ C_z w5 w6_z w7_z w8 w9, sdK A C_z sl n (100 * a_z + 100) → Tm pmt (an_sh wM) o_X10_seed 186 ([(2, 0), (0, sl), (0, n), (0, z3), (0, a_z), w5, w6_z, w7_z, w8, w9], [], C_z) (msQ A sl n) := fun hc_z C_z w5 w6_z w7_z w8 w9 hC => by
      refine wq_ok srt_Mseed (fr := []) (cuts := [48]) (J := fun pc st_z => (pc = 48 ∧ st_z = ([(2, 0), (0, sl), (0, n), (0, z3), (0, a_z + 1), w5, w6_z, w7_z, w8, w9], [], C_z))) ?_ 7 186 _ ?_
      · rintro pc st_z (⟨rfl, rfl⟩)
        exact ih_z (a_z + 1) _ _ _ _ _ C_z (by omega) (by omega) (by omega) (hC.up (by omega) (by omega) (fun v_z v0_z v1_z x_z y_z z_z x0_z xy_z yz zn e_z => by omega))
      · refine ⟨⟨by omega, by omega⟩, ?_⟩
        exact ⟨rfl, rfl⟩
    refine wq_ok srt_Mseed (fr := []) (cuts := [60, 192]) (J := fun pc st_z => (pc = 192 ∧ (n ≤ a_z) ∧ st_z = ([(2, 0), (0, sl), (0, n), (0, z3), (0, a_z), w5, w6_z, w7_z, w8, w9], [], B_z)) ∨ (pc = 60 ∧ (a_z < n) ∧ st_z = ([(2, 0), (0, sl), (0, n), (0, z3), (0, a_z), (0, a_z + 1), w6_z, w7_z, w8, w9], [], B_z))) ?_ 12 48 _ ?_
    · rintro pc st_z (⟨rfl, h0, rfl⟩ | ⟨rfl, h0, rfl⟩)
      · exact sdq_192 h (hJ.up (by omega) (by omega) (fun v_z v0_z v1_z x_z y_z z_z x0_z xy_z yz zn e_z => by omega))
      · exact sdq_60 hs h.g hcut n9 hn a0_z (by omega) (h186 (by omega)) _ (a_z + 1) _ _ _ _ B_z (Nat.lt_succ_self _) (by omega) (by omega) (hJ.up (by omega) (by omega) (fun v_z v0_z v1_z x_z y_z z_z x0_z xy_z yz zn e_z => by omega))
    · refine ⟨fun h0 => ?_, fun h0 => ?_⟩
      · exact Or.inl (⟨rfl, h0, rfl⟩)
      · refine ⟨⟨by omega, by omega⟩, ?_⟩
        exact Or.inr (⟨rfl, h0, rfl⟩)
