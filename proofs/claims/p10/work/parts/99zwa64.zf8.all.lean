/-! the class's explore from its beginning, and all -/
theorem xq_13 {s : cx_Sd 12} {ks : List (Fin 12)} {A : pm_A} {W P : Int} {Z : Option (List Fun12 × List (List (Fin 12))) → Prop} (hs : sWP s W P) : ∀ (n_z r_z : Nat) (v_z : pm_V) (La_z : List Fun12) (Rh : List (List (Fin 12))) (B_z : pm_A), 150 - r_z < n_z → r_z ≤ Rh.length → (∀ n_z o, allA s W P n_z La_z Rh r_z 0 o → Z o) → xaF s ks A B_z → pcA s B_z La_z Rh W P → tdF A B_z → Tm pmt (an_sh wX) o_X0_explore 13 ([(2, 72), (2, 1), (2, 28), (0, (r_z : Int)), v_z], [], B_z) (exQ s ks A W P Z) := by
  intro n_z
  induction n_z with
  | zero => intro r_z v_z La_z Rh B_z h_z; omega
  | succ n_z ih_z =>
    intro r_z v_z La_z Rh B_z hn r1_z hZ hX hp ht
    have e7_z : B_z 72 7 = (Rh.length : Int) := hp.2.2.1.1
    have h150 := hp.2.2.1.2
    have h6 := hs.1
    have fin_z : Rh.length ≤ r_z → Tm pmt (an_sh wX) o_X0_explore 166 ([(2, 72), (2, 1), (2, 28), (0, (r_z : Int)), v_z], [], B_z) (exQ s ks A W P Z) := fun hr => by
      refine wq_ok srt_explore (fr := []) (cuts := []) (J := fun pc st_z => False) (fun _ _ h_z => h_z.elim) 20 166 _ ?_
      refine ⟨rX_5 z72 kk72, ?_⟩
      refine (remember_ex (pc_reH hX hp)).imp ?_
      rintro ⟨q1_z, C_z⟩ hC
      have hq1 : q1_z = none := hC.1
      subst hq1
      refine ⟨oX_5 z72 kk72 7 rfl, ?_⟩
      refine ⟨rfl, Or.inr ⟨La_z, Rh, B_z, hZ 1 _ (Or.inl ⟨hr, rfl⟩), ?_, hX, hp, hC⟩⟩
      show some ((0 : Nat), C_z 72 7) = some (0, (Rh.length : Int))
      have hf7 : C_z 72 7 = B_z 72 7 := hC.2.1.2.1 72 7 (by omega) (by omega)
      rw [hf7, e7_z]
    refine wq_ok srt_explore (fr := []) (cuts := [31, 166]) (J := fun pc st_z => (pc = 166 ∧ Rh.length ≤ r_z ∧ st_z = ([(2, 72), (2, 1), (2, 28), (0, (r_z : Int)), v_z], [], B_z)) ∨ (pc = 31 ∧ r_z < Rh.length ∧ st_z = ([(2, 72), (2, 1), (2, 28), (0, (r_z : Int)), (0, 0)], [], B_z))) ?_ 30 13 _ ?_
    · rintro pc st_z (⟨rfl, hr, rfl⟩ | ⟨rfl, hr, rfl⟩)
      · exact fin_z hr
      · have hu : Rh[r_z]? = some (Rh[r_z]'hr) := List.getElem?_eq_getElem hr
        refine xq_31 (p := Rh[r_z]'hr) hs (by omega) (fun Lb Rb_z D_z w_z hZ2 hrl hXD hpD htD => ?_) _ 0 La_z Rh B_z (Nat.lt_succ_self _) (by omega) hu hZ hX hp ht
        refine wq_ok srt_explore (fr := []) (cuts := [13]) (J := fun pc st_z => pc = 13 ∧ st_z = ([(2, 72), (2, 1), (2, 28), (0, (r_z : Int) + 1), w_z], [], D_z)) ?_ 30 160 _ ?_
        · rintro pc st_z ⟨rfl, rfl⟩
          rw [show (r_z : Int) + 1 = ((r_z + 1 : Nat) : Int) by omega]
          exact ih_z (r_z + 1) w_z Lb Rb_z D_z (by omega) (by omega) hZ2 hXD hpD htD
        · refine ⟨⟨by omega, by omega⟩, ?_⟩
          exact ⟨rfl, rfl⟩
    · refine ⟨oX_5 z72 kk72 7 rfl, ?_⟩
      refine ⟨fun h_z => ?_, fun h_z => ?_⟩
      · rw [e7_z] at h_z
        exact Or.inl ⟨rfl, by omega, rfl⟩
      · rw [e7_z] at h_z
        refine ⟨fun h2 => Or.inl ⟨rfl, by omega, rfl⟩, fun h2 => ?_⟩
        exact Or.inr ⟨rfl, by omega, rfl⟩
def fin12 (m : Nat) : Fin 12 := ⟨m % 12, Nat.mod_lt _ (by omega)⟩
theorem fin12_v {m : Nat} (h : m < 12) : (fin12 m).1 = m := Nat.mod_eq_of_lt h
def firstL (s : cx_Sd 12) (ks : List (Fin 12)) (n : Nat) : List Fun12 := (List.range n).map (fun m_z => gpf s ks (fin12 m_z))
theorem firstL_s (s : cx_Sd 12) (ks : List (Fin 12)) (n : Nat) : firstL s ks (n + 1) = firstL s ks n ++ [gpf s ks (fin12 n)] := by
  unfold firstL
  rw [List.range_succ, List.map_append]
  rfl
theorem firstL_len (s : cx_Sd 12) (ks : List (Fin 12)) (n : Nat) : (firstL s ks n).length = n := by
  unfold firstL
  rw [List.length_map, List.length_range]
theorem firstL_at {s : cx_Sd 12} {ks : List (Fin 12)} {n m : Nat} (h : m < n) : (firstL s ks n)[m]? = some (gpf s ks (fin12 m)) := by
  unfold firstL
  rw [List.getElem?_map, List.getElem?_range h]
  rfl
theorem firstL_no {s : cx_Sd 12} {ks : List (Fin 12)} {n : Nat} (h : n < 12) : ¬ gpf s ks (fin12 n) ∈ firstL s ks n := fun hin => by
  unfold firstL at hin
  obtain ⟨m_z, hm_z, e_z⟩ := List.mem_map.1 hin
  have hm_z := List.mem_range.1 hm_z
  refine gp_ne s ks (i := fin12 m_z) (j := fin12 n) (fun q_z => ?_) (fun x_z => congrFun e_z x_z)
  have h1 := congrArg Fin.val q_z
  rw [fin12_v (by omega), fin12_v h] at h1
  omega
/-- the first letters are numbered -/
def efI (s : cx_Sd 12) (ks : List (Fin 12)) (A B : pm_A) (W P : Int) (n : Nat) : Prop := xaF s ks A B ∧ pcA s B (firstL s ks n) [] W P ∧ tdF A B ∧ (∀ d_z : Int, 0 ≤ d_z → d_z < n → B 102 d_z = d_z) ∧ (∀ j_z : Int, 0 ≤ j_z → j_z < 72 → B 80 j_z = B 2 j_z) ∧ ∀ j_z : Int, B 2 j_z = A 2 j_z
def efP (s : cx_Sd 12) (ks : List (Fin 12)) (A : pm_A) (W P : Int) (q : pm_R) : Prop := q.1 = some (0, 1) ∧ xaF s ks A q.2 ∧ pcA s q.2 (firstL s ks P.toNat) [ks] W P ∧ tdF A q.2
theorem eg_94 {s : cx_Sd 12} {ks : List (Fin 12)} {A B : pm_A} {W P : Int} {v : pm_V} (hs : sWP s W P) (e1 : A 1 0 = P ∧ bgW A 1 = W) (hI : efI s ks A B W P P.toNat) : Tm pmt (an_sh wX) o_X0_enterFirst 94 ([(2, 72), (2, 1), v], [], B) (efP s ks A W P) := by
  obtain ⟨hX, hp, ht, h102, h80, h2⟩ := hI
  obtain ⟨p1_z, p2_z, p3_z, p4_z, p5_z⟩ := hp
  have h6 := hs.1
  have h7 := hs.2.1
  have hT_z := hX.2.2.1
  have m8_z := hX.1.2.2.2.2.2.1 1 (by omega) kk1
  have b1 : ∀ j_z : Int, B 1 j_z = A 1 j_z := hX.2.2.2.2.2.1
  have eP : B 1 0 = P := by rw [b1 0]; exact e1.1
  have eW : bgW B 1 = W := by unfold bgW; rw [b1 0, b1 1]; exact e1.2
  have hseat : ∀ i_z : Fin 12, (i_z.1 : Int) < P → ∃ l : Nat, B 102 (i_z.1 : Int) = (l : Int) ∧ (firstL s ks P.toNat)[l]? = some (gpf s ks i_z) := fun i_z hi_z => by
    refine ⟨i_z.1, h102 _ (by omega) (by omega), ?_⟩
    rw [firstL_at (by omega)]
    have e_z : fin12 i_z.1 = i_z := Fin.ext (fin12_v i_z.2)
    rw [e_z]
  refine wq_ok srt_enterFirst (fr := []) (cuts := [98]) (J := fun pc st_z => pc = 98 ∧ ∃ C_z, gaF B C_z (B 79 0).toNat ∧ st_z = ([(2, 72), (2, 1), v], [], C_z)) ?_ 30 94 _ ?_
  · rintro pc st_z ⟨rfl, C_z, hC, rfl⟩
    obtain ⟨c1_z, c2_z, c10_z, c11_z⟩ := hC
    rw [p1_z.1] at c10_z c11_z
    have hTC : AT C_z := hX.2.1.of (fun j_z _ _ _ n1_z n2_z _ _ => c2_z 72 j_z (by omega)) ⟨c2_z 79 2 (by omega), c2_z 79 4 (by omega)⟩ (fun j_z _ => c2_z 73 j_z (by omega))
    refine wq_ok srt_enterFirst (fr := []) (cuts := []) (J := fun pc st_z => False) (fun _ _ h_z => h_z.elim) 20 98 _ ?_
    refine ⟨rX_5 z72 kk72, ?_⟩
    refine (enter_ex c1_z hTC (fun d_z d0_z d1_z => ?_)).imp ?_
    · rw [c2_z 79 0 (by omega), p1_z.1] at d1_z
      rw [c2_z 102 d_z (by omega), h102 d_z d0_z (by omega)]
      exact d0_z
    · have c7_z : C_z 72 7 = 0 := by rw [c2_z 72 7 (by omega), p3_z.1]; rfl
      rintro ⟨q1_z, D_z⟩ (⟨_, hlt⟩ | ⟨_, e_z, hD⟩)
      · rw [c7_z] at hlt
        exact absurd (show (0 : Int) < 150 by omega) hlt
      · simp only at e_z hD
        subst e_z
        obtain ⟨d1_z, d2_z, d3_z, d4_z, ⟨d5_z, d6_z⟩, ⟨d7_z, d8_z, d9_z⟩, d10_z⟩ := hD
        rw [c7_z] at d3_z d4_z d5_z d6_z d7_z d8_z d9_z d10_z
        rw [c2_z 79 0 (by omega), p1_z.1] at d4_z
        have hh : ∀ a_z j_z : Int, ¬ (a_z = 72 ∧ (j_z = 7 ∨ j_z = 10 ∨ j_z = 11)) → ¬ a_z = 103 → ¬ (74 ≤ a_z ∧ a_z ≤ 78) → D_z a_z j_z = B a_z j_z := fun a_z j_z h1 h2 h3 => by
          rw [d2_z a_z j_z (by omega) h2 (by omega) (by omega) (by omega) (by omega) (by omega)]
          exact c2_z a_z j_z (by omega)
        have n74 : ∀ d_z : Int, 0 ≤ d_z → d_z < P → D_z 74 (6 * 0 + d_z) = B 102 d_z := fun d_z d0_z d1_z => by
          rw [(d4_z d_z d0_z d1_z).2.1]; exact c2_z 102 d_z (by omega)
        refine ⟨rfl, rfl, avF.xa hX d1_z hh, ⟨?_, ?_, ⟨?_, ?_⟩, fun m_z u_z hm_z => ?_, fun m_z u_z k' hm_z hk' hne => ?_⟩, ht.tr ⟨hh 72 13 (by omega) (by omega) (by omega), hh 72 14 (by omega) (by omega) (by omega)⟩ (fun a_z j_z h0 h1 => hh a_z j_z (by omega) (by omega) (by omega))⟩
        · show D_z 79 0 = P ∧ D_z 79 0 + D_z 79 1 = W
          rw [hh 79 0 (by omega) (by omega) (by omega), hh 79 1 (by omega) (by omega) (by omega)]; exact p1_z
        · refine p2_z.of (hh 72 1 (by omega) (by omega) (by omega)) (fun l l0 l1 => ?_)
          have h100 := p2_z.1
          have e2 := hX.1.2.1.2.1 (107 + 3 * l) (by omega) (kkLt l0 (by omega))
          have e3 := hX.1.2.2.2.1 (107 + 3 * l) (by omega) (kkLt l0 (by omega))
          exact ⟨fun j_z => hh _ j_z (by omega) (by omega) (by omega), fun j_z => by rw [e2]; exact hh _ j_z (by omega) (by omega) (by omega), fun j_z => by rw [e3]; exact hh _ j_z (by omega) (by omega) (by omega)⟩
        · show D_z 72 7 = (([ks] : List (List (Fin 12))).length : Int)
          rw [d10_z]; rfl
        · exact Nat.le_of_ble_eq_true rfl
        · have hm0 : m_z = 0 := by
            have h1 := (List.getElem?_eq_some_iff.mp hm_z).1
            rw [List.length_singleton] at h1
            omega
          subst hm0
          have hu : ks = u_z := Option.some.inj hm_z
          subst hu
          have e0_z : (((0 : Nat) : Int)) = 0 := rfl
          rw [e0_z]
          refine ⟨⟨fun k_z hk => by have := hT_z.2.2.2.2.1 k_z hk; omega, fun i_z j_z hi_z hj => (hT_z.2.2.2.1 i_z j_z (by rw [eP]; exact hj)).2 (by rw [eW]; exact hi_z), fun i_z j_z hi_z hj => ?_⟩, fun i_z hi_z => ?_, fun i_z j_z hi_z hj => ?_, ?_, ?_⟩
          · rw [(hT_z.2.2.2.1 i_z j_z (by rw [eP]; exact hj)).1 (by rw [eW]; exact hi_z)]
            exact hT_z.2.2.2.2.2.2.1 i_z.1 j_z.1 (by omega) (by rw [eW]; exact hi_z) (by omega) (by rw [eP]; exact hj)
          · obtain ⟨l, a1_z, a2⟩ := hseat i_z hi_z
            exact ⟨l, by show D_z 74 (6 * 0 + (i_z.1 : Int)) = _; rw [n74 _ (by omega) hi_z]; exact a1_z, a2⟩
          · show cr_bs s.b ks i_z j_z = D_z 76 (72 * 0 + ((i_z.1 : Int) * 6 + (j_z.1 : Int)))
            rw [d6_z _ (by omega) (by omega), c2_z 80 _ (by omega), h80 _ (by omega) (by omega), (hT_z.2.2.2.1 i_z j_z (by rw [eP]; exact hj)).1 (by rw [eW]; exact hi_z), m8_z.1]
            rfl
          · show D_z 77 0 = _
            rw [d8_z, c10_z]
            exact bitsV_c2 (fun f_z f0_z f1_z => (n74 f_z f0_z (by omega)).symm)
          · show D_z 78 0 = _
            rw [d9_z, c11_z]
            exact bitsV_c3 (fun f_z f0_z f1_z => (n74 f_z f0_z (by omega)).symm)
        · have hm0 : m_z = 0 := by
            have h1 := (List.getElem?_eq_some_iff.mp hm_z).1
            rw [List.length_singleton] at h1
            omega
          subst hm0
          exact absurd ((d4_z (k'.1 : Int) (by omega) hk').2.2) hne
  · refine ⟨rX_5 z72 kk72, ?_⟩
    refine (gather_ex hX.1.1 hX.2.1).imp ?_
    rintro ⟨q1_z, C_z⟩ hC
    have hq1 : q1_z = none := hC.1
    subst hq1
    exact ⟨rfl, C_z, hC.2, rfl⟩
theorem eg_52 {s : cx_Sd 12} {ks : List (Fin 12)} {A : pm_A} {W P : Int} (hs : sWP s W P) (e1 : A 1 0 = P ∧ bgW A 1 = W) : ∀ (m_z n_z : Nat) (B_z : pm_A), 6 - n_z < m_z → (n_z : Int) ≤ P → efI s ks A B_z W P n_z → Tm pmt (an_sh wX) o_X0_enterFirst 52 ([(2, 72), (2, 1), (0, (n_z : Int))], [], B_z) (efP s ks A W P) := by
  intro m_z
  induction m_z with
  | zero => intro n_z B_z h_z; omega
  | succ m_z ih_z =>
    intro n_z B_z hm_z n1_z hI
    have hI0 := hI
    obtain ⟨hX, hp, ht, h102, h80, h2⟩ := hI
    have h6 := hs.1
    have hT_z := hX.2.2.1
    have b1 : ∀ j_z : Int, B_z 1 j_z = A 1 j_z := hX.2.2.2.2.2.1
    have eP : B_z 1 0 = P := by rw [b1 0]; exact e1.1
    have eW : bgW B_z 1 = W := by unfold bgW; rw [b1 0, b1 1]; exact e1.2
    have m8_z := hX.1.2.2.2.2.2.1 1 (by omega) kk1
    have e9_z : B_z 72 9 = 102 := hX.2.1.1.2.2.2.2.2.2.2.1
    have l4 := fX_1_4 hX.1.1 z1 kk1
    refine wq_ok srt_enterFirst (fr := []) (cuts := [75, 94]) (J := fun pc st_z => (pc = 94 ∧ (n_z : Int) = P ∧ st_z = ([(2, 72), (2, 1), (0, (n_z : Int))], [], B_z)) ∨ (pc = 75 ∧ (n_z : Int) < P ∧ ∃ (l : Int) (C_z : pm_A), nbP B_z (B_z 4 (n_z : Int)) (some (0, l), C_z) ∧ st_z = ([(2, 72), (2, 1), (0, (n_z : Int))], [(0, l), (0, (n_z : Int)), (2, B_z 72 9)], C_z))) ?_ 30 52 _ ?_
    · rintro pc st_z (⟨rfl, hn, rfl⟩ | ⟨rfl, hn, l, C_z, hN_z, rfl⟩)
      · have e_z : n_z = P.toNat := by omega
        rw [e_z] at hI0
        exact eg_94 hs e1 hI0
      · rw [e9_z]
        have x0_z := eX_12 hX.1.1 l4.1 l4.2 (j := (n_z : Int)) (by omega) (by omega)
        rw [m8_z.2.2] at x0_z
        have hp72 := (hX.1.2.1.2.2.2.2.1 (n_z : Int) (by omega) (by omega)).1
        have e4_z := own_pc (A := B_z) own1 (show (0 : Int) ≤ (n_z : Int) by omega) (show (n_z : Int) ≤ 5 by omega)
        rw [Int.zero_add] at e4_z
        rw [e4_z] at hp72
        have hfn : ((fin12 n_z).1 : Int) = (n_z : Int) := by rw [fin12_v (by omega)]
        obtain ⟨a1_z, a2, a3, a5⟩ := hT_z.2.2.2.2.2.2.2 (fin12 n_z) (by rw [hfn, eP]; exact hn)
        rw [hfn, m8_z.2.2] at a1_z a2 a3 a5
        rw [eW] at a3
        have hlt : ltr B_z (B_z 4 (n_z : Int)) (gpf s ks (fin12 n_z)) W := ⟨a1_z, a2, a3, fun x_z => a5 x_z⟩
        rcases nb_pic hs hX hp x0_z hp72 hlt (gpf_pos s ks _) hN_z with ⟨_, _, b3, _⟩ | ⟨La', b1', b2, b3, b4, b5, b6⟩
        · rw [firstL_len] at b3
          exact absurd (show n_z < 100 by omega) b3
        · rcases b1' with ⟨c1_z, _⟩ | ⟨_, _, c3_z⟩
          · exact absurd c1_z (firstL_no (by omega))
          · rw [← firstL_s] at c3_z
            subst c3_z
            have hl : l = (n_z : Int) := by
              have h5 := firstL_at (s := s) (ks := ks) (n := n_z + 1) (m := n_z) (by omega)
              have h8 := b4.2.1.2.2.1 l.toNat n_z _ b3 h5
              omega
            subst hl
            have hD : gH wX (pm_upd C_z 102 (n_z : Int) (n_z : Int)) := uX_27 b5.1.1 kk102 (by omega) (by omega)
            have g1 : ∀ q_z j_z : Int, ¬ q_z = 102 → pm_upd C_z 102 (n_z : Int) (n_z : Int) q_z j_z = C_z q_z j_z := fun q_z j_z hq => upd_ne hq
            have g2 : pm_upd C_z 102 (n_z : Int) (n_z : Int) 102 (n_z : Int) = (n_z : Int) := upd_at
            have g3_z : ∀ j_z : Int, ¬ j_z = (n_z : Int) → pm_upd C_z 102 (n_z : Int) (n_z : Int) 102 j_z = C_z 102 j_z := fun j_z hj => upd_n2 hj
            refine wq_ok srt_enterFirst (fr := []) (cuts := [76]) (J := fun pc st_z => pc = 76 ∧ st_z = ([(2, 72), (2, 1), (0, (n_z : Int))], [], pm_upd C_z 102 (n_z : Int) (n_z : Int))) ?_ 30 75 _ ?_
            · rintro pc st_z ⟨rfl, rfl⟩
              generalize pm_upd C_z 102 (n_z : Int) (n_z : Int) = D_z at hD g1 g2 g3_z
              have hXD : xaF s ks A D_z := b5.put hD (fun q_z j_z hq => g1 q_z j_z (fun e_z => hq (by unfold atC; omega))) (fun q_z j_z q0 qk hj => g1 q_z j_z (knd qk kk102 (by decide))) (fun j_z j0 j1 => by rw [g1 82 j_z (by omega)]; exact b5.1.2.1.2.2.2.1 j_z j0 j1)
              have d9_z : D_z 72 9 = 102 := hXD.2.1.1.2.2.2.2.2.2.2.1
              have hpD : pcA s D_z (firstL s ks (n_z + 1)) [] W P := b4.of hs (g1 72 1 (by omega)) (g1 72 7 (by omega)) ⟨g1 79 0 (by omega), g1 79 1 (by omega)⟩ (fun q_z j_z q0 q1_z => g1 q_z j_z (by omega)) (fun a_z a0_z a1_z => by
                have h100 := b4.2.1.1
                have e2 := b5.1.2.1.2.1 (107 + 3 * a_z) (by omega) (kkLt a0_z (by omega))
                have e3 := b5.1.2.2.2.1 (107 + 3 * a_z) (by omega) (kkLt a0_z (by omega))
                exact ⟨fun j_z => g1 _ j_z (by omega), fun j_z => by rw [e2]; exact g1 _ j_z (by omega), fun j_z => by rw [e3]; exact g1 _ j_z (by omega)⟩)
              refine wq_ok srt_enterFirst (fr := []) (cuts := [52]) (J := fun pc st_z => pc = 52 ∧ st_z = ([(2, 72), (2, 1), (0, (n_z : Int) + 1)], [], D_z)) ?_ 30 76 _ ?_
              · rintro pc st_z ⟨rfl, rfl⟩
                rw [show (n_z : Int) + 1 = ((n_z + 1 : Nat) : Int) by omega]
                refine ih_z (n_z + 1) D_z (by omega) (by omega) ⟨hXD, hpD, ht.tr ⟨(g1 72 13 (by omega)).trans (b6 72 13 (by omega) (by omega)), (g1 72 14 (by omega)).trans (b6 72 14 (by omega) (by omega))⟩ (fun q_z j_z h0 h1 => (g1 q_z j_z (by omega)).trans (b6 q_z j_z (by omega) (by omega))), fun d_z d0_z d1_z => ?_, fun j_z j0 j1 => ?_, fun j_z => ?_⟩
                · by_cases e_z : d_z = (n_z : Int)
                  · rw [e_z]; exact g2
                  · rw [g3_z d_z e_z, b6 102 d_z (by omega) (by omega)]; exact h102 d_z d0_z (by omega)
                · rw [g1 80 j_z (by omega), g1 2 j_z (by omega), b6 80 j_z (by omega) (by omega), b6 2 j_z (by omega) (by omega)]; exact h80 j_z j0 j1
                · rw [g1 2 j_z (by omega), b6 2 j_z (by omega) (by omega)]; exact h2 j_z
              · refine ⟨oX_5 z72 kk72 9 rfl, ?_⟩
                refine ⟨aX_27 (r := D_z 72 9) (by rw [d9_z]; omega) (by rw [d9_z]; exact kk102) (by omega) (by omega), ?_⟩
                refine ⟨fun q_z => ?_, fun q_z => ?_⟩
                · refine ⟨⟨by omega, by omega⟩, ?_⟩
                  exact ⟨rfl, rfl⟩
                · rw [d9_z, g2] at q_z
                  omega
            · refine ⟨tX_27 (r := 102) (by omega) kk102 (by omega) (by omega) rfl, ?_⟩
              exact ⟨rfl, rfl⟩
    · refine ⟨oX_1 z1 kk1 0 rfl, ?_⟩
      refine ⟨fun h_z => Or.inl ⟨rfl, by omega, rfl⟩, fun h_z => ?_⟩
      have hn : (n_z : Int) < P := by omega
      have x0_z := eX_12 hX.1.1 l4.1 l4.2 (j := (n_z : Int)) (by omega) (by omega)
      have hp72 := (hX.1.2.1.2.2.2.2.1 (n_z : Int) (by omega) (by omega)).1
      have e4_z := own_pc (A := B_z) own1 (show (0 : Int) ≤ (n_z : Int) by omega) (show (n_z : Int) ≤ 5 by omega)
      rw [Int.zero_add] at e4_z
      rw [e4_z] at hp72
      have hp72' : B_z 4 (n_z : Int) < 72 := hp72
      refine ⟨oX_5 z72 kk72 9 rfl, ?_⟩
      refine ⟨oX_1 z1 kk1 4 rfl, ?_⟩
      refine ⟨aX_12 l4.1 l4.2 (by omega) (by omega), ?_⟩
      refine ⟨rX_5 z72 kk72, ?_⟩
      show Cl pmt (an_sh wX) 11 [(2, 72), (2, B_z (B_z 1 4) (n_z : Int))] B_z _
      rw [m8_z.2.2] at x0_z ⊢
      refine (numberOf_ex hX.1.1 hX.2.1 (fun a_z a0_z ak => ⟨hX.1.2.1.2.1 a_z a0_z ak, hX.1.2.2.2.1 a_z a0_z ak⟩) x0_z (fun x_z x0_z x1_z e_z => by have e5 : 107 + 3 * x_z = B_z 4 (n_z : Int) := e_z; omega)).imp ?_
      rintro ⟨q1_z, F_z⟩ hN_z
      have hq : ∃ l, q1_z = some (0, l) := by
        rcases hN_z with ⟨i_z, _, _, e_z⟩ | ⟨_, ⟨_, e_z⟩ | ⟨_, e_z, _⟩⟩
        · injection e_z with e1 _; exact ⟨i_z, e1⟩
        · injection e_z with e1 _; exact ⟨-1, e1⟩
        · exact ⟨_, e_z⟩
      obtain ⟨l, rfl⟩ := hq
      exact Or.inr ⟨rfl, hn, l, F_z, hN_z, rfl⟩
theorem xaF.self {s : cx_Sd 12} {ks : List (Fin 12)} {A : pm_A} (hS : StE A) (hA : AT A) (hT : TrX s ks A 1) : xaF s ks A A := ⟨hS, hA, hT, fun _ => rfl, fun _ => rfl, fun _ => rfl, fun _ => rfl, fun _ => rfl, fun _ _ _ => rfl⟩
theorem xaF.p1 {s : cx_Sd 12} {ks : List (Fin 12)} {A B : pm_A} {r j x : Int} (h : xaF s ks A B) (hC : gH wX (pm_upd B r j x)) (ha : atC r j) (hk : ¬ wX.2 r = 2) (h82 : ¬ r = 82) : xaF s ks A (pm_upd B r j x) := by
  refine h.put hC (fun q_z i_z hq => ?_) (fun q_z i_z q0 qk hi_z => upd_ne (fun e_z => hk (by rw [← e_z]; exact qk))) (fun i_z i0_z i1_z => by rw [upd_ne (fun e_z => h82 e_z.symm)]; exact h.1.2.1.2.2.2.1 i_z i0_z i1_z)
  by_cases e_z : q_z = r
  · rw [e_z] at hq ⊢
    by_cases e2 : i_z = j
    · rw [e2] at hq; exact absurd ha hq
    · exact upd_n2 e2
  · exact upd_ne e_z
theorem enterFirst_ex {s : cx_Sd 12} {ks : List (Fin 12)} {A : pm_A} {W P : Int} (hs : sWP s W P) (hS : StE A) (hA : AT A) (hT : TrX s ks A 1) (e1 : A 1 0 = P ∧ bgW A 1 = W) : Cl pmt (an_sh wX) 6 [(2, 72), (2, 1)] A (efP s ks A W P) := by
  have p0_z := fX_1_0 hS.1 z1 kk1
  have q0 := fX_1_1 hS.1 z1 kk1
  have hX0 := xaF.self hS hA hT
  have hX1 := hX0.p1 (g5_1 hS.1 (t := 0) (by omega) (by omega)) (by unfold atC; omega) (by decide) (by omega)
  have hX2 := hX1.p1 (g5_7 hX1.1.1 (t := 0) (by omega) (by omega)) (by unfold atC; omega) (by decide) (by omega)
  have f2_z : ∀ r_z j_z : Int, ¬ r_z = 72 → pm_upd (pm_upd A 72 1 0) 72 7 0 r_z j_z = A r_z j_z := fun r_z j_z hr => by rw [upd_ne hr, upd_ne hr]
  have g2 : pm_upd (pm_upd A 72 1 0) 72 7 0 72 1 = 0 ∧ pm_upd (pm_upd A 72 1 0) 72 7 0 72 7 = 0 := ⟨by rw [upd_n2 (by omega), upd_at], upd_at⟩
  have t2_z : tdF A (pm_upd (pm_upd A 72 1 0) 72 7 0) := ⟨⟨by rw [upd_n2 (by omega), upd_n2 (by omega)], by rw [upd_n2 (by omega), upd_n2 (by omega)]⟩, fun r_z j_z h0 h1 => f2_z r_z j_z (by omega)⟩
  refine Cl.of (Nat.le_of_ble_eq_true rfl) ?_
  refine wq_ok (full := o_X0_enterFirst) srt_enterFirst (fr := []) (cuts := [10]) (J := fun pc st_z => pc = 10 ∧ ∃ v_z, st_z = ([(2, 72), (2, 1), v_z], [], pm_upd (pm_upd A 72 1 0) 72 7 0)) ?_ 30 0 _ ?_
  · rintro pc st_z ⟨rfl, v_z, rfl⟩
    generalize pm_upd (pm_upd A 72 1 0) 72 7 0 = B_z at hX2 f2_z g2 t2_z
    have a8 : B_z 72 8 = 79 := hX2.2.1.1.2.2.2.2.2.2.1
    refine wq_ok srt_enterFirst (fr := []) (cuts := [21]) (J := fun pc st_z => pc = 21 ∧ st_z = ([(2, 72), (2, 1), v_z], [], pm_upd B_z (B_z 72 8) 0 (B_z 1 0))) ?_ 30 10 _ ?_
    · rintro pc st_z ⟨rfl, rfl⟩
      rw [a8, f2_z 1 0 (by omega)]
      have hX3 := hX2.p1 (g79_0 hX2.1.1 p0_z.1 p0_z.2).1 (by unfold atC; omega) (by decide) (by omega)
      have f3_z : ∀ r_z j_z : Int, ¬ r_z = 79 → pm_upd B_z 79 0 (A 1 0) r_z j_z = B_z r_z j_z := fun r_z j_z hr => upd_ne hr
      have g3_z : pm_upd B_z 79 0 (A 1 0) 79 0 = A 1 0 := upd_at
      generalize pm_upd B_z 79 0 (A 1 0) = C_z at hX3 f3_z g3_z
      have c8_z : C_z 72 8 = 79 := hX3.2.1.1.2.2.2.2.2.2.1
      refine wq_ok srt_enterFirst (fr := []) (cuts := [32]) (J := fun pc st_z => pc = 32 ∧ st_z = ([(2, 72), (2, 1), v_z], [], pm_upd C_z (C_z 72 8) 1 (C_z 1 1))) ?_ 30 21 _ ?_
      · rintro pc st_z ⟨rfl, rfl⟩
        rw [c8_z, f3_z 1 1 (by omega), f2_z 1 1 (by omega)]
        have hX4 := hX3.p1 (g79_0 hX3.1.1 q0.1 q0.2).2 (by unfold atC; omega) (by decide) (by omega)
        have f4_z : ∀ r_z j_z : Int, ¬ r_z = 79 → pm_upd C_z 79 1 (A 1 1) r_z j_z = C_z r_z j_z := fun r_z j_z hr => upd_ne hr
        have g4 : pm_upd C_z 79 1 (A 1 1) 79 0 = A 1 0 ∧ pm_upd C_z 79 1 (A 1 1) 79 1 = A 1 1 := ⟨by rw [upd_n2 (by omega)]; exact g3_z, upd_at⟩
        generalize pm_upd C_z 79 1 (A 1 1) = D_z at hX4 f4_z g4
        have fD_z : ∀ r_z j_z : Int, ¬ r_z = 72 → ¬ r_z = 79 → D_z r_z j_z = A r_z j_z := fun r_z j_z h1 h2 => by rw [f4_z r_z j_z h2, f3_z r_z j_z h2]; exact f2_z r_z j_z h1
        have f72 : ∀ j_z : Int, D_z 72 j_z = B_z 72 j_z := fun j_z => by rw [f4_z 72 j_z (by omega)]; exact f3_z 72 j_z (by omega)
        have d8_z : D_z 72 8 = 79 := hX4.2.1.1.2.2.2.2.2.2.1
        have dt : D_z 79 2 = 80 := hX4.2.1.2.2.1.1
        have m8_z := hX4.1.2.2.2.2.2.1 1 (by omega) kk1
        have kk2 : wX.2 2 = 10 := by decide
        have s1_z := shX_10 kk2
        have s2_z := shX_10 kk80
        refine wq_ok srt_enterFirst (fr := []) (cuts := [52]) (J := fun pc st_z => pc = 52 ∧ st_z = ([(2, 72), (2, 1), (0, 0)], [], pm_cpy D_z (D_z 1 2) 0 (D_z (D_z 72 8) 2) 0 72)) ?_ 30 32 _ ?_
        · rintro pc st_z ⟨rfl, rfl⟩
          have m12 : D_z 1 2 = 2 := m8_z.1
          rw [m12, d8_z, dt]
          have hE : gH wX (pm_cpy D_z 2 0 80 0 72) := gH_cpy hX4.1.1 (ka := (1, 0, 72, [(0, -2147483648, 2147483647)])) (kb := (1, 0, 72, [(0, -2147483648, 2147483647)])) (by omega) (by rw [kk2]; rfl) (by rw [kk80]; rfl) rfl rfl rfl rfl rfl rfl (by omega) (by omega) (by simp only; omega)
          have fE_z : ∀ r_z j_z : Int, ¬ r_z = 80 → pm_cpy D_z 2 0 80 0 72 r_z j_z = D_z r_z j_z := fun r_z j_z hr => cpy_ne hr
          have gE : ∀ j_z : Int, 0 ≤ j_z → j_z < 72 → pm_cpy D_z 2 0 80 0 72 80 j_z = D_z 2 j_z := fun j_z j0 j1 => by rw [cpy_in ⟨j0, by omega⟩, show 0 + (j_z - 0) = j_z by omega]
          have hX5 : xaF s ks A (pm_cpy D_z 2 0 80 0 72) := hX4.put hE (fun q_z j_z hq => fE_z q_z j_z (fun e_z => hq (by unfold atC; omega))) (fun q_z j_z _ qk _ => fE_z q_z j_z (knd qk kk80 (by decide))) (fun j_z j0 j1 => by rw [fE_z 82 j_z (by omega)]; exact hX4.1.2.1.2.2.2.1 j_z j0 j1)
          generalize pm_cpy D_z 2 0 80 0 72 = E_z at hX5 hE fE_z gE
          refine eg_52 hs e1 _ 0 E_z (Nat.lt_succ_self _) (by have := hs.1; omega) ⟨hX5, ⟨?_, ⟨⟨?_, ?_⟩, fun l f_z hl => ?_, fun l m_z f_z hl => ?_, fun f_z hf => ?_⟩, ⟨?_, ?_⟩, fun r_z p_z hr => ?_, fun r_z p_z k_z hr => ?_⟩, ?_, fun d_z d0_z d1_z => by omega, fun j_z j0 j1 => by rw [gE j_z j0 j1, fE_z 2 j_z (by omega)], fun j_z => by rw [fE_z 2 j_z (by omega)]; exact fD_z 2 j_z (by omega) (by omega)⟩
          · rw [fE_z 79 0 (by omega), fE_z 79 1 (by omega), g4.1, g4.2]; exact e1
          · rw [fE_z 72 1 (by omega), f72, g2.1]; rfl
          · exact Nat.zero_le _
          · cases hl
          · cases hl
          · cases hf
          · rw [fE_z 72 7 (by omega), f72, g2.2]; rfl
          · exact Nat.zero_le _
          · cases hr
          · cases hr
          · exact t2_z.tr ⟨by rw [fE_z 72 13 (by omega)]; exact f72 13, by rw [fE_z 72 14 (by omega)]; exact f72 14⟩ (fun r_z j_z h0 h1 => by rw [fE_z r_z j_z (by omega), f4_z r_z j_z (by omega)]; exact f3_z r_z j_z (by omega))
        · refine ⟨oX_1 z1 kk1 2 rfl, ?_⟩
          refine ⟨oX_5 z72 kk72 8 rfl, ?_⟩
          refine ⟨oX_1 (r := D_z 72 8) (by rw [d8_z]; omega) (by rw [d8_z]; exact kk79) 2 rfl, ?_⟩
          refine ⟨⟨by rw [m8_z.1]; omega, by rw [d8_z, dt]; omega, by rw [m8_z.1]; exact congrArg (·.1) s1_z, by rw [m8_z.1]; exact congrArg (·.2.1) s1_z, by rw [d8_z, dt, s2_z], by rw [d8_z, dt, s2_z], by omega, by omega, by omega, by rw [m8_z.1]; show (72 : Int) + 0 ≤ _; rw [show (1 : Int) + 1 = 2 by omega, s1_z]; decide, by rw [d8_z, dt, s2_z]; simp only; omega⟩, ?_⟩
          exact ⟨rfl, rfl⟩
      · refine ⟨oX_5 z72 kk72 8 rfl, ?_⟩
        refine ⟨oX_1 z1 kk1 1 rfl, ?_⟩
        refine ⟨oX_1 (r := C_z 72 8) (by rw [c8_z]; omega) (by rw [c8_z]; exact kk79) 1 rfl, ?_⟩
        exact ⟨rfl, rfl⟩
    · refine ⟨oX_5 z72 kk72 8 rfl, ?_⟩
      refine ⟨oX_1 z1 kk1 0 rfl, ?_⟩
      refine ⟨oX_1 (r := B_z 72 8) (by rw [a8]; omega) (by rw [a8]; exact kk79) 0 rfl, ?_⟩
      exact ⟨rfl, rfl⟩
  · refine ⟨oX_5 z72 kk72 1 rfl, ?_⟩
    refine ⟨oX_5 z72 kk72 7 rfl, ?_⟩
    exact ⟨rfl, _, rfl⟩
theorem explore_ex {s : cx_Sd 12} {ks : List (Fin 12)} {A : pm_A} {W P : Int} (hs : sWP s W P) (hS : StE A) (hA : AT A) (hT : TrX s ks A 1) (e1 : A 1 0 = P ∧ bgW A 1 = W) : Cl pmt (an_sh wX) 7 [(2, 72), (2, 1), (2, 28)] A (exQ s ks A W P (fun o => ∃ n_z, allA s W P n_z (firstL s ks P.toNat) [ks] 0 0 o)) := by
  refine Cl.of (Nat.le_of_ble_eq_true rfl) ?_
  refine wq_ok (full := o_X0_explore) srt_explore (fr := []) (cuts := [13]) (J := fun pc st_z => pc = 13 ∧ ∃ C_z v_z, efP s ks A W P (some (0, 1), C_z) ∧ st_z = ([(2, 72), (2, 1), (2, 28), (0, 0), v_z], [], C_z)) ?_ 30 0 _ ?_
  · rintro pc st_z ⟨rfl, C_z, v_z, hC, rfl⟩
    obtain ⟨_, c1_z, c2_z, c3_z⟩ := hC
    exact xq_13 hs _ 0 v_z _ [ks] C_z (Nat.lt_succ_self _) (Nat.zero_le _) (fun n_z o ho => ⟨n_z, ho⟩) c1_z c2_z c3_z
  · refine ⟨rX_5 z72 kk72, ?_⟩
    refine (enterFirst_ex hs hS hA hT e1).imp ?_
    rintro ⟨q1_z, C_z⟩ hC
    have hq1 : q1_z = some (0, 1) := hC.1
    subst hq1
    refine ⟨fun _ => ?_, fun hh => absurd hh (by decide)⟩
    exact ⟨rfl, C_z, _, hC, rfl⟩
/-- all: what explore did, and the number of seeds is kept -/
def xlP2 (s : cx_Sd 12) (ks : List (Fin 12)) (A : pm_A) (W P : Int) (q : pm_R) : Prop := ∃ (C_z : pm_A) (z_z : Int), exQ s ks A W P (fun o => ∃ n_z, allA s W P n_z (firstL s ks P.toNat) [ks] 0 0 o) (some (0, z_z), C_z) ∧ q.1 = some (0, z_z) ∧ q.2 = pm_upd C_z 0 10 (max z_z 0) ∧ gH wX q.2
theorem xall_ex {s : cx_Sd 12} {ks : List (Fin 12)} {A : pm_A} {W P : Int} (hs : sWP s W P) (hS : StE A) (hA : AT A) (hT : TrX s ks A 1) (e1 : A 1 0 = P ∧ bgW A 1 = W) : Cl pmt (an_sh wX) 83 [(2, 0)] A (xlP2 s ks A W P) := by
  have a1_z := hS.2.1.1.1
  have a2 := hS.2.1.1.2.1
  have a4 := hS.2.1.1.2.2.2.1
  refine Cl.of (Nat.le_of_ble_eq_true rfl) ?_
  refine wq_ok (full := o_X9_all) srt_all (fr := []) (cuts := [15]) (J := fun pc st_z => pc = 15 ∧ ∃ z_z C_z v_z, exQ s ks A W P (fun o => ∃ n_z, allA s W P n_z (firstL s ks P.toNat) [ks] 0 0 o) (some (0, z_z), C_z) ∧ st_z = ([(2, 0), v_z], [(0, z_z)], C_z)) ?_ 30 0 _ ?_
  · rintro pc st_z ⟨rfl, z_z, C_z, v_z, hC, rfl⟩
    have hb_z : gH wX C_z ∧ -2 ≤ z_z ∧ z_z ≤ 150 := by
      rcases hC with ⟨c1_z, _, _, c4_z⟩ | ⟨La_z, Rh, B_z, _, c2_z, _, c4_z, c5_z⟩
      · have c4' : z_z = -2 := by injection c4_z with c4_z; injection c4_z
        exact ⟨c1_z.1.1, by omega, by omega⟩
      · have c2' : z_z = (Rh.length : Int) := by injection c2_z with c2_z; injection c2_z
        have := c4_z.2.2.1.2
        exact ⟨c5_z.2.1.1, by omega, by omega⟩
    refine wq_ok srt_all (fr := []) (cuts := []) (J := fun pc st_z => False) (fun _ _ h_z => h_z.elim) 20 15 _ ?_
    refine ⟨oX_0 z0 kk0 10 rfl, ?_⟩
    refine ⟨rfl, C_z, z_z, hC, rfl, rfl, ?_⟩
    refine gH_upd hb_z.1 (k := (0, 9, 15, [(2, 1, 0), (2, 3, 0), (2, 4, 0), (2, 19, 0), (0, 0, 100), (2, 20, 0), (2, 21, 0), (0, 0, 12), (2, 1, 0), (2, 5, 0), (0, (-2147483648), 2147483647), (2, 6, 0), (2, 7, 0), (2, 34, 0), (2, 8, 0)])) (by rw [kk0]; rfl) (fun _ j_z a_z hj ej => ?_) (fun q_z => by cases q_z)
    have : j_z = 10 := by omega
    subst this
    cases hj
    exact ⟨rfl, (by show (-2147483648 : Int) ≤ max z_z 0; omega), (by show max z_z 0 ≤ (2147483647 : Int); omega)⟩
  · refine ⟨oX_0 z0 kk0 9 rfl, ?_⟩
    refine ⟨oX_0 z0 kk0 0 rfl, ?_⟩
    refine ⟨oX_0 z0 kk0 2 rfl, ?_⟩
    refine ⟨rX_5 (r := A 0 9) (by rw [a4]; omega) (by rw [a4]; exact kk72), ?_⟩
    show Cl pmt (an_sh wX) 7 [(2, A 0 9), (2, A 0 0), (2, A 0 2)] A _
    rw [a1_z, a2, a4]
    refine (explore_ex hs hS hA hT e1).imp ?_
    rintro ⟨q1_z, C_z⟩ hC
    have hq : ∃ z_z, q1_z = some (0, z_z) := by
      rcases hC with ⟨_, _, _, c4_z⟩ | ⟨_, _, _, _, c2_z, _⟩
      · exact ⟨_, c4_z⟩
      · exact ⟨_, c2_z⟩
    obtain ⟨z_z, rfl⟩ := hq
    exact ⟨rfl, z_z, C_z, _, hC, rfl⟩
