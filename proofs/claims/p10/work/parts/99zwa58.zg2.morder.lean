/-! the reference's order exactly -/
theorem tuq_od {s : cx_Sd 12} {ks : List (Fin 12)} {A : pm_A} {k : Fin 12} {r : pm_R} (hk : (k.1 : Int) ≤ 5) (h : tuq_post s ks A k r) : odF A r.2 := by
  rcases h with ⟨_, q2_z, _⟩ | ⟨_, _, q3_z, q4_z, _⟩
  · exact ⟨q2_z.1, fun r j_z r0 r1_z j0 j1 a1_z a2 a3 a4 a5 a6 => q2_z.2 r j_z (fun t_z t0_z t1_z => a1_z t_z (Or.inr ⟨t0_z, t1_z⟩)) a2 a4 a6⟩
  · exact ⟨q3_z, fun r j_z r0 r1_z j0 j1 a1_z a2 a3 a4 a5 a6 => q4_z r j_z (fun t_z t0_z t1_z => a1_z t_z (Or.inr ⟨t0_z, t1_z⟩)) (a1_z _ (Or.inl ⟨by omega, by omega⟩)) a2 a3 a4 a6⟩
def mrI (s : cx_Sd 12) (A1 B : pm_A) (p : List (Fin 12)) : Prop := Tru s p B ∧ odF A1 B
def moP (s : cx_Sd 12) (ks : List (Fin 12)) (A : pm_A) (Z : Int → Prop) (r : pm_R) : Prop := (Tru s ks r.2 ∧ ∀ p_z : Int, 6 ≤ p_z → p_z ≤ 29 → LSm r.2 p_z = LSm A p_z) ∧ ∃ z_z, r.1 = some (0, z_z) ∧ Z z_z
theorem mq_120 {s : cx_Sd 12} {ks : List (Fin 12)} {A A1 B : pm_A} {Z : Int → Prop} (hT : Tru s ks A) (h1 : savesJ A A1 36 72) (hB : odF A1 B) {ans : Int} (hz : Z ans) (w2 w3 w4 : pm_V) : Tm pmt (an_sh wM) o_X10_order 120 ([(2, 0), (0, ans), w2, w3, w4], [], B) (moP s ks A Z) := by
  have p7_z := fM_0_7 hT.1 (r := 0) (by omega) km0
  have s1_z : ∀ r_z j_z : Int, r_z ≠ 22 → (∀ t_z : Int, 36 ≤ t_z → t_z ≤ 41 → ¬ inS t_z r_z j_z) → A1 r_z j_z = A r_z j_z := fun r_z j_z hr hn => h1.2.1 r_z j_z (fun t_z t0_z t1_z ht => hn (36 + t_z) (by omega) (by omega) ht) hr
  have e7_z : B 0 7 = A 0 7 := by rw [hB.fld (by omega) (by omega) (by omega) (by omega)]; exact s1_z 0 7 (by omega) (fun t_z t0_z t1_z ht => by unfold inS at ht; omega)
  refine wq_ok srt_Morder (fr := []) (cuts := [126]) (J := fun pc st_z => (pc = 126 ∧ ∃ C_z, restoresJ B C_z 36 72 ∧ st_z = ([(2, 0), (0, ans), w2, w3, w4], [], C_z))) ?_ 7 120 _ ?_
  · rintro pc st_z (⟨rfl, C_z, ⟨q2_z, q3_z, q4_z, q5_z⟩, rfl⟩)
    have c0_z : ∀ j_z : Int, 0 ≤ j_z → j_z < 100 → j_z ≠ 4 → j_z ≠ 5 → C_z 0 j_z = A 0 j_z := fun j_z j0 j3_z j1 j2_z => by rw [q3_z 0 j_z (fun t_z t0_z t1_z ht => by unfold inS at ht; omega) (by omega), hB.fld j0 j3_z j1 j2_z]; exact s1_z 0 j_z (by omega) (fun t_z t0_z t1_z ht => by unfold inS at ht; omega)
    have hC : Tru s ks C_z := by
      refine hT.ls q2_z (c0_z 7 (by omega) (by omega) (by omega) (by omega)) (c0_z 8 (by omega) (by omega) (by omega) (by omega)) (fun j_z j0 j1 => ?_) (fun p_z p0_z p1_z => ?_)
      · rw [q5_z j_z j0 j1, hB.cell (by omega) (by omega) (by omega) (by omega) j0]; exact h1.2.2.2 j_z j0 j1
      · rw [q4_z p_z p0_z (by omega)]
        have m1_z := eM_1 h1.1 (r := 1) (by omega) kn1 (j := 36 + p_z) (by omega) (by omega)
        rw [LSm_same m1_z.2 (hB.slot (p := 36 + p_z) (by omega) (by omega))]
        exact h1.2.2.1 p_z p0_z p1_z
    refine wq_ok srt_Morder (fr := []) (cuts := []) (J := fun _ _ => False) ?_ 6 126 _ ?_
    · intro pc st_z h_z; exact h_z.elim
    · refine ⟨rfl, ⟨hC, fun p_z a0_z a1_z => ?_⟩, ans, rfl, hz⟩
      have mA := eM_1 hT.1 (r := 1) (by omega) kn1 (j := p_z) (by omega) (by omega)
      refine LSm_same mA.2 (fun r_z j_z hr => ?_)
      show C_z r_z j_z = A r_z j_z
      rw [q3_z r_z j_z (fun t_z t0_z t1_z ht => by unfold inS at *; omega) (by unfold inS at hr; omega), hB.slot (p := p_z) (by omega) (by omega) r_z j_z hr]
      exact s1_z r_z j_z (by unfold inS at hr; omega) (fun t_z t0_z t1_z ht => by unfold inS at *; omega)
  · refine ⟨rM_0 (by omega) km0, ?_⟩
    refine (restores_ex (p := 36) hB.1 (by omega) (by omega)).imp ?_
    rintro ⟨r1_z, C_z⟩ ⟨q1_z, q2_z, q3_z, q4_z, q5_z⟩
    simp only at q1_z q2_z q3_z q4_z q5_z
    subst q1_z
    exact ⟨rfl, C_z, ⟨q2_z, q3_z, q4_z, q5_z⟩, rfl⟩
theorem mq_70 {s : cx_Sd 12} {ls L : List (Fin 12)} {A1 : pm_A} {ans n : Int} {z : pm_R → Prop} (hL : rwL (A1 30) (A1 0 46) L) (hP : ∀ f_z ∈ L, (f_z.1 : Int) < A1 0 7) (h12 : A1 0 46 ≤ 12) (H1 : wkS s (A1 0 7 + A1 0 8) (A1 0 7) ls L → ∀ w4_z B_z, mrI s A1 B_z (ls ++ L) → Tm pmt (an_sh wM) o_X10_order 101 ([(2, 0), (0, ans), (0, 1), (0, n), w4_z], [], B_z) z) (H0 : ¬ wkS s (A1 0 7 + A1 0 8) (A1 0 7) ls L → ∀ w4_z B_z, odF A1 B_z → Tm pmt (an_sh wM) o_X10_order 101 ([(2, 0), (0, ans), (0, 0), (0, n), w4_z], [], B_z) z) : ∀ (m_z j_z : Nat) (B_z : pm_A), 12 - j_z < m_z → j_z ≤ L.length → mrI s A1 B_z (ls ++ L.take j_z) → wkS s (A1 0 7 + A1 0 8) (A1 0 7) ls (L.take j_z) → Tm pmt (an_sh wM) o_X10_order 70 ([(2, 0), (0, ans), (0, 1), (0, n), (0, (j_z : Int))], [], B_z) z := by
  intro m_z
  induction m_z with
  | zero => intro j_z B_z h_z; omega
  | succ m_z ih_z =>
    intro j_z B_z hm_z j1 hB_z hw
    have hgB := hB_z.2.1
    have c47_z := pM_47 hgB
    have p7_z := fM_0_7 hgB (r := 0) (by omega) km0
    have e46 : B_z 0 46 = A1 0 46 := hB_z.2.fld (by omega) (by omega) (by omega) (by omega)
    have e7_z : B_z 0 7 = A1 0 7 := hB_z.2.fld (by omega) (by omega) (by omega) (by omega)
    have e8 : B_z 0 8 = A1 0 8 := hB_z.2.fld (by omega) (by omega) (by omega) (by omega)
    have e30 : ∀ i_z : Int, 0 ≤ i_z → B_z 30 i_z = A1 30 i_z := fun i_z i0_z => hB_z.2.cell (by omega) (by omega) (by omega) (by omega) i0_z
    have hlen := hL.1
    refine wq_ok srt_Morder (fr := []) (cuts := [94, 101]) (J := fun pc st_z => (pc = 101 ∧ ((B_z 0 46) ≤ (j_z : Int)) ∧ st_z = ([(2, 0), (0, ans), (0, 1), (0, n), (0, (j_z : Int))], [], B_z)) ∨ (pc = 94 ∧ ∃ (f_z : Fin 12) (C_z : pm_A) (y_z : Int), L[j_z]? = some f_z ∧ tuq_post s (ls ++ L.take j_z) B_z f_z (some (0, y_z), C_z) ∧ st_z = ([(2, 0), (0, ans), (0, 1), (0, n), (0, (j_z : Int))], [(0, y_z)], C_z))) ?_ 16 70 _ ?_
    · rintro pc st_z (⟨rfl, h0, rfl⟩ | ⟨rfl, f_z, C_z, y_z, hf, hC, rfl⟩)
      · have hj : j_z = L.length := by omega
        rw [hj, List.take_length] at hB_z hw
        exact H1 hw _ B_z hB_z
      · have hj := (List.getElem?_eq_some_iff.mp hf).1
        have hfP := hP f_z (List.mem_of_getElem? hf)
        have hod := tuq_od (by omega) hC
        have hodA := hB_z.2.tr hod
        have hits := hB_z.1.its (k := f_z) (by omega)
        rw [e7_z, e8] at hits
        have e2 : L = L.take j_z ++ f_z :: L.drop (j_z + 1) := by
          have e3 : L.drop j_z = f_z :: L.drop (j_z + 1) := by
            rw [List.drop_eq_getElem_cons hj]
            have e4_z : L[j_z]? = some L[j_z] := List.getElem?_eq_getElem hj
            rw [hf] at e4_z
            rw [Option.some.inj e4_z]
          rw [← e3, List.take_append_drop]
        rcases hC with ⟨q1_z, q2_z, q3_z, q4_z⟩ | ⟨q1_z, q2_z, q3_z, q4_z, q5_z, q6_z⟩
        · have hy : y_z = 0 := by injection q1_z with q_z; injection q_z
          subst hy
          have hn2 := nok hits q4_z
          have hno : ¬ wkS s (A1 0 7 + A1 0 8) (A1 0 7) ls L := fun hall => by
            rw [e2, wkS_app] at hall
            exact hn2 hall.2.1
          refine wq_ok srt_Morder (fr := []) (cuts := [101]) (J := fun pc st_z => (pc = 101 ∧ st_z = ([(2, 0), (0, ans), (0, 0), (0, n), (0, (j_z : Int) + 1)], [], C_z))) ?_ 20 94 _ ?_
          · rintro pc st_z (⟨rfl, rfl⟩)
            exact H0 hno _ C_z hodA
          · refine ⟨⟨by omega, by omega⟩, ?_⟩
            refine ⟨oM_0 (by omega) km0 46 rfl, ?_⟩
            refine ⟨fun h0 => ?_, fun h0 => ?_⟩
            · exact ⟨rfl, rfl⟩
            · refine ⟨fun h1 => ?_, fun h1 => absurd rfl h1⟩
              exact ⟨rfl, rfl⟩
        · have hy : y_z = 1 := by injection q1_z with q_z; injection q_z
          subst hy
          refine wq_ok srt_Morder (fr := []) (cuts := [70]) (J := fun pc st_z => (pc = 70 ∧ st_z = ([(2, 0), (0, ans), (0, 1), (0, n), (0, (j_z : Int) + 1)], [], C_z))) ?_ 8 94 _ ?_
          · rintro pc st_z (⟨rfl, rfl⟩)
            rw [show (j_z : Int) + 1 = ((j_z + 1 : Nat) : Int) by omega]
            refine ih_z (j_z + 1) C_z (by omega) (by omega) ⟨?_, hodA⟩ ?_
            · rw [take_s hf, ← List.append_assoc]; exact q2_z
            · rw [take_s hf, wkS_app]
              exact ⟨hw, ⟨q5_z, hits.1 q6_z⟩, trivial⟩
          · refine ⟨⟨by omega, by omega⟩, ?_⟩
            exact ⟨rfl, rfl⟩
    · refine ⟨oM_0 (by omega) km0 46 rfl, ?_⟩
      refine ⟨fun h0 => ?_, fun h0 => ?_⟩
      · exact Or.inl (⟨rfl, h0, rfl⟩)
      · refine ⟨fun h1 => absurd h1 (by decide), fun h1 => ?_⟩
        have hj : j_z < L.length := by omega
        have hf : L[j_z]? = some L[j_z] := List.getElem?_eq_getElem hj
        generalize L[j_z] = f_z at hf
        have hfP := hP f_z (List.mem_of_getElem? hf)
        refine ⟨oM_0 (by omega) km0 47 rfl, ?_⟩
        refine ⟨aM_30 (r := B_z 0 47) (by rw [c47_z]; omega) (by rw [c47_z]; exact kn30) (by omega) (by omega), ?_⟩
        refine ⟨rM_0 (by omega) km0, ?_⟩
        show Cl pmt (an_sh wM) 200 [(2, 0), (0, B_z (B_z 0 47) (j_z : Int))] B_z _
        rw [c47_z, e30 _ (by omega), hL.2 j_z f_z hf]
        refine (turns_exq hB_z.1 (show (f_z.1 : Int) < B_z 0 7 by omega)).imp ?_
        rintro ⟨r1_z, C_z⟩ hC
        have hr1 : ∃ y_z, r1_z = some (0, y_z) := by
          rcases hC with ⟨q1_z, _⟩ | ⟨q1_z, _⟩
          · exact ⟨0, q1_z⟩
          · exact ⟨1, q1_z⟩
        obtain ⟨y_z, rfl⟩ := hr1
        exact Or.inr ⟨rfl, f_z, C_z, y_z, hf, hC, rfl⟩
theorem mq_53 {s : cx_Sd 12} {ks L : List (Fin 12)} {A A1 : pm_A} {Z : Int → Prop} (hT : Tru s ks A) (hsv : savesJ A A1 36 72) (hL : rwL (A1 30) (A1 0 46) L) (hP : ∀ f_z ∈ L, (f_z.1 : Int) < A1 0 7) (h12 : A1 0 46 ≤ 12) (e7 : A1 0 7 = A 0 7) (e8 : A1 0 8 = A 0 8) : ∀ (m_z n_z : Nat) (w4_z : pm_V) (B_z : pm_A), m_z + n_z = 40 → (∀ z_z, ordA s ks L (A 0 7 + A 0 8) (A 0 7) m_z n_z z_z → Z z_z) → mrI s A1 B_z (ks ++ rpt L n_z) → Tm pmt (an_sh wM) o_X10_order 53 ([(2, 0), (0, -2), (0, 1), (0, (n_z : Int) + 1), w4_z], [], B_z) (moP s ks A Z) := by
  have p7_z := fM_0_7 hT.1 (r := 0) (by omega) km0
  have p8 := fM_0_8 hT.1 (r := 0) (by omega) km0
  have stop_z : ∀ (ans_z g_z n_z : Int) (w4_z : pm_V) (B_z : pm_A), odF A1 B_z → Z ans_z → (g_z = 0 ∨ 0 ≤ ans_z ∨ 40 < n_z) → Tm pmt (an_sh wM) o_X10_order 53 ([(2, 0), (0, ans_z), (0, g_z), (0, n_z), w4_z], [], B_z) (moP s ks A Z) := fun ans_z g_z n_z w4_z B_z hB_z hz hs => by
    refine wq_ok srt_Morder (fr := []) (cuts := [120]) (J := fun pc st_z => (pc = 120 ∧ st_z = ([(2, 0), (0, ans_z), (0, g_z), (0, n_z), w4_z], [], B_z))) ?_ 14 53 _ ?_
    · rintro pc st_z ⟨rfl, rfl⟩
      exact mq_120 hT hsv hB_z hz _ _ _
    · refine ⟨fun h0 => ⟨rfl, rfl⟩, fun h0 => ?_⟩
      refine ⟨fun h1 => ⟨rfl, rfl⟩, fun h1 => ?_⟩
      refine ⟨fun h2 => ⟨rfl, rfl⟩, fun h2 => ?_⟩
      rcases hs with q_z | q_z | q_z
      · exact absurd q_z h1
      · exact absurd q_z (by omega)
      · exact absurd q_z (by omega)
  have next : ∀ (ans_z g_z n_z : Int) (w4_z : pm_V) (B_z : pm_A), n_z ≤ 40 → 1 ≤ n_z → Tm pmt (an_sh wM) o_X10_order 53 ([(2, 0), (0, ans_z), (0, g_z), (0, n_z + 1), w4_z], [], B_z) (moP s ks A Z) → Tm pmt (an_sh wM) o_X10_order 114 ([(2, 0), (0, ans_z), (0, g_z), (0, n_z), w4_z], [], B_z) (moP s ks A Z) := fun ans_z g_z n_z w4_z B_z hn n0_z hh => by
    refine wq_ok srt_Morder (fr := []) (cuts := [53]) (J := fun pc st_z => (pc = 53 ∧ st_z = ([(2, 0), (0, ans_z), (0, g_z), (0, n_z + 1), w4_z], [], B_z))) ?_ 7 114 _ ?_
    · rintro pc st_z (⟨rfl, rfl⟩)
      exact hh
    · refine ⟨⟨by omega, by omega⟩, ?_⟩
      exact ⟨rfl, rfl⟩
  intro m_z
  induction m_z with
  | zero =>
    intro n_z w4_z B_z hn hZ hB_z
    exact stop_z _ _ _ _ _ hB_z.2 (hZ (-2) rfl) (Or.inr (Or.inr (by omega)))
  | succ m_z ih_z =>
    intro n_z w4_z B_z hn hZ hB_z
    have hW : A1 0 7 + A1 0 8 = A 0 7 + A 0 8 := by rw [e7, e8]
    refine wq_ok srt_Morder (fr := []) (cuts := [70]) (J := fun pc st_z => (pc = 70 ∧ st_z = ([(2, 0), (0, -2), (0, 1), (0, (n_z : Int) + 1), (0, 0)], [], B_z))) ?_ 14 53 _ ?_
    · rintro pc st_z ⟨rfl, rfl⟩
      refine mq_70 (s := s) (ls := ks ++ rpt L n_z) hL hP h12 (fun hw w4_z C_z hC => ?_) (fun hw w4_z C_z hC => ?_) _ 0 B_z (Nat.lt_succ_self _) (Nat.zero_le _) (by rw [List.take_zero, List.append_nil]; exact hB_z) trivial
      · rw [hW, e7] at hw
        have hTC : Tru s (ks ++ rpt L (n_z + 1)) C_z := by
          have := hC.1
          rw [List.append_assoc] at this
          exact this
        have c7_z : C_z 0 7 = A 0 7 := (hC.2.fld (by omega) (by omega) (by omega) (by omega)).trans e7
        have c8_z : C_z 0 8 = A 0 8 := (hC.2.fld (by omega) (by omega) (by omega) (by omega)).trans e8
        have hK_z : TrK s ks C_z 36 (C_z 22) (C_z 0 7 + C_z 0 8) (C_z 0 7) := by
          rw [c7_z, c8_z]
          refine ⟨fun i_z hi_z => ?_, fun i_z j_z hi_z hj => ?_⟩
          · have m1_z := eM_1 hsv.1 (r := 1) (by omega) kn1 (j := 36 + (i_z.1 : Int)) (by omega) (by omega)
            have e1 : LSm C_z (36 + (i_z.1 : Int)) = LSm A (i_z.1 : Int) := by
              rw [LSm_same m1_z.2 (hC.2.slot (p := 36 + (i_z.1 : Int)) (by omega) (by omega))]
              exact hsv.2.2.1 _ (by omega) hi_z
            rw [e1]
            obtain ⟨a1_z, a2, a3⟩ := hT.2.2.2.2.2.2 i_z hi_z
            exact ⟨shr_of a1_z a2, fun x_z => a3 x_z⟩
          · rw [hC.2.cell (by omega) (by omega) (by omega) (by omega) (by omega), hsv.2.2.2 _ (by omega) (by omega)]
            exact (hT.2.2.1 i_z j_z hj).1 hi_z
        have hmd := md_iff hTC hK_z
        rw [c7_z, c8_z] at hmd
        refine wq_ok srt_Morder (fr := []) (cuts := [109]) (J := fun pc st_z => (pc = 109 ∧ ∃ (D_z : pm_A) (y_z : Int), ibP C_z (some (0, y_z), D_z) ∧ st_z = ([(2, 0), (0, -2), (0, 1), (0, (n_z : Int) + 1), w4_z], [(0, y_z)], D_z))) ?_ 8 101 _ ?_
        · rintro pc st_z (⟨rfl, D_z, y_z, hD, rfl⟩)
          obtain ⟨d1_z, d2_z⟩ := hD
          simp only at d1_z d2_z
          have hod : odF A1 D_z := hC.2.tr ⟨d1_z.1, fun r_z j_z r0 r1_z j0 j1 _ _ _ _ h16_z _ => d1_z.2 r_z j_z h16_z⟩
          have hTD : Tru s (ks ++ rpt L (n_z + 1)) D_z := hTC.ls d1_z.1 (d1_z.2 0 7 (by omega)) (d1_z.2 0 8 (by omega)) (fun j_z _ _ => d1_z.2 5 j_z (by omega)) (fun p_z _ _ => d1_z.ls p_z)
          rcases d2_z with ⟨q_z, hy⟩ | ⟨q_z, hy⟩
          · have hy1 : y_z = 1 := by injection q_z with q_z; injection q_z
            subst hy1
            refine wq_ok srt_Morder (fr := []) (cuts := [114]) (J := fun pc st_z => (pc = 114 ∧ st_z = ([(2, 0), (0, (n_z : Int) + 1), (0, 1), (0, (n_z : Int) + 1), w4_z], [], D_z))) ?_ 8 109 _ ?_
            · rintro pc st_z ⟨rfl, rfl⟩
              refine next _ _ _ _ _ (by omega) (by omega) (stop_z _ _ _ _ _ hod (hZ _ ?_) (Or.inr (Or.inl (by omega))))
              exact Or.inr (Or.inl ⟨hw, hmd.1 hy, rfl⟩)
            · refine ⟨fun h0 => absurd h0 (by decide), fun h0 => ?_⟩
              exact ⟨rfl, rfl⟩
          · have hy1 : y_z = 0 := by injection q_z with q_z; injection q_z
            subst hy1
            refine wq_ok srt_Morder (fr := []) (cuts := [114]) (J := fun pc st_z => (pc = 114 ∧ st_z = ([(2, 0), (0, -2), (0, 1), (0, (n_z : Int) + 1), w4_z], [], D_z))) ?_ 8 109 _ ?_
            · rintro pc st_z ⟨rfl, rfl⟩
              refine next _ _ _ _ _ (by omega) (by omega) ?_
              rw [show (n_z : Int) + 1 + 1 = ((n_z + 1 : Nat) : Int) + 1 by omega]
              exact ih_z (n_z + 1) w4_z D_z (by omega) (fun z_z hz => hZ z_z (Or.inr (Or.inr ⟨hw, fun q_z => hy (hmd.2 q_z), hz⟩))) ⟨hTD, hod⟩
            · refine ⟨fun h0 => ?_, fun h0 => absurd rfl h0⟩
              exact ⟨rfl, rfl⟩
        · refine ⟨fun h0 => absurd h0 (by decide), fun h0 => ?_⟩
          refine ⟨rM_0 (by omega) km0, ?_⟩
          refine (isBegun_ex hC.2.1).imp ?_
          rintro ⟨r1_z, D_z⟩ hD
          have hr1 : ∃ y_z, r1_z = some (0, y_z) := by
            rcases hD.2 with ⟨q1_z, _⟩ | ⟨q1_z, _⟩
            · exact ⟨1, q1_z⟩
            · exact ⟨0, q1_z⟩
          obtain ⟨y_z, rfl⟩ := hr1
          exact ⟨rfl, D_z, y_z, hD, rfl⟩
      · rw [hW, e7] at hw
        refine wq_ok srt_Morder (fr := []) (cuts := [114]) (J := fun pc st_z => (pc = 114 ∧ st_z = ([(2, 0), (0, -2), (0, 0), (0, (n_z : Int) + 1), w4_z], [], C_z))) ?_ 8 101 _ ?_
        · rintro pc st_z ⟨rfl, rfl⟩
          exact next _ _ _ _ _ (by omega) (by omega) (stop_z _ _ _ _ _ hC (hZ _ (Or.inl ⟨hw, rfl⟩)) (Or.inl rfl))
        · refine ⟨fun h0 => ⟨rfl, rfl⟩, fun h0 => absurd rfl h0⟩
    · refine ⟨fun h0 => absurd h0 (by omega), fun h0 => ?_⟩
      refine ⟨fun h1 => absurd h1 (by decide), fun h1 => ?_⟩
      refine ⟨fun h2 => absurd h2 (by decide), fun h2 => ?_⟩
      exact ⟨rfl, rfl⟩
theorem mq_11 {s : cx_Sd 12} {ks : List (Fin 12)} {A : pm_A} (hT : Tru s ks A) (h0 : ¬ A 0 46 = 0) : ∀ (m_z : Nat) (j_z : Int) (w2_z w3_z w4_z : pm_V), (12 - j_z).toNat < m_z → 0 ≤ j_z → j_z ≤ A 0 46 → (∀ i_z : Int, 0 ≤ i_z → i_z < j_z → A 30 i_z < A 0 7) → Tm pmt (an_sh wM) o_X10_order 11 ([(2, 0), (0, j_z), w2_z, w3_z, w4_z], [], A) (moP s ks A (orZ s ks (A 30) (A 0 46) (A 0 7 + A 0 8) (A 0 7))) := by
  have hg := hT.1
  have c47_z := pM_47 hg
  have p46 := fM_0_46 hg (r := 0) (by omega) km0
  have p7_z := fM_0_7 hg (r := 0) (by omega) km0
  intro m_z
  induction m_z with
  | zero => intro j_z w2_z w3_z w4_z h_z; omega
  | succ m_z ih_z =>
    intro j_z w2_z w3_z w4_z hm_z j0 j1 hj
    refine wq_ok srt_Morder (fr := []) (cuts := [11, 46]) (J := fun pc st_z => (pc = 46 ∧ A 0 46 ≤ j_z ∧ ∃ C_z, savesJ A C_z 36 72 ∧ st_z = ([(2, 0), (0, j_z), w2_z, w3_z, w4_z], [], C_z)) ∨ (pc = 11 ∧ (j_z < (A 0 46)) ∧ ((A (A 0 47) j_z) < (A 0 7)) ∧ st_z = ([(2, 0), (0, j_z + 1), w2_z, w3_z, w4_z], [], A))) ?_ 18 11 _ ?_
    · rintro pc st_z (⟨rfl, hjj, C_z, q2_z, rfl⟩ | ⟨rfl, h0, h1, rfl⟩)
      · have s1_z : ∀ r_z j_z : Int, r_z ≠ 22 → (∀ t_z : Int, 36 ≤ t_z → t_z ≤ 41 → ¬ inS t_z r_z j_z) → C_z r_z j_z = A r_z j_z := fun r_z j_z hr hn => q2_z.2.1 r_z j_z (fun t_z t0_z t1_z ht => hn (36 + t_z) (by omega) (by omega) ht) hr
        have c0_z : ∀ j_z : Int, C_z 0 j_z = A 0 j_z := fun j_z => s1_z 0 j_z (by omega) (fun t_z t0_z t1_z ht => by unfold inS at ht; omega)
        have c30_z : ∀ j_z : Int, C_z 30 j_z = A 30 j_z := fun j_z => s1_z 30 j_z (by omega) (fun t_z t0_z t1_z ht => by unfold inS at ht; omega)
        have hrow : ∀ i_z : Int, 0 ≤ i_z → i_z < A 0 46 → A 30 i_z < A 0 7 := fun i_z i0_z i1_z => hj i_z i0_z (by omega)
        obtain ⟨L_z, hL⟩ := rwL_ex (R := A 30) (n := A 0 46) p46.1 (fun i_z i0_z i1_z => by
          have := eM_30 hg (r := 30) (by omega) kn30 i0_z (show i_z < 12 by omega)
          omega)
        have hLC : rwL (C_z 30) (C_z 0 46) L_z := by
          rw [c0_z 46]
          exact rwL_c hL (fun i_z _ _ => c30_z i_z)
        have hm_z := rwL_m hL hrow
        have hTC : Tru s ks C_z := hT.ls q2_z.1 (c0_z 7) (c0_z 8) (fun j_z _ _ => s1_z 5 j_z (by omega) (fun t_z t0_z t1_z ht => by unfold inS at ht; omega)) (fun p_z p0_z p1_z => by
          have mA := eM_1 hT.1 (r := 1) (by omega) kn1 (j := p_z) (by omega) (by omega)
          exact LSm_same mA.2 (fun r_z j_z hr => s1_z r_z j_z (by unfold inS at hr; omega) (fun t_z t0_z t1_z ht => by unfold inS at *; omega)))
        have hu : ∀ z_z, ordA s ks L_z (A 0 7 + A 0 8) (A 0 7) 40 0 z_z → orZ s ks (A 30) (A 0 46) (A 0 7 + A 0 8) (A 0 7) z_z := fun z_z hz => by
          refine Or.inr ⟨h0, hrow, fun L' hL' => ?_⟩
          have eL : L' = L_z := by
            refine List.ext_getElem? (fun i_z => ?_)
            have g1 := hL.1
            have g2 := hL'.1
            by_cases hi_z : i_z < L_z.length
            · have q1_z : L_z[i_z]? = some L_z[i_z] := List.getElem?_eq_getElem hi_z
              have q2_z : L'[i_z]? = some (L'[i_z]'(by omega)) := List.getElem?_eq_getElem (by omega)
              have q3_z := hL.2 i_z _ q1_z
              have q4_z := hL'.2 i_z _ q2_z
              rw [q1_z, q2_z]
              refine congrArg some (Fin.ext ?_)
              omega
            · rw [List.getElem?_eq_none (by omega), List.getElem?_eq_none (by omega)]
          rw [eL]
          exact hz
        refine wq_ok srt_Morder (fr := []) (cuts := [53]) (J := fun pc st_z => (pc = 53 ∧ st_z = ([(2, 0), (0, -2), (0, 1), (0, 1), w4_z], [], C_z))) ?_ 12 46 _ ?_
        · rintro pc st_z ⟨rfl, rfl⟩
          obtain ⟨k_z, r_z, hk, hrr⟩ := mq_53 hT q2_z hLC (fun f_z hf => by rw [c0_z 7]; exact hm_z f_z hf) (by rw [c0_z 46]; exact p46.2) (c0_z 7) (c0_z 8) 40 0 w4_z C_z (by omega) hu ⟨by show Tru s (ks ++ []) C_z; rw [List.append_nil]; exact hTC, q2_z.1, fun _ _ _ _ _ _ _ _ _ _ _ _ => rfl⟩
          have e01 : ((0 : Nat) : Int) + 1 = 1 := by omega
          rw [e01] at hk
          exact ⟨k_z, r_z, hk, hrr⟩
        · exact ⟨rfl, rfl⟩
      · rw [c47_z] at h1
        refine ih_z (j_z + 1) w2_z w3_z w4_z (by omega) (by omega) (by omega) (fun i_z i0_z i1_z => ?_)
        by_cases e_z : i_z = j_z
        · rw [e_z]; exact h1
        · exact hj i_z i0_z (by omega)
    · refine ⟨oM_0 (by omega) km0 46 rfl, ?_⟩
      refine ⟨fun h0 => ?_, fun h0 => ?_⟩
      · refine ⟨rM_0 (by omega) km0, ?_⟩
        refine (saves_ex (p := 36) hg (by omega) (by omega)).imp ?_
        rintro ⟨r1_z, C_z⟩ ⟨q1_z, q2_z⟩
        simp only at q1_z q2_z
        subst q1_z
        exact Or.inl ⟨rfl, h0, C_z, q2_z, rfl⟩
      · refine ⟨oM_0 (by omega) km0 47 rfl, ?_⟩
        refine ⟨aM_30 (r := A 0 47) (by rw [c47_z]; omega) (by rw [c47_z]; exact kn30) (by omega) (by omega), ?_⟩
        refine ⟨oM_0 (by omega) km0 7 rfl, ?_⟩
        refine ⟨fun h1 => ?_, fun h1 => ?_⟩
        · refine ⟨⟨by omega, by omega⟩, ?_⟩
          exact Or.inr (⟨rfl, h0, h1, rfl⟩)
        · rw [c47_z] at h1
          exact ⟨rfl, ⟨hT, fun _ _ _ => rfl⟩, -1, rfl, Or.inl ⟨rfl, Or.inr ⟨j_z, j0, h0, by omega⟩⟩⟩
theorem morder_ex {s : cx_Sd 12} {ks : List (Fin 12)} {A : pm_A} (hT : Tru s ks A) : Cl pmt (an_sh wM) 170 [(2, 0)] A (moP s ks A (orZ s ks (A 30) (A 0 46) (A 0 7 + A 0 8) (A 0 7))) := by
  have p46 := fM_0_46 hT.1 (r := 0) (by omega) km0
  refine Cl.of (Nat.le_of_ble_eq_true rfl) ?_
  refine wq_ok (full := o_X10_order) srt_Morder (fr := []) (cuts := [11]) (J := fun pc st_z => (pc = 11 ∧ (¬ (A 0 46) = 0) ∧ st_z = ([(2, 0), (0, 0), (9, 0), (9, 0), (9, 0)], [], A))) ?_ 10 0 _ ?_
  · rintro pc st_z ⟨rfl, h0, rfl⟩
    exact mq_11 hT h0 _ 0 _ _ _ (Nat.lt_succ_self _) (by omega) p46.1 (fun i_z i0_z i1_z => by omega)
  · refine ⟨oM_0 (by omega) km0 46 rfl, ?_⟩
    refine ⟨fun h0 => ?_, fun h0 => ?_⟩
    · exact ⟨rfl, h0, rfl⟩
    · exact ⟨rfl, ⟨hT, fun _ _ _ => rfl⟩, -1, rfl, Or.inl ⟨rfl, Or.inl h0⟩⟩
