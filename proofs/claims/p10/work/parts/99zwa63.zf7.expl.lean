/-! the class's explore and all, exactly -/
theorem xq_130n {s : cx_Sd 12} {ks : List (Fin 12)} {A F : pm_A} {La : List Fun12} {Rh : List (List (Fin 12))} {W P : Int} {r : Nat} {p : List (Fin 12)} {k : Fin 12} {Z : Option (List Fun12 × List (List (Fin 12))) → Prop} (hs : sWP s W P) (hX : xaF s ks A F) (ht : tdF A F) (hk : (k.1 : Int) < P) (hz : Z none) : Tm pmt (an_sh wX) o_X0_explore 130 ([(2, 72), (2, 1), (2, 28), (0, (r : Int)), (0, (k.1 : Int))], [(0, -1), (0, (k.1 : Int)), (2, 102)], F) (exQ s ks A W P Z) := by
  have h6 := hs.1
  have hG : gH wX (pm_upd F 102 (k.1 : Int) (-1)) := uX_27 hX.1.1 kk102 (by omega) (by omega)
  have g1 : ∀ q_z j_z : Int, ¬ q_z = 102 → pm_upd F 102 (k.1 : Int) (-1) q_z j_z = F q_z j_z := fun q_z j_z hq => upd_ne hq
  have g2 : pm_upd F 102 (k.1 : Int) (-1) 102 (k.1 : Int) = -1 := upd_at
  refine wq_ok srt_explore (fr := []) (cuts := [131]) (J := fun pc st_z => pc = 131 ∧ st_z = ([(2, 72), (2, 1), (2, 28), (0, (r : Int)), (0, (k.1 : Int))], [], pm_upd F 102 (k.1 : Int) (-1))) ?_ 30 130 _ ?_
  · rintro pc st_z ⟨rfl, rfl⟩
    generalize pm_upd F 102 (k.1 : Int) (-1) = G_z at hG g1 g2
    have hXG : xaF s ks A G_z := hX.put hG (fun q_z j_z hq => g1 q_z j_z (fun e_z => hq (by unfold atC; omega))) (fun q_z j_z q0 qk hj => g1 q_z j_z (knd qk kk102 (by decide))) (fun j_z j0 j1 => by rw [g1 82 j_z (by omega)]; exact hX.1.2.1.2.2.2.1 j_z j0 j1)
    have htG : tdF A G_z := ht.tr ⟨g1 72 13 (by omega), g1 72 14 (by omega)⟩ (fun q_z j_z h0 h1 => g1 q_z j_z (by omega))
    have e9_z : G_z 72 9 = 102 := hXG.2.1.1.2.2.2.2.2.2.2.1
    refine wq_ok srt_explore (fr := []) (cuts := []) (J := fun _ _ => False) (fun _ _ h_z => h_z.elim) 30 131 _ ?_
    refine ⟨oX_5 z72 kk72 9 rfl, ?_⟩
    refine ⟨aX_27 (r := G_z 72 9) (by rw [e9_z]; omega) (by rw [e9_z]; exact kk102) (by omega) (by omega), ?_⟩
    refine ⟨fun q_z => ?_, fun q_z => ?_⟩
    · exact ⟨rfl, Or.inl ⟨hXG, htG, hz, rfl⟩⟩
    · rw [e9_z, g2] at q_z
      exact absurd rfl q_z
  · refine ⟨tX_27 (r := 102) (by omega) kk102 (by omega) (by omega) rfl, ?_⟩
    exact ⟨rfl, rfl⟩
/-- how a step goes on -/
abbrev nxA (s : cx_Sd 12) (ks : List (Fin 12)) (A : pm_A) (La : List Fun12) (Rh : List (List (Fin 12))) (W P : Int) (r : Nat) (p : List (Fin 12)) (k : Fin 12) (Z : Option (List Fun12 × List (List (Fin 12))) → Prop) : Prop := ∀ (Lb : List Fun12) (Rb_z : List (List (Fin 12))) (D_z : pm_A), stepA s W P La Rh p k (some (Lb, Rb_z)) → xaF s ks A D_z → pcA s D_z Lb Rb_z W P → tdF A D_z → Tm pmt (an_sh wX) o_X0_explore 154 ([(2, 72), (2, 1), (2, 28), (0, (r : Int)), (0, (k.1 : Int))], [], D_z) (exQ s ks A W P Z)
theorem pc_in {s : cx_Sd 12} {B : pm_A} {La : List Fun12} {Rh : List (List (Fin 12))} {W P : Int} (hp : pcA s B La Rh W P) : ∀ u_z ∈ Rh, ∀ i_z : Fin 12, (i_z.1 : Int) < P → gpf s u_z i_z ∈ La := fun u_z hu i_z hi_z => by
  obtain ⟨m_z, hm_z⟩ := List.mem_iff_getElem?.mp hu
  obtain ⟨l, _, h2⟩ := (hp.2.2.2.1 m_z u_z hm_z).2.1 i_z hi_z
  exact List.mem_of_getElem? h2
theorem xq_116 {s : cx_Sd 12} {ks : List (Fin 12)} {A E : pm_A} {La : List Fun12} {Rh : List (List (Fin 12))} {W P : Int} {r : Nat} {p : List (Fin 12)} {k : Fin 12} {Z : Option (List Fun12 × List (List (Fin 12))) → Prop} (hs : sWP s W P) (hX : xaF s ks A E) (hp : pcA s E La Rh W P) (ht : tdF A E) (hr : Rh[r]? = some p) (hk : (k.1 : Int) < P) (hok : okS s p W P k) (hf : ltr E (E 28 0) (gpf s (p ++ [k]) k) W) (h102 : ∀ i_z : Int, 0 ≤ i_z → i_z < P → E 102 i_z = E 74 (6 * (r : Int) + i_z)) (h80 : ∀ i_z j_z : Fin 12, (i_z.1 : Int) < W → (j_z.1 : Int) < P → cr_bs s.b (p ++ [k]) i_z j_z = E 80 ((i_z.1 : Int) * 6 + (j_z.1 : Int))) (hfail : stepA s W P La Rh p k none → Z none) (H : nxA s ks A La Rh W P r p k Z) : Tm pmt (an_sh wX) o_X0_explore 116 ([(2, 72), (2, 1), (2, 28), (0, (r : Int)), (0, (k.1 : Int))], [], E) (exQ s ks A W P Z) := by
  have f0_z := fX_4_0 hX.1.1 z28 kk28
  have f72 := mil72 hX.1 (n := 0) (by omega) (by omega)
  have e9_z : E 72 9 = 102 := hX.2.1.1.2.2.2.2.2.2.2.1
  refine wq_ok srt_explore (fr := []) (cuts := [130]) (J := fun pc st_z => pc = 130 ∧ ∃ (l : Int) (F_z : pm_A), nbP E (E 28 0) (some (0, l), F_z) ∧ st_z = ([(2, 72), (2, 1), (2, 28), (0, (r : Int)), (0, (k.1 : Int))], [(0, l), (0, (k.1 : Int)), (2, E 72 9)], F_z)) ?_ 30 116 _ ?_
  · rintro pc st_z ⟨rfl, l, F_z, hN_z, rfl⟩
    rw [e9_z]
    rcases nb_pic hs hX hp f0_z f72 hf (gpf_pos s _ k) hN_z with ⟨b1, b2, b3, b4⟩ | ⟨La', b1, b2, b3, b4, b5, b6⟩
    · subst b4
      rw [b1]
      refine xq_130n (La := La) (Rh := Rh) (p := p) hs hX ht hk (hfail (Or.inr (Or.inr ⟨hok, ?_, Or.inr (Or.inr (Or.inl ⟨b2, b3, rfl⟩))⟩)))
      rintro ⟨u_z, hu, hsm⟩
      obtain ⟨f_z, hf2⟩ := smS_T hsm
      have h9 := pc_in hp u_z hu (f_z k) (hf2.1 k hk)
      have e5 : gpf s u_z (f_z k) = gpf s (p ++ [k]) k := funext fun x_z => hf2.2.2.1 k hk x_z
      rw [e5] at h9
      exact b2 h9
    · have hpre : ∀ (m_z : Nat) (g_z : Fun12), La[m_z]? = some g_z → La'[m_z]? = some g_z := fun m_z g_z hm_z => by
        rcases b1 with ⟨_, c2_z⟩ | ⟨_, _, c2_z⟩
        · rw [c2_z]; exact hm_z
        · rw [c2_z, List.getElem?_append_left (List.getElem?_eq_some_iff.mp hm_z).1]; exact hm_z
      refine xq_130 hs b5 b4 (ht.tr ⟨b6 72 13 (by omega) (by omega), b6 72 14 (by omega) (by omega)⟩ (fun q_z j_z h0 h1 => b6 q_z j_z (by omega) (by omega))) hr hk hok b1 b2 b3 (fun i_z hi_z hne => ?_) (fun i_z j_z hi_z hj => by rw [b6 80 _ (by omega) (by omega)]; exact h80 i_z j_z hi_z hj) (pc_in hp) hfail H
      obtain ⟨m_z, a1_z, a2⟩ := (hp.2.2.2.1 r p hr).2.1 i_z hi_z
      exact ⟨m_z, by rw [b6 102 _ (by omega) (by omega), h102 _ (by omega) hi_z]; exact a1_z, hpre m_z _ a2⟩
  · refine ⟨oX_5 z72 kk72 9 rfl, ?_⟩
    refine ⟨oX_4 z28 kk28 0 rfl, ?_⟩
    refine ⟨rX_5 z72 kk72, ?_⟩
    refine (numberOf_ex hX.1.1 hX.2.1 (fun a_z a0_z ak => ⟨hX.1.2.1.2.1 a_z a0_z ak, hX.1.2.2.2.1 a_z a0_z ak⟩) f0_z (fun x_z x0_z x1_z => by omega)).imp ?_
    rintro ⟨q1_z, F_z⟩ hN_z
    have hq : ∃ l, q1_z = some (0, l) := by
      rcases hN_z with ⟨i_z, _, _, e_z⟩ | ⟨_, ⟨_, e_z⟩ | ⟨_, e_z, _⟩⟩
      · injection e_z with e1 _; exact ⟨i_z, e1⟩
      · injection e_z with e1 _; exact ⟨-1, e1⟩
      · exact ⟨_, e_z⟩
    obtain ⟨l, rfl⟩ := hq
    exact ⟨rfl, l, F_z, hN_z, rfl⟩
theorem xq_82 {s : cx_Sd 12} {ks : List (Fin 12)} {A D : pm_A} {La : List Fun12} {Rh : List (List (Fin 12))} {W P : Int} {r : Nat} {p : List (Fin 12)} {k : Fin 12} {Z : Option (List Fun12 × List (List (Fin 12))) → Prop} (hs : sWP s W P) (hX : xaF s ks A D) (hp : pcA s D La Rh W P) (ht : tdF A D) (hr : Rh[r]? = some p) (hk : (k.1 : Int) < P) (hok : okS s p W P k) (hT : TrX s p D 79) (hf : ltr D (D 28 0) (gpf s (p ++ [k]) k) W) (h102 : ∀ i_z : Int, 0 ≤ i_z → i_z < P → D 102 i_z = D 74 (6 * (r : Int) + i_z)) (hfail : stepA s W P La Rh p k none → Z none) (H : nxA s ks A La Rh W P r p k Z) : Tm pmt (an_sh wX) o_X0_explore 82 ([(2, 72), (2, 1), (2, 28), (0, (r : Int)), (0, (k.1 : Int))], [], D) (exQ s ks A W P Z) := by
  have e0_z : D 79 0 = P := hp.1.1
  have eW : D 79 0 + D 79 1 = W := hp.1.2
  have a8 : D 72 8 = 79 := hX.2.1.1.2.2.2.2.2.2.1
  have t2_z : D 79 2 = 80 := hX.2.1.2.2.1.1
  have h6 := hs.1
  have h7 := hs.2.1
  have q6_z := fX_1_1 hX.1.1 z79 kk79
  have hWb : bgW D 79 = W := eW
  have hb_z := hT.2.2.2.2.2.2.1
  rw [t2_z, hWb, e0_z] at hb_z
  refine wq_ok srt_explore (fr := []) (cuts := [116]) (J := fun pc st_z => pc = 116 ∧ ∃ E_z, ttP D 80 W P k.1 (none, E_z) ∧ st_z = ([(2, 72), (2, 1), (2, 28), (0, (r : Int)), (0, (k.1 : Int))], [], E_z)) ?_ 30 82 _ ?_
  · rintro pc st_z ⟨rfl, E_z, hE, rfl⟩
    obtain ⟨_, ⟨c1_z, c2_z⟩, c3_z⟩ := hE
    simp only at c1_z c2_z c3_z
    have hXE : xaF s ks A E_z := hX.put c1_z (fun q_z j_z hq => c2_z q_z j_z (fun e_z => hq (by unfold atC; omega))) (fun q_z j_z q0 qk hj => c2_z q_z j_z (knd qk kk80 (by decide))) (fun j_z j0 j1 => by rw [c2_z 82 j_z (by omega)]; exact hX.1.2.1.2.2.2.1 j_z j0 j1)
    have hpE : pcA s E_z La Rh W P := hp.of hs (c2_z 72 1 (by omega)) (c2_z 72 7 (by omega)) ⟨c2_z 79 0 (by omega), c2_z 79 1 (by omega)⟩ (fun q_z j_z q0 q1_z => c2_z q_z j_z (by omega)) (fun l l0 l1 => by
      have h100 := hp.2.1.1
      have e2 := hX.1.2.1.2.1 (107 + 3 * l) (by omega) (kkLt l0 (by omega))
      have e3 := hX.1.2.2.2.1 (107 + 3 * l) (by omega) (kkLt l0 (by omega))
      exact ⟨fun j_z => c2_z _ j_z (by omega), fun j_z => by rw [e2]; exact c2_z _ j_z (by omega), fun j_z => by rw [e3]; exact c2_z _ j_z (by omega)⟩)
    have htE : tdF A E_z := ht.tr ⟨c2_z 72 13 (by omega), c2_z 72 14 (by omega)⟩ (fun q_z j_z h0 h1 => c2_z q_z j_z (by omega))
    have f0_z := fX_4_0 hX.1.1 z28 kk28
    have f72 := mil72 hX.1 (n := 0) (by omega) (by omega)
    have e28_z : E_z 28 0 = D 28 0 := c2_z 28 0 (by omega)
    have g2 := hX.1.2.1.2.1 _ f0_z.1 f0_z.2
    have g3_z := hX.1.2.2.2.1 _ f0_z.1 f0_z.2
    have smf : sme D E_z (D 28 0) := ⟨fun j_z => c2_z _ j_z (by omega), fun j_z => by rw [g2]; exact c2_z _ j_z (by omega), fun j_z => by rw [g3_z]; exact c2_z _ j_z (by omega)⟩
    refine xq_116 hs hXE hpE htE hr hk hok (by rw [e28_z]; exact hf.sm smf) (fun i_z i0_z i1_z => by rw [c2_z 102 i_z (by omega), c2_z 74 _ (by omega)]; exact h102 i_z i0_z i1_z) (fun i_z j_z hi_z hj => ?_) hfail H
    rw [c3_z i_z.1 j_z.1 (by omega) hi_z (by omega) hj, cr_bs_snoc]
    have h9 := tv_trX hT (k := k) (i := i_z) (j := j_z) (by rw [e0_z]; exact hk) (by rw [e0_z]; exact hj) (by rw [hWb]; exact hi_z)
    rw [t2_z] at h9
    exact h9
  · refine ⟨oX_5 z72 kk72 8 rfl, ?_⟩
    refine ⟨oX_1 (r := D 72 8) (by rw [a8]; omega) (by rw [a8]; exact kk79) 2 rfl, ?_⟩
    refine ⟨oX_5 z72 kk72 8 rfl, ?_⟩
    refine ⟨oX_1 (r := D 72 8) (by rw [a8]; omega) (by rw [a8]; exact kk79) 0 rfl, ?_⟩
    refine ⟨oX_5 z72 kk72 8 rfl, ?_⟩
    refine ⟨oX_1 (r := D 72 8) (by rw [a8]; omega) (by rw [a8]; exact kk79) 1 rfl, ?_⟩
    refine ⟨⟨by rw [a8]; omega, by rw [a8]; omega⟩, ?_⟩
    refine ⟨oX_5 z72 kk72 8 rfl, ?_⟩
    refine ⟨oX_1 (r := D 72 8) (by rw [a8]; omega) (by rw [a8]; exact kk79) 0 rfl, ?_⟩
    refine ⟨rfl, ?_⟩
    show Cl pmt (an_sh wX) 116 [(2, D (D 72 8) 2), (0, D (D 72 8) 0 + D (D 72 8) 1), (0, D (D 72 8) 0), (0, (k.1 : Int))] D _
    rw [a8, t2_z, eW, e0_z]
    refine (turnTable_ex (t := 80) (R := W) (P := P) (k := (k.1 : Int)) hX.1.1 ⟨⟨by omega, kk80⟩, hb_z, ⟨by omega, hk⟩, h7.1, h7.2, h6.2⟩).imp ?_
    rintro ⟨q1_z, E_z⟩ hE
    have hq1 : q1_z = none := hE.1
    subst hq1
    exact ⟨rfl, E_z, hE, rfl⟩
theorem xq_66 {s : cx_Sd 12} {ks : List (Fin 12)} {A C : pm_A} {La : List Fun12} {Rh : List (List (Fin 12))} {W P : Int} {r : Nat} {p : List (Fin 12)} {k : Fin 12} {Z : Option (List Fun12 × List (List (Fin 12))) → Prop} (hs : sWP s W P) (hX : xaF s ks A C) (hp : pcA s C La Rh W P) (ht : tdF A C) (hr : Rh[r]? = some p) (hk : (k.1 : Int) < P) (hT : TrX s p C 79) (h102 : ∀ i_z : Int, 0 ≤ i_z → i_z < P → C 102 i_z = C 74 (6 * (r : Int) + i_z)) (hfail : stepA s W P La Rh p k none → Z none) (H : nxA s ks A La Rh W P r p k Z) : Tm pmt (an_sh wX) o_X0_explore 66 ([(2, 72), (2, 1), (2, 28), (0, (r : Int)), (0, (k.1 : Int))], [], C) (exQ s ks A W P Z) := by
  have e0_z : C 79 0 = P := hp.1.1
  have eW : bgW C 79 = W := hp.1.2
  have a8 : C 72 8 = 79 := hX.2.1.1.2.2.2.2.2.2.1
  have h3 := hX.1.ex79
  refine wq_ok srt_explore (fr := []) (cuts := [82]) (J := fun pc st_z => pc = 82 ∧ ∃ D_z, exPX s p k C 28 79 (some (0, 1), D_z) ∧ st_z = ([(2, 72), (2, 1), (2, 28), (0, (r : Int)), (0, (k.1 : Int))], [], D_z)) ?_ 30 66 _ ?_
  · rintro pc st_z ⟨rfl, D_z, hD, rfl⟩
    obtain ⟨hF, hD⟩ := hD
    simp only at hF hD
    rcases hD with ⟨q_z, _⟩ | ⟨_, hok, c0_z, cs, cc, cv⟩
    · cases q_z
    · have hXD := hX.ex hF
      have hits := (hT.its (k := k) (by rw [e0_z]; exact hk)).1 hok.2
      rw [eW, e0_z] at hits
      have e28_z : D_z 28 0 = C 28 0 := hF.ce hX.1.1 kk28 (by decide) (by decide) (by decide) (by decide) 0
      have hce : ∀ {q_z : Int} {l : Nat}, wX.2 q_z = l → ¬ l = 2 → ¬ l = 14 → ¬ l = 15 → ¬ l = 18 → ∀ j_z : Int, D_z q_z j_z = C q_z j_z := fun hq n1_z n2_z n3_z n4_z j_z => hF.ce hX.1.1 hq n1_z n2_z n3_z n4_z j_z
      have hpD : pcA s D_z La Rh W P := hp.of hs (hce kk72 (by decide) (by decide) (by decide) (by decide) 1) (hce kk72 (by decide) (by decide) (by decide) (by decide) 7) ⟨hce kk79 (by decide) (by decide) (by decide) (by decide) 0, hce kk79 (by decide) (by decide) (by decide) (by decide) 1⟩ (fun q_z j_z q0 q1_z => by
        have h_z : q_z = 74 ∨ q_z = 75 ∨ q_z = 76 ∨ q_z = 77 ∨ q_z = 78 := by omega
        rcases h_z with rfl | rfl | rfl | rfl | rfl
        · exact hce kk74 (by decide) (by decide) (by decide) (by decide) j_z
        · exact hce kk75 (by decide) (by decide) (by decide) (by decide) j_z
        · exact hce kk76 (by decide) (by decide) (by decide) (by decide) j_z
        · exact hce kk77 (by decide) (by decide) (by decide) (by decide) j_z
        · exact hce kk78 (by decide) (by decide) (by decide) (by decide) j_z) (fun l l0 l1 => by
        have h100 := hp.2.1.1
        have e2 := hX.1.2.1.2.1 (107 + 3 * l) (by omega) (kkLt l0 (by omega))
        have e3 := hX.1.2.2.2.1 (107 + 3 * l) (by omega) (kkLt l0 (by omega))
        exact ⟨fun j_z => hF.hi hX.1 (by omega) j_z, fun j_z => by rw [e2]; exact hF.hi hX.1 (by omega) j_z, fun j_z => by rw [e3]; exact hF.hi hX.1 (by omega) j_z⟩)
      refine xq_82 hs hXD hpD (ht.ex hX.1.1 hF) hr hk ⟨hok.1, hits⟩ (hT.keep h3 hF) ?_ (fun i_z i0_z i1_z => by rw [hce kk102 (by decide) (by decide) (by decide) (by decide), hce kk74 (by decide) (by decide) (by decide) (by decide)]; exact h102 i_z i0_z i1_z) hfail H
      rw [e28_z]
      exact ⟨cs, cc, by rw [c0_z]; exact eW, fun x_z => cv x_z⟩
  · refine ⟨oX_5 z72 kk72 8 rfl, ?_⟩
    refine ⟨rX_4 z28 kk28, ?_⟩
    show Cl pmt (an_sh wX) 42 [(2, 28), (2, C 72 8), (0, (k.1 : Int))] C _
    rw [a8]
    refine (exchange_exX hT h3 (by rw [e0_z]; exact hk)).imp ?_
    rintro ⟨q1_z, D_z⟩ hD
    have hD0 := hD
    obtain ⟨hF, hD⟩ := hD
    simp only at hF hD
    rcases hD with ⟨rfl, hno⟩ | ⟨rfl, _⟩
    · refine ⟨fun hh => absurd rfl hh, fun _ => ?_⟩
      have hn := nok (hT.its (k := k) (by rw [e0_z]; exact hk)) hno
      rw [eW, e0_z] at hn
      exact ⟨rfl, Or.inl ⟨hX.ex hF, ht.ex hX.1.1 hF, hfail (Or.inl ⟨hn, rfl⟩), rfl⟩⟩
    · refine ⟨fun _ => ?_, fun hh => absurd hh (by decide)⟩
      exact ⟨rfl, D_z, hD0, rfl⟩
theorem stepA_pre {s : cx_Sd 12} {W P : Int} {La La' : List Fun12} {Rh Rh' : List (List (Fin 12))} {p : List (Fin 12)} {k : Fin 12} (h : stepA s W P La Rh p k (some (La', Rh'))) {r : Nat} {u : List (Fin 12)} (hr : Rh[r]? = some u) : Rh'[r]? = some u := by
  have hpre : (Rh ++ [p ++ [k]])[r]? = some u := by rw [List.getElem?_append_left (List.getElem?_eq_some_iff.mp hr).1]; exact hr
  rcases h with ⟨_, a2⟩ | ⟨_, _, a3⟩ | ⟨_, _, a3⟩
  · cases a2
  · injection a3 with a3
    injection a3 with _ a3
    rw [a3]; exact hr
  · rcases a3 with ⟨_, c2_z⟩ | ⟨_, _, c3_z⟩ | ⟨_, _, c3_z⟩ | ⟨_, _, _, c4_z⟩
    · cases c2_z
    · injection c3_z with c3_z
      injection c3_z with _ c3_z
      rw [c3_z]; exact hpre
    · cases c3_z
    · injection c4_z with c4_z
      injection c4_z with _ c4_z
      rw [c4_z]; exact hpre
theorem xq_31 {s : cx_Sd 12} {ks : List (Fin 12)} {A : pm_A} {W P : Int} {r : Nat} {p : List (Fin 12)} {Z : Option (List Fun12 × List (List (Fin 12))) → Prop} (hs : sWP s W P) (r1 : r ≤ 149) (H : ∀ (La_z : List Fun12) (Rh : List (List (Fin 12))) (D_z : pm_A) (v_z : pm_V), (∀ n_z o, allA s W P n_z La_z Rh (r + 1) 0 o → Z o) → r < Rh.length → xaF s ks A D_z → pcA s D_z La_z Rh W P → tdF A D_z → Tm pmt (an_sh wX) o_X0_explore 160 ([(2, 72), (2, 1), (2, 28), (0, (r : Int)), v_z], [], D_z) (exQ s ks A W P Z)) : ∀ (n_z k_z : Nat) (La_z : List Fun12) (Rh : List (List (Fin 12))) (B_z : pm_A), 6 - k_z < n_z → (k_z : Int) ≤ P → Rh[r]? = some p → (∀ n_z o, allA s W P n_z La_z Rh r k_z o → Z o) → xaF s ks A B_z → pcA s B_z La_z Rh W P → tdF A B_z → Tm pmt (an_sh wX) o_X0_explore 31 ([(2, 72), (2, 1), (2, 28), (0, (r : Int)), (0, (k_z : Int))], [], B_z) (exQ s ks A W P Z) := by
  intro n_z
  induction n_z with
  | zero => intro k_z La_z Rh B_z h_z; omega
  | succ n_z ih_z =>
    intro k_z La_z Rh B_z hn k1_z hr hZ hX hp ht
    have h6 := hs.1
    have e0_z : B_z 79 0 = P := hp.1.1
    have a8 : B_z 72 8 = 79 := hX.2.1.1.2.2.2.2.2.2.1
    have a3 : B_z 72 3 = 75 := hX.2.1.1.2.2.1
    have hrl := (List.getElem?_eq_some_iff.mp hr).1
    have go_z : ∀ (f_z : Fin 12), f_z.1 = k_z → (k_z : Int) < P → ∀ (Lb : List Fun12) (Rb_z : List (List (Fin 12))) (D_z : pm_A), stepA s W P La_z Rh p f_z (some (Lb, Rb_z)) → xaF s ks A D_z → pcA s D_z Lb Rb_z W P → tdF A D_z → Tm pmt (an_sh wX) o_X0_explore 154 ([(2, 72), (2, 1), (2, 28), (0, (r : Int)), (0, (k_z : Int))], [], D_z) (exQ s ks A W P Z) := fun f_z hf hk Lb Rb_z D_z hst hXD hpD htD => by
      refine wq_ok srt_explore (fr := []) (cuts := [31]) (J := fun pc st_z => pc = 31 ∧ st_z = ([(2, 72), (2, 1), (2, 28), (0, (r : Int)), (0, (k_z : Int) + 1)], [], D_z)) ?_ 30 154 _ ?_
      · rintro pc st_z ⟨rfl, rfl⟩
        rw [show (k_z : Int) + 1 = ((k_z + 1 : Nat) : Int) by omega]
        exact ih_z (k_z + 1) Lb Rb_z D_z (by omega) (by omega) (stepA_pre hst hr) (fun n_z o ho => hZ (n_z + 1) o (Or.inr (Or.inr ⟨hk, p, f_z, hr, hf, Or.inr ⟨Lb, Rb_z, hst, ho⟩⟩))) hXD hpD htD
      · refine ⟨⟨by omega, by omega⟩, ?_⟩
        exact ⟨rfl, rfl⟩
    refine wq_ok srt_explore (fr := []) (cuts := [66, 154, 160]) (J := fun pc st_z => (pc = 160 ∧ P ≤ (k_z : Int) ∧ st_z = ([(2, 72), (2, 1), (2, 28), (0, (r : Int)), (0, (k_z : Int))], [], B_z)) ∨ (pc = 154 ∧ ((k_z : Int) < P ∧ ¬ B_z 75 (6 * (r : Int) + (k_z : Int)) = 0) ∧ st_z = ([(2, 72), (2, 1), (2, 28), (0, (r : Int)), (0, (k_z : Int))], [], B_z)) ∨ (pc = 66 ∧ (k_z : Int) < P ∧ ∃ C_z, ldF B_z C_z r (B_z 79 0) ∧ st_z = ([(2, 72), (2, 1), (2, 28), (0, (r : Int)), (0, (k_z : Int))], [], C_z))) ?_ 30 31 _ ?_
    · rintro pc st_z (⟨rfl, hk, rfl⟩ | ⟨rfl, hk, rfl⟩ | ⟨rfl, hk, C_z, hC, rfl⟩)
      · exact H La_z Rh B_z _ (fun n_z o ho => hZ (n_z + 1) o (Or.inr (Or.inl ⟨hrl, hk, ho⟩))) hrl hX hp ht
      · obtain ⟨b1, b2⟩ := hp.2.2.2.2 r p ⟨k_z, by omega⟩ hr hk.1 hk.2
        exact go_z ⟨k_z, by omega⟩ rfl hk.1 La_z Rh B_z (Or.inr (Or.inl ⟨b1, b2, rfl⟩)) hX hp ht
      · obtain ⟨c1_z, c2_z, c3_z, c4_z⟩ := ld_pic hs hX hp hr hC
        have hk12 : k_z < 12 := by omega
        refine xq_66 (k := ⟨k_z, hk12⟩) hs c1_z c2_z (ht.tr ⟨hC.2.1 72 13 (by omega) (by omega) (by omega), hC.2.1 72 14 (by omega) (by omega) (by omega)⟩ (fun q_z j_z h0 h1 => hC.2.1 q_z j_z (by omega) (by omega) (by omega))) hr hk c3_z c4_z (fun hst => hZ 1 none (Or.inr (Or.inr ⟨hk, p, ⟨k_z, hk12⟩, hr, rfl, Or.inl ⟨hst, rfl⟩⟩))) (fun Lb Rb_z D_z hst hXD hpD htD => go_z ⟨k_z, hk12⟩ rfl hk Lb Rb_z D_z hst hXD hpD htD)
    · refine ⟨oX_5 z72 kk72 8 rfl, ?_⟩
      refine ⟨oX_1 (r := B_z 72 8) (by rw [a8]; omega) (by rw [a8]; exact kk79) 0 rfl, ?_⟩
      refine ⟨fun h_z => ?_, fun h_z => ?_⟩
      · rw [a8, e0_z] at h_z
        exact Or.inl ⟨rfl, h_z, rfl⟩
      · rw [a8, e0_z] at h_z
        refine ⟨oX_5 z72 kk72 3 rfl, ?_⟩
        refine ⟨⟨by omega, by omega⟩, ?_⟩
        refine ⟨⟨by omega, by omega⟩, ?_⟩
        refine ⟨aX_24 (r := B_z 72 3) (by rw [a3]; omega) (by rw [a3]; exact kk75) (by omega) (by omega), ?_⟩
        have ev_z : B_z (B_z 72 3) ((r : Int) * 6 + (k_z : Int)) = B_z 75 (6 * (r : Int) + (k_z : Int)) := by rw [a3, show (r : Int) * 6 + (k_z : Int) = 6 * (r : Int) + (k_z : Int) by omega]
        refine ⟨fun h2 => ?_, fun h2 => ?_⟩
        · refine ⟨rX_5 z72 kk72, ?_⟩
          refine (load_ex hX.2.1 hX.1.1 (r := (r : Int)) (by omega) (by omega)).imp ?_
          rintro ⟨q1_z, C_z⟩ hC
          have hq1 : q1_z = none := hC.1
          subst hq1
          exact Or.inr (Or.inr ⟨rfl, h_z, C_z, hC.2, rfl⟩)
        · rw [ev_z] at h2
          exact Or.inr (Or.inl ⟨rfl, ⟨h_z, h2⟩, rfl⟩)
theorem pc_reH {s : cx_Sd 12} {ks : List (Fin 12)} {A B : pm_A} {La : List Fun12} {Rh : List (List (Fin 12))} {W P : Int} (hX : xaF s ks A B) (hp : pcA s B La Rh W P) : reH B := by
  refine ⟨hX.1.1, hX.2.1, fun a_z a0_z ak => ⟨hX.1.2.1.2.1 a_z a0_z ak, hX.1.2.2.2.1 a_z a0_z ak⟩, fun l l0 l1 => ?_, by have := hp.2.1.1; omega⟩
  have hr2 : l.toNat < La.length := by have := hp.2.1.1; omega
  have hu : La[l.toNat]? = some (La[l.toNat]'hr2) := List.getElem?_eq_getElem hr2
  have h1 := hp.2.1.2.1 _ _ hu
  rw [Int.toNat_of_nonneg l0] at h1
  refine ⟨h1.2.1, ?_, by rw [h1.2.2.1]; exact hp.1.2.symm⟩
  have hk : 0 ≤ 107 + 3 * l ∧ wX.2 (107 + 3 * l) = 2 := ⟨by omega, kkLt l0 (by have := hp.2.1.1; omega)⟩
  have m_z := fX_2_1 hX.1.1 hk.1 hk.2
  refine Classical.byContradiction (fun hneg => ?_)
  let o : cr_Pv 12 := ⟨fun _ => 1, fun _ => by grind⟩
  have h2 := h1.2.2.2 o
  have h0 : VX B (107 + 3 * l) o = 0 := by
    unfold VX LSx
    rw [show B (107 + 3 * l) 1 = 0 by omega]; rfl
  rw [h0] at h2
  have h3 := hp.2.1.2.2.2 _ (List.mem_of_getElem? hu) o
  rw [h2] at h3
  grind
