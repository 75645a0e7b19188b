/-! the class's measure, goNearer, lead, way -/
theorem far14 {n m : Int} {bm bf F G : Int → Int} (hb : bmS n bm bf m) (hF : cutS n F) (hG : cutS n G) : ∃ k_z : Nat, k_z ≤ 14 ∧ wkM n bm bf m (bitsV bm F 100) k_z (bitsV bm G 100) := by
  obtain ⟨d_z, d1_z, d0_z, d2_z⟩ := conn (n := n) (S := fun H_z d_z => 0 ≤ d_z ∧ wkM n bm bf m (bitsV bm F 100) d_z.toNat (bitsV bm H_z 100)) (fun H_z J_z d_z hH hn ⟨e0_z, e1_z⟩ => by
    obtain ⟨f_z, i_z, o_z, f0_z, f1_z, hf, ho, rfl⟩ := hn
    obtain ⟨k_z, h1⟩ := mfl_of hb hH f0_z f1_z hf ho
    obtain ⟨b', y0, y1, y2⟩ := mfl_sym hb k_z.1 k_z.2.1 h1
    refine ⟨by omega, ?_⟩
    rw [show (d_z + 1).toNat = d_z.toNat + 1 by omega]
    exact ⟨b', _, ⟨y0, y1⟩, y2, e1_z⟩) (fun H_z J_z d_z hH he ⟨e0_z, e1_z⟩ => ⟨e0_z, by rw [bitsV_congr (bm := bm) (F := J_z) (G := H_z) 100 (fun f_z f0_z f1_z => he f_z f0_z (by omega))]; exact e1_z⟩) (d := 0) hF hG ⟨by omega, rfl⟩
  exact ⟨d_z.toNat, by omega, d2_z⟩
theorem beF.gd {A B : pm_A} {a c f s : Int} (h : beF A B a c f s) (hG : GD A) : GD B := hG.of (fun r_z j_z hr => h.2.2.1 r_z j_z (by omega) (by omega) (by omega))
theorem wp_put {n m b v : Int} {bm bf V fa : Int → Int} {cm c t : Int} {P : Int → Prop} {A B : pm_A} {G : Int → Int} {W : Nat} (hb : bmS n bm bf m) (h : wpX n bm V fa cm A) (hX : bfsX n bm bf m V fa cm c P) (c0 : 0 ≤ c) (c1 : c < cm) (b0 : 0 ≤ b) (b1 : b < m) (hv : mfl n bm bf (V c) b v) (hno : ∀ e_z : Int, 0 ≤ e_z → e_z < cm → ¬ V e_z = v) (hG : cutS n G) (rG : rgV W G) (ev : v = bitsV bm G 100) (hB : beF A B (W : Int) 0 t (fa c + 1)) (hK : BK B) (hS : bkS B (A 407 5 + 1)) : ∃ V' fa' : Int → Int, wpX n bm V' fa' (cm + 1) B ∧ bfsX n bm bf m V' fa' (cm + 1) c (fun x_z => P x_z ∨ x_z = b) ∧ (∀ d_z : Int, d_z ≠ cm → V' d_z = V d_z) := by
  refine ⟨fun x_z => if x_z = cm then v else V x_z, fun x_z => if x_z = cm then fa c + 1 else fa x_z, ?_, bfsX.new hb hX c0 c1 b0 b1 hv hno (fun d_z hd_z => by show (if d_z = cm then v else V d_z) = V d_z; rw [if_neg hd_z]) (by show (if cm = cm then v else V cm) = v; rw [if_pos rfl]) (fun d_z hd_z => by show (if d_z = cm then fa c + 1 else fa d_z) = fa d_z; rw [if_neg hd_z]) (by show (if cm = cm then fa c + 1 else fa cm) = fa c + 1; rw [if_pos rfl]), fun d_z hd_z => by show (if d_z = cm then v else V d_z) = V d_z; rw [if_neg hd_z]⟩
  obtain ⟨⟨h1, h2, h3, h4, h5, h6⟩, h7⟩ := h
  have hgd := beF.gd hB h3
  obtain ⟨b1_z, b2_z, b3_z, b4_z, b5_z, b6_z, b7_z⟩ := hB
  rw [h5] at b3_z b4_z b5_z b6_z b7_z
  refine ⟨⟨b1_z, hK, hgd, by rw [b2_z]; exact hS, by rw [b2_z, h5], by rw [b3_z _ _ (by omega) (by omega) (by omega)]; exact h6⟩, fun e_z e0_z e1_z => ?_⟩
  by_cases ee : e_z = cm
  · rw [ee]
    show (∃ (F_z : Int → Int) (U_z : Nat), cutS n F_z ∧ (if cm = cm then v else V cm) = bitsV bm F_z 100 ∧ rgV U_z F_z ∧ B 408 cm = (U_z : Int)) ∧ B 409 cm = 0 ∧ B 411 cm = (if cm = cm then fa c + 1 else fa cm)
    rw [if_pos rfl, if_pos rfl]
    exact ⟨⟨G, W, hG, ev, rG, b4_z⟩, b5_z, b7_z⟩
  · show (∃ (F_z : Int → Int) (U_z : Nat), cutS n F_z ∧ (if e_z = cm then v else V e_z) = bitsV bm F_z 100 ∧ rgV U_z F_z ∧ B 408 e_z = (U_z : Int)) ∧ B 409 e_z = 0 ∧ B 411 e_z = (if e_z = cm then fa c + 1 else fa e_z)
    rw [if_neg ee, if_neg ee, b3_z 408 e_z (by omega) (by omega) (by omega), b3_z 409 e_z (by omega) (by omega) (by omega), b3_z 411 e_z (by omega) (by omega) (by omega)]
    exact h7 e_z e0_z (by omega)
def sS (A B : pm_A) : Prop := ∀ j_z : Int, B 512 j_z = A 512 j_z
theorem ms_92 {n m : Int} {bm bf V fa F : Int → Int} {cm c : Int} {i : Nat} {A : pm_A} {w6 w7 : pm_V} (hb : bmS n bm bf m) (hC : cutS n F) (hw : wpX n bm V fa cm A) (eV : V c = bitsV bm F 100) (c0 : 0 ≤ c) (c1 : c < cm) (hi : (i : Int) < n - 3) (hr : rgX A 419 n F) (hX : bfsX n bm bf m V fa cm c (pdn bm F (i : Int))) {z : pm_R → Prop} (H : ∀ V' fa' cm' A' w6_z w7_z, wpX n bm V' fa' cm' A' → V' c = bitsV bm F 100 → V' 0 = V 0 → c < cm' → rgX A' 419 n F → sS A A' → bfsX n bm bf m V' fa' cm' c (pdn bm F ((i : Int) + 1)) → Tm pmt (an_sh wX) o_X3_measure 78 ([(2, 417), (2, 512), (2, 513), (2, 407), (0, c), (0, (i : Int) + 1), w6_z, w7_z], [], A') z) : Tm pmt (an_sh wX) o_X3_measure 92 ([(2, 417), (2, 512), (2, 513), (2, 407), (0, c), (0, (i : Int)), w6, w7], [], A) z := by
  obtain ⟨⟨gA, hK_z, hG, hS_z, h5, h6⟩, hrow⟩ := id hw
  have g2 := hG.2.2.2
  have hn := hC.1.1
  have l1 := hX.1.1
  have l8 := hX.1.2.2.2.2.2.2 c c0 c1
  obtain ⟨f_z, hf⟩ := nth_ex hC 100 (by omega) (i : Int) (by omega) (by rw [hC.2]; exact hi)
  obtain ⟨f0_z, f1_z, f2_z, f3_z⟩ := id hf
  have n0_z : 0 ≤ nam f_z ∧ nam f_z ≤ 2147483647 := by unfold nam; omega
  have hnext : ∀ V' fa' cm' A' w6_z w7_z, wpX n bm V' fa' cm' A' → V' c = bitsV bm F 100 → V' 0 = V 0 → c < cm' → rgX A' 419 n F → sS A A' → bfsX n bm bf m V' fa' cm' c (fun x_z => pdn bm F (i : Int) x_z ∨ x_z = bm f_z) → Tm pmt (an_sh wX) o_X3_measure 137 ([(2, 417), (2, 512), (2, 513), (2, 407), (0, c), (0, (i : Int)), w6_z, w7_z], [], A') z := fun V' fa' cm' A' w6_z w7_z a1_z a2 a3 a4 a5 a6 a7 => by
    refine wq_ok sq_measure (fr := []) (cuts := [78]) (J := fun pc st_z => pc = 78 ∧ st_z = ([(2, 417), (2, 512), (2, 513), (2, 407), (0, c), (0, (i : Int) + 1), w6_z, w7_z], [], A')) ?_ 10 137 _ ?_
    · rintro pc st_z ⟨rfl, rfl⟩
      refine H V' fa' cm' A' _ _ a1_z a2 a3 a4 a5 a6 (a7.mono (fun b_z hb_z => ?_))
      obtain ⟨j_z, u_z, hj, hu, e_z⟩ := hb_z
      by_cases ej : j_z = (i : Int)
      · rw [ej] at hu
        exact Or.inr (by rw [e_z, nthF_uniq hu hf])
      · exact Or.inl ⟨j_z, u_z, ⟨hj.1, by omega⟩, hu, e_z⟩
    · refine ⟨⟨by omega, by omega⟩, ?_⟩
      exact ⟨rfl, rfl⟩
  refine wq_ok sq_measure (fr := []) (cuts := [102]) (J := fun pc st_z => pc = 102 ∧ st_z = ([(2, 417), (2, 512), (2, 513), (2, 407), (0, c), (0, (i : Int)), w6, w7], [(0, nam f_z), (2, 417)], A)) ?_ 20 92 _ ?_
  · rintro pc st_z ⟨rfl, rfl⟩
    refine wq_ok sq_measure (fr := []) (cuts := [105]) (J := fun pc st_z => pc = 105 ∧ ∃ (i_z o_z : Int) (W_z : Nat), oth n F f_z i_z o_z ∧ rgV W_z (flF F f_z (cod i_z o_z)) ∧ st_z = ([(2, 417), (2, 512), (2, 513), (2, 407), (0, c), (0, (i : Int)), w6, w7], [(1, (W_z : Int))], A)) ?_ 10 102 _ ?_
    · rintro pc st_z ⟨rfl, i_z, o_z, W_z, ho, hW, rfl⟩
      obtain ⟨kb, hmf⟩ := mfl_of hb hC f0_z f1_z f2_z ho
      have hGc := fl_cut hC f0_z f1_z f2_z ho
      have hW63 := hW.1
      refine wq_ok sq_measure (fr := []) (cuts := [114]) (J := fun pc st_z => pc = 114 ∧ ∃ e_z : Int, ((e_z = -1 ∧ ∀ d_z : Int, 0 ≤ d_z → d_z < cm → ¬ V d_z = bitsV bm (flF F f_z (cod i_z o_z)) 100) ∨ ((0 ≤ e_z ∧ e_z < cm) ∧ V e_z = bitsV bm (flF F f_z (cod i_z o_z)) 100)) ∧ (e_z = -1 → ∀ j_z : Int, 0 ≤ j_z → j_z < A 407 5 → ¬ ety A j_z (W_z : Int) 0) ∧ st_z = ([(2, 417), (2, 512), (2, 513), (2, 407), (0, c), (0, (i : Int)), (1, (W_z : Int)), (9, 0)], [(0, e_z)], A)) ?_ 20 105 _ ?_
      · rintro pc st_z ⟨rfl, e_z, he, hno, rfl⟩
        refine wq_ok sq_measure (fr := []) (cuts := [118, 137]) (J := fun pc st_z => (pc = 137 ∧ ¬ e_z = -1 ∧ st_z = ([(2, 417), (2, 512), (2, 513), (2, 407), (0, c), (0, (i : Int)), (1, (W_z : Int)), (9, 0)], [], A)) ∨ (pc = 118 ∧ e_z = -1 ∧ st_z = ([(2, 417), (2, 512), (2, 513), (2, 407), (0, c), (0, (i : Int)), (1, (W_z : Int)), (9, 0)], [], A))) ?_ 10 114 _ ?_
        · rintro pc st_z (⟨rfl, h1, rfl⟩ | ⟨rfl, h1, rfl⟩)
          · rcases he with ⟨h2, _⟩ | ⟨h2, h3⟩
            · exact absurd h2 h1
            · exact hnext V fa cm A _ _ hw eV rfl c1 hr (fun _ => rfl) (bfsX.old hb hX c1 kb.1 kb.2.1 (by rw [eV]; exact hmf) h2.1 h2.2 h3)
          · have hall : ∀ d_z : Int, 0 ≤ d_z → d_z < cm → ¬ V d_z = bitsV bm (flF F f_z (cod i_z o_z)) 100 := by
              rcases he with ⟨_, h2⟩ | ⟨h2, _⟩
              · exact h2
              · omega
            have room_z := lsI.room hb hX.1 kb.1 kb.2.1 hmf hall
            have fc_z := (hrow c c0 c1).2.2
            have b4_z := hK_z.1.2.2.2.1
            refine wq_ok sq_measure (fr := []) (cuts := [136]) (J := fun pc st_z => pc = 136 ∧ ∃ (D_z : pm_A) (y_z : Int), beP A (W_z : Int) 0 c (fa c + 1) (some (0, y_z), D_z) ∧ st_z = ([(2, 417), (2, 512), (2, 513), (2, 407), (0, c), (0, (i : Int)), (1, (W_z : Int)), (9, 0)], [(0, y_z)], D_z)) ?_ 20 118 _ ?_
            · rintro pc st_z ⟨rfl, D_z, y_z, hD, rfl⟩
              rcases hD with ⟨d1_z, _⟩ | ⟨_, _, d3_z, d4_z, d5_z⟩
              · omega
              · simp only at d3_z d4_z d5_z
                obtain ⟨V', fa', q1_z, q2_z, q3_z⟩ := wp_put hb hw hX c0 c1 kb.1 kb.2.1 (by rw [eV]; exact hmf) hall hGc hW rfl d3_z d4_z d5_z
                refine wq_ok sq_measure (fr := []) (cuts := [137]) (J := fun pc st_z => pc = 137 ∧ st_z = ([(2, 417), (2, 512), (2, 513), (2, 407), (0, c), (0, (i : Int)), (1, (W_z : Int)), (9, 0)], [], D_z)) ?_ 10 136 _ ?_
                · rintro pc st_z ⟨rfl, rfl⟩
                  refine hnext V' fa' (cm + 1) D_z _ _ q1_z (by rw [q3_z c (by omega)]; exact eV) (q3_z 0 (by omega)) (by omega) ?_ (fun j_z => d3_z.2.2.1 512 j_z (by omega) (by omega) (by omega)) q2_z
                  obtain ⟨r1_z, U_z, r2_z, r3_z⟩ := hr
                  exact ⟨by rw [d3_z.2.2.1 419 0 (by omega) (by omega) (by omega)]; exact r1_z, U_z, by rw [d3_z.2.2.1 419 1 (by omega) (by omega) (by omega)]; exact r2_z, r3_z⟩
                · exact ⟨rfl, rfl⟩
            · refine ⟨oX_6 (by omega) k407 3 rfl, ?_⟩
              refine ⟨aX_32 (by rw [b4_z]; omega) (by rw [b4_z]; exact k411) (by omega) (by omega), ?_⟩
              rw [b4_z, fc_z]
              refine ⟨⟨by omega, by omega⟩, ?_⟩
              refine ⟨rX_6 (by omega) k407, ?_⟩
              refine (benter_ex (a := (W_z : Int)) (c := 0) (f := c) (s := fa c + 1) gA hK_z hS_z (by unfold r64; omega) (by unfold r64; omega) ⟨by omega, by omega⟩ ⟨by omega, by omega⟩ (hno h1)).imp ?_
              rintro ⟨r1_z, D_z⟩ hD
              have hr1 : ∃ y_z : Int, r1_z = some (0, y_z) := by
                rcases hD with ⟨_, d2_z⟩ | ⟨_, d2_z, _⟩
                · exact ⟨0, congrArg Prod.fst d2_z⟩
                · exact ⟨1, d2_z⟩
              obtain ⟨y_z, rfl⟩ := hr1
              exact ⟨rfl, D_z, y_z, hD, rfl⟩
        · refine ⟨fun h1 => ?_, fun h1 => ?_⟩
          · exact Or.inl ⟨rfl, h1, rfl⟩
          · exact Or.inr ⟨rfl, h1, rfl⟩
      · refine ⟨rX_6 (by omega) k407, ?_⟩
        refine (bfind_ex (a := (W_z : Int)) (c := 0) gA hK_z hS_z).imp ?_
        rintro ⟨r1_z, D_z⟩ ⟨e_z, ee, he⟩
        have e1 : r1_z = some (0, e_z) := congrArg Prod.fst ee
        have e2 : D_z = A := congrArg Prod.snd ee
        subst e1
        subst e2
        refine ⟨rfl, e_z, wp_find hb hw hGc hW he, fun h1 => ?_, rfl⟩
        rcases he with ⟨_, h2⟩ | ⟨h2, _⟩
        · exact h2
        · omega
    · refine ⟨rX_8 (by omega) k417, ?_⟩
      refine (flipped_ex hG hr hC f0_z f1_z f2_z).imp ?_
      rintro r_z ⟨i_z, o_z, W_z, ho, hW, rfl⟩
      exact ⟨rfl, i_z, o_z, W_z, ho, hW, rfl⟩
  · refine ⟨oX_8 (by omega) k417 2 rfl, ?_⟩
    refine ⟨rX_9 (by rw [g2]; omega) (by rw [g2]; exact k419), ?_⟩
    rw [g2]
    refine (xfenceAt_ex (r := 419) (by omega) k419 hr hC.1 (i := (i : Int))).imp ?_
    rintro ⟨r1_z, C_z⟩ ⟨e1, z_z, e2, he⟩
    simp only at e1 e2
    subst e1
    subst e2
    rcases he with ⟨g_z, hg, ez⟩ | ⟨hg, _⟩
    · have eg := nthF_uniq hg hf
      subst eg
      rw [ez]
      exact ⟨rfl, rfl⟩
    · exact absurd hf (hg f_z)
theorem ms_78 {n m : Int} {bm bf F : Int → Int} {c v0 : Int} {A0 : pm_A} (hb : bmS n bm bf m) (hC : cutS n F) (c0 : 0 ≤ c) {z : pm_R → Prop} (H : ∀ V' fa' cm' A' w5_z w6_z w7_z, wpX n bm V' fa' cm' A' → V' 0 = v0 → c < cm' → sS A0 A' → bfsX n bm bf m V' fa' cm' (c + 1) (fun _ => False) → Tm pmt (an_sh wX) o_X3_measure 30 ([(2, 417), (2, 512), (2, 513), (2, 407), (0, c + 1), w5_z, w6_z, w7_z], [], A') z) : ∀ (k_z i_z : Nat) (V fa : Int → Int) (cm : Int) (A_z : pm_A) (w6_z w7_z : pm_V), 8 - i_z < k_z → (i_z : Int) ≤ n - 3 → wpX n bm V fa cm A_z → V c = bitsV bm F 100 → V 0 = v0 → c < cm → rgX A_z 419 n F → sS A0 A_z → bfsX n bm bf m V fa cm c (pdn bm F (i_z : Int)) → Tm pmt (an_sh wX) o_X3_measure 78 ([(2, 417), (2, 512), (2, 513), (2, 407), (0, c), (0, (i_z : Int)), w6_z, w7_z], [], A_z) z := by
  have hn := hC.1.1
  intro k_z
  induction k_z with
  | zero => intro i_z V fa cm A_z w6_z w7_z h_z; omega
  | succ k_z ih_z =>
    intro i_z V fa cm A_z w6_z w7_z hk hi_z hw eV ev0 c1_z hr hs hX
    obtain ⟨⟨gA, hK_z, hG, hS_z, h5, h6⟩, hrow⟩ := id hw
    have g2 := hG.2.2.2
    have l1 := hX.1.1
    refine wq_ok sq_measure (fr := []) (cuts := [30, 92]) (J := fun pc st_z => (pc = 30 ∧ n - 3 ≤ (i_z : Int) ∧ st_z = ([(2, 417), (2, 512), (2, 513), (2, 407), (0, c + 1), (0, (i_z : Int)), w6_z, w7_z], [], A_z)) ∨ (pc = 92 ∧ (i_z : Int) < n - 3 ∧ st_z = ([(2, 417), (2, 512), (2, 513), (2, 407), (0, c), (0, (i_z : Int)), w6_z, w7_z], [], A_z))) ?_ 20 78 _ ?_
    · rintro pc st_z (⟨rfl, h1, rfl⟩ | ⟨rfl, h1, rfl⟩)
      · refine H V fa cm A_z _ _ _ hw ev0 c1_z hs (bfsX.next hX c0 (fun b' w_z b0 b1 hm_z => ?_))
        rw [eV] at hm_z
        obtain ⟨h2, h3⟩ := mfl_fence hb hC b0 b1 hm_z
        have h4 := nthF_b h2
        rw [hC.2] at h4
        exact ⟨_, _, ⟨h4.1, by omega⟩, h2, h3.symm⟩
      · refine ms_92 hb hC hw eV c0 c1_z h1 hr hX (fun V' fa' cm' A' w6' w7' a1_z a2 a3 a4 a5 a6 a7 => ?_)
        have h2 := ih_z (i_z + 1) V' fa' cm' A' w6' w7' (by omega) (by omega) a1_z a2 (by rw [a3]; exact ev0) a4 a5 (fun j_z => by rw [a6 j_z]; exact hs j_z) (by rw [show ((i_z + 1 : Nat) : Int) = (i_z : Int) + 1 by omega]; exact a7)
        rw [show ((i_z + 1 : Nat) : Int) = (i_z : Int) + 1 by omega] at h2
        exact h2
    · refine ⟨oX_8 (by omega) k417 2 rfl, ?_⟩
      refine ⟨oX_9 (by rw [g2]; omega) (by rw [g2]; exact k419) 0 rfl, ?_⟩
      refine ⟨by rw [g2, h6]; exact ⟨by omega, by omega⟩, ?_⟩
      refine ⟨fun h1 => ?_, fun h1 => ?_⟩
      · rw [g2, h6] at h1
        refine ⟨⟨by omega, by omega⟩, ?_⟩
        exact Or.inl ⟨rfl, h1, rfl⟩
      · rw [g2, h6] at h1
        exact Or.inr ⟨rfl, h1, rfl⟩
/-- measure: the start is met -/
def meP (n : Int) (bm bf : Int → Int) (m v0 vs : Int) (A0 : pm_A) (r : pm_R) : Prop := r.1 = none ∧ ∃ (V fa : Int → Int) (cm c_z s_z : Int), wpX n bm V fa cm r.2 ∧ bfsX n bm bf m V fa cm c_z (fun _ => False) ∧ V 0 = v0 ∧ (0 ≤ s_z ∧ s_z < cm ∧ V s_z = vs) ∧ 0 ≤ c_z ∧ sS A0 r.2
theorem ms_30 {n m : Int} {bm bf S E : Int → Int} {A0 : pm_A} (hb : bmS n bm bf m) (hSt : cutS n S) (hE : cutS n E) (hr0 : rgX A0 512 n S) : ∀ (k_z : Nat) (c_z : Int) (V fa : Int → Int) (cm : Int) (A_z : pm_A) (w5 w6_z w7_z : pm_V), (1431 - c_z).toNat < k_z → 0 ≤ c_z → c_z ≤ cm → wpX n bm V fa cm A_z → V 0 = bitsV bm E 100 → sS A0 A_z → bfsX n bm bf m V fa cm c_z (fun _ => False) → Tm pmt (an_sh wX) o_X3_measure 30 ([(2, 417), (2, 512), (2, 513), (2, 407), (0, c_z), w5, w6_z, w7_z], [], A_z) (meP n bm bf m (bitsV bm E 100) (bitsV bm S 100) A0) := by
  intro k_z
  induction k_z with
  | zero => intro c_z V fa cm A_z w5 w6_z w7_z hk c0_z c1_z hw e0_z hs hX; have := hX.1.1; omega
  | succ k_z ih_z =>
    intro c_z V fa cm A_z w5 w6_z w7_z hk c0_z c1_z hw e0_z hs hX
    obtain ⟨⟨gA, hK_z, hG, hS_z, h5, h6⟩, hrow⟩ := id hw
    have g2 := hG.2.2.2
    have l1 := hX.1.1
    obtain ⟨s1_z, U_z, s2_z, s3_z⟩ := id hr0
    have e512 : A_z 512 1 = (U_z : Int) := by rw [hs 1]; exact s2_z
    refine wq_ok sq_measure (fr := []) (cuts := [47, 149]) (J := fun pc st_z => (pc = 149 ∧ cm ≤ c_z ∧ st_z = ([(2, 417), (2, 512), (2, 513), (2, 407), (0, c_z), w5, w6_z, w7_z], [], A_z)) ∨ (pc = 47 ∧ c_z < cm ∧ st_z = ([(2, 417), (2, 512), (2, 513), (2, 407), (0, c_z), w5, w6_z, w7_z], [], A_z))) ?_ 20 30 _ ?_
    · rintro pc st_z (⟨rfl, h1, rfl⟩ | ⟨rfl, h1, rfl⟩)
      · have hI : bfsI n bm bf m V fa cm c_z 0 := ⟨hX.1, hX.2.1, fun c' b' w_z c0' c1' b0 b1 ho hm_z => hX.2.2 c' b' w_z c0' c1' b0 b1 (Or.inl (by omega)) hm_z⟩
        obtain ⟨s_z, y0, y1, y2, _⟩ := bfs_end hb hI h1 hE hSt e0_z
        refine wq_ok sq_measure (fr := []) (cuts := []) (J := fun _ _ => False) (fun _ _ h_z => h_z.elim) 10 149 _ ?_
        exact ⟨rfl, V, fa, cm, c_z, s_z, hw, hX, e0_z, ⟨y0, y1, y2⟩, c0_z, hs⟩
      · obtain ⟨⟨F_z, W_z, f1_z, f2_z, f3_z, f4_z⟩, _, _⟩ := hrow c_z c0_z h1
        have b1_z := hK_z.1.1
        have hW63 := f3_z.1
        have gC : gH wX (pm_upd A_z 419 1 (W_z : Int)) := u9_1 gA (by unfold r64; omega)
        have hwC : wpX n bm V fa cm (pm_upd A_z 419 1 (W_z : Int)) := hw.of gC (fun r_z j_z q1_z q2_z q3_z => upd_o q1_z)
        have hrC : rgX (pm_upd A_z 419 1 (W_z : Int)) 419 n F_z := ⟨by rw [upd_o (by omega)]; exact h6, W_z, by rw [upd_at], f3_z⟩
        have hsC : sS A0 (pm_upd A_z 419 1 (W_z : Int)) := fun j_z => by rw [upd_o (by omega)]; exact hs j_z
        refine wq_ok sq_measure (fr := []) (cuts := [56]) (J := fun pc st_z => pc = 56 ∧ ∃ e_z : Int, ((e_z = -1 ∧ ∀ d_z : Int, 0 ≤ d_z → d_z < cm → ¬ V d_z = bitsV bm S 100) ∨ ((0 ≤ e_z ∧ e_z < cm) ∧ V e_z = bitsV bm S 100)) ∧ st_z = ([(2, 417), (2, 512), (2, 513), (2, 407), (0, c_z), w5, w6_z, w7_z], [(0, e_z)], A_z)) ?_ 20 47 _ ?_
        · rintro pc st_z ⟨rfl, e_z, he, rfl⟩
          refine wq_ok sq_measure (fr := []) (cuts := [78]) (J := fun pc st_z => pc = 78 ∧ e_z = -1 ∧ st_z = ([(2, 417), (2, 512), (2, 513), (2, 407), (0, c_z), (0, 0), w6_z, w7_z], [], pm_upd A_z 419 1 (W_z : Int))) ?_ 30 56 _ ?_
          · rintro pc st_z ⟨rfl, h2, rfl⟩
            have h3 := ms_78 (F := F_z) (c := c_z) (v0 := bitsV bm E 100) (A0 := A0) (z := meP n bm bf m (bitsV bm E 100) (bitsV bm S 100) A0) hb f1_z c0_z (fun V' fa' cm' A' w5' w6' w7' a1_z a2 a3 a4 a5 => ih_z (c_z + 1) V' fa' cm' A' w5' w6' w7' (by omega) (by omega) (by omega) a1_z a2 a4 a5) _ 0 V fa cm _ w6_z w7_z (Nat.lt_succ_self _) (by have := f1_z.1.1; omega) hwC f2_z e0_z h1 hrC hsC (hX.mono (fun b_z hb_z => by
              obtain ⟨j_z, u_z, hj, _⟩ := hb_z
              omega))
            exact h3
          · refine ⟨fun h2 => ?_, fun h2 => ?_⟩
            · refine ⟨oX_8 (by omega) k417 2 rfl, ?_⟩
              refine ⟨oX_6 (by omega) k407 0 rfl, ?_⟩
              refine ⟨aX_30 (by rw [b1_z]; omega) (by rw [b1_z]; exact k408) c0_z (by omega), ?_⟩
              refine ⟨oX_9 (by rw [g2]; omega) (by rw [g2]; exact k419) 1 rfl, ?_⟩
              refine ⟨rfl, h2, ?_⟩
              show ([(2, 417), (2, 512), (2, 513), (2, 407), (0, c_z), (0, 0), w6_z, w7_z], ([] : List pm_V), pm_upd A_z (A_z 417 2) 1 (A_z (A_z 407 0) c_z)) = _
              rw [g2, b1_z, f4_z]
            · rcases he with ⟨h3, _⟩ | ⟨h3, h4⟩
              · exact absurd h3 h2
              · exact ⟨rfl, V, fa, cm, c_z, e_z, hw, hX, e0_z, ⟨h3.1, h3.2, h4⟩, c0_z, hs⟩
        · refine ⟨oX_9 (by omega) k512 1 rfl, ?_⟩
          refine ⟨rX_6 (by omega) k407, ?_⟩
          rw [e512]
          refine (bfind_ex (a := (U_z : Int)) (c := 0) gA hK_z hS_z).imp ?_
          rintro ⟨r1_z, D_z⟩ ⟨e_z, ee, he⟩
          have e1 : r1_z = some (0, e_z) := congrArg Prod.fst ee
          have e2 : D_z = A_z := congrArg Prod.snd ee
          subst e1
          subst e2
          exact ⟨rfl, e_z, wp_find hb hw hSt s3_z he, rfl⟩
    · refine ⟨oX_6 (by omega) k407 5 rfl, ?_⟩
      refine ⟨fun h1 => ?_, fun h1 => ?_⟩
      · exact Or.inl ⟨rfl, by omega, rfl⟩
      · refine ⟨fun h2 => absurd h2 (by omega), fun h2 => ?_⟩
        exact Or.inr ⟨rfl, by omega, rfl⟩
theorem measure_ex {n m : Int} {bm bf S E : Int → Int} {A : pm_A} (hb : bmS n bm bf m) (hSt : cutS n S) (hE : cutS n E) (hA : gH wX A) (hK : BK A) (hG : GD A) (h0 : rgX A 512 n S) (h1 : rgX A 513 n E) : Cl pmt (an_sh wX) 32 [(2, 417), (2, 512), (2, 513), (2, 407)] A (meP n bm bf m (bitsV bm E 100) (bitsV bm S 100) A) := by
  have hn := hE.1.1
  have g2 := hG.2.2.2
  obtain ⟨e1, U_z, e2, e3⟩ := id h1
  have hU63 := e3.1
  have gB : gH wX (pm_upd A 419 0 n) := u9_0 hA hn.1 hn.2
  have oB : ∀ r_z j_z : Int, ¬ (r_z = 419 ∧ j_z = 0) → pm_upd A 419 0 n r_z j_z = A r_z j_z := fun r_z j_z hr => upd_o hr
  have v0_z : pm_upd A 419 0 n 419 0 = n := upd_at
  refine Cl.of (Nat.le_of_ble_eq_true rfl) ?_
  refine wq_ok (full := o_X3_measure) sq_measure (fr := []) (cuts := [11]) (J := fun pc st_z => pc = 11 ∧ st_z = ([(2, 417), (2, 512), (2, 513), (2, 407), (9, 0), (9, 0), (9, 0), (9, 0)], [], pm_upd A 419 0 n)) ?_ 20 0 _ ?_
  · rintro pc st_z ⟨rfl, rfl⟩
    generalize pm_upd A 419 0 n = B_z at gB oB v0_z
    have hKB : BK B_z := by
      obtain ⟨⟨a1_z, a2, a3, a4, a5⟩, b1, b2, b3, b4_z⟩ := hK
      refine ⟨⟨?_, ?_, ?_, ?_, ?_⟩, ?_, ?_, ?_, ?_⟩
      all_goals (rw [oB _ _ (by omega)]; assumption)
    have hGB : GD B_z := hG.of (fun r_z j_z hr => oB r_z j_z (by omega))
    refine wq_ok sq_measure (fr := []) (cuts := [15]) (J := fun pc st_z => pc = 15 ∧ ∃ C_z, bcP B_z (none, C_z) ∧ st_z = ([(2, 417), (2, 512), (2, 513), (2, 407), (9, 0), (9, 0), (9, 0), (9, 0)], [], C_z)) ?_ 10 11 _ ?_
    · rintro pc st_z ⟨rfl, C_z, ⟨_, c1_z, c2_z, c3_z, c4_z, c5_z⟩, rfl⟩
      simp only at c1_z c2_z c3_z c4_z c5_z
      have e513 : C_z 513 1 = (U_z : Int) := by rw [c5_z 513 1 (by omega) (by omega), oB 513 1 (by omega)]; exact e2
      have hS0 : bkS C_z (C_z 407 5) := by rw [c3_z]; exact c4_z
      refine wq_ok sq_measure (fr := []) (cuts := [26]) (J := fun pc st_z => pc = 26 ∧ ∃ (D_z : pm_A) (y_z : Int), beP C_z (U_z : Int) 0 (-1) 0 (some (0, y_z), D_z) ∧ st_z = ([(2, 417), (2, 512), (2, 513), (2, 407), (9, 0), (9, 0), (9, 0), (9, 0)], [(0, y_z)], D_z)) ?_ 20 15 _ ?_
      · rintro pc st_z ⟨rfl, D_z, y_z, hD, rfl⟩
        rcases hD with ⟨d1_z, _⟩ | ⟨_, _, d3_z, d4_z, d5_z⟩
        · rw [c3_z] at d1_z
          omega
        · simp only at d3_z d4_z d5_z
          have hgD := beF.gd d3_z (hGB.of (fun r_z j_z hr => c5_z r_z j_z (by omega) (by omega)))
          obtain ⟨b1_z, b2_z, b3_z, b4_z, b5_z, b6_z, b7_z⟩ := d3_z
          rw [c3_z] at b2_z b4_z b5_z b7_z d5_z b3_z
          have hw : wpX n bm (fun _ => bitsV bm E 100) (fun _ => 0) 1 D_z := by
            refine ⟨⟨b1_z, d4_z, hgD, by rw [b2_z]; exact d5_z, by rw [b2_z]; rfl, by rw [b3_z 419 0 (by omega) (by omega) (by omega), c5_z 419 0 (by omega) (by omega)]; exact v0_z⟩, fun e_z e0_z e1_z => ?_⟩
            have ee : e_z = 0 := by omega
            subst ee
            exact ⟨⟨E, U_z, hE, rfl, e3, b4_z⟩, b5_z, b7_z⟩
          have hX : bfsX n bm bf m (fun _ => bitsV bm E 100) (fun _ => 0) 1 0 (fun _ => False) := by
            refine ⟨⟨⟨by omega, by omega⟩, rfl, fun c_z c0_z c1_z => ⟨E, hE, rfl⟩, fun c_z d_z c0_z c1_z d1_z => by omega, fun c_z c0_z c1_z => by omega, fun c_z d_z c0_z c1_z d1_z => Int.le_refl _, fun c_z c0_z c1_z => ⟨Int.le_refl 0, c0_z⟩⟩, fun _ e_z e0_z e1_z => (by show (0 : Int) ≤ 0 + 1; omega), fun c' b' w_z c0_z c1_z b0 b1 ho hm_z => ?_⟩
            rcases ho with q_z | ⟨_, q_z⟩
            · omega
            · exact q_z.elim
          have hsD : sS A D_z := fun j_z => by rw [b3_z 512 j_z (by omega) (by omega) (by omega), c5_z 512 j_z (by omega) (by omega), oB 512 j_z (by omega)]
          refine wq_ok sq_measure (fr := []) (cuts := [30]) (J := fun pc st_z => pc = 30 ∧ st_z = ([(2, 417), (2, 512), (2, 513), (2, 407), (0, 0), (9, 0), (9, 0), (9, 0)], [], D_z)) ?_ 10 26 _ ?_
          · rintro pc st_z ⟨rfl, rfl⟩
            exact ms_30 hb hSt hE h0 _ 0 _ _ 1 D_z _ _ _ (Nat.lt_succ_self _) (by omega) (by omega) hw rfl hsD hX
          · exact ⟨rfl, rfl⟩
      · refine ⟨oX_9 (by omega) k513 1 rfl, ?_⟩
        refine ⟨rX_6 (by omega) k407, ?_⟩
        rw [e513]
        refine (benter_ex (a := (U_z : Int)) (c := 0) (f := -1) (s := 0) c1_z c2_z hS0 (by unfold r64; omega) (by unfold r64; omega) ⟨by omega, by omega⟩ ⟨by omega, by omega⟩ (fun j_z j0 j1 => by rw [c3_z] at j1; omega)).imp ?_
        rintro ⟨r1_z, D_z⟩ hD
        have hr1 : ∃ y_z : Int, r1_z = some (0, y_z) := by
          rcases hD with ⟨_, d2_z⟩ | ⟨_, d2_z, _⟩
          · exact ⟨0, congrArg Prod.fst d2_z⟩
          · exact ⟨1, d2_z⟩
        obtain ⟨y_z, rfl⟩ := hr1
        exact ⟨rfl, D_z, y_z, hD, rfl⟩
    · refine ⟨rX_6 (by omega) k407, ?_⟩
      refine (bclear_ex gB hKB).imp ?_
      rintro ⟨r1_z, C_z⟩ hC
      have hr1 : r1_z = none := hC.1
      subst hr1
      exact ⟨rfl, C_z, hC, rfl⟩
  · refine ⟨oX_8 (by omega) k417 2 rfl, ?_⟩
    refine ⟨oX_9 (by omega) k513 0 rfl, ?_⟩
    refine ⟨oX_9 (by rw [g2]; omega) (by rw [g2]; exact k419) 0 rfl, ?_⟩
    refine ⟨rfl, ?_⟩
    show ([(2, 417), (2, 512), (2, 513), (2, 407), (9, 0), (9, 0), (9, 0), (9, 0)], ([] : List pm_V), pm_upd A (A 417 2) 0 (A 513 0)) = _
    rw [g2, e1]
