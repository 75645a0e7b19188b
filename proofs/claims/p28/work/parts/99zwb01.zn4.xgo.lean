/-! the class's goNearer, lead, way, exactly -/
def bmO (n : Int) (bm : Int → Int) : Prop := ∀ f_z g_z : Int, 0 ≤ f_z → f_z < g_z → g_z < 100 → vdF n f_z → vdF n g_z → bm f_z < bm g_z
theorem hP_of {n m : Int} {bm bf V fa : Int → Int} {cm c s : Int} {P : Int → Prop} (hX : bfsX n bm bf m V fa cm c P) (c0 : 0 ≤ c) (s0 : 0 ≤ s) (s1 : s < cm) : ∀ e_z : Int, 0 ≤ e_z → e_z < cm → fa e_z + 1 < fa s → e_z < c := fun e_z e0_z e1_z h_z => by
  by_cases hc_z : c < cm
  · have h1 := hX.2.1 hc_z s s0 s1
    by_cases he : e_z < c
    · exact he
    · exfalso
      have h2 := hX.1.2.2.2.2.2.1 c e_z c0 (by omega) e1_z
      omega
  · omega
/-- what is known of the book when the way is led -/
def ldH (n : Int) (bm bf : Int → Int) (m v0 K : Int) (A : pm_A) : Prop := ∃ (V fa : Int → Int) (cm c_z : Int), wpX n bm V fa cm A ∧ bfsX n bm bf m V fa cm c_z (fun _ => False) ∧ V 0 = v0 ∧ ∀ e_z : Int, 0 ≤ e_z → e_z < cm → fa e_z + 1 < K → e_z < c_z
theorem ldH.of {n m v0 K : Int} {bm bf : Int → Int} {A B : pm_A} (h : ldH n bm bf m v0 K A) (hB : gH wX B) (e : ∀ r_z j_z : Int, ¬ (r_z = 419 ∧ j_z = 1) → ¬ r_z = 418 → ¬ (r_z = 417 ∧ j_z = 0) → B r_z j_z = A r_z j_z) : ldH n bm bf m v0 K B := by
  obtain ⟨V, fa, cm, c_z, h1, h2⟩ := h
  exact ⟨V, fa, cm, c_z, h1.of hB e, h2⟩
def gnP (n : Int) (bm bf : Int → Int) (m v0 : Int) (G : Int → Int) (k : Nat) (A : pm_A) (r : pm_R) : Prop := ∃ (f_z i_z o_z : Int) (W_z : Nat), (0 ≤ f_z ∧ f_z < 100 ∧ G f_z = 1 ∧ oth n G f_z i_z o_z) ∧ rgV W_z (flF G f_z (cod i_z o_z)) ∧ dsM n bm bf m v0 (bitsV bm (flF G f_z (cod i_z o_z)) 100) k ∧ (∀ b' w' : Int, 0 ≤ b' → b' < bm f_z → mfl n bm bf (bitsV bm G 100) b' w' → ¬ dsM n bm bf m v0 w' k) ∧ r = (some (0, nam f_z), pm_upd A 419 1 (W_z : Int))
theorem gn_2 {n m v0 K : Int} {bm bf G : Int → Int} {k : Nat} {A : pm_A} (hb : bmS n bm bf m) (hO : bmO n bm) (hL : ldH n bm bf m v0 K A) (hr : rgX A 419 n G) (hC : cutS n G) (hd : dsM n bm bf m v0 (bitsV bm G 100) (k + 1)) (hk : (k : Int) < K) : ∀ (m_z i_z : Nat) (w4_z w5 w6_z w7_z : pm_V), 8 - i_z < m_z → (i_z : Int) ≤ n - 3 → (∀ j_z f_z w_z : Int, 0 ≤ j_z → j_z < i_z → nthF G j_z f_z → mfl n bm bf (bitsV bm G 100) (bm f_z) w_z → ¬ dsM n bm bf m v0 w_z k) → Tm pmt (an_sh wX) o_X3_goNearer 2 ([(2, 417), (0, (k : Int)), (2, 407), (0, (i_z : Int)), w4_z, w5, w6_z, w7_z], [], A) (gnP n bm bf m v0 G k A) := by
  obtain ⟨V, fa, cm, c_z, hw, hX, e0_z, hP⟩ := hL
  obtain ⟨⟨gA, hK_z, hG, hS_z, h5, h6⟩, hrow⟩ := id hw
  have g2 := hG.2.2.2
  have hn := hC.1.1
  intro m_z
  induction m_z with
  | zero => intro i_z w4_z w5 w6_z w7_z h_z; omega
  | succ m_z ih_z =>
    intro i_z w4_z w5 w6_z w7_z hm_z hi_z hno
    refine wq_ok sq_nearer (fr := []) (cuts := [15, 76]) (J := fun pc st_z => (pc = 76 ∧ n - 3 ≤ (i_z : Int) ∧ st_z = ([(2, 417), (0, (k : Int)), (2, 407), (0, (i_z : Int)), w4_z, w5, w6_z, w7_z], [], A)) ∨ (pc = 15 ∧ (i_z : Int) < n - 3 ∧ st_z = ([(2, 417), (0, (k : Int)), (2, 407), (0, (i_z : Int)), w4_z, w5, w6_z, w7_z], [], A))) ?_ 20 2 _ ?_
    · rintro pc st_z (⟨rfl, h1, rfl⟩ | ⟨rfl, h1, rfl⟩)
      · exfalso
        obtain ⟨b_z, w_z, hb_z, h2, h3⟩ := ds_down hb hd
        obtain ⟨h4, h7⟩ := mfl_fence hb hC hb_z.1 hb_z.2 h2
        have h8 := nthF_b h4
        rw [hC.2] at h8
        exact hno _ _ w_z h8.1 (by omega) h4 (by rw [h7]; exact h2) h3
      · obtain ⟨f_z, hf⟩ := nth_ex hC 100 (by omega) (i_z : Int) (by omega) (by rw [hC.2]; exact h1)
        obtain ⟨f0_z, f1_z, f2_z, f3_z⟩ := id hf
        have n0_z : 0 ≤ nam f_z ∧ nam f_z ≤ 2147483647 := by unfold nam; omega
        refine wq_ok sq_nearer (fr := []) (cuts := [23]) (J := fun pc st_z => pc = 23 ∧ st_z = ([(2, 417), (0, (k : Int)), (2, 407), (0, (i_z : Int)), w4_z, w5, w6_z, w7_z], [(0, nam f_z)], A)) ?_ 20 15 _ ?_
        · rintro pc st_z ⟨rfl, rfl⟩
          refine wq_ok sq_nearer (fr := []) (cuts := [31]) (J := fun pc st_z => pc = 31 ∧ ∃ (u_z o_z : Int) (W_z : Nat), oth n G f_z u_z o_z ∧ rgV W_z (flF G f_z (cod u_z o_z)) ∧ st_z = ([(2, 417), (0, (k : Int)), (2, 407), (0, (i_z : Int)), (0, nam f_z), w5, w6_z, w7_z], [(1, (W_z : Int))], A)) ?_ 10 23 _ ?_
          · rintro pc st_z ⟨rfl, u_z, o_z, W_z, ho, hW, rfl⟩
            obtain ⟨kb, hmf⟩ := mfl_of hb hC f0_z f1_z f2_z ho
            have hGc := fl_cut hC f0_z f1_z f2_z ho
            have hv := (hC.1.2.2 f_z f0_z f1_z f2_z).1
            have b4_z := hK_z.1.2.2.2.1
            have h70 : (¬ dsM n bm bf m v0 (bitsV bm (flF G f_z (cod u_z o_z)) 100) k) → ∀ w7', Tm pmt (an_sh wX) o_X3_goNearer 70 ([(2, 417), (0, (k : Int)), (2, 407), (0, (i_z : Int)), (0, nam f_z), (1, (W_z : Int)), (9, 0), w7'], [], A) (gnP n bm bf m v0 G k A) := fun hnd w7' => by
              refine wq_ok sq_nearer (fr := []) (cuts := [2]) (J := fun pc st_z => pc = 2 ∧ st_z = ([(2, 417), (0, (k : Int)), (2, 407), (0, (i_z : Int) + 1), (0, nam f_z), (1, (W_z : Int)), (9, 0), w7'], [], A)) ?_ 10 70 _ ?_
              · rintro pc st_z ⟨rfl, rfl⟩
                rw [show (i_z : Int) + 1 = ((i_z + 1 : Nat) : Int) by omega]
                refine ih_z (i_z + 1) _ _ _ _ (by omega) (by omega) (fun j_z x_z w_z j0 j1 hx hm_z => ?_)
                by_cases ej : j_z = (i_z : Int)
                · rw [ej] at hx
                  have ex_z := nthF_uniq hx hf
                  rw [ex_z] at hm_z
                  rw [mfl_det hb kb.1 kb.2.1 hm_z hmf]
                  exact hnd
                · exact hno j_z x_z w_z j0 (by omega) hx hm_z
              · refine ⟨⟨by omega, by omega⟩, ?_⟩
                exact ⟨rfl, rfl⟩
            refine wq_ok sq_nearer (fr := []) (cuts := [40]) (J := fun pc st_z => pc = 40 ∧ ∃ e_z : Int, ((e_z = -1 ∧ ∀ d_z : Int, 0 ≤ d_z → d_z < cm → ¬ V d_z = bitsV bm (flF G f_z (cod u_z o_z)) 100) ∨ ((0 ≤ e_z ∧ e_z < cm) ∧ V e_z = bitsV bm (flF G f_z (cod u_z o_z)) 100)) ∧ st_z = ([(2, 417), (0, (k : Int)), (2, 407), (0, (i_z : Int)), (0, nam f_z), (1, (W_z : Int)), (9, 0), w7_z], [(0, e_z)], A)) ?_ 20 31 _ ?_
            · rintro pc st_z ⟨rfl, e_z, he, rfl⟩
              refine wq_ok sq_nearer (fr := []) (cuts := [70, 58]) (J := fun pc st_z => (pc = 70 ∧ (e_z < 0 ∨ (0 ≤ e_z ∧ ¬ A 411 e_z = (k : Int))) ∧ ∃ w7', st_z = ([(2, 417), (0, (k : Int)), (2, 407), (0, (i_z : Int)), (0, nam f_z), (1, (W_z : Int)), (9, 0), w7'], [], A)) ∨ (pc = 58 ∧ 0 ≤ e_z ∧ A 411 e_z = (k : Int) ∧ ∃ w7', st_z = ([(2, 417), (0, (k : Int)), (2, 407), (0, (i_z : Int)), (0, nam f_z), (1, (W_z : Int)), (9, 0), w7'], [], A))) ?_ 20 40 _ ?_
              · rintro pc st_z (⟨rfl, h2, w7', rfl⟩ | ⟨rfl, h2, h3, w7', rfl⟩)
                · refine h70 (fun hq => ?_) w7'
                  obtain ⟨d_z, hd_z, d2_z, d3_z⟩ := ls_of hb hX e0_z hP hk hq
                  rcases he with ⟨_, h3⟩ | ⟨h3, h4⟩
                  · exact h3 d_z hd_z.1 hd_z.2 d2_z
                  · have ed := lsI.at hX.1 h3.1 h3.2 hd_z.1 hd_z.2 (h4.trans d2_z.symm)
                    have fe := (hrow e_z h3.1 h3.2).2.2
                    rw [ed] at fe h2
                    omega
                · rcases he with ⟨h4, _⟩ | ⟨h4, h7⟩
                  · omega
                  · have fe := (hrow e_z h4.1 h4.2).2.2
                    have hds := ls_ds hb hX e0_z hP h4.1 h4.2 (by omega)
                    rw [h7, show (fa e_z).toNat = k by omega] at hds
                    have hW63 := hW.1
                    refine wq_ok sq_nearer (fr := []) (cuts := []) (J := fun _ _ => False) (fun _ _ h_z => h_z.elim) 20 58 _ ?_
                    refine ⟨oX_8 (by omega) k417 2 rfl, ?_⟩
                    refine ⟨oX_9 (by rw [g2]; omega) (by rw [g2]; exact k419) 1 rfl, ?_⟩
                    refine ⟨rfl, f_z, u_z, o_z, W_z, ⟨f0_z, f1_z, f2_z, ho⟩, hW, hds, fun b' w' b0' b1' hm' hd' => ?_, ?_⟩
                    · obtain ⟨h8, h9⟩ := mfl_fence hb hC b0' (by omega) hm'
                      have hv' := (hC.1.2.2 (bf b') h8.1 h8.2.1 h8.2.2.1).1
                      have hlt : bf b' < f_z := by
                        rcases Int.lt_trichotomy (bf b') f_z with q_z | q_z | q_z
                        · exact q_z
                        · rw [q_z] at h9; omega
                        · have := hO f_z (bf b') f0_z q_z h8.2.1 hv hv'
                          omega
                      have hidx := nth_lt h8 hf hlt
                      exact hno _ _ w' (nthF_b h8).1 hidx h8 (by rw [h9]; exact hm') hd'
                    · show (some ((0 : Nat), nam f_z), pm_upd A (A 417 2) 1 (W_z : Int)) = _
                      rw [g2]
              · refine ⟨fun h2 => ?_, fun h2 => ?_⟩
                · exact Or.inl ⟨rfl, Or.inl h2, _, rfl⟩
                · refine ⟨oX_6 (by omega) k407 3 rfl, ?_⟩
                  have he3 : e_z < 3000 := by
                    have l1 := hX.1.1
                    rcases he with ⟨h4, _⟩ | ⟨h4, _⟩ <;> omega
                  refine ⟨aX_32 (by rw [b4_z]; omega) (by rw [b4_z]; exact k411) h2 he3, ?_⟩
                  rw [b4_z]
                  refine ⟨fun h3 => ?_, fun h3 => ?_⟩
                  · exact Or.inl ⟨rfl, Or.inr ⟨h2, h3⟩, _, rfl⟩
                  · exact Or.inr ⟨rfl, h2, h3, _, rfl⟩
            · refine ⟨rX_6 (by omega) k407, ?_⟩
              refine (bfind_ex (a := (W_z : Int)) (c := 0) gA hK_z hS_z).imp ?_
              rintro ⟨r1_z, D_z⟩ ⟨e_z, ee, he⟩
              have e1 : r1_z = some (0, e_z) := congrArg Prod.fst ee
              have e2 : D_z = A := congrArg Prod.snd ee
              subst e1
              subst e2
              exact ⟨rfl, e_z, wp_find hb hw hGc hW he, rfl⟩
          · refine ⟨rX_8 (by omega) k417, ?_⟩
            refine (flipped_ex hG hr hC f0_z f1_z f2_z).imp ?_
            rintro r_z ⟨u_z, o_z, W_z, ho, hW, rfl⟩
            exact ⟨rfl, u_z, o_z, W_z, ho, hW, rfl⟩
        · refine ⟨oX_8 (by omega) k417 2 rfl, ?_⟩
          refine ⟨rX_9 (by rw [g2]; omega) (by rw [g2]; exact k419), ?_⟩
          rw [g2]
          refine (xfenceAt_ex (r := 419) (by omega) k419 hr hC.1 (i := (i_z : Int))).imp ?_
          rintro ⟨r1_z, C_z⟩ ⟨e1, z_z, e2, he⟩
          simp only at e1 e2
          subst e1
          subst e2
          rcases he with ⟨g_z, hg, ez⟩ | ⟨hg, _⟩
          · have eg := nthF_uniq hg hf
            subst eg
            rw [ez]
            exact ⟨rfl, rfl⟩
          · exact absurd hf (hg f_z)
    · refine ⟨oX_8 (by omega) k417 2 rfl, ?_⟩
      refine ⟨oX_9 (by rw [g2]; omega) (by rw [g2]; exact k419) 0 rfl, ?_⟩
      refine ⟨by rw [g2, h6]; exact ⟨by omega, by omega⟩, ?_⟩
      refine ⟨fun h1 => ?_, fun h1 => ?_⟩
      · rw [g2, h6] at h1
        exact Or.inl ⟨rfl, h1, rfl⟩
      · rw [g2, h6] at h1
        exact Or.inr ⟨rfl, h1, rfl⟩
theorem nearer_ex {n m v0 K : Int} {bm bf G : Int → Int} {k : Nat} {A : pm_A} (hb : bmS n bm bf m) (hO : bmO n bm) (hL : ldH n bm bf m v0 K A) (hr : rgX A 419 n G) (hC : cutS n G) (hd : dsM n bm bf m v0 (bitsV bm G 100) (k + 1)) (hk : (k : Int) < K) : Cl pmt (an_sh wX) 29 [(2, 417), (0, (k : Int)), (2, 407)] A (gnP n bm bf m v0 G k A) := by
  have hn := hC.1.1
  refine Cl.of (Nat.le_of_ble_eq_true rfl) ?_
  refine wq_ok (full := o_X3_goNearer) sq_nearer (fr := []) (cuts := [2]) (J := fun pc st_z => pc = 2 ∧ st_z = ([(2, 417), (0, (k : Int)), (2, 407), (0, 0), (9, 0), (9, 0), (9, 0), (9, 0)], [], A)) ?_ 10 0 _ ?_
  · rintro pc st_z ⟨rfl, rfl⟩
    exact gn_2 hb hO hL hr hC hd hk _ 0 _ _ _ _ (Nat.lt_succ_self _) (by omega) (fun j_z f_z w_z j0 j1 => by omega)
  · exact ⟨rfl, rfl⟩
def leP (n : Int) (bm bf : Int → Int) (m v0 vs : Int) (r : pm_R) : Prop := ∃ l : List Int, wyM n bm bf m v0 l vs ∧ r.1 = some (0, (l.length : Int)) ∧ r.2 417 0 = (l.length : Int) ∧ ∀ (j_z : Nat) (b_z : Int), l[j_z]? = some b_z → r.2 418 (j_z : Int) = nam (bf b_z)
theorem le_45 {n m v0 vs K : Int} {bm bf : Int → Int} {x3 : Int} (hb : bmS n bm bf m) (hO : bmO n bm) (K14 : K ≤ 14) : ∀ (k_z i_z : Nat) (A_z : pm_A) (G_z : Int → Int) (pre_z : List Int), (i_z : Int) + (k_z : Int) = K → ldH n bm bf m v0 K A_z → rgX A_z 419 n G_z → cutS n G_z → dsM n bm bf m v0 (bitsV bm G_z 100) k_z → pre_z.length = i_z → (∀ l' : List Int, wyM n bm bf m v0 l' (bitsV bm G_z 100) → wyM n bm bf m v0 (pre_z ++ l') vs) → (∀ (j_z : Nat) (b_z : Int), pre_z[j_z]? = some b_z → A_z 418 (j_z : Int) = nam (bf b_z)) → Tm pmt (an_sh wX) o_X3_lead 45 ([(2, 417), (2, 512), (2, 407), (0, x3), (0, K), (0, (i_z : Int))], [], A_z) (leP n bm bf m v0 vs) := by
  intro k_z
  induction k_z with
  | zero =>
    intro i_z A_z G_z pre_z hk hL hr hC hd_z hp hpre hg
    obtain ⟨V, fa, cm, c_z, hw, _⟩ := id hL
    refine wq_ok sq_lead (fr := []) (cuts := []) (J := fun _ _ => False) (fun _ _ h_z => h_z.elim) 20 45 _ ?_
    refine ⟨fun h1 => ?_, fun h1 => absurd h1 (by omega)⟩
    refine ⟨oX_8 (by omega) k417 0 rfl, ?_⟩
    have hpl : (pre_z.length : Int) = K := by omega
    have h2 := hpre [] hd_z
    rw [List.append_nil] at h2
    refine ⟨rfl, pre_z, h2, by rw [hpl], ?_, fun j_z b_z hj => ?_⟩
    · show pm_upd A_z 417 0 K 417 0 = _
      rw [upd_at, hpl]
    · show pm_upd A_z 417 0 K 418 (j_z : Int) = _
      rw [upd_o (by omega)]
      exact hg j_z b_z hj
  | succ k_z ih_z =>
    intro i_z A_z G_z pre_z hk hL hr hC hd_z hp hpre hg
    obtain ⟨V, fa, cm, c_z, hw, _⟩ := id hL
    have hG := hw.1.2.2.1
    have g1 := hG.2.2.1
    refine wq_ok sq_lead (fr := []) (cuts := [70]) (J := fun pc st_z => pc = 70 ∧ ∃ (f_z u_z o_z : Int) (W_z : Nat), (0 ≤ f_z ∧ f_z < 100 ∧ G_z f_z = 1 ∧ oth n G_z f_z u_z o_z) ∧ rgV W_z (flF G_z f_z (cod u_z o_z)) ∧ dsM n bm bf m v0 (bitsV bm (flF G_z f_z (cod u_z o_z)) 100) k_z ∧ (∀ b' w' : Int, 0 ≤ b' → b' < bm f_z → mfl n bm bf (bitsV bm G_z 100) b' w' → ¬ dsM n bm bf m v0 w' k_z) ∧ st_z = ([(2, 417), (2, 512), (2, 407), (0, x3), (0, K), (0, (i_z : Int))], [(0, nam f_z), (0, (i_z : Int)), (2, A_z 417 1)], pm_upd A_z 419 1 (W_z : Int))) ?_ 40 45 _ ?_
    · rintro pc st_z ⟨rfl, f_z, u_z, o_z, W_z, ⟨f0_z, f1_z, f2_z, ho⟩, hW, hds, hle, rfl⟩
      obtain ⟨kb, hmf⟩ := mfl_of hb hC f0_z f1_z f2_z ho
      have hGc := fl_cut hC f0_z f1_z f2_z ho
      have hW63 := hW.1
      have nb_z : -2147483648 ≤ nam f_z ∧ nam f_z ≤ 2147483647 := by unfold nam; omega
      have gB : gH wX (pm_upd A_z 419 1 (W_z : Int)) := u9_1 hw.1.1 (by unfold r64; omega)
      have gC : gH wX (pm_upd (pm_upd A_z 419 1 (W_z : Int)) 418 (i_z : Int) (nam f_z)) := uX_35 gB k418 nb_z.1 nb_z.2
      refine wq_ok sq_lead (fr := []) (cuts := [45]) (J := fun pc st_z => pc = 45 ∧ st_z = ([(2, 417), (2, 512), (2, 407), (0, x3), (0, K), (0, (i_z : Int) + 1)], [], pm_upd (pm_upd A_z 419 1 (W_z : Int)) 418 (i_z : Int) (nam f_z))) ?_ 20 70 _ ?_
      · rintro pc st_z ⟨rfl, rfl⟩
        rw [show (i_z : Int) + 1 = ((i_z + 1 : Nat) : Int) by omega]
        refine ih_z (i_z + 1) _ (flF G_z f_z (cod u_z o_z)) (pre_z ++ [bm f_z]) (by omega) (hL.of gC (fun r_z j_z q1_z q2_z q3_z => by rw [upd_o (by omega), upd_o q1_z])) ?_ hGc hds (by rw [List.length_append, hp]; rfl) (fun l' hl' => ?_) (fun j_z b_z hj => ?_)
        · refine ⟨by rw [upd_o (by omega), upd_o (by omega)]; exact hr.1, W_z, by rw [upd_o (by omega), upd_at], hW⟩
        · rw [List.append_assoc]
          refine hpre (bm f_z :: l') ?_
          have hll := dsM_u (wyM_d l' _ hl') hds
          refine ⟨by rw [hll]; exact hd_z, ⟨kb.1, kb.2.1⟩, _, hmf, by rw [hll]; exact hds, fun b' w' b0' b1' hm' => by rw [hll]; exact hle b' w' b0' b1' hm', hl'⟩
        · by_cases ej : j_z < i_z
          · rw [List.getElem?_append_left (by omega)] at hj
            rw [upd_o (by omega), upd_o (by omega)]
            exact hg j_z b_z hj
          · have hjl := (List.getElem?_eq_some_iff.mp hj).1
            rw [List.length_append, hp] at hjl
            have hjl : j_z < i_z + 1 := hjl
            have ej2 : j_z = i_z := by omega
            rw [ej2, List.getElem?_append_right (by omega), hp, Nat.sub_self] at hj
            have eb : bm f_z = b_z := Option.some.inj hj
            rw [ej2, upd_at, ← eb, kb.2.2]
      · refine ⟨tX_35 (by rw [g1]; omega) (by rw [g1]; exact k418) (by omega) (by omega) rfl, ?_⟩
        rw [g1]
        refine ⟨⟨by omega, by omega⟩, ?_⟩
        exact ⟨rfl, rfl⟩
    · refine ⟨fun h1 => absurd h1 (by omega), fun h1 => ?_⟩
      refine ⟨oX_8 (by omega) k417 1 rfl, ?_⟩
      refine ⟨⟨by omega, by omega⟩, ?_⟩
      refine ⟨⟨by omega, by omega⟩, ?_⟩
      refine ⟨rX_8 (by omega) k417, ?_⟩
      show Cl pmt (an_sh wX) 29 [(2, 417), (0, K - (i_z : Int) - 1), (2, 407)] A_z _
      rw [show K - (i_z : Int) - 1 = (k_z : Int) by omega]
      refine (nearer_ex hb hO hL hr hC hd_z (by omega)).imp ?_
      rintro r_z ⟨f_z, u_z, o_z, W_z, h2, h3, h4, h5, rfl⟩
      exact ⟨rfl, f_z, u_z, o_z, W_z, h2, h3, h4, h5, rfl⟩
theorem lead_ex {n m : Int} {bm bf S E : Int → Int} {A A0 : pm_A} (hb : bmS n bm bf m) (hO : bmO n bm) (hSt : cutS n S) (hE : cutS n E) (h0 : rgX A0 512 n S) (hM : meP n bm bf m (bitsV bm E 100) (bitsV bm S 100) A0 (none, A)) : Cl pmt (an_sh wX) 31 [(2, 417), (2, 512), (2, 407)] A (leP n bm bf m (bitsV bm E 100) (bitsV bm S 100)) := by
  obtain ⟨_, V, fa, cm, c_z, s_z, hw, hX, e0_z, ⟨s0_z, s1_z, s2_z⟩, c0_z, hs⟩ := hM
  simp only at hw hs
  obtain ⟨⟨gA, hK_z, hG, hS_z, h5, h6⟩, hrow⟩ := id hw
  have g2 := hG.2.2.2
  have l1 := hX.1.1
  have l8 := hX.1.2.2.2.2.2.2 s_z s0_z s1_z
  have b4_z := hK_z.1.2.2.2.1
  have fe := (hrow s_z s0_z s1_z).2.2
  obtain ⟨q1_z, U_z, q2_z, q3_z⟩ := id h0
  have e512 : A 512 1 = (U_z : Int) := by rw [hs 1]; exact q2_z
  have hU63 := q3_z.1
  have hP := hP_of hX c0_z s0_z s1_z
  have hds := ls_ds hb hX e0_z hP s0_z s1_z (Int.le_refl _)
  rw [s2_z] at hds
  have K14 : fa s_z ≤ 14 := by
    obtain ⟨k_z, hk, hwk⟩ := far14 hb hE hSt
    have := hds.2 k_z hwk
    omega
  have gB : gH wX (pm_upd A 419 1 (U_z : Int)) := u9_1 gA (by unfold r64; omega)
  have hL : ldH n bm bf m (bitsV bm E 100) (fa s_z) (pm_upd A 419 1 (U_z : Int)) := ⟨V, fa, cm, c_z, hw.of gB (fun r_z j_z q1_z _ _ => upd_o q1_z), hX, e0_z, hP⟩
  refine Cl.of (Nat.le_of_ble_eq_true rfl) ?_
  refine wq_ok (full := o_X3_lead) sq_lead (fr := []) (cuts := [9]) (J := fun pc st_z => pc = 9 ∧ st_z = ([(2, 417), (2, 512), (2, 407), (9, 0), (9, 0), (9, 0)], [(0, s_z)], A)) ?_ 20 0 _ ?_
  · rintro pc st_z ⟨rfl, rfl⟩
    refine wq_ok sq_lead (fr := []) (cuts := [45]) (J := fun pc st_z => pc = 45 ∧ st_z = ([(2, 417), (2, 512), (2, 407), (0, s_z), (0, fa s_z), (0, 0)], [], pm_upd A 419 1 (U_z : Int))) ?_ 40 9 _ ?_
    · rintro pc st_z ⟨rfl, rfl⟩
      exact le_45 hb hO K14 (fa s_z).toNat 0 _ S [] (by omega) hL ⟨by rw [upd_o (by omega)]; exact h6, U_z, by rw [upd_at], q3_z⟩ hSt hds rfl (fun l' hl' => hl') (fun j_z b_z hj => by simp at hj)
    · refine ⟨fun h1 => ?_, fun h1 => absurd h1 (by omega)⟩
      refine ⟨oX_6 (by omega) k407 3 rfl, ?_⟩
      refine ⟨aX_32 (by rw [b4_z]; omega) (by rw [b4_z]; exact k411) (by omega) (by omega), ?_⟩
      rw [b4_z, fe]
      refine ⟨oX_8 (by omega) k417 2 rfl, ?_⟩
      refine ⟨oX_9 (by omega) k512 1 rfl, ?_⟩
      refine ⟨oX_9 (by rw [g2]; omega) (by rw [g2]; exact k419) 1 rfl, ?_⟩
      refine ⟨rfl, ?_⟩
      show ([(2, 417), (2, 512), (2, 407), (0, s_z), (0, min (fa s_z) 64), (0, 0)], ([] : List pm_V), pm_upd A (A 417 2) 1 (A 512 1)) = _
      rw [g2, e512, show min (fa s_z) 64 = fa s_z by omega]
  · refine ⟨oX_9 (by omega) k512 1 rfl, ?_⟩
    refine ⟨rX_6 (by omega) k407, ?_⟩
    rw [e512]
    refine (bfind_ex (a := (U_z : Int)) (c := 0) gA hK_z hS_z).imp ?_
    rintro ⟨r1_z, D_z⟩ ⟨e_z, ee, he⟩
    have e1 : r1_z = some (0, e_z) := congrArg Prod.fst ee
    have e2 : D_z = A := congrArg Prod.snd ee
    subst e1
    subst e2
    have hes : e_z = s_z := by
      rcases wp_find hb hw hSt q3_z he with ⟨_, h2⟩ | ⟨h2, h3⟩
      · exact absurd s2_z (h2 s_z s0_z s1_z)
      · exact lsI.at hX.1 h2.1 h2.2 s0_z s1_z (h3.trans s2_z.symm)
    subst hes
    exact ⟨rfl, rfl⟩
/-- the class's way -/
def xyP (n n' : Int) (S E bm bf : Int → Int) (m : Int) (A : pm_A) (r : pm_R) : Prop := ((¬ (cntF S 100 = n - 3 ∧ cntF E 100 = n' - 3 ∧ n = n')) ∧ r = (some (0, -1), A)) ∨ ((cntF S 100 = n - 3 ∧ cntF E 100 = n' - 3 ∧ n = n') ∧ leP n bm bf m (bitsV bm E 100) (bitsV bm S 100) r)
theorem xway_ex {n n' m : Int} {S E bm bf : Int → Int} {A : pm_A} (hA : gH wX A) (hK : BK A) (hG : GD A) (h0 : rgX A 512 n S) (s0 : rgS n S) (h1 : rgX A 513 n' E) (s1 : rgS n' E) (hb : cntF S 100 = n - 3 → cntF E 100 = n' - 3 → n = n' → bmS n bm bf m ∧ bmO n bm) : Cl pmt (an_sh wX) 119 [(2, 0)] A (xyP n n' S E bm bf m A) := by
  obtain ⟨⟨g1, g2, g3_z⟩, g4, _⟩ := id hG
  have e0_z : A 512 0 = n := h0.1
  have e1_z : A 513 0 = n' := h1.1
  have b11 := hK.2.1
  have hcall : cntF S 100 = n - 3 → cntF E 100 = n' - 3 → n = n' → Tm pmt (an_sh wX) o_X9_way 47 ([(2, 0)], [], A) (xyP n n' S E bm bf m A) := fun c1_z c2_z en => by
    subst en
    obtain ⟨hb, hO⟩ := hb c1_z c2_z rfl
    refine wq_ok sq_Xway (fr := []) (cuts := [70]) (J := fun pc st_z => pc = 70 ∧ ∃ C_z, meP n bm bf m (bitsV bm E 100) (bitsV bm S 100) A (none, C_z) ∧ st_z = ([(2, 0)], [], C_z)) ?_ 30 47 _ ?_
    · rintro pc st_z ⟨rfl, C_z, hM_z, rfl⟩
      have hM0 := hM_z
      obtain ⟨_, V, fa, cm, d_z, s_z, hw, _⟩ := hM0
      obtain ⟨⟨i1_z, i2_z, i3_z⟩, i4_z, _⟩ := hw.1.2.2.1
      have j11_z := hw.1.2.1.2.1
      simp only at i1_z i2_z i4_z j11_z
      refine wq_ok sq_Xway (fr := []) (cuts := []) (J := fun _ _ => False) (fun _ _ h_z => h_z.elim) 30 70 _ ?_
      refine ⟨oX_0 z0 kk0 14 rfl, ?_⟩
      refine ⟨oX_0 z0 kk0 13 rfl, ?_⟩
      refine ⟨aX_34 (by rw [i1_z]; omega) (by rw [i1_z]; exact k416) (by omega) (by omega), ?_⟩
      refine ⟨oX_0 z0 kk0 11 rfl, ?_⟩
      refine ⟨rX_8 (by rw [i4_z]; omega) (by rw [i4_z]; exact k417), ?_⟩
      show Cl pmt (an_sh wX) 31 [(2, C_z 0 14), (2, C_z (C_z 0 13) 0), (2, C_z 0 11)] C_z _
      rw [i4_z, i1_z, i2_z, j11_z]
      refine (lead_ex hb hO ⟨s0, c1_z⟩ ⟨s1, c2_z⟩ h0 hM_z).imp ?_
      rintro ⟨r1_z, D_z⟩ hD
      have hD0 := hD
      obtain ⟨l, _, hl, _⟩ := hD0
      simp only at hl
      subst hl
      exact ⟨rfl, Or.inr ⟨⟨c1_z, c2_z, rfl⟩, hD⟩⟩
    · refine ⟨oX_0 z0 kk0 14 rfl, ?_⟩
      refine ⟨oX_0 z0 kk0 13 rfl, ?_⟩
      refine ⟨aX_34 (by rw [g1]; omega) (by rw [g1]; exact k416) (by omega) (by omega), ?_⟩
      refine ⟨oX_0 z0 kk0 13 rfl, ?_⟩
      refine ⟨aX_34 (by rw [g1]; omega) (by rw [g1]; exact k416) (by omega) (by omega), ?_⟩
      refine ⟨oX_0 z0 kk0 11 rfl, ?_⟩
      refine ⟨rX_8 (by rw [g4]; omega) (by rw [g4]; exact k417), ?_⟩
      show Cl pmt (an_sh wX) 32 [(2, A 0 14), (2, A (A 0 13) 0), (2, A (A 0 13) 1), (2, A 0 11)] A _
      rw [g4, g1, g2, g3_z, b11]
      refine (measure_ex hb ⟨s0, c1_z⟩ ⟨s1, c2_z⟩ hA hK hG h0 h1).imp ?_
      rintro ⟨r1_z, C_z⟩ hC
      have hr1 : r1_z = none := hC.1
      subst hr1
      exact ⟨rfl, C_z, hC, rfl⟩
  refine Cl.of (Nat.le_of_ble_eq_true rfl) ?_
  refine wq_ok (full := o_X9_way) sq_Xway (fr := []) (cuts := [9]) (J := fun pc st_z => pc = 9 ∧ ∃ x_z : Int, ((x_z = 1 ∧ cntF S 100 = n - 3) ∨ (x_z = 0 ∧ ¬ cntF S 100 = n - 3)) ∧ st_z = ([(2, 0)], [(0, x_z)], A)) ?_ 20 0 _ ?_
  · rintro pc st_z ⟨rfl, x_z, hx, rfl⟩
    refine wq_ok sq_Xway (fr := []) (cuts := [12]) (J := fun pc st_z => pc = 12 ∧ ¬ x_z = 0 ∧ st_z = ([(2, 0)], [], A)) ?_ 10 9 _ ?_
    · rintro pc st_z ⟨rfl, hx0, rfl⟩
      have hc0 : cntF S 100 = n - 3 := by
        rcases hx with ⟨_, q_z⟩ | ⟨q_z, _⟩
        · exact q_z
        · exact absurd q_z hx0
      refine wq_ok sq_Xway (fr := []) (cuts := [21]) (J := fun pc st_z => pc = 21 ∧ ∃ y_z : Int, ((y_z = 1 ∧ cntF E 100 = n' - 3) ∨ (y_z = 0 ∧ ¬ cntF E 100 = n' - 3)) ∧ st_z = ([(2, 0)], [(0, y_z)], A)) ?_ 20 12 _ ?_
      · rintro pc st_z ⟨rfl, y_z, hy, rfl⟩
        refine wq_ok sq_Xway (fr := []) (cuts := [24]) (J := fun pc st_z => pc = 24 ∧ ¬ y_z = 0 ∧ st_z = ([(2, 0)], [], A)) ?_ 10 21 _ ?_
        · rintro pc st_z ⟨rfl, hy0, rfl⟩
          have hc1 : cntF E 100 = n' - 3 := by
            rcases hy with ⟨_, q_z⟩ | ⟨q_z, _⟩
            · exact q_z
            · exact absurd q_z hy0
          refine wq_ok sq_Xway (fr := []) (cuts := [47]) (J := fun pc st_z => pc = 47 ∧ n = n' ∧ st_z = ([(2, 0)], [], A)) ?_ 30 24 _ ?_
          · rintro pc st_z ⟨rfl, en, rfl⟩
            exact hcall hc0 hc1 en
          · refine ⟨oX_0 z0 kk0 13 rfl, ?_⟩
            refine ⟨aX_34 (by rw [g1]; omega) (by rw [g1]; exact k416) (by omega) (by omega), ?_⟩
            refine ⟨oX_9 (by rw [g1, g2]; omega) (by rw [g1, g2]; exact k512) 0 rfl, ?_⟩
            refine ⟨oX_0 z0 kk0 13 rfl, ?_⟩
            refine ⟨aX_34 (by rw [g1]; omega) (by rw [g1]; exact k416) (by omega) (by omega), ?_⟩
            refine ⟨oX_9 (by rw [g1, g3_z]; omega) (by rw [g1, g3_z]; exact k513) 0 rfl, ?_⟩
            refine ⟨fun h2 => ?_, fun h2 => ?_⟩
            · rw [g1, g2, g3_z, e0_z, e1_z] at h2
              exact ⟨rfl, h2, rfl⟩
            · rw [g1, g2, g3_z, e0_z, e1_z] at h2
              exact ⟨rfl, Or.inl ⟨fun q_z => h2 q_z.2.2, rfl⟩⟩
        · refine ⟨fun h2 => ?_, fun h2 => ?_⟩
          · exact ⟨rfl, Or.inl ⟨fun q_z => by rcases hy with ⟨h3, _⟩ | ⟨_, h3⟩; omega; exact h3 q_z.2.1, rfl⟩⟩
          · exact ⟨rfl, h2, rfl⟩
      · refine ⟨oX_0 z0 kk0 13 rfl, ?_⟩
        refine ⟨aX_34 (by rw [g1]; omega) (by rw [g1]; exact k416) (by omega) (by omega), ?_⟩
        refine ⟨rX_9 (by rw [g1, g3_z]; omega) (by rw [g1, g3_z]; exact k513), ?_⟩
        rw [g1, g3_z]
        refine (xcut_ex (r := 513) (by omega) k513 h1 s1).imp ?_
        rintro ⟨r1_z, C_z⟩ ⟨q1_z, y_z, q2_z, hy⟩
        simp only at q1_z q2_z
        subst q1_z
        subst q2_z
        exact ⟨rfl, y_z, hy, rfl⟩
    · refine ⟨fun h2 => ?_, fun h2 => ?_⟩
      · exact ⟨rfl, Or.inl ⟨fun q_z => by rcases hx with ⟨h3, _⟩ | ⟨_, h3⟩; omega; exact h3 q_z.1, rfl⟩⟩
      · exact ⟨rfl, h2, rfl⟩
  · refine ⟨oX_0 z0 kk0 13 rfl, ?_⟩
    refine ⟨aX_34 (by rw [g1]; omega) (by rw [g1]; exact k416) (by omega) (by omega), ?_⟩
    refine ⟨rX_9 (by rw [g1, g2]; omega) (by rw [g1, g2]; exact k512), ?_⟩
    rw [g1, g2]
    refine (xcut_ex (r := 512) (by omega) k512 h0 s0).imp ?_
    rintro ⟨r1_z, C_z⟩ ⟨q1_z, x_z, q2_z, hx⟩
    simp only at q1_z q2_z
    subst q1_z
    subst q2_z
    exact ⟨rfl, x_z, hx, rfl⟩
