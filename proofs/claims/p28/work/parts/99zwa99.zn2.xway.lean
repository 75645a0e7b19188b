/-! the class's way, exactly -/
theorem sq_flipped : pm_srt o_X3_flipped = true := by decide +kernel
theorem sq_measure : pm_srt o_X3_measure = true := by decide +kernel
theorem sq_nearer : pm_srt o_X3_goNearer = true := by decide +kernel
theorem sq_lead : pm_srt o_X3_lead = true := by decide +kernel
theorem sq_Xway : pm_srt o_X9_way = true := by decide +kernel
theorem k416 : wX.2 416 = 34 := by decide
theorem k417 : wX.2 417 = 8 := by decide
theorem k418 : wX.2 418 = 35 := by decide
theorem k419 : wX.2 419 = 9 := by decide
theorem k512 : wX.2 512 = 9 := by decide +kernel
theorem k513 : wX.2 513 = 9 := by decide +kernel
/-- the guide's cells -/
def GD (A : pm_A) : Prop := (A 0 13 = 416 ∧ A 416 0 = 512 ∧ A 416 1 = 513) ∧ A 0 14 = 417 ∧ A 417 1 = 418 ∧ A 417 2 = 419
theorem gd_first : GD (wA WX) := by
  refine ⟨⟨?_, ?_, ?_⟩, ?_, ?_, ?_⟩ <;> decide +kernel
theorem GD.of {A B : pm_A} (h : GD A) (e : ∀ r_z j_z : Int, r_z = 0 ∨ r_z = 416 ∨ (r_z = 417 ∧ ¬ j_z = 0) → B r_z j_z = A r_z j_z) : GD B := by
  obtain ⟨⟨a1_z, a2, a3⟩, a4, a5, a6⟩ := h
  exact ⟨⟨by rw [e _ _ (by omega)]; exact a1_z, by rw [e _ _ (by omega)]; exact a2, by rw [e _ _ (by omega)]; exact a3⟩, by rw [e _ _ (by omega)]; exact a4, by rw [e _ _ (by omega)]; exact a5, by rw [e _ _ (by omega)]; exact a6⟩
def gdC : List Nat := [13, 14, 801, 802, 10034]
theorem GD.k {A B : pm_A} {ms : List Nat} (h : GD A) (hF : gFk wY ms A B) (hm : avoid gdC ms = true) : GD B := by
  have f0_z : ∀ j_z : Int, j_z = 13 ∨ j_z = 14 → B 0 j_z = A 0 j_z := fun j_z hj => hF 0 j_z (by omega) (by omega) (by
    rw [kc_o (a := 0) kk0 (by decide) (shX_0 kk0)]
    refine avoid_n hm ?_
    rcases hj with rfl | rfl <;> decide)
  have f7_z : ∀ j_z : Int, j_z = 1 ∨ j_z = 2 → B 417 j_z = A 417 j_z := fun j_z hj => hF 417 j_z (by omega) (by omega) (by
    rw [kc_o (a := 0) k417 (by decide) (shX_8 k417)]
    refine avoid_n hm ?_
    rcases hj with rfl | rfl <;> decide)
  have f6_z : ∀ j_z : Int, 0 ≤ j_z → B 416 j_z = A 416 j_z := fun j_z j0 => hF 416 j_z (by omega) j0 (by
    rw [kc_a k416 (by decide) (shX_34 k416)]
    exact avoid_n hm (by decide))
  obtain ⟨⟨a1_z, a2, a3⟩, a4, a5, a6⟩ := h
  exact ⟨⟨by rw [f0_z 13 (by omega)]; exact a1_z, by rw [f6_z 0 (by omega)]; exact a2, by rw [f6_z 1 (by omega)]; exact a3⟩, by rw [f0_z 14 (by omega)]; exact a4, by rw [f7_z 1 (by omega)]; exact a5, by rw [f7_z 2 (by omega)]; exact a6⟩
theorem u9_0 {B : pm_A} {x : Int} (hB : gH wX B) (h0 : 4 ≤ x) (h1 : x ≤ 10) : gH wX (pm_upd B 419 0 x) := by
  refine gH_upd hB (k := (0, 6, 2, [(0, 4, 10), (1, (-9223372036854775808), 9223372036854775807)])) (by rw [k419]; rfl) (fun _ j_z a_z hj ej => ?_) (fun q_z => by cases q_z)
  have : j_z = 0 := by omega
  subst this
  cases hj
  exact ⟨rfl, h0, h1⟩
theorem u9_1 {B : pm_A} {x : Int} (hB : gH wX B) (hx : r64 x) : gH wX (pm_upd B 419 1 x) := by
  refine gH_upd hB (k := (0, 6, 2, [(0, 4, 10), (1, (-9223372036854775808), 9223372036854775807)])) (by rw [k419]; rfl) (fun _ j_z a_z hj ej => ?_) (fun q_z => by cases q_z)
  have : j_z = 1 := by omega
  subst this
  cases hj
  exact ⟨rfl, hx.1, hx.2⟩
theorem u8_0 {B : pm_A} {x : Int} (hB : gH wX B) (h0 : -2147483648 ≤ x) (h1 : x ≤ 64) : gH wX (pm_upd B 417 0 x) := by
  refine gH_upd hB (k := (0, 3, 3, [(0, (-2147483648), 64), (2, 35, 0), (2, 9, 0)])) (by rw [k417]; rfl) (fun _ j_z a_z hj ej => ?_) (fun q_z => by cases q_z)
  have : j_z = 0 := by omega
  subst this
  cases hj
  exact ⟨rfl, h0, h1⟩
def nam (f : Int) : Int := 100 * (f / 10) + f % 10
theorem rgV_same {n : Int} {U : Nat} {F G : Int → Int} (hF : rgV U F) (hG : rgV U G) (sF : rgS n F) (sG : rgS n G) : ∀ f_z : Int, 0 ≤ f_z → f_z < 100 → F f_z = G f_z := fun f_z f0_z f1_z => by
  have a_z := sF.2.1 f_z f0_z f1_z
  have b_z := sG.2.1 f_z f0_z f1_z
  by_cases h_z : f_z / 10 < f_z % 10
  · have h1 := hF.2 (f_z / 10) (f_z % 10) (by omega) h_z (by omega)
    have h2 := hG.2 (f_z / 10) (f_z % 10) (by omega) h_z (by omega)
    rw [show 10 * (f_z / 10) + f_z % 10 = f_z by omega] at h1 h2
    have h3 : F f_z = 1 ↔ G f_z = 1 := h1.symm.trans h2
    omega
  · have h1 : ¬ F f_z = 1 := fun q_z => h_z (sF.2.2 f_z f0_z f1_z q_z).1.1
    have h2 : ¬ G f_z = 1 := fun q_z => h_z (sG.2.2 f_z f0_z f1_z q_z).1.1
    omega
def flX (A : pm_A) (n : Int) (F : Int → Int) (f : Int) (r : pm_R) : Prop := ∃ (i_z o_z : Int) (V_z : Nat), oth n F f i_z o_z ∧ rgV V_z (flF F f (cod i_z o_z)) ∧ r = (some (1, (V_z : Int)), A)
theorem flipped_ex {A : pm_A} {n f : Int} {F : Int → Int} (hG : GD A) (h : rgX A 419 n F) (hC : cutS n F) (f0 : 0 ≤ f) (f1 : f < 100) (hf : F f = 1) : Cl pmt (an_sh wX) 28 [(2, 417), (0, nam f)] A (flX A n F f) := by
  obtain ⟨_, _, _, g2⟩ := hG
  have hv := (hC.1.2.2 f f0 f1 hf).1
  have hn := hC.1.1
  obtain ⟨_, V_z, hV, hrg⟩ := id h
  have n1_z : nam f / 100 = f / 10 := by unfold nam; omega
  have n2_z : nam f % 100 = f % 10 := by unfold nam; omega
  have n0_z : 0 ≤ nam f ∧ nam f ≤ 2147483647 := by unfold nam; omega
  refine Cl.of (Nat.le_of_ble_eq_true rfl) ?_
  refine wq_ok (full := o_X3_flipped) sq_flipped (fr := []) (cuts := [27]) (J := fun pc st_z => pc = 27 ∧ ∃ i_z o_z : Int, oth n F f i_z o_z ∧ st_z = ([(2, 417), (0, nam f), (9, 0)], [(0, 100 * min i_z o_z + max i_z o_z)], A)) ?_ 30 0 _ ?_
  · rintro pc st_z ⟨rfl, i_z, o_z, ho, rfl⟩
    obtain ⟨d0_z, d1_z, d2_z, d3_z, d4_z, d5_z⟩ := cod_b hC.1 f0 f1 hf ho
    have hio := ho
    obtain ⟨⟨i1_z, i2_z⟩, ⟨o1_z, o2_z, o3_z⟩, _⟩ := hio
    have m1_z : (100 * min i_z o_z + max i_z o_z) / 100 = min i_z o_z := by omega
    have m2_z : (100 * min i_z o_z + max i_z o_z) % 100 = max i_z o_z := by omega
    have hlt : min i_z o_z < max i_z o_z := by omega
    have hfl := rgV_flip hrg (a := f / 10) (b := f % 10) (c := min i_z o_z) (d := max i_z o_z) (by omega) hv.1 (by omega) (by omega) hlt (by omega) (by rw [show 10 * (f / 10) + f % 10 = f by omega]; exact hf) (by show F (cod i_z o_z) = 0; exact d5_z)
    rw [show 10 * (f / 10) + f % 10 = f by omega] at hfl
    have bb1 := bI_b (a := f / 10) (b := f % 10) (by omega) hv.1 (by omega)
    have bb2 := bI_b (a := min i_z o_z) (b := max i_z o_z) (by omega) hlt (by omega)
    have hV63 : V_z < 9223372036854775808 := by have := hrg.1; omega
    have p1_z := p45 (k := (bI (f / 10) (f % 10)).toNat) (by omega)
    have p2_z := p45 (k := (bI (min i_z o_z) (max i_z o_z)).toNat) (by omega)
    refine wq_ok sq_flipped (fr := []) (cuts := [58]) (J := fun pc st_z => pc = 58 ∧ st_z = ([(2, 417), (0, nam f), (0, 100 * min i_z o_z + max i_z o_z)], [(1, shl1 (bI (f / 10) (f % 10))), (1, (V_z : Int))], A)) ?_ 40 27 _ ?_
    · rintro pc st_z ⟨rfl, rfl⟩
      refine wq_ok sq_flipped (fr := []) (cuts := []) (J := fun _ _ => False) (fun _ _ h_z => h_z.elim) 30 58 _ ?_
      rw [shl1_nat (k := bI (f / 10) (f % 10)) (by omega) (by omega)]
      refine ⟨⟨by omega, by omega, by omega, by omega⟩, ?_⟩
      refine ⟨⟨by omega, by omega, by omega, by omega⟩, ?_⟩
      refine ⟨rfl, ?_⟩
      show Cl pmt (an_sh wX) 51 [(0, (100 * min i_z o_z + max i_z o_z) / 100), (0, (100 * min i_z o_z + max i_z o_z) % 100)] A _
      rw [m1_z, m2_z]
      refine (xbit_ex (a := min i_z o_z) (b := max i_z o_z) (by omega) (by omega) (by omega) (by omega)).imp ?_
      rintro r_z rfl
      rw [show min (min i_z o_z) (max i_z o_z) = min i_z o_z by omega, show max (min i_z o_z) (max i_z o_z) = max i_z o_z by omega]
      refine ⟨rfl, i_z, o_z, _, ho, hfl, ?_⟩
      show (some ((1 : Nat), pp_lb 5 (pp_lb 5 (V_z : Int) ((2 ^ (bI (f / 10) (f % 10)).toNat : Nat) : Int)) (shl1 (bI (min i_z o_z) (max i_z o_z)))), A) = _
      rw [nl_xor hV63 (by omega), shl1_nat (k := bI (min i_z o_z) (max i_z o_z)) (by omega) (by omega), nl_xor (Nat.lt_of_lt_of_le (Nat.xor_lt_two_pow (n := 45) hrg.1 p1_z) (by decide)) (by omega), Nat.xor_assoc]
    · refine ⟨fun hh => ?_, fun hh => absurd hh (by omega)⟩
      refine ⟨oX_8 (by omega) k417 2 rfl, ?_⟩
      refine ⟨oX_9 (by rw [g2]; omega) (by rw [g2]; exact k419) 1 rfl, ?_⟩
      refine ⟨⟨by omega, by omega, by omega, by omega⟩, ?_⟩
      refine ⟨⟨by omega, by omega, by omega, by omega⟩, ?_⟩
      refine ⟨rfl, ?_⟩
      show Cl pmt (an_sh wX) 51 [(0, nam f / 100), (0, nam f % 100)] A _
      rw [n1_z, n2_z, g2, hV]
      refine (xbit_ex (a := f / 10) (b := f % 10) (by omega) (by omega) (by omega) (by omega)).imp ?_
      rintro r_z rfl
      rw [show min (f / 10) (f % 10) = f / 10 by omega, show max (f / 10) (f % 10) = f % 10 by omega]
      exact ⟨rfl, rfl⟩
  · refine ⟨fun hh => ?_, fun hh => absurd hh (by omega)⟩
    refine ⟨oX_8 (by omega) k417 2 rfl, ?_⟩
    refine ⟨⟨by omega, by omega, by omega, by omega⟩, ?_⟩
    refine ⟨⟨by omega, by omega, by omega, by omega⟩, ?_⟩
    refine ⟨rX_9 (by rw [g2]; omega) (by rw [g2]; exact k419), ?_⟩
    show Cl pmt (an_sh wX) 60 [(2, A 417 2), (0, nam f / 100), (0, nam f % 100)] A _
    rw [n1_z, n2_z, g2]
    refine (xother_ex (r := 419) (by omega) k419 h hC f0 f1 hf).imp ?_
    rintro ⟨r1_z, C_z⟩ ⟨e1, i_z, o_z, ho, e2⟩
    simp only at e1 e2
    subst e1
    subst e2
    exact ⟨rfl, i_z, o_z, ho, rfl⟩
/-- the book holds cuttings with their distances -/
def wpX (n : Int) (bm V fa : Int → Int) (cm : Int) (A : pm_A) : Prop := (gH wX A ∧ BK A ∧ GD A ∧ bkS A (A 407 5) ∧ A 407 5 = cm ∧ A 419 0 = n) ∧ ∀ e_z : Int, 0 ≤ e_z → e_z < cm → (∃ (F_z : Int → Int) (U_z : Nat), cutS n F_z ∧ V e_z = bitsV bm F_z 100 ∧ rgV U_z F_z ∧ A 408 e_z = (U_z : Int)) ∧ A 409 e_z = 0 ∧ A 411 e_z = fa e_z
theorem wpX.of {n : Int} {bm V fa : Int → Int} {cm : Int} {A B : pm_A} (h : wpX n bm V fa cm A) (hB : gH wX B) (e : ∀ r_z j_z : Int, ¬ (r_z = 419 ∧ j_z = 1) → ¬ r_z = 418 → ¬ (r_z = 417 ∧ j_z = 0) → B r_z j_z = A r_z j_z) : wpX n bm V fa cm B := by
  obtain ⟨⟨h1, h2, h3, h4, h5, h6⟩, h7⟩ := h
  have e5 : B 407 5 = A 407 5 := e _ _ (by omega) (by omega) (by omega)
  have ef : ∀ r_z : Int, (408 ≤ r_z ∧ r_z ≤ 412) → B r_z = A r_z := fun r_z hr => funext fun j_z => e r_z j_z (by omega) (by omega) (by omega)
  refine ⟨⟨hB, ?_, h3.of (fun r_z j_z hr => e r_z j_z (by omega) (by omega) (by omega)), ?_, by rw [e5]; exact h5, by rw [e _ _ (by omega) (by omega) (by omega)]; exact h6⟩, fun e_z e0_z e1_z => ?_⟩
  · obtain ⟨⟨a1_z, a2, a3, a4, a5⟩, b1, b2, b3, b4_z⟩ := h2
    refine ⟨⟨?_, ?_, ?_, ?_, ?_⟩, ?_, ?_, ?_, ?_⟩
    all_goals (rw [e _ _ (by omega) (by omega) (by omega)]; assumption)
  · unfold bkS
    rw [e5, ef 408 (by omega), ef 409 (by omega), ef 412 (by omega)]
    exact h4
  · rw [ef 408 (by omega), ef 409 (by omega), ef 411 (by omega)]
    exact h7 e_z e0_z e1_z
theorem bits_iff {n m : Int} {bm bf F G : Int → Int} {U W : Nat} (hb : bmS n bm bf m) (hF : cutS n F) (hG : cutS n G) (rF : rgV U F) (rG : rgV W G) : U = W ↔ bitsV bm F 100 = bitsV bm G 100 := by
  constructor
  · intro e_z
    subst e_z
    exact bitsV_congr 100 (fun f_z f0_z f1_z => rgV_same rF rG hF.1 hG.1 f_z f0_z (by omega))
  · intro e_z
    have h1 : ∀ f_z : Int, 0 ≤ f_z → f_z < 100 → F f_z = G f_z := fun f_z f0_z f1_z => msk_inj hF.1 hG.1 hb e_z f0_z f1_z
    have h2 : rgV U G := ⟨rF.1, fun a_z b_z a0_z ab b9 => by rw [rF.2 a_z b_z a0_z ab b9, h1 _ (by omega) (by omega)]⟩
    exact rgV_uniq h2 rG
theorem wp_find {n m : Int} {bm bf V fa G : Int → Int} {cm i : Int} {W : Nat} {A : pm_A} (hb : bmS n bm bf m) (h : wpX n bm V fa cm A) (hG : cutS n G) (rG : rgV W G) (hi : (i = -1 ∧ ∀ j_z : Int, 0 ≤ j_z → j_z < A 407 5 → ¬ ety A j_z (W : Int) 0) ∨ ((0 ≤ i ∧ i < A 407 5) ∧ ety A i (W : Int) 0)) : (i = -1 ∧ ∀ e_z : Int, 0 ≤ e_z → e_z < cm → ¬ V e_z = bitsV bm G 100) ∨ ((0 ≤ i ∧ i < cm) ∧ V i = bitsV bm G 100) := by
  have h5 := h.1.2.2.2.2.1
  have key_z : ∀ e_z : Int, 0 ≤ e_z → e_z < cm → (ety A e_z (W : Int) 0 ↔ V e_z = bitsV bm G 100) := fun e_z e0_z e1_z => by
    obtain ⟨⟨F_z, U_z, c1_z, c2_z, c3_z, c4_z⟩, c5_z, _⟩ := h.2 e_z e0_z e1_z
    have h1 := bits_iff hb c1_z hG c3_z rG
    unfold ety
    rw [c2_z, c4_z, c5_z, ← h1]
    omega
  rw [h5] at hi
  rcases hi with ⟨h1, h2⟩ | ⟨h1, h2⟩
  · exact Or.inl ⟨h1, fun e_z e0_z e1_z q_z => h2 e_z e0_z e1_z ((key_z e_z e0_z e1_z).2 q_z)⟩
  · exact Or.inr ⟨h1, (key_z i h1.1 h1.2).1 h2⟩
theorem mfl_of {n m f i o : Int} {bm bf F : Int → Int} (hb : bmS n bm bf m) (hF : cutS n F) (f0 : 0 ≤ f) (f1 : f < 100) (hf : F f = 1) (ho : oth n F f i o) : (0 ≤ bm f ∧ bm f < m ∧ bf (bm f) = f) ∧ mfl n bm bf (bitsV bm F 100) (bm f) (bitsV bm (flF F f (cod i o)) 100) := by
  have k_z := msk_b hF.1 hb f0 f1 (by omega)
  exact ⟨k_z, F, i, o, hF, rfl, by rw [k_z.2.2]; exact hf, by rw [k_z.2.2]; exact ho, by rw [k_z.2.2]⟩
theorem mfl_fence {n m b w : Int} {bm bf F : Int → Int} (hb : bmS n bm bf m) (hF : cutS n F) (b0 : 0 ≤ b) (b1 : b < m) (h : mfl n bm bf (bitsV bm F 100) b w) : nthF F (cntF F (bf b).toNat) (bf b) ∧ bm (bf b) = b := by
  obtain ⟨G_z, i_z, o_z, h1, h2, h3, _⟩ := h
  obtain ⟨c0_z, c1_z, c2_z⟩ := hb.2.2 b b0 b1
  have e_z := msk_inj hF.1 h1.1 hb h2 c0_z c1_z
  exact ⟨⟨c0_z, c1_z, by rw [e_z]; exact h3, rfl⟩, c2_z⟩
theorem nth_ex {n : Int} {F : Int → Int} (hF : cutS n F) : ∀ (k_z : Nat), k_z ≤ 100 → ∀ i_z : Int, 0 ≤ i_z → i_z < cntF F k_z → ∃ f_z, nthF F i_z f_z
  | 0, _, i_z, i0_z, i1_z => by
    have h1 : cntF F 0 = 0 := rfl
    omega
  | k_z + 1, hk, i_z, i0_z, i1_z => by
    by_cases h_z : i_z < cntF F k_z
    · exact nth_ex hF k_z (by omega) i_z i0_z h_z
    · have h1 := cntF_s F k_z
      have h2 := iz_b F k_z
      have h3 := hF.1.2.1 (k_z : Int) (by omega) (by omega)
      have h4 : F (k_z : Int) = 1 := by
        rcases h3 with h3 | h3
        · exfalso
          have h5 : iz F (k_z : Int) = 0 := by unfold iz; rw [if_pos h3]
          omega
        · exact h3
      exact ⟨(k_z : Int), by omega, by omega, h4, by rw [show ((k_z : Int)).toNat = k_z by omega]; omega⟩
theorem nth_lt {F : Int → Int} {i j f g : Int} (hf : nthF F i f) (hg : nthF F j g) (h : f < g) : i < j := by
  obtain ⟨f0_z, f1_z, f2_z, f3_z⟩ := hf
  obtain ⟨g0, g1, g2, g3_z⟩ := hg
  have := cntF_lt F (n := f.toNat) (m := g.toNat) (by omega) (by rw [show ((f.toNat : Nat) : Int) = f by omega, f2_z]; omega)
  omega
def pdn (bm F : Int → Int) (i : Int) (b : Int) : Prop := ∃ j_z f_z : Int, (0 ≤ j_z ∧ j_z < i) ∧ nthF F j_z f_z ∧ b = bm f_z
theorem bfsX.mono {n m : Int} {bm bf V fa : Int → Int} {cm c : Int} {P Q : Int → Prop} (h : bfsX n bm bf m V fa cm c P) (hQ : ∀ b_z : Int, Q b_z → P b_z) : bfsX n bm bf m V fa cm c Q := ⟨h.1, h.2.1, fun c' b' w_z c0_z c1_z b0 b1 ho hm_z => h.2.2 c' b' w_z c0_z c1_z b0 b1 (ho.imp id (fun q_z => ⟨q_z.1, hQ b' q_z.2⟩)) hm_z⟩
