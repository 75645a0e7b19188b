/-! the class's exchange, exactly -/
def mlC (A : pm_A) (q r : Int) : Prop := (∃ n_z : Int, (0 ≤ n_z ∧ n_z ≤ 4) ∧ (r = A q n_z ∨ r = A (A q n_z) 2 ∨ r = A (A q n_z) 3)) ∨ r = A q 5 ∨ r = A q 6
def exF (A B : pm_A) (q : Int) : Prop := gH wX B ∧ (∀ r_z j_z : Int, ¬ mlC A q r_z → B r_z j_z = A r_z j_z) ∧ ∀ n_z : Int, 0 ≤ n_z → n_z ≤ 4 → B (A q n_z) 2 = A (A q n_z) 2 ∧ B (A q n_z) 3 = A (A q n_z) 3
def exH3 (A : pm_A) (q g : Int) : Prop := (0 ≤ q ∧ wX.2 q = 4) ∧ (0 ≤ g ∧ wX.2 g = 1) ∧ (∀ a_z : Int, 0 ≤ a_z → wX.2 a_z = 2 → A a_z 2 = a_z + 1 ∧ A a_z 3 = a_z + 2) ∧ (¬ A q 5 = A q 6) ∧ (∀ i_z j_z : Int, 0 ≤ i_z → i_z ≤ 4 → 0 ≤ j_z → j_z ≤ 4 → ¬ i_z = j_z → ¬ A q i_z = A q j_z) ∧ ∀ i_z j_z : Int, 0 ≤ i_z → i_z ≤ 4 → 0 ≤ j_z → j_z < A g 0 → ¬ A q i_z = A (A g 4) j_z
theorem ml_k {A : pm_A} {q n : Int} (hA : gH wX A) (hq : 0 ≤ q ∧ wX.2 q = 4) (n0 : 0 ≤ n) (n1 : n ≤ 4) : 0 ≤ A q n ∧ wX.2 (A q n) = 2 := by
  have h_z : n = 0 ∨ n = 1 ∨ n = 2 ∨ n = 3 ∨ n = 4 := by omega
  rcases h_z with rfl | rfl | rfl | rfl | rfl
  · exact fX_4_0 hA hq.1 hq.2
  · exact fX_4_1 hA hq.1 hq.2
  · exact fX_4_2 hA hq.1 hq.2
  · exact fX_4_3 hA hq.1 hq.2
  · exact fX_4_4 hA hq.1 hq.2
theorem ds_of {A : pm_A} {a b : Int} (h : ∀ a : Int, 0 ≤ a → wX.2 a = 2 → A a 2 = a + 1 ∧ A a 3 = a + 2) (ha : 0 ≤ a ∧ wX.2 a = 2) (hb : 0 ≤ b ∧ wX.2 b = 2) (hne : ¬ a = b) : dsX A a b := by
  have h1 := h a ha.1 ha.2
  have h2 := h b hb.1 hb.2
  exact ⟨hne, by rw [h1.1, h2.1]; omega, by rw [h1.2, h2.2]; omega⟩
theorem ml_no {A : pm_A} {q r : Int} {l : Nat} (hA : gH wX A) (hq : 0 ≤ q ∧ wX.2 q = 4) (rk : wX.2 r = l) (n1 : ¬ l = 2) (n2 : ¬ l = 14) (n3 : ¬ l = 15) (n4 : ¬ l = 18) : ¬ mlC A q r := by
  rintro (⟨n_z, hn, h_z⟩ | h_z | h_z)
  · have k_z := ml_k hA hq hn.1 hn.2
    rcases h_z with h_z | h_z | h_z
    · exact knd rk k_z.2 n1 h_z
    · exact knd rk (fX_2_2 hA k_z.1 k_z.2).2 n2 h_z
    · exact knd rk (fX_2_3 hA k_z.1 k_z.2).2 n3 h_z
  · exact knd rk (fX_4_5 hA hq.1 hq.2).2 n4 h_z
  · exact knd rk (fX_4_6 hA hq.1 hq.2).2 n4 h_z
theorem exF.sm {A B : pm_A} {q a : Int} (h : exF A B q) (hA : gH wX A) (hq : 0 ≤ q ∧ wX.2 q = 4) (h3 : ∀ a : Int, 0 ≤ a → wX.2 a = 2 → A a 2 = a + 1 ∧ A a 3 = a + 2) (ha : 0 ≤ a ∧ wX.2 a = 2) (hne : ∀ n_z : Int, 0 ≤ n_z → n_z ≤ 4 → ¬ A q n_z = a) : sme A B a := by
  have a2 := fX_2_2 hA ha.1 ha.2
  have a3 := fX_2_3 hA ha.1 ha.2
  have kA_z := fX_4_5 hA hq.1 hq.2
  have gA := fX_4_6 hA hq.1 hq.2
  have hx := h3 a ha.1 ha.2
  refine ⟨fun j_z => h.2.1 a j_z ?_, fun j_z => h.2.1 _ j_z ?_, fun j_z => h.2.1 _ j_z ?_⟩
  · rintro (⟨n_z, hn, e_z⟩ | e_z | e_z)
    · have k_z := ml_k hA hq hn.1 hn.2
      rcases e_z with e_z | e_z | e_z
      · exact hne n_z hn.1 hn.2 e_z.symm
      · exact knd ha.2 (fX_2_2 hA k_z.1 k_z.2).2 (by decide) e_z
      · exact knd ha.2 (fX_2_3 hA k_z.1 k_z.2).2 (by decide) e_z
    · exact knd ha.2 kA_z.2 (by decide) e_z
    · exact knd ha.2 gA.2 (by decide) e_z
  · rintro (⟨n_z, hn, e_z⟩ | e_z | e_z)
    · have k_z := ml_k hA hq hn.1 hn.2
      rcases e_z with e_z | e_z | e_z
      · exact knd a2.2 k_z.2 (by decide) e_z
      · have h4 := (h3 _ k_z.1 k_z.2).1
        exact hne n_z hn.1 hn.2 (by omega)
      · exact knd a2.2 (fX_2_3 hA k_z.1 k_z.2).2 (by decide) e_z
    · exact knd a2.2 kA_z.2 (by decide) e_z
    · exact knd a2.2 gA.2 (by decide) e_z
  · rintro (⟨n_z, hn, e_z⟩ | e_z | e_z)
    · have k_z := ml_k hA hq hn.1 hn.2
      rcases e_z with e_z | e_z | e_z
      · exact knd a3.2 k_z.2 (by decide) e_z
      · exact knd a3.2 (fX_2_2 hA k_z.1 k_z.2).2 (by decide) e_z
      · have h4 := (h3 _ k_z.1 k_z.2).2
        exact hne n_z hn.1 hn.2 (by omega)
    · exact knd a3.2 kA_z.2 (by decide) e_z
    · exact knd a3.2 gA.2 (by decide) e_z
theorem exF.tr {A B C : pm_A} {q : Int} (h : exF A B q) (g : exF B C q) (hA : gH wX A) (hq : 0 ≤ q ∧ wX.2 q = 4) : exF A C q := by
  have e_z : ∀ j_z : Int, B q j_z = A q j_z := fun j_z => h.2.1 q j_z (ml_no hA hq hq.2 (by decide) (by decide) (by decide) (by decide))
  refine ⟨g.1, fun r_z j_z hr => ?_, fun n_z n0_z n1_z => ?_⟩
  · rw [g.2.1 r_z j_z (fun hm_z => hr ?_)]
    · exact h.2.1 r_z j_z hr
    · rcases hm_z with ⟨n_z, hn, hm_z⟩ | hm_z | hm_z
      · have h4 := h.2.2 n_z hn.1 hn.2
        rw [e_z n_z, h4.1, h4.2] at hm_z
        exact Or.inl ⟨n_z, hn, hm_z⟩
      · rw [e_z 5] at hm_z; exact Or.inr (Or.inl hm_z)
      · rw [e_z 6] at hm_z; exact Or.inr (Or.inr hm_z)
  · have h4 := h.2.2 n_z n0_z n1_z
    have h5 := g.2.2 n_z n0_z n1_z
    rw [e_z n_z] at h5
    exact ⟨by rw [h5.1]; exact h4.1, by rw [h5.2]; exact h4.2⟩
theorem px_ex {A B : pm_A} {q g n1 n2 : Int} (h : pxF A B q (A q n1) (A q n2)) (hA : gH wX A) (h3 : exH3 A q g) (a0 : 0 ≤ n1) (a1 : n1 ≤ 4) (b0 : 0 ≤ n2) (b1 : n2 ≤ 4) : exF A B q := by
  obtain ⟨hq, hg, hs, hkg, hd_z, hl⟩ := h3
  have k1_z := ml_k hA hq a0 a1
  have k2_z := ml_k hA hq b0 b1
  refine ⟨h.1, fun r_z j_z hr => ?_, fun n_z m0_z m1_z => ?_⟩
  · exact h.2.1 r_z j_z (fun e_z => hr (Or.inl ⟨n1, ⟨a0, a1⟩, Or.inl e_z⟩)) (fun e_z => hr (Or.inl ⟨n1, ⟨a0, a1⟩, Or.inr (Or.inl e_z)⟩)) (fun e_z => hr (Or.inl ⟨n1, ⟨a0, a1⟩, Or.inr (Or.inr e_z)⟩)) (fun e_z => hr (Or.inl ⟨n2, ⟨b0, b1⟩, Or.inl e_z⟩)) (fun e_z => hr (Or.inl ⟨n2, ⟨b0, b1⟩, Or.inr (Or.inl e_z)⟩)) (fun e_z => hr (Or.inl ⟨n2, ⟨b0, b1⟩, Or.inr (Or.inr e_z)⟩)) (fun e_z => hr (Or.inr (Or.inl e_z)))
  · by_cases e1 : n_z = n1
    · rw [e1]; exact h.2.2.1
    · by_cases e2 : n_z = n2
      · rw [e2]; exact h.2.2.2
      · have k_z := ml_k hA hq m0_z m1_z
        have hh : ∀ j_z : Int, B (A q n_z) j_z = A (A q n_z) j_z := fun j_z => h.2.1 _ j_z (hd_z n_z n1 m0_z m1_z a0 a1 e1) (knd k_z.2 (fX_2_2 hA k1_z.1 k1_z.2).2 (by decide)) (knd k_z.2 (fX_2_3 hA k1_z.1 k1_z.2).2 (by decide)) (hd_z n_z n2 m0_z m1_z b0 b1 e2) (knd k_z.2 (fX_2_2 hA k2_z.1 k2_z.2).2 (by decide)) (knd k_z.2 (fX_2_3 hA k2_z.1 k2_z.2).2 (by decide)) (knd k_z.2 (fX_4_5 hA hq.1 hq.2).2 (by decide))
        exact ⟨hh 2, hh 3⟩
theorem mx_ex {A B : pm_A} {q g n1 : Int} (h : mxF A B q (A q n1)) (hA : gH wX A) (h3 : exH3 A q g) (a0 : 0 ≤ n1) (a1 : n1 ≤ 4) : exF A B q := by
  obtain ⟨hq, hg, hs, hkg, hd_z, hl⟩ := h3
  have k1_z := ml_k hA hq a0 a1
  refine ⟨h.1, fun r_z j_z hr => ?_, fun n_z m0_z m1_z => ?_⟩
  · exact h.2.1 r_z j_z (fun e_z => hr (Or.inl ⟨n1, ⟨a0, a1⟩, Or.inl e_z⟩)) (fun e_z => hr (Or.inl ⟨n1, ⟨a0, a1⟩, Or.inr (Or.inl e_z)⟩)) (fun e_z => hr (Or.inl ⟨n1, ⟨a0, a1⟩, Or.inr (Or.inr e_z)⟩)) (fun e_z => hr (Or.inr (Or.inl e_z)))
  · by_cases e1 : n_z = n1
    · rw [e1]; exact h.2.2
    · have k_z := ml_k hA hq m0_z m1_z
      have hh : ∀ j_z : Int, B (A q n_z) j_z = A (A q n_z) j_z := fun j_z => h.2.1 _ j_z (hd_z n_z n1 m0_z m1_z a0 a1 e1) (knd k_z.2 (fX_2_2 hA k1_z.1 k1_z.2).2 (by decide)) (knd k_z.2 (fX_2_3 hA k1_z.1 k1_z.2).2 (by decide)) (knd k_z.2 (fX_4_5 hA hq.1 hq.2).2 (by decide))
      exact ⟨hh 2, hh 3⟩
theorem dv_ex {A B : pm_A} {q g n1 : Int} (h : dvF2 A B q (A q n1)) (hA : gH wX A) (h3 : exH3 A q g) (a0 : 1 ≤ n1) (a1 : n1 ≤ 4) : exF A B q := by
  obtain ⟨hq, hg, hs, hkg, hd_z, hl⟩ := h3
  have k1_z := ml_k hA hq (show 0 ≤ n1 by omega) a1
  have k0_z := ml_k hA hq (show (0 : Int) ≤ 0 by omega) (show (0 : Int) ≤ 4 by omega)
  refine ⟨h.1, fun r_z j_z hr => ?_, fun n_z m0_z m1_z => ?_⟩
  · exact h.2.1 r_z j_z (fun e_z => hr (Or.inl ⟨n1, ⟨by omega, a1⟩, Or.inr (Or.inl e_z)⟩)) (fun e_z => hr (Or.inr (Or.inl e_z))) (fun e_z => hr (Or.inr (Or.inr e_z))) (fun e_z => hr (Or.inl ⟨0, ⟨by omega, by omega⟩, Or.inl e_z⟩)) (fun e_z => hr (Or.inl ⟨0, ⟨by omega, by omega⟩, Or.inr (Or.inl e_z)⟩)) (fun e_z => hr (Or.inl ⟨0, ⟨by omega, by omega⟩, Or.inr (Or.inr e_z)⟩))
  · by_cases e1 : n_z = 0
    · rw [e1]; exact h.2.2
    · have k_z := ml_k hA hq m0_z m1_z
      have hh : ∀ j_z : Int, B (A q n_z) j_z = A (A q n_z) j_z := fun j_z => h.2.1 _ j_z (knd k_z.2 (fX_2_2 hA k1_z.1 k1_z.2).2 (by decide)) (knd k_z.2 (fX_4_5 hA hq.1 hq.2).2 (by decide)) (knd k_z.2 (fX_4_6 hA hq.1 hq.2).2 (by decide)) (hd_z n_z 0 m0_z m1_z (by omega) (by omega) e1) (knd k_z.2 (fX_2_2 hA k0_z.1 k0_z.2).2 (by decide)) (knd k_z.2 (fX_2_3 hA k0_z.1 k0_z.2).2 (by decide))
      exact ⟨hh 2, hh 3⟩
theorem exF.gs {A B : pm_A} {q g : Int} (h : exF A B q) (hA : gH wX A) (h3 : exH3 A q g) : (∀ j_z, B q j_z = A q j_z) ∧ (∀ j_z, B g j_z = A g j_z) ∧ (∀ j_z, B (A g 2) j_z = A (A g 2) j_z) ∧ (∀ j_z, B (A g 4) j_z = A (A g 4) j_z) := by
  obtain ⟨hq, hg, _⟩ := h3
  have t2_z := fX_1_2 hA hg.1 hg.2
  have l4 := fX_1_4 hA hg.1 hg.2
  exact ⟨fun j_z => h.2.1 _ j_z (ml_no hA hq hq.2 (by decide) (by decide) (by decide) (by decide)), fun j_z => h.2.1 _ j_z (ml_no hA hq hg.2 (by decide) (by decide) (by decide) (by decide)), fun j_z => h.2.1 _ j_z (ml_no hA hq t2_z.2 (by decide) (by decide) (by decide) (by decide)), fun j_z => h.2.1 _ j_z (ml_no hA hq l4.2 (by decide) (by decide) (by decide) (by decide))⟩
theorem exH3.keep {A B : pm_A} {q g : Int} (h3 : exH3 A q g) (hA : gH wX A) (h : exF A B q) : exH3 B q g := by
  obtain ⟨e1, e2, e3, e4_z⟩ := h.gs hA h3
  obtain ⟨hq, hg, hs, hkg, hd_z, hl⟩ := h3
  refine ⟨hq, hg, fun a_z a0_z ak => ?_, by rw [e1 5, e1 6]; exact hkg, fun i_z j_z i0_z i1_z j0 j1 hij => by rw [e1 i_z, e1 j_z]; exact hd_z i_z j_z i0_z i1_z j0 j1 hij, fun i_z j_z i0_z i1_z j0 j1 => by rw [e2 0] at j1; rw [e1 i_z, e2 4, e4_z j_z]; exact hl i_z j_z i0_z i1_z j0 j1⟩
  by_cases hm_z : ∃ n_z : Int, (0 ≤ n_z ∧ n_z ≤ 4) ∧ A q n_z = a_z
  · obtain ⟨n_z, hn, rfl⟩ := hm_z
    have h5 := h.2.2 n_z hn.1 hn.2
    rw [h5.1, h5.2]
    exact hs _ a0_z ak
  · have h5 := h.sm hA hq hs ⟨a0_z, ak⟩ (fun n_z n0_z n1_z e_z => hm_z ⟨n_z, ⟨n0_z, n1_z⟩, e_z⟩)
    rw [h5.1 2, h5.1 3]
    exact hs a_z a0_z ak
theorem TrX.ltr {s : cx_Sd 12} {ks : List (Fin 12)} {A B : pm_A} {q g : Int} (hT : TrX s ks A g) (h3 : exH3 A q g) (h : exF A B q) {i : Int} (i0 : 0 ≤ i) (i1 : i < A g 0) : sme A B (A (A g 4) i) := by
  have p6_z := fX_1_0 hT.1 hT.2.1.1 hT.2.1.2
  have l4 := fX_1_4 hT.1 hT.2.1.1 hT.2.1.2
  have e0_z := eX_12 hT.1 l4.1 l4.2 i0 (show i < 6 by omega)
  exact h.sm hT.1 h3.1 h3.2.2.1 e0_z (fun n_z n0_z n1_z => h3.2.2.2.2.2 n_z i n0_z n1_z i0 i1)
theorem TrX.keep {s : cx_Sd 12} {ks : List (Fin 12)} {A B : pm_A} {q g : Int} (hT : TrX s ks A g) (h3 : exH3 A q g) (h : exF A B q) : TrX s ks B g := by
  have hT0 := hT
  obtain ⟨e1, e2, e3, e4_z⟩ := h.gs hT.1 h3
  obtain ⟨hg, hk, h1, hb_z, hks, h9, ha_z, hl⟩ := hT
  have eW : bgW B g = bgW A g := by unfold bgW; rw [e2 0, e2 1]
  refine ⟨h.1, hk, by rw [e2 0]; exact h1, fun i_z j_z hj => ?_, fun k_z hk2 => by rw [e2 0]; exact hks k_z hk2, fun v_z k_z hk2 => h9 v_z k_z (by rw [e2 0] at hk2; exact hk2), fun i_z j_z i0_z i1_z j0 j1 => ?_, fun i_z hi_z => ?_⟩
  · rw [e2 0] at hj
    rw [eW, e2 2, e3]
    exact hb_z i_z j_z hj
  · rw [eW] at i1_z
    rw [e2 0] at j1
    rw [e2 2, e3]
    exact ha_z i_z j_z i0_z i1_z j0 j1
  · rw [e2 0] at hi_z
    have sm_z := hT0.ltr h3 h (i := (i_z.1 : Int)) (by omega) hi_z
    obtain ⟨l1, l2, l3, l5⟩ := hl i_z hi_z
    rw [e2 4, e4_z, eW]
    exact ⟨sm_z.sr l1, sm_z.cf l2, by rw [sm_z.1 0]; exact l3, fun x_z => by rw [VX_of sm_z x_z]; exact l5 x_z⟩
theorem bp_rp {A : pm_A} {g : Int} (h : ltX A g) (k sg : Int) : ∀ m_z : Nat, RpV (fun x_z => bpX A g k sg x_z m_z)
  | 0 => RpV.one
  | m_z + 1 => (bp_rp h k sg m_z).mul (bf_rp h k sg m_z)
theorem fp_rp {A : pm_A} {g : Int} (h : ltX A g) (k sg : Int) : RpV (fpX A g k sg) := (bp_rp h k sg (bgW A g).toNat).mul (mp_rp h k sg (A g 0).toNat)
theorem fp_sp {s : cx_Sd 12} {ks : List (Fin 12)} {A : pm_A} {g sg : Int} {k : Fin 12} (hT : TrX s ks A g) (hk : (k.1 : Int) < A g 0) (hsg : sg = 1 ∨ sg = -1) (h : BigV (fpX A g k.1 sg)) : spB s ks k := by
  have hlt := hT.lt
  have h1 := BigV.add h (fp_rp hlt (k.1 : Int) (-sg))
  refine h1.eq (fun x_z => ?_)
  rw [hT.fp hk sg x_z, hT.fp hk (-sg) x_z, P_two]
  rcases hsg with rfl | rfl
  · rw [show (fun i_z => (cx_pos (1 * cr_bs s.b ks i_z k) : Int)) = (fun i_z => (cx_pos (cr_bs s.b ks i_z k) : Int)) from funext fun i_z => by rw [Int.one_mul]]
    rw [show (fun i_z => (cx_pos (-1 * cr_bs s.b ks i_z k) : Int)) = (fun i_z => (cx_pos (- cr_bs s.b ks i_z k) : Int)) from funext fun i_z => by rw [Int.neg_mul, Int.one_mul]]
  · rw [show (fun i_z => (cx_pos (- -1 * cr_bs s.b ks i_z k) : Int)) = (fun i_z => (cx_pos (cr_bs s.b ks i_z k) : Int)) from funext fun i_z => by rw [show (- -1 : Int) = 1 from rfl, Int.one_mul]]
    rw [show (fun i_z => (cx_pos (-1 * cr_bs s.b ks i_z k) : Int)) = (fun i_z => (cx_pos (- cr_bs s.b ks i_z k) : Int)) from funext fun i_z => by rw [Int.neg_mul, Int.one_mul]]
    exact Rat.add_comm _ _
def exPX (s : cx_Sd 12) (ks : List (Fin 12)) (k : Fin 12) (A : pm_A) (q g : Int) (r : pm_R) : Prop := exF A r.2 q ∧ ((r.1 = some (0, 0) ∧ (spB s ks k ∨ ¬ itB (A (A g 2)) (bgW A g) (A g 0) k.1)) ∨ (r.1 = some (0, 1) ∧ (¬ spB s ks k ∧ itB (A (A g 2)) (bgW A g) (A g 0) k.1) ∧ r.2 (A q 0) 0 = bgW A g ∧ srX r.2 (A q 0) ∧ cfX r.2 (A q 0) ∧ ∀ x_z, (cr_gp s.b (ks ++ [k]) x_z).1 k = VX r.2 (A q 0) x_z))
theorem ey_80 {s : cx_Sd 12} {ks : List (Fin 12)} {k : Fin 12} {A C : pm_A} {q g n : Int} {v4 : pm_V} (hT : TrX s ks A g) (h3 : exH3 A q g) (hk : (k.1 : Int) < A g 0) (hit : itB (A (A g 2)) (bgW A g) (A g 0) k.1) (hn : n = 1 ∨ n = 2) (hF : exF A C q) (c0 : C (A q n) 0 = bgW A g) (cs : srX C (A q n)) (cc : cfX C (A q n)) (cx : xbX C (A q n) 325767420) (cv : ∀ x_z : cr_Pv 12, VX C (A q n) x_z = cr_P (cr_bs s.b ks) k (cr_gp s.b ks x_z).1) : Tm pmt (an_sh wX) o_X5_exchange 80 ([(2, q), (2, g), (0, (k.1 : Int)), (2, A q n), v4], [], C) (exPX s ks k A q g) := by
  have hTC := hT.keep h3 hF
  have h3C := h3.keep hT.1 hF
  obtain ⟨e1, e2, e3, e4_z⟩ := hF.gs hT.1 h3
  have hq := h3.1
  have hg := h3.2.1
  have p6_z := fX_1_0 hT.1 hg.1 hg.2
  have lC := fX_1_4 hF.1 hg.1 hg.2
  have eC_z := eX_12 hF.1 lC.1 lC.2 (j := (k.1 : Int)) (by omega) (by omega)
  have kn_z := ml_k hT.1 hq (show 0 ≤ n by omega) (show n ≤ 4 by omega)
  have kn0 := ml_k hT.1 hq (show (0 : Int) ≤ 0 by omega) (show (0 : Int) ≤ 4 by omega)
  have lN := fX_2_1 hF.1 kn_z.1 kn_z.2
  have hk2 : (k.1 : Int) < C g 0 := by rw [e2 0]; exact hk
  have hltC := hTC.lt
  obtain ⟨d1_z, d2_z, d3_z, d4_z, d5_z⟩ := hltC.2.2.1 (k.1 : Int) (by omega) hk2
  have hN_z := shrX cs (fun i_z i0_z i1_z => (cc i_z i0_z i1_z).1)
  have hNc : ∀ y_z ∈ LSx C (A q n), y_z.1 ≤ 1000000000000 := fun y_z hy => by
    obtain ⟨i_z, i0_z, i1_z, rfl⟩ := memX hy
    exact (cc i_z i0_z i1_z).2
  have hNl : (LSx C (A q n)).length ≤ 200 := by rw [LSx_len]; omega
  have hnb : ¬ spB s ks k := BigV.no hN_z hNc hNl cv
  obtain ⟨Q_z, hQ, hQv, hQc, hQl, hQb⟩ := quot_of (s := s) (ks := ks) (k := k) (L := LSx C (C (C g 4) (k.1 : Int))) (posX d2_z) (inX (q := 0) (by omega) (by omega)) (fun x_z => (hTC.2.2.2.2.2.2.2 k hk2).2.2.2 x_z) hN_z hNc hNl cv
  have hne : ∀ m_z : Int, 0 ≤ m_z → m_z ≤ 4 → ¬ A q m_z = C (C g 4) (k.1 : Int) := fun m_z m0_z m1_z => by
    have := h3C.2.2.2.2.2 m_z k.1 m0_z m1_z (by omega) hk2
    rw [e1 m_z] at this
    exact this
  have eW : bgW C g = bgW A g := by unfold bgW; rw [e2 0, e2 1]
  have hn0 : ¬ A q 0 = A q n := h3.2.2.2.2.1 0 n (by omega) (by omega) (by omega) (by omega) (by omega)
  have hD : dvH2 C q (A q n) (C (C g 4) (k.1 : Int)) Q_z := by
    refine ⟨hF.1, ⟨hq, kn_z, eC_z⟩, ⟨by rw [c0, d4_z]; exact eW.symm, h3C.2.2.2.1⟩, ⟨ds_of h3C.2.2.1 kn_z eC_z (hne n (by omega) (by omega)), ?_, ?_⟩, ⟨cs, cc, cx⟩, ⟨d1_z, d2_z, d3_z, d5_z⟩, hQ, hQb, hQl, hQc⟩
    · rw [e1 0]; exact ds_of h3C.2.2.1 kn0 kn_z hn0
    · rw [e1 0]; exact ds_of h3C.2.2.1 kn0 eC_z (hne 0 (by omega) (by omega))
  refine wq_ok srt_exchange (fr := []) (cuts := []) (J := fun pc st_z => False) (fun _ _ h_z => h_z.elim) 20 80 _ ?_
  refine ⟨oX_1 hg.1 hg.2 4 rfl, ?_⟩
  refine ⟨aX_12 lC.1 lC.2 (by omega) (by omega), ?_⟩
  refine ⟨rX_4 hq.1 hq.2, ?_⟩
  refine (divide_exX hD).imp ?_
  rintro ⟨r1_z, D_z⟩ ⟨f1_z, f2_z, f3_z, f4_z, f5_z, f6_z⟩
  simp only at f1_z f2_z f3_z f4_z f5_z f6_z
  subst f2_z
  have f1' : dvF2 C D_z q (C q n) := by rw [e1 n]; exact f1_z
  have hFD := hF.tr (dv_ex f1' hF.1 h3C (by omega) (by omega)) hT.1 hq
  rw [e1 0] at f3_z f4_z f5_z f6_z
  refine ⟨rfl, hFD, Or.inr ⟨rfl, ⟨hnb, hit⟩, by show D_z (A q 0) 0 = bgW A g; rw [f3_z]; exact c0, f4_z, f5_z, fun x_z => ?_⟩⟩
  rw [hQv x_z]
  show _ = cr_vl x_z.1 (LSx D_z (A q 0))
  exact (cr_vl_co x_z.1 f6_z).symm
abbrev exN (A C : pm_A) (q g : Int) (n m : Int) (f : cr_Pv 12 → Rat) (S : Prop) (u : Int) : Prop := (u = -1 ∧ S) ∨ ((u = A q n ∨ u = A q m) ∧ prG2 C u (bgW A g) 325767420 f)
theorem ey_59 {s : cx_Sd 12} {ks : List (Fin 12)} {k : Fin 12} {A C : pm_A} {q g u w : Int} (hT : TrX s ks A g) (h3 : exH3 A q g) (hk : (k.1 : Int) < A g 0) (hit : itB (A (A g 2)) (bgW A g) (A g 0) k.1) (hF : exF A C q) (hu : exN A C q g 1 2 (fun x_z => cr_mo (cr_gp s.b ks x_z).1 (fun i_z => (cx_pos (cr_bs s.b ks i_z k) : Int))) (spB s ks k) u) (hw : exN A C q g 3 4 (fun x_z => cr_mo (cr_gp s.b ks x_z).1 (fun i_z => (cx_pos (- cr_bs s.b ks i_z k) : Int))) (spB s ks k) w) : Tm pmt (an_sh wX) o_X5_exchange 59 ([(2, q), (2, g), (0, (k.1 : Int)), (2, u), (2, w)], [], C) (exPX s ks k A q g) := by
  have h3C := h3.keep hT.1 hF
  obtain ⟨e1, e2, e3, e4_z⟩ := hF.gs hT.1 h3
  have hq := h3.1
  have hbad : ∀ D_z, exF A D_z q → spB s ks k → exPX s ks k A q g (some (0, 0), D_z) := fun D_z hD hx => ⟨hD, Or.inl ⟨rfl, Or.inl hx⟩⟩
  have km : ∀ n_z : Int, 0 ≤ n_z → n_z ≤ 4 → 0 ≤ A q n_z ∧ wX.2 (A q n_z) = 2 := fun n_z n0_z n1_z => ml_k hT.1 hq n0_z n1_z
  refine wq_ok srt_exchange (fr := []) (cuts := [80]) (J := fun pc st_z => pc = 80 ∧ 0 ≤ u ∧ 0 ≤ w ∧ ∃ D_z, mxF C D_z q u ∧ D_z u 0 = C u 0 ∧ srX D_z u ∧ cfX D_z u ∧ (∀ c_z, cr_co (LSx D_z u) c_z = cr_co (LSx C u) c_z + cr_co (LSx C w) c_z) ∧ st_z = ([(2, q), (2, g), (0, (k.1 : Int)), (2, u), (2, w)], [], D_z)) ?_ 20 59 _ ?_
  · rintro pc st_z ⟨rfl, u0, w0_z, D_z, m1_z, m2_z, m3_z, m4_z, m5_z, rfl⟩
    rcases hu with hu | ⟨hu1, hu2⟩
    · omega
    · rcases hw with hw | ⟨hw1, hw2⟩
      · omega
      · obtain ⟨n_z, hn, rfl⟩ : ∃ n_z : Int, (n_z = 1 ∨ n_z = 2) ∧ u = A q n_z := by
          rcases hu1 with e_z | e_z
          · exact ⟨1, Or.inl rfl, e_z⟩
          · exact ⟨2, Or.inr rfl, e_z⟩
        obtain ⟨b0, bs, bc, bl, bx, bv_z⟩ := hu2
        obtain ⟨y0, ys, yc, yl, yx, yv⟩ := hw2
        have m1' : mxF C D_z q (C q n_z) := by rw [e1 n_z]; exact m1_z
        have hFD := hF.tr (mx_ex m1' hF.1 h3C (by omega) (by omega)) hT.1 hq
        refine ey_80 hT h3 hk hit hn hFD (by rw [m2_z]; exact b0) m3_z m4_z ?_ (fun x_z => ?_)
        · intro i_z v_z i0_z i1_z v0_z v1_z
          have hm_z := inX (A := D_z) (s := A q n_z) i0_z i1_z
          have hpo := cr_co_pos (posX m4_z) hm_z
          rw [m5_z] at hpo
          have hpo : 0 < cr_co (LSx C (A q n_z)) (xeX D_z (A q n_z) i_z) + cr_co (LSx C w) (xeX D_z (A q n_z) i_z) := hpo
          have hw12 : bgW A g ≤ 12 := by
            have p6_z := fX_1_0 hT.1 hT.2.1.1 hT.2.1.2
            have h6 := fX_1_1 hT.1 hT.2.1.1 hT.2.1.2
            unfold bgW
            omega
          have v1' : v_z < bgW A g := by rw [m2_z, b0] at v1_z; exact v1_z
          have fin_z : ∀ (a_z t_z : Int), C a_z 0 = bgW A g → xbX C a_z 325767420 → 0 ≤ t_z → t_z < C a_z 1 → xeX C a_z t_z = xeX D_z (A q n_z) i_z → -325767420 ≤ D_z (D_z (A q n_z) 3) (i_z * D_z (A q n_z) 0 + v_z) ∧ D_z (D_z (A q n_z) 3) (i_z * D_z (A q n_z) 0 + v_z) ≤ 325767420 := fun a_z t_z ha_z hx t0_z t1_z he => by
            have h10 := congrFun he ⟨v_z.toNat, by omega⟩
            have h11 : (if ((v_z.toNat : Nat) : Int) < C a_z 0 then C (C a_z 3) (t_z * C a_z 0 + ((v_z.toNat : Nat) : Int)) else 0) = if ((v_z.toNat : Nat) : Int) < D_z (A q n_z) 0 then D_z (D_z (A q n_z) 3) (i_z * D_z (A q n_z) 0 + ((v_z.toNat : Nat) : Int)) else 0 := h10
            rw [Int.toNat_of_nonneg v0_z, if_pos (by omega), if_pos v1_z] at h11
            rw [← h11]
            exact hx t_z v_z t0_z t1_z v0_z (by omega)
          by_cases e_z : cr_co (LSx C (A q n_z)) (xeX D_z (A q n_z) i_z) = 0
          · obtain ⟨y_z, hy, ey⟩ := cr_co_mem (l := LSx C w) (a := xeX D_z (A q n_z) i_z) (by omega)
            obtain ⟨t_z, t0_z, t1_z, rfl⟩ := memX hy
            exact fin_z w t_z y0 yx t0_z t1_z ey
          · obtain ⟨y_z, hy, ey⟩ := cr_co_mem e_z
            obtain ⟨t_z, t0_z, t1_z, rfl⟩ := memX hy
            exact fin_z (A q n_z) t_z b0 bx t0_z t1_z ey
        · have h9 : VX D_z (A q n_z) x_z = VX C (A q n_z) x_z + VX C w x_z := by
            unfold VX
            rw [← cr_vl_app]
            exact cr_vl_co x_z.1 (fun c_z => by rw [m5_z c_z, cr_co_app])
          rw [h9, bv_z x_z, yv x_z, P_two]
  · refine ⟨fun h_z => ?_, fun u0 => ?_⟩
    · refine ⟨rfl, hbad C hF ?_⟩
      rcases hu with hu | ⟨hu1, hu2⟩
      · exact hu.2
      · exfalso
        rcases hu1 with e_z | e_z
        · have := (km 1 (by omega) (by omega)).1
          omega
        · have := (km 2 (by omega) (by omega)).1
          omega
    · refine ⟨fun h_z => ?_, fun w0_z => ?_⟩
      · refine ⟨rfl, hbad C hF ?_⟩
        rcases hw with hw | ⟨hw1, hw2⟩
        · exact hw.2
        · exfalso
          rcases hw1 with e_z | e_z
          · have := (km 3 (by omega) (by omega)).1
            omega
          · have := (km 4 (by omega) (by omega)).1
            omega
      · rcases hu with hu | ⟨hu1, hu2⟩
        · exact absurd hu.1 (by omega)
        · rcases hw with hw | ⟨hw1, hw2⟩
          · exact absurd hw.1 (by omega)
          · obtain ⟨n_z, hn, en⟩ : ∃ n_z : Int, (n_z = 1 ∨ n_z = 2) ∧ u = A q n_z := by
              rcases hu1 with e_z | e_z
              · exact ⟨1, Or.inl rfl, e_z⟩
              · exact ⟨2, Or.inr rfl, e_z⟩
            obtain ⟨m_z, hm_z, em⟩ : ∃ m_z : Int, (m_z = 3 ∨ m_z = 4) ∧ w = A q m_z := by
              rcases hw1 with e_z | e_z
              · exact ⟨3, Or.inl rfl, e_z⟩
              · exact ⟨4, Or.inr rfl, e_z⟩
            have ku : 0 ≤ u ∧ wX.2 u = 2 := by rw [en]; exact km n_z (by omega) (by omega)
            have kw : 0 ≤ w ∧ wX.2 w = 2 := by rw [em]; exact km m_z (by omega) (by omega)
            have hne : ¬ u = w := by rw [en, em]; exact h3.2.2.2.2.1 n_z m_z (by omega) (by omega) (by omega) (by omega) (by omega)
            refine ⟨rX_4 hq.1 hq.2, ?_⟩
            refine (addAll_exX (A := C) (q := q) (s := u) (d := w) ⟨hF.1, ⟨hq, ku, kw⟩, by rw [hu2.1, hw2.1], ds_of h3C.2.2.1 ku kw hne, ⟨hu2.2.1, hu2.2.2.1⟩, ⟨hw2.2.1, hw2.2.2.1⟩⟩).imp ?_
            rintro ⟨r1_z, D_z⟩ ⟨f1_z, f2_z⟩
            simp only at f1_z f2_z
            rcases f2_z with ⟨rfl, f3_z⟩ | ⟨rfl, f3_z, f4_z, f5_z, f6_z⟩
            · have f1' : mxF C D_z q (C q n_z) := by rw [e1 n_z, ← en]; exact f1_z
              have hFD := hF.tr (mx_ex f1' hF.1 h3C (by omega) (by omega)) hT.1 hq
              refine ⟨fun hh => absurd rfl hh, fun _ => ?_⟩
              refine ⟨rfl, hbad D_z hFD ?_⟩
              refine ⟨LSx C u ++ LSx C w, fun y_z hy => ?_, fun x_z => ?_, f3_z.mono (fun a_z => ?_)⟩
              · rcases List.mem_append.1 hy with h_z | h_z
                · exact posX hu2.2.2.1 y_z h_z
                · exact posX hw2.2.2.1 y_z h_z
              · rw [cr_vl_app]
                show _ = cr_P (cr_bs s.b ks) k (cr_gp s.b ks x_z).1
                rw [P_two]
                have h7 := hu2.2.2.2.2.2 x_z
                have h8 := hw2.2.2.2.2.2 x_z
                unfold VX at h7 h8
                rw [h7, h8]
              · rw [cr_co_app]; exact Int.le_refl _
            · refine ⟨fun _ => ?_, fun hh => absurd hh (by decide)⟩
              exact ⟨rfl, u0, w0_z, D_z, f1_z, f3_z, f4_z, f5_z, f6_z, rfl⟩
theorem ey_pr {s : cx_Sd 12} {ks : List (Fin 12)} {k : Fin 12} {A C : pm_A} {q g n m sg : Int} (hT : TrX s ks A g) (h3 : exH3 A q g) (hk : (k.1 : Int) < A g 0) (hF : exF A C q) (hsg : sg = 1 ∨ sg = -1) (n0 : 0 ≤ n) (n1 : n ≤ 4) (m0 : 0 ≤ m) (m1 : m ≤ 4) (hnm : ¬ n = m) : Cl pmt (an_sh wX) 46 [(2, q), (2, g), (0, (k.1 : Int)), (0, sg), (2, C q n), (2, C q m)] C (fun r_z => ∃ u_z, r_z.1 = some (2, u_z) ∧ pxF C r_z.2 q (C q n) (C q m) ∧ exF A r_z.2 q ∧ exN A r_z.2 q g n m (fun x_z => cr_mo (cr_gp s.b ks x_z).1 (fun i_z => (cx_pos (sg * cr_bs s.b ks i_z k) : Int))) (spB s ks k) u_z) := by
  have hTC := hT.keep h3 hF
  have h3C := h3.keep hT.1 hF
  obtain ⟨e1, e2, e3, e4_z⟩ := hF.gs hT.1 h3
  have hq := h3.1
  have hg := h3.2.1
  have p6_z := fX_1_0 hF.1 hg.1 hg.2
  have lC := fX_1_4 hF.1 hg.1 hg.2
  have kn_z := ml_k hF.1 hq n0 n1
  have km := ml_k hF.1 hq m0 m1
  have hk2 : (k.1 : Int) < C g 0 := by rw [e2 0]; exact hk
  have eW : bgW C g = bgW A g := by unfold bgW; rw [e2 0, e2 1]
  have hP : prX C q g k.1 sg (C q n) (C q m) := by
    refine ⟨⟨hTC.lt, hq, ⟨by omega, hk2⟩, hsg, kn_z⟩, km, ds_of h3C.2.2.1 kn_z km (h3C.2.2.2.2.1 n m n0 n1 m0 m1 hnm), fun i_z i0_z i1_z => ?_⟩
    have e0_z := eX_12 hF.1 lC.1 lC.2 i0_z (show i_z < 6 by omega)
    exact ⟨ds_of h3C.2.2.1 kn_z e0_z (h3C.2.2.2.2.2 n i_z n0 n1 i0_z i1_z), ds_of h3C.2.2.1 km e0_z (h3C.2.2.2.2.2 m i_z m0 m1 i0_z i1_z)⟩
  refine (product_exX hP).imp ?_
  rintro ⟨r1_z, D_z⟩ ⟨f1_z, f2_z⟩
  simp only at f1_z f2_z
  have hFD := hF.tr (px_ex f1_z hF.1 h3C n0 n1 m0 m1) hT.1 hq
  rcases f2_z with ⟨rfl, f3_z⟩ | ⟨u_z, rfl, f3_z, f4_z⟩
  · exact ⟨-1, rfl, f1_z, hFD, Or.inl ⟨rfl, fp_sp hTC hk2 hsg f3_z⟩⟩
  · refine ⟨u_z, rfl, f1_z, hFD, Or.inr ⟨by rw [e1 n, e1 m] at f3_z; exact f3_z, by rw [← eW]; exact f4_z.1, f4_z.2.1, f4_z.2.2.1, f4_z.2.2.2.1, f4_z.2.2.2.2.1, fun x_z => ?_⟩⟩
    show VX D_z u_z x_z = _
    rw [f4_z.2.2.2.2.2 x_z]
    exact hTC.fp hk2 sg x_z
theorem exchange_exX {s : cx_Sd 12} {ks : List (Fin 12)} {k : Fin 12} {A : pm_A} {q g : Int} (hT : TrX s ks A g) (h3 : exH3 A q g) (hk : (k.1 : Int) < A g 0) : Cl pmt (an_sh wX) 42 [(2, q), (2, g), (0, (k.1 : Int))] A (exPX s ks k A q g) := by
  have hA := hT.1
  have hq := h3.1
  have hg := h3.2.1
  have t2_z := fX_1_2 hA hg.1 hg.2
  have p6_z := fX_1_0 hA hg.1 hg.2
  have h6 := fX_1_1 hA hg.1 hg.2
  have hrf : exF A A q := ⟨hA, fun _ _ _ => rfl, fun _ _ _ => ⟨rfl, rfl⟩⟩
  have hone : (fun x_z : cr_Pv 12 => cr_mo (cr_gp s.b ks x_z).1 (fun i_z => (cx_pos (1 * cr_bs s.b ks i_z k) : Int))) = (fun x_z : cr_Pv 12 => cr_mo (cr_gp s.b ks x_z).1 (fun i_z => (cx_pos (cr_bs s.b ks i_z k) : Int))) := funext fun x_z => congrArg (cr_mo _) (funext fun i_z => by rw [Int.one_mul])
  have hneg : (fun x_z : cr_Pv 12 => cr_mo (cr_gp s.b ks x_z).1 (fun i_z => (cx_pos (-1 * cr_bs s.b ks i_z k) : Int))) = (fun x_z : cr_Pv 12 => cr_mo (cr_gp s.b ks x_z).1 (fun i_z => (cx_pos (- cr_bs s.b ks i_z k) : Int))) := funext fun x_z => congrArg (cr_mo _) (funext fun i_z => by rw [Int.neg_mul, Int.one_mul])
  refine Cl.of (Nat.le_of_ble_eq_true rfl) ?_
  refine wq_ok (full := o_X5_exchange) srt_exchange (fr := []) (cuts := [26]) (J := fun pc st_z => pc = 26 ∧ itB (A (A g 2)) (bgW A g) (A g 0) k.1 ∧ ∃ v3 v4_z, st_z = ([(2, q), (2, g), (0, (k.1 : Int)), v3, v4_z], [], A)) ?_ 20 0 _ ?_
  · rintro pc st_z ⟨rfl, hit_z, v3, v4_z, rfl⟩
    refine wq_ok srt_exchange (fr := []) (cuts := [42]) (J := fun pc st_z => pc = 42 ∧ ∃ u_z C_z, pxF A C_z q (A q 1) (A q 2) ∧ exF A C_z q ∧ exN A C_z q g 1 2 (fun x_z => cr_mo (cr_gp s.b ks x_z).1 (fun i_z => (cx_pos (cr_bs s.b ks i_z k) : Int))) (spB s ks k) u_z ∧ st_z = ([(2, q), (2, g), (0, (k.1 : Int)), (2, u_z), v4_z], [], C_z)) ?_ 20 26 _ ?_
    · rintro pc st_z ⟨rfl, u_z, C_z, c0_z, c1_z, c2_z, rfl⟩
      have h3C := h3.keep hA c1_z
      obtain ⟨e1, e2, e3, e4_z⟩ := c1_z.gs hA h3
      refine wq_ok srt_exchange (fr := []) (cuts := [59]) (J := fun pc st_z => pc = 59 ∧ ∃ w_z D_z, pxF C_z D_z q (C_z q 3) (C_z q 4) ∧ exF A D_z q ∧ exN A D_z q g 3 4 (fun x_z => cr_mo (cr_gp s.b ks x_z).1 (fun i_z => (cx_pos (- cr_bs s.b ks i_z k) : Int))) (spB s ks k) w_z ∧ st_z = ([(2, q), (2, g), (0, (k.1 : Int)), (2, u_z), (2, w_z)], [], D_z)) ?_ 20 42 _ ?_
      · rintro pc st_z ⟨rfl, w_z, D_z, d0_z, d1_z, d2_z, rfl⟩
        refine ey_59 hT h3 hk hit_z d1_z ?_ d2_z
        rcases c2_z with c2_z | ⟨c3_z, b0, bs, bc, bl, bx, bv_z⟩
        · exact Or.inl c2_z
        · have ku : ∃ n_z : Int, (n_z = 1 ∨ n_z = 2) ∧ u_z = C_z q n_z := by
            rcases c3_z with e_z | e_z
            · exact ⟨1, Or.inl rfl, by rw [e1 1]; exact e_z⟩
            · exact ⟨2, Or.inr rfl, by rw [e1 2]; exact e_z⟩
          obtain ⟨n_z, hn, en⟩ := ku
          have kn_z := ml_k c1_z.1 hq (show 0 ≤ n_z by omega) (show n_z ≤ 4 by omega)
          have k3_z := ml_k c1_z.1 hq (show (0 : Int) ≤ 3 by omega) (show (3 : Int) ≤ 4 by omega)
          have k4_z := ml_k c1_z.1 hq (show (0 : Int) ≤ 4 by omega) (show (4 : Int) ≤ 4 by omega)
          have sm_z : sme C_z D_z u_z := by
            rw [en]
            exact d0_z.sm c1_z.1 hq k3_z k4_z kn_z (ds_of h3C.2.2.1 k3_z kn_z (h3C.2.2.2.2.1 3 n_z (by omega) (by omega) (by omega) (by omega) (by omega))) (ds_of h3C.2.2.1 k4_z kn_z (h3C.2.2.2.2.1 4 n_z (by omega) (by omega) (by omega) (by omega) (by omega)))
          exact Or.inr ⟨c3_z, by rw [sm_z.1 0]; exact b0, sm_z.sr bs, sm_z.cf bc, by rw [sm_z.1 1]; exact bl, sm_z.xb bx, fun x_z => by rw [VX_of sm_z x_z]; exact bv_z x_z⟩
      · refine ⟨oX_4 hq.1 hq.2 3 rfl, ?_⟩
        refine ⟨oX_4 hq.1 hq.2 4 rfl, ?_⟩
        refine ⟨rX_4 hq.1 hq.2, ?_⟩
        refine (ey_pr hT h3 hk c1_z (n := 3) (m := 4) (sg := -1) (Or.inr rfl) (by omega) (by omega) (by omega) (by omega) (by omega)).imp ?_
        rintro ⟨r1_z, D_z⟩ ⟨w_z, f1_z, f2_z, f3_z, f4_z⟩
        simp only at f1_z f2_z f3_z f4_z
        subst f1_z
        rw [hneg] at f4_z
        exact ⟨rfl, w_z, D_z, f2_z, f3_z, f4_z, rfl⟩
    · refine ⟨oX_4 hq.1 hq.2 1 rfl, ?_⟩
      refine ⟨oX_4 hq.1 hq.2 2 rfl, ?_⟩
      refine ⟨rX_4 hq.1 hq.2, ?_⟩
      refine (ey_pr hT h3 hk hrf (n := 1) (m := 2) (sg := 1) (Or.inl rfl) (by omega) (by omega) (by omega) (by omega) (by omega)).imp ?_
      rintro ⟨r1_z, C_z⟩ ⟨u_z, f1_z, f2_z, f3_z, f4_z⟩
      simp only at f1_z f2_z f3_z f4_z
      subst f1_z
      rw [hone] at f4_z
      exact ⟨rfl, u_z, C_z, f2_z, f3_z, f4_z, rfl⟩
  · refine ⟨oX_1 hg.1 hg.2 2 rfl, ?_⟩
    refine ⟨oX_1 hg.1 hg.2 0 rfl, ?_⟩
    refine ⟨oX_1 hg.1 hg.2 1 rfl, ?_⟩
    refine ⟨⟨by omega, by omega⟩, ?_⟩
    refine ⟨oX_1 hg.1 hg.2 0 rfl, ?_⟩
    refine ⟨rfl, ?_⟩
    refine (isTableTurnable_ex (A := A) (t := A g 2) (R := A g 0 + A g 1) (P := A g 0) (k := (k.1 : Int)) ⟨t2_z, hT.2.2.2.2.2.2.1, ⟨by omega, hk⟩, by omega, by omega, by omega⟩).imp ?_
    rintro ⟨r1_z, C_z⟩ ⟨f1_z, f2_z⟩
    simp only at f1_z f2_z
    subst f1_z
    rcases f2_z with ⟨rfl, f3_z⟩ | ⟨rfl, f3_z⟩
    · refine ⟨fun hh => absurd rfl hh, fun _ => ?_⟩
      exact ⟨rfl, hrf, Or.inl ⟨rfl, Or.inr f3_z⟩⟩
    · refine ⟨fun _ => ?_, fun hh => absurd hh (by decide)⟩
      exact ⟨rfl, f3_z, _, _, rfl⟩
