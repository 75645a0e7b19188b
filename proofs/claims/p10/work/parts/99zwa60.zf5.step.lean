/-! what the search leaves; its picture through each of its steps -/
def atC (r j : Int) : Prop := (r = 72 ∧ (j = 1 ∨ j = 7 ∨ j = 10 ∨ j = 11 ∨ j = 13 ∨ j = 14)) ∨ (r = 79 ∧ (j = 0 ∨ j = 1)) ∨ (74 ≤ r ∧ r ≤ 78) ∨ r = 80 ∨ r = 82 ∨ (102 ≤ r ∧ r ≤ 406)
theorem atk {r : Int} (h0 : 102 ≤ r) (h1 : r ≤ 406) : ¬ wX.2 r = 1 := by
  have h_z : ∀ k_z : Fin 305, ¬ wX.2 (102 + (k_z.1 : Int)) = 1 := by decide +kernel
  have h2 := h_z ⟨(r - 102).toNat, by omega⟩
  rw [show 102 + (((⟨(r - 102).toNat, by omega⟩ : Fin 305).1 : Nat) : Int) = r by show 102 + (((r - 102).toNat : Nat) : Int) = r; omega] at h2
  exact h2
theorem at_1 {g j : Int} (gk : wX.2 g = 1) (hj : j = 2 ∨ j = 3 ∨ j = 4) : ¬ atC g j := by
  unfold atC
  rintro (q_z | q_z | q_z | q_z | q_z | q_z)
  · omega
  · omega
  · have h_z : g = 74 ∨ g = 75 ∨ g = 76 ∨ g = 77 ∨ g = 78 := by omega
    rcases h_z with rfl | rfl | rfl | rfl | rfl <;> exact absurd gk (by decide)
  · rw [q_z] at gk; exact absurd gk (by decide)
  · rw [q_z] at gk; exact absurd gk (by decide)
  · exact atk q_z.1 q_z.2 gk
def xaF (s : cx_Sd 12) (ks : List (Fin 12)) (A B : pm_A) : Prop := StE B ∧ AT B ∧ TrX s ks B 1 ∧ (∀ j_z : Int, B 0 j_z = A 0 j_z) ∧ (∀ j_z : Int, B 46 j_z = A 46 j_z) ∧ (∀ j_z : Int, B 1 j_z = A 1 j_z) ∧ (∀ j_z : Int, B 3 j_z = A 3 j_z) ∧ (∀ j_z : Int, B 28 j_z = A 28 j_z) ∧ ∀ r_z j_z : Int, 407 ≤ r_z → B r_z j_z = A r_z j_z
theorem shr_lo {c : Int} (ck : wX.2 c = 2) (h : c < 72) : c ≤ 69 := by
  by_cases e1 : c = 70
  · rw [e1] at ck; exact absurd ck (by decide)
  · by_cases e2 : c = 71
    · rw [e2] at ck; exact absurd ck (by decide)
    · omega
theorem xaF.put {s : cx_Sd 12} {ks : List (Fin 12)} {A B C : pm_A} (h : xaF s ks A B) (hC : gH wX C) (hf : ∀ r_z j_z : Int, ¬ atC r_z j_z → C r_z j_z = B r_z j_z) (hs : ∀ q_z j_z : Int, 0 ≤ q_z → wX.2 q_z = 2 → j_z = 2 ∨ j_z = 3 → C q_z j_z = B q_z j_z) (h82 : ∀ j_z : Int, 0 ≤ j_z → j_z < 6 → 72 < C 82 j_z) : xaF s ks A C := by
  obtain ⟨h1, h2, h3, h4, h5, h6, h7, h8, h9⟩ := h
  have m8_z := h1.2.2.2.2.2.1 1 (by omega) kk1
  have p6_z := fX_1_0 h1.1 (r := 1) (by omega) kk1
  refine ⟨h1.of hC (fun j_z _ => hf 0 j_z (by unfold atC; omega)) (fun g_z j_z _ gk hj => hf g_z j_z (at_1 gk hj)) hs (fun j_z _ => hf 28 j_z (by unfold atC; omega)) ⟨hf 72 0 (by unfold atC; omega), hf 72 8 (by unfold atC; omega)⟩ (fun j_z _ => hf 4 j_z (by unfold atC; omega)) (fun j_z _ => hf 52 j_z (by unfold atC; omega)) (fun j_z _ => hf 73 j_z (by unfold atC; omega)) h82 (fun j_z _ => hf 47 j_z (by unfold atC; omega)) (fun k_z j_z k0_z k1_z _ => hf _ j_z (by unfold atC; omega)), h2.of (fun j_z _ n1_z n2_z n3_z n4_z n5_z n6_z => hf 72 j_z (by unfold atC; omega)) ⟨hf 79 2 (by unfold atC; omega), hf 79 4 (by unfold atC; omega)⟩ (fun j_z _ => hf 73 j_z (by unfold atC; omega)), ?_, fun j_z => (hf 0 j_z (by unfold atC; omega)).trans (h4 j_z), fun j_z => (hf 46 j_z (by unfold atC; omega)).trans (h5 j_z), fun j_z => (hf 1 j_z (by unfold atC; omega)).trans (h6 j_z), fun j_z => (hf 3 j_z (by unfold atC; omega)).trans (h7 j_z), fun j_z => (hf 28 j_z (by unfold atC; omega)).trans (h8 j_z), fun r_z j_z hr => (hf r_z j_z (by unfold atC; omega)).trans (h9 r_z j_z hr)⟩
  refine h3.cong hC (fun j_z => hf 1 j_z (by unfold atC; omega)) (fun j_z => by rw [m8_z.1]; exact hf _ j_z (by unfold atC; omega)) (fun j_z => by rw [m8_z.2.2]; exact hf _ j_z (by unfold atC; omega)) (fun i_z i0_z i1_z => ?_)
  rw [m8_z.2.2]
  have l4 := fX_1_4 h1.1 (r := 1) (by omega) kk1
  rw [m8_z.2.2] at l4
  have e0_z := eX_12 h1.1 l4.1 l4.2 i0_z (show i_z < 6 by omega)
  have hp := (h1.2.1.2.2.2.2.1 i_z (by omega) (by omega)).1
  have e1 := own_pc (A := B) own1 i0_z (show i_z ≤ 5 by omega)
  rw [Int.zero_add] at e1
  rw [e1] at hp
  have hp2 := shr_lo e0_z.2 hp
  have a2 := h1.2.1.2.1 _ e0_z.1 e0_z.2
  have a3 := h1.2.2.2.1 _ e0_z.1 e0_z.2
  show sme B C (B 4 i_z)
  have hp3 : B 4 i_z ≤ 69 := hp2
  have a2' : B (B 4 i_z) 2 = B 4 i_z + 1 := a2
  have a3' : B (B 4 i_z) 3 = B 4 i_z + 2 := a3
  exact ⟨fun j_z => hf _ j_z (by unfold atC; omega), fun j_z => by rw [a2']; exact hf _ j_z (by unfold atC; omega), fun j_z => by rw [a3']; exact hf _ j_z (by unfold atC; omega)⟩
theorem xaF.ex {s : cx_Sd 12} {ks : List (Fin 12)} {A B C : pm_A} (h : xaF s ks A B) (hF : exF B C 28) : xaF s ks A C := by
  obtain ⟨h1, h2, h3, h4, h5, h6, h7, h8, h9⟩ := h
  refine ⟨h1.keep hF, h2.of (fun j_z _ _ _ _ _ _ _ => hF.ce h1.1 kk72 (by decide) (by decide) (by decide) (by decide) j_z) ⟨hF.ce h1.1 kk79 (by decide) (by decide) (by decide) (by decide) 2, hF.ce h1.1 kk79 (by decide) (by decide) (by decide) (by decide) 4⟩ (fun j_z _ => hF.ce h1.1 kk73 (by decide) (by decide) (by decide) (by decide) j_z), h3.keep (h1.ex own1) hF, fun j_z => ?_, fun j_z => ?_, fun j_z => ?_, fun j_z => ?_, fun j_z => ?_, fun r_z j_z hr => ?_⟩
  · rw [hF.ce h1.1 kk0 (by decide) (by decide) (by decide) (by decide)]; exact h4 j_z
  · rw [hF.ce h1.1 kk46 (by decide) (by decide) (by decide) (by decide)]; exact h5 j_z
  · rw [hF.ce h1.1 kk1 (by decide) (by decide) (by decide) (by decide)]; exact h6 j_z
  · rw [hF.ce h1.1 kk3 (by decide) (by decide) (by decide) (by decide)]; exact h7 j_z
  · rw [hF.ce h1.1 kk28 (by decide) (by decide) (by decide) (by decide)]; exact h8 j_z
  · rw [hF.hi h1 (by omega) j_z]; exact h9 r_z j_z hr
theorem mil72 {A : pm_A} (hS : StE A) {n : Int} (n0 : 0 ≤ n) (n1 : n ≤ 4) : A 28 n < 72 := by
  have a10 := hS.2.1.1.2.2.2.2.2.2.2.2.2.1
  have a11 := hS.2.1.1.2.2.2.2.2.2.2.2.2.2
  have m1_z := hS.2.2.1
  have p_z := (hS.2.1.2.2.2.2.1 12 (by omega) (by omega)).1
  rw [pc_12] at p_z
  have hn2 : n = 0 ∨ n = 1 ∨ n = 2 ∨ n = 3 ∨ n = 4 := by omega
  rcases hn2 with rfl | rfl | rfl | rfl | rfl <;> omega
theorem StE.ex79 {A : pm_A} (hS : StE A) : exH3 A 28 79 := by
  have p6_z := fX_1_0 hS.1 z79 kk79
  have a9 := hS.2.1.1.2.2.2.2.2.2.2.2.1
  refine ⟨⟨by omega, kk28⟩, ⟨by omega, kk79⟩, fun a_z a0_z ak => ⟨hS.2.1.2.1 a_z a0_z ak, hS.2.2.2.1 a_z a0_z ak⟩, by rw [hS.2.2.1.2.2.1, hS.2.2.1.2.2.2.1]; omega, ml_cells hS.2.1 hS.2.2, fun i_z j_z i0_z i1_z j0 j1 => ?_⟩
  rw [a9]
  have h1 := mil72 hS i0_z i1_z
  have h2 := hS.2.1.2.2.2.1 j_z j0 (by omega)
  omega
theorem bitsV_c {bm bm' F G : Int → Int} : ∀ m_z : Nat, (∀ f_z : Int, 0 ≤ f_z → f_z < m_z → bm f_z = bm' f_z ∧ F f_z = G f_z) → bitsV bm F m_z = bitsV bm' G m_z
  | 0, _ => rfl
  | m_z + 1, h_z => by
    have h1 := h_z m_z (by omega) (by omega)
    rw [bitsV, bitsV, bitsV_c m_z (fun f_z f0_z f1_z => h_z f_z f0_z (by omega)), h1.1, h1.2]
theorem bitsV_c2 {S R : Int → Int} {n : Nat} (h : ∀ f_z : Int, 0 ≤ f_z → f_z < n → S f_z = R f_z) : loM S n = loM R n := by
  unfold loM
  exact bitsV_c n (fun f_z f0_z f1_z => ⟨h f_z f0_z f1_z, by unfold lwF; rw [h f_z f0_z f1_z]⟩)
theorem bitsV_c3 {S R : Int → Int} {n : Nat} (h : ∀ f_z : Int, 0 ≤ f_z → f_z < n → S f_z = R f_z) : hgM S n = hgM R n := by
  unfold hgM
  exact bitsV_c n (fun f_z f0_z f1_z => ⟨by show S f_z - 64 = R f_z - 64; rw [h f_z f0_z f1_z], by unfold hgF; rw [h f_z f0_z f1_z]⟩)
theorem knd2 {q j : Int} (qk : wX.2 q = 2) : ¬ (q = 72 ∧ j = 1) := fun e_z => by
  rw [e_z.1] at qk
  exact absurd qk (by decide)
theorem pcL.of {B C : pm_A} {La : List Fun12} {W : Int} (h : pcL B La W) (e1 : C 72 1 = B 72 1) (hs : ∀ l : Int, 0 ≤ l → l < B 72 1 → sme B C (107 + 3 * l)) : pcL C La W := by
  refine ⟨by rw [e1]; exact h.1, fun l f_z hl => ?_, h.2.2⟩
  have h1 := (List.getElem?_eq_some_iff.mp hl).1
  have h2 := h.1.1
  exact (h.2.1 l f_z hl).sm (hs l (by omega) (by omega))
theorem pcR.of {s : cx_Sd 12} {B C : pm_A} {La La' : List Fun12} {W P r : Int} {p : List (Fin 12)} (h : pcR s B La W P r p) (hLa : ∀ (l : Nat) (f_z : Fun12), La[l]? = some f_z → La'[l]? = some f_z) (e74 : ∀ j_z : Int, 6 * r ≤ j_z → j_z < 6 * r + 6 → C 74 j_z = B 74 j_z) (e76 : ∀ j_z : Int, 72 * r ≤ j_z → j_z < 72 * r + 72 → C 76 j_z = B 76 j_z) (e77 : C 77 r = B 77 r ∧ C 78 r = B 78 r) (hP : P ≤ 6) (hW : W ≤ 12) : pcR s C La' W P r p := by
  obtain ⟨h1, h2, h3, h4, h5⟩ := h
  refine ⟨h1, fun i_z hi_z => ?_, fun i_z j_z hi_z hj => ?_, ?_, ?_⟩
  · obtain ⟨l, a1_z, a2⟩ := h2 i_z hi_z
    exact ⟨l, by rw [e74 _ (by omega) (by omega)]; exact a1_z, hLa l _ a2⟩
  · rw [e76 _ (by omega) (by omega)]; exact h3 i_z j_z hi_z hj
  · rw [e77.1, h4]
    exact bitsV_c2 (fun f_z f0_z f1_z => (e74 _ (by omega) (by omega)).symm)
  · rw [e77.2, h5]
    exact bitsV_c3 (fun f_z f0_z f1_z => (e74 _ (by omega) (by omega)).symm)
theorem pcA.of {s : cx_Sd 12} {B C : pm_A} {La : List Fun12} {Rh : List (List (Fin 12))} {W P : Int} (h : pcA s B La Rh W P) (hs : sWP s W P) (e1 : C 72 1 = B 72 1) (e7 : C 72 7 = B 72 7) (e79 : C 79 0 = B 79 0 ∧ C 79 1 = B 79 1) (ea : ∀ r_z j_z : Int, 74 ≤ r_z → r_z ≤ 78 → C r_z j_z = B r_z j_z) (hsm : ∀ l : Int, 0 ≤ l → l < B 72 1 → sme B C (107 + 3 * l)) : pcA s C La Rh W P := by
  obtain ⟨h1, h2, h3, h4, h5⟩ := h
  refine ⟨by rw [e79.1, e79.2]; exact h1, h2.of e1 hsm, by rw [e7]; exact h3, fun r_z p_z hr => (h4 r_z p_z hr).of (fun _ _ q_z => q_z) (fun j_z _ _ => ea 74 j_z (by omega) (by omega)) (fun j_z _ _ => ea 76 j_z (by omega) (by omega)) ⟨ea 77 _ (by omega) (by omega), ea 78 _ (by omega) (by omega)⟩ hs.1.2 hs.2.1.2, fun r_z p_z k_z hr hk hne => h5 r_z p_z k_z hr hk (by rw [← ea 75 _ (by omega) (by omega)]; exact hne)⟩
/-- behind load -/
theorem ld_pic {s : cx_Sd 12} {ks : List (Fin 12)} {A B C : pm_A} {La : List Fun12} {Rh : List (List (Fin 12))} {W P : Int} {r : Nat} {p : List (Fin 12)} (hs : sWP s W P) (hX : xaF s ks A B) (hp : pcA s B La Rh W P) (hr : Rh[r]? = some p) (hC : ldF B C r (B 79 0)) : xaF s ks A C ∧ pcA s C La Rh W P ∧ TrX s p C 79 ∧ ∀ i_z : Int, 0 ≤ i_z → i_z < P → C 102 i_z = C 74 (6 * (r : Int) + i_z) := by
  obtain ⟨c1_z, c2_z, c3_z, c4_z, c5_z⟩ := hC
  obtain ⟨p1_z, p2_z, p3_z, p4_z, p5_z⟩ := hp
  have hp0 : pcA s B La Rh W P := ⟨p1_z, p2_z, p3_z, p4_z, p5_z⟩
  rw [p1_z.1] at c4_z c5_z
  have hrow := p4_z r p hr
  have hr1 := (List.getElem?_eq_some_iff.mp hr).1
  have q6_z := fX_1_1 hX.1.1 z79 kk79
  have num_z : ∀ i_z : Int, 0 ≤ i_z → i_z < P → ∃ (w_z : Fin 12) (l : Nat), i_z = (w_z.1 : Int) ∧ B 74 (6 * (r : Int) + i_z) = (l : Int) ∧ l < 100 ∧ La[l]? = some (gpf s p w_z) := fun i_z i0_z i1_z => by
    obtain ⟨w_z, rfl⟩ := fin_of i0_z i1_z (by have := hs.1; omega)
    obtain ⟨l, a1_z, a2⟩ := hrow.2.1 w_z i1_z
    have h1 := (List.getElem?_eq_some_iff.mp a2).1
    have h2 := p2_z.1.2
    exact ⟨w_z, l, rfl, a1_z, by omega, a2⟩
  have hXC : xaF s ks A C := hX.put c1_z (fun q_z j_z hq => c2_z q_z j_z (fun e_z => hq (by unfold atC; omega)) (fun e_z => hq (by unfold atC; omega)) (fun e_z => hq (by unfold atC; omega))) (fun q_z j_z q0 qk hj => c2_z q_z j_z (knd qk kk80 (by decide)) (knd qk kk82 (by decide)) (knd qk kk102 (by decide))) (fun j_z j0 j1 => by
    by_cases e_z : j_z < P
    · rw [(c5_z j_z j0 e_z).2]
      obtain ⟨w_z, l, _, a1_z, _, _⟩ := num_z j_z j0 e_z
      omega
    · rw [c4_z j_z (by omega)]; exact hX.1.2.1.2.2.2.1 j_z j0 j1)
  have hpC : pcA s C La Rh W P := hp0.of hs (c2_z 72 1 (by omega) (by omega) (by omega)) (c2_z 72 7 (by omega) (by omega) (by omega)) ⟨c2_z 79 0 (by omega) (by omega) (by omega), c2_z 79 1 (by omega) (by omega) (by omega)⟩ (fun q_z j_z q0 q1_z => c2_z q_z j_z (by omega) (by omega) (by omega)) (fun l l0 l1 => by
    have e_z := hX.1.2.1.2.1 (107 + 3 * l) (by omega) (kkLt l0 (by have := p2_z.1; omega))
    have e3 := hX.1.2.2.2.1 (107 + 3 * l) (by omega) (kkLt l0 (by have := p2_z.1; omega))
    exact ⟨fun j_z => c2_z _ j_z (by omega) (by omega) (by omega), fun j_z => by rw [e_z]; exact c2_z _ j_z (by omega) (by omega) (by omega), fun j_z => by rw [e3]; exact c2_z _ j_z (by omega) (by omega) (by omega)⟩)
  refine ⟨hXC, hpC, ?_, fun i_z i0_z i1_z => by rw [(c5_z i_z i0_z i1_z).1, c2_z 74 _ (by omega) (by omega) (by omega)]⟩
  have e0_z : C 79 0 = P := hpC.1.1
  have eW : bgW C 79 = W := hpC.1.2
  have t2_z : C 79 2 = 80 := hXC.2.1.2.2.1.1
  have t4_z : C 79 4 = 82 := hXC.2.1.2.2.1.2
  obtain ⟨g1, g2, g3_z, _⟩ := hrow
  refine ⟨c1_z, ⟨by omega, kk79⟩, by rw [e0_z]; exact hs.1.1, fun i_z j_z hj => ?_, fun k_z hk => by rw [e0_z]; exact g1.1 k_z hk, fun v_z k_z hk => hs.2.2 v_z k_z (by rw [e0_z] at hk; exact hk), fun i_z j_z i0_z i1_z j0 j1 => ?_, fun i_z hi_z => ?_⟩
  · rw [e0_z] at hj
    rw [eW, t2_z]
    refine ⟨fun hi_z => ?_, fun hi_z => g1.2.1 i_z j_z hi_z hj⟩
    rw [c3_z _ (by omega) (by have := hs.1; have := hs.2.1; omega)]
    exact g3_z i_z j_z hi_z hj
  · rw [eW] at i1_z
    rw [e0_z] at j1
    have h6 := hs.1
    have h7 := hs.2.1
    obtain ⟨w_z, rfl⟩ := fin_of i0_z i1_z h7.2
    obtain ⟨u_z, rfl⟩ := fin_of j0 j1 (by omega)
    rw [t2_z, c3_z _ (by omega) (by omega), ← g3_z w_z u_z i1_z j1]
    exact g1.2.2 w_z u_z i1_z j1
  · rw [e0_z] at hi_z
    obtain ⟨w_z, l, hw, a1_z, a3, a2⟩ := num_z i_z.1 (by omega) hi_z
    have ew : w_z = i_z := Fin.ext (by omega)
    rw [ew] at a2
    have h8 := hpC.2.1.2.1 l _ a2
    rw [t4_z, (c5_z i_z.1 (by omega) hi_z).2, a1_z, eW]
    exact ⟨h8.1, h8.2.1, h8.2.2.1, h8.2.2.2⟩
/-- behind numberOf -/
theorem nb_pic {s : cx_Sd 12} {ks : List (Fin 12)} {A E F : pm_A} {La : List Fun12} {Rh : List (List (Fin 12))} {W P c l : Int} {f : Fun12} (hs : sWP s W P) (hX : xaF s ks A E) (hp : pcA s E La Rh W P) (hc : 0 ≤ c ∧ wX.2 c = 2) (hc2 : c < 72) (hf : ltr E c f W) (hfp : ∀ x_z, 0 < f x_z) (hN : nbP E c (some (0, l), F)) : (l = -1 ∧ ¬ f ∈ La ∧ ¬ La.length < 100 ∧ F = E) ∨ ∃ La' : List Fun12, ((f ∈ La ∧ La' = La) ∨ (¬ f ∈ La ∧ La.length < 100 ∧ La' = La ++ [f])) ∧ (0 ≤ l ∧ l ≤ 99) ∧ La'[l.toNat]? = some f ∧ pcA s F La' Rh W P ∧ xaF s ks A F ∧ ∀ q_z j_z : Int, ¬ (q_z = 72 ∧ j_z = 1) → q_z < 107 → F q_z j_z = E q_z j_z := by
  obtain ⟨p1_z, p2_z, p3_z, p4_z, p5_z⟩ := hp
  have hp0 : pcA s E La Rh W P := ⟨p1_z, p2_z, p3_z, p4_z, p5_z⟩
  have hW : 1 ≤ W ∧ W ≤ 12 := by have := hs.1; have := hs.2.1; omega
  have hlk : ∀ (m_z : Nat) (g_z : Fun12), La[m_z]? = some g_z → (lk E (107 + 3 * (m_z : Int)) c ↔ g_z = f) := fun m_z g_z hm_z => by
    have h1 := (List.getElem?_eq_some_iff.mp hm_z).1
    have h2 := p2_z.1.2
    exact (p2_z.2.1 m_z g_z hm_z).like hX.1.1 ⟨by omega, kkLt (by omega) (by omega)⟩ hc hW hf
  rcases hN with ⟨i_z, hi_z, hl, e_z⟩ | ⟨hno, hN⟩
  · injection e_z with e1 e2
    injection e1 with e1
    injection e1 with _ e1
    subst e1
    subst e2
    have h1 := p2_z.1
    have hm_z : La[l.toNat]? = some (La[l.toNat]'(by omega)) := List.getElem?_eq_getElem (by omega)
    have h2 := hlk l.toNat _ hm_z
    rw [Int.toNat_of_nonneg hi_z.1] at h2
    have h3 := h2.1 hl
    rw [h3] at hm_z
    exact Or.inr ⟨La, Or.inl ⟨List.mem_of_getElem? hm_z, rfl⟩, ⟨hi_z.1, by omega⟩, hm_z, hp0, hX, fun _ _ _ _ => rfl⟩
  · have hnot : ¬ f ∈ La := fun hin => by
      obtain ⟨m_z, hm_z⟩ := List.mem_iff_getElem?.mp hin
      have h1 := (List.getElem?_eq_some_iff.mp hm_z).1
      have h2 := p2_z.1.1
      exact hno m_z (by omega) (by omega) ((hlk m_z f hm_z).2 rfl)
    rcases hN with ⟨h100, e_z⟩ | ⟨h100, e_z, hF, C_z, hC, hFC⟩
    · injection e_z with e1 e2
      injection e1 with e1
      injection e1 with _ e1
      have h2 := p2_z.1.1
      exact Or.inl ⟨e1, hnot, by omega, e2⟩
    · simp only at e_z hF hFC
      injection e_z with e1
      injection e1 with _ e1
      have hn := p2_z.1.1
      have f1_z := fX_5_1 hX.1.1 z72 kk72
      have hL : 0 ≤ 107 + 3 * E 72 1 ∧ wX.2 (107 + 3 * E 72 1) = 2 := ⟨by omega, kkLt f1_z.1 h100⟩
      have e2 := hX.1.2.1.2.1 _ hL.1 hL.2
      have e3 := hX.1.2.2.2.1 _ hL.1 hL.2
      have hC0 := hC
      obtain ⟨_, c1_z, c2_z, c3_z, c4_z, _⟩ := hC
      simp only at c1_z c2_z c3_z c4_z
      have cE : ∀ q_z j_z : Int, ¬ (107 + 3 * E 72 1 ≤ q_z ∧ q_z ≤ 109 + 3 * E 72 1) → C_z q_z j_z = E q_z j_z := fun q_z j_z hq => c2_z q_z j_z (by omega) (by omega) (by omega)
      have fC_z : ∀ q_z j_z : Int, ¬ (q_z = 72 ∧ j_z = 1) → F q_z j_z = C_z q_z j_z := fun q_z j_z hq => by
        rw [hFC]
        by_cases e_z : q_z = 72
        · rw [e_z, upd_n2 (by omega)]
        · exact upd_ne e_z
      have fE_z : ∀ q_z j_z : Int, ¬ (q_z = 72 ∧ j_z = 1) → ¬ (107 + 3 * E 72 1 ≤ q_z ∧ q_z ≤ 109 + 3 * E 72 1) → F q_z j_z = E q_z j_z := fun q_z j_z h1 h2 => (fC_z q_z j_z h1).trans (cE q_z j_z h2)
      have f721 : F 72 1 = E 72 1 + 1 := by rw [hFC]; exact upd_at
      have smC : sme C_z F (107 + 3 * E 72 1) := ⟨fun j_z => fC_z _ j_z (by omega), fun j_z => fC_z _ j_z (by rw [c3_z.1, e2]; omega), fun j_z => fC_z _ j_z (by rw [c3_z.2, e3]; omega)⟩
      have hnew : ltr F (107 + 3 * E 72 1) f W := by
        have h5 : ltr C_z (107 + 3 * E 72 1) f W := ⟨hC0.sr hf.1, hC0.cf hf.2.1, by rw [c4_z.1]; exact hf.2.2.1, fun x_z => by rw [hf.2.2.2 x_z]; unfold VX; rw [hC0.ls]⟩
        exact h5.sm smC
      have hold : ∀ m_z : Int, 0 ≤ m_z → m_z < E 72 1 → sme E F (107 + 3 * m_z) := fun m_z m0_z m1_z => by
        have g2 := hX.1.2.1.2.1 (107 + 3 * m_z) (by omega) (kkLt m0_z (by omega))
        have g3_z := hX.1.2.2.2.1 (107 + 3 * m_z) (by omega) (kkLt m0_z (by omega))
        exact ⟨fun j_z => fE_z _ j_z (by omega) (by omega), fun j_z => by rw [g2]; exact fE_z _ j_z (by omega) (by omega), fun j_z => by rw [g3_z]; exact fE_z _ j_z (by omega) (by omega)⟩
      have hpre : ∀ (m_z : Nat) (g_z : Fun12), La[m_z]? = some g_z → (La ++ [f])[m_z]? = some g_z := fun m_z g_z hm_z => by
        rw [List.getElem?_append_left (List.getElem?_eq_some_iff.mp hm_z).1]; exact hm_z
      have hsplit : ∀ (m_z : Nat) (g_z : Fun12), (La ++ [f])[m_z]? = some g_z → La[m_z]? = some g_z ∨ (m_z = La.length ∧ g_z = f) := fun m_z g_z hm_z => by
        by_cases q_z : m_z < La.length
        · rw [List.getElem?_append_left q_z] at hm_z; exact Or.inl hm_z
        · have h1 := (List.getElem?_eq_some_iff.mp hm_z).1
          rw [List.length_append, List.length_singleton] at h1
          have h2 : m_z = La.length := by omega
          rw [h2, List.getElem?_append_right (Nat.le_refl _), Nat.sub_self] at hm_z
          exact Or.inr ⟨h2, (Option.some.inj hm_z).symm⟩
      refine Or.inr ⟨La ++ [f], Or.inr ⟨hnot, by omega, rfl⟩, ⟨by omega, by omega⟩, ?_, ⟨?_, ⟨⟨?_, ?_⟩, fun m_z g_z hm_z => ?_, fun m_z m' g_z hm_z hm' => ?_, fun g_z hg x_z => ?_⟩, ?_, fun r_z p_z hr => ?_, fun r_z p_z k_z hr hk hne => ?_⟩, ?_, fun q_z j_z h1 h2 => fE_z q_z j_z h1 (by omega)⟩
      · have h3 : l.toNat = La.length := by omega
        rw [h3, List.getElem?_append_right (Nat.le_refl _), Nat.sub_self]; rfl
      · rw [fE_z 79 0 (by omega) (by omega), fE_z 79 1 (by omega) (by omega)]; exact p1_z
      · rw [f721, List.length_append, List.length_singleton]; omega
      · rw [List.length_append, List.length_singleton]; omega
      · rcases hsplit m_z g_z hm_z with h1 | ⟨h1, h2⟩
        · have h3 := (List.getElem?_eq_some_iff.mp h1).1
          exact (p2_z.2.1 m_z g_z h1).sm (hold m_z (by omega) (by omega))
        · rw [h2, show ((m_z : Nat) : Int) = E 72 1 by omega]; exact hnew
      · rcases hsplit m_z g_z hm_z with h1 | ⟨h1, h2⟩
        · rcases hsplit m' g_z hm' with h3 | ⟨h3, h4⟩
          · exact p2_z.2.2.1 m_z m' g_z h1 h3
          · rw [h4] at h1; exact absurd (List.mem_of_getElem? h1) hnot
        · rcases hsplit m' g_z hm' with h3 | ⟨h3, h4⟩
          · rw [h2] at h3; exact absurd (List.mem_of_getElem? h3) hnot
          · omega
      · rcases List.mem_append.1 hg with w_z | w_z
        · exact p2_z.2.2.2 g_z w_z x_z
        · rw [List.mem_singleton.1 w_z]; exact hfp x_z
      · rw [fE_z 72 7 (by omega) (by omega)]; exact p3_z
      · exact (p4_z r_z p_z hr).of hpre (fun j_z _ _ => fE_z 74 j_z (by omega) (by omega)) (fun j_z _ _ => fE_z 76 j_z (by omega) (by omega)) ⟨fE_z 77 _ (by omega) (by omega), fE_z 78 _ (by omega) (by omega)⟩ hs.1.2 hs.2.1.2
      · rw [fE_z 75 _ (by omega) (by omega)] at hne
        exact p5_z r_z p_z k_z hr hk hne
      · refine hX.put hF (fun q_z j_z hq => fE_z q_z j_z (fun w_z => hq (by unfold atC; omega)) (fun w_z => hq (by unfold atC; omega))) (fun q_z j_z q0 qk hj => ?_) (fun j_z j0 j1 => by rw [fE_z 82 j_z (by omega) (by omega)]; exact hX.1.2.1.2.2.2.1 j_z j0 j1)
        rw [fC_z q_z j_z (knd2 qk)]
        by_cases w_z : q_z = 107 + 3 * E 72 1
        · rw [w_z]
          rcases hj with rfl | rfl
          · exact c3_z.1
          · exact c3_z.2
        · refine c2_z q_z j_z w_z (fun e_z => ?_) (fun e_z => ?_)
          · have h6 := fX_2_2 hX.1.1 hL.1 hL.2
            rw [← e_z] at h6
            exact absurd (h6.2.symm.trans qk) (by decide)
          · have h6 := fX_2_3 hX.1.1 hL.1 hL.2
            rw [← e_z] at h6
            exact absurd (h6.2.symm.trans qk) (by decide)
