section
/-! what kinds of cells say of the class's seed; startSeed, begin, seed exactly -/
def sm0 (A B : pm_A) (c : Int) : Prop := (∀ j_z : Int, 0 ≤ j_z ∧ j_z ≤ 3 → B c j_z = A c j_z) ∧ (∀ j_z : Int, 0 ≤ j_z → B (A c 2) j_z = A (A c 2) j_z) ∧ ∀ j_z : Int, 0 ≤ j_z → B (A c 3) j_z = A (A c 3) j_z
theorem sm0.xe {A B : pm_A} {c : Int} (h : sm0 A B c) (w0 : 0 ≤ A c 0) {q : Int} (q0 : 0 ≤ q) : xeX B c q = xeX A c q := funext fun v_z => by
  have hq := Int.mul_nonneg q0 w0
  unfold xeX
  rw [h.1 0 (by omega), h.1 3 (by omega)]
  by_cases e_z : (v_z.1 : Int) < A c 0
  · rw [if_pos e_z, if_pos e_z]; exact h.2.2 _ (by omega)
  · rw [if_neg e_z, if_neg e_z]
theorem sm0.ls {A B : pm_A} {c : Int} (h : sm0 A B c) (w0 : 0 ≤ A c 0) : LSx B c = LSx A c := by
  unfold LSx lsf
  rw [h.1 1 (by omega)]
  refine List.map_congr_left (fun q_z hq => ?_)
  show (B (B c 2) (q_z : Int), xeX B c (q_z : Int)) = (A (A c 2) (q_z : Int), xeX A c (q_z : Int))
  rw [h.xe w0 (by omega), h.1 2 (by omega), h.2.1 _ (by omega)]
theorem TrX.cong0 {s : cx_Sd 12} {ks : List (Fin 12)} {A B : pm_A} {g : Int} (hT : TrX s ks A g) (hB : gH wX B) (e2 : ∀ j_z : Int, 0 ≤ j_z ∧ j_z ≤ 5 → B g j_z = A g j_z) (e3 : ∀ j_z : Int, 0 ≤ j_z → B (A g 2) j_z = A (A g 2) j_z) (e4 : ∀ j_z : Int, 0 ≤ j_z → B (A g 4) j_z = A (A g 4) j_z) (hsm : ∀ i_z : Int, 0 ≤ i_z → i_z < A g 0 → sm0 A B (A (A g 4) i_z)) : TrX s ks B g := by
  have p6_z := fX_1_0 hT.1 hT.2.1.1 hT.2.1.2
  have l4 := fX_1_4 hT.1 hT.2.1.1 hT.2.1.2
  obtain ⟨hg, hk, h1, hb_z, hks, h9, ha_z, hl⟩ := hT
  have eW : bgW B g = bgW A g := by unfold bgW; rw [e2 0 (by omega), e2 1 (by omega)]
  refine ⟨hB, hk, by rw [e2 0 (by omega)]; exact h1, fun i_z j_z hj => ?_, fun k_z hk2 => by rw [e2 0 (by omega)]; exact hks k_z hk2, fun v_z k_z hk2 => h9 v_z k_z (by rw [e2 0 (by omega)] at hk2; exact hk2), fun i_z j_z i0_z i1_z j0 j1 => ?_, fun i_z hi_z => ?_⟩
  · rw [e2 0 (by omega)] at hj
    rw [eW, e2 2 (by omega), e3 _ (by omega)]
    exact hb_z i_z j_z hj
  · rw [eW] at i1_z
    rw [e2 0 (by omega)] at j1
    rw [e2 2 (by omega), e3 _ (by omega)]
    exact ha_z i_z j_z i0_z i1_z j0 j1
  · rw [e2 0 (by omega)] at hi_z
    have e0_z := eX_12 hg l4.1 l4.2 (j := (i_z.1 : Int)) (by omega) (by omega)
    have w0_z := (fX_2_0 hg e0_z.1 e0_z.2).1
    have sm_z := hsm (i_z.1 : Int) (by omega) hi_z
    obtain ⟨a1_z, a2, a3, a5⟩ := hl i_z hi_z
    rw [e2 4 (by omega), e4 _ (by omega), eW]
    refine ⟨fun q_z q' q0 hq hq' => ?_, fun q_z q0 q1_z => ?_, by rw [sm_z.1 0 (by omega)]; exact a3, fun x_z => ?_⟩
    · rw [sm_z.1 1 (by omega)] at hq'
      rw [sm_z.xe w0_z q0, sm_z.xe w0_z (by omega)]
      exact a1_z q_z q' q0 hq hq'
    · rw [sm_z.1 1 (by omega)] at q1_z
      rw [sm_z.1 2 (by omega), sm_z.2.1 q_z q0]
      exact a2 q_z q0 q1_z
    · have h5 := a5 x_z
      unfold VX at h5 ⊢
      rw [sm_z.ls w0_z]
      exact h5
theorem kc_o {r : Int} {l a b : Nat} {n : Int} (hk : wX.2 r = l) (hl : ¬ l = 9) (hs : an_sh wX r = (0, b, n)) (j : Int) : kcode wY r j = 100 * l + j.toNat := by
  unfold kcode
  rw [shY, hs]
  show 100 * wY.2 r + j.toNat = 100 * l + j.toNat
  have e_z : wY.2 r = l := by
    show (if r = 419 then 36 else wX.2 r) = l
    rw [if_neg (fun e_z => hl ?_)]
    · exact hk
    · rw [e_z] at hk
      have : wX.2 419 = 9 := by decide
      omega
  rw [e_z]
theorem kc_a {r : Int} {l b : Nat} {n : Int} (hk : wX.2 r = l) (hl : ¬ l = 9) (hs : an_sh wX r = (1, b, n)) (j : Int) : kcode wY r j = 10000 + l := by
  unfold kcode
  rw [shY, hs]
  show 10000 + wY.2 r = 10000 + l
  have e_z : wY.2 r = l := by
    show (if r = 419 then 36 else wX.2 r) = l
    rw [if_neg (fun e_z => hl ?_)]
    · exact hk
    · rw [e_z] at hk
      have : wX.2 419 = 9 := by decide
      omega
  rw [e_z]
/-- codes that the class's seed stands on -/
def bdC : List Nat := [0, 1, 2, 3, 4, 5, 8, 9, 100, 101, 102, 103, 104, 105, 200, 201, 202, 203, 400, 401, 402, 403, 404, 405, 406, 500, 508, 10010, 10011, 10012, 10014, 10015, 10019, 10020, 10022]
def avoid (bad ms : List Nat) : Bool := ms.all (fun c_z => !bad.contains c_z)
theorem avoid_n {bad ms : List Nat} (h : avoid bad ms = true) {c : Nat} (hc : bad.contains c = true) : ¬ c ∈ ms := fun q_z => by
  have h1 := List.all_eq_true.mp h c q_z
  rw [hc] at h1
  cases h1
/-- the class's seed is left as it was -/
def xsm (s : cx_Sd 12) (ks : List (Fin 12)) (A B : pm_A) : Prop := StE B ∧ TrX s ks B 1 ∧ (B 0 4 = A 0 4 ∧ B 1 0 = A 1 0 ∧ B 1 1 = A 1 1) ∧ (∀ d_z : Int, 0 ≤ d_z → B 46 d_z = A 46 d_z) ∧ ∀ i_z : Int, 0 ≤ i_z → B 3 i_z = A 3 i_z
theorem xsm.of0 {s : cx_Sd 12} {ks : List (Fin 12)} {A B : pm_A} (hS : StE A) (hT : TrX s ks A 1) (hB : gH wX B) (f0 : ∀ j_z : Int, j_z = 0 ∨ j_z = 2 ∨ j_z = 3 ∨ j_z = 4 ∨ j_z = 5 ∨ j_z = 8 ∨ j_z = 9 → B 0 j_z = A 0 j_z) (f1 : ∀ g_z j_z : Int, 0 ≤ g_z → wX.2 g_z = 1 → 0 ≤ j_z ∧ j_z ≤ 5 → B g_z j_z = A g_z j_z) (f2 : ∀ q_z j_z : Int, 0 ≤ q_z → wX.2 q_z = 2 → 0 ≤ j_z ∧ j_z ≤ 3 → B q_z j_z = A q_z j_z) (f28 : ∀ j_z : Int, 0 ≤ j_z ∧ j_z ≤ 6 → B 28 j_z = A 28 j_z) (f14 : ∀ q_z j_z : Int, 0 ≤ q_z → wX.2 q_z = 14 ∨ wX.2 q_z = 15 ∨ wX.2 q_z = 12 ∨ wX.2 q_z = 20 ∨ wX.2 q_z = 22 → 0 ≤ j_z → B q_z j_z = A q_z j_z) (ft : ∀ j_z : Int, 0 ≤ j_z → B 2 j_z = A 2 j_z) (f46 : ∀ j_z : Int, 0 ≤ j_z → B 46 j_z = A 46 j_z) (f3 : ∀ j_z : Int, 0 ≤ j_z → B 3 j_z = A 3 j_z) (f72 : B 72 0 = A 72 0 ∧ B 72 8 = A 72 8) : xsm s ks A B := by
  have m8_z := hS.2.2.2.2.2.1 1 (by omega) kk1
  have p6_z := fX_1_0 hS.1 (r := 1) (by omega) kk1
  refine ⟨hS.of hB (fun j_z hj => f0 j_z (by omega)) (fun g_z j_z g0 gk hj => f1 g_z j_z g0 gk (by omega)) (fun q_z j_z q0 qk hj => f2 q_z j_z q0 qk (by omega)) f28 f72 (fun j_z j0 => f14 4 j_z (by omega) (by rw [kk4]; omega) j0) (fun j_z j0 => f14 52 j_z (by omega) (by rw [kk52]; omega) j0) (fun j_z j0 => f14 73 j_z (by omega) (by rw [kk73]; omega) j0) (fun j_z j0 j1 => by rw [f14 82 j_z (by omega) (by rw [kk82]; omega) j0]; exact hS.2.1.2.2.2.1 j_z j0 j1) (fun j_z j0 => f14 47 j_z (by omega) (by rw [kk47]; omega) j0) (fun k_z j_z k0_z k1_z j0 => f14 _ j_z (by omega) (by rw [kkK k0_z k1_z]; omega) j0), ?_, ⟨f0 4 (by omega), f1 1 0 (by omega) kk1 (by omega), f1 1 1 (by omega) kk1 (by omega)⟩, f46, f3⟩
  refine hT.cong0 hB (fun j_z j0 => f1 1 j_z (by omega) kk1 j0) (fun j_z j0 => by rw [m8_z.1]; exact ft j_z j0) (fun j_z j0 => by rw [m8_z.2.2]; exact f14 4 j_z (by omega) (by rw [kk4]; omega) j0) (fun i_z i0_z i1_z => ?_)
  have l4 := fX_1_4 hS.1 (r := 1) (by omega) kk1
  have e0_z := eX_12 hS.1 l4.1 l4.2 i0_z (show i_z < 6 by omega)
  have n2_z := fX_2_2 hS.1 e0_z.1 e0_z.2
  have n3_z := fX_2_3 hS.1 e0_z.1 e0_z.2
  exact ⟨fun j_z j0 => f2 _ j_z e0_z.1 e0_z.2 j0, fun j_z j0 => f14 _ j_z n2_z.1 (by rw [n2_z.2]; omega) j0, fun j_z j0 => f14 _ j_z n3_z.1 (by rw [n3_z.2]; omega) j0⟩
theorem codz {l n : Nat} {bad : List Nat} (h : (List.range n).all (fun j => bad.contains (100 * l + j)) = true) {j : Int} (j0 : 0 ≤ j) (j1 : j < n) : bad.contains (100 * l + j.toNat) = true := List.all_eq_true.mp h j.toNat (List.mem_range.2 (by omega))
theorem xsm.k {s : cx_Sd 12} {ks : List (Fin 12)} {A B : pm_A} {ms : List Nat} (hS : StE A) (hT : TrX s ks A 1) (hB : gH wX B) (hF : gFk wY ms A B) (hm : avoid bdC ms = true) : xsm s ks A B := by
  have h0 : ∀ j_z : Int, j_z = 0 ∨ j_z = 2 ∨ j_z = 3 ∨ j_z = 4 ∨ j_z = 5 ∨ j_z = 8 ∨ j_z = 9 → B 0 j_z = A 0 j_z := fun j_z hj => hF 0 j_z (by omega) (by omega) (by
    rw [kc_o (a := 0) kk0 (by decide) (shX_0 kk0)]
    refine avoid_n hm ?_
    rcases hj with rfl | rfl | rfl | rfl | rfl | rfl | rfl <;> decide)
  refine xsm.of0 hS hT hB h0 (fun g_z j_z g0 gk hj => hF g_z j_z g0 hj.1 ?_) (fun q_z j_z q0 qk hj => hF q_z j_z q0 hj.1 ?_) (fun j_z hj => hF 28 j_z (by omega) hj.1 ?_) (fun q_z j_z q0 qk j0 => hF q_z j_z q0 j0 ?_) (fun j_z j0 => hF 2 j_z (by omega) j0 ?_) (fun j_z j0 => hF 46 j_z (by omega) j0 ?_) (fun j_z j0 => hF 3 j_z (by omega) j0 ?_) ⟨hF 72 0 (by omega) (by omega) ?_, hF 72 8 (by omega) (by omega) ?_⟩
  · rw [kc_o (a := 0) gk (by decide) (shX_1 gk)]
    exact avoid_n hm (codz (l := 1) (n := 6) (by decide) hj.1 (by omega))
  · rw [kc_o (a := 0) qk (by decide) (shX_2 qk)]
    exact avoid_n hm (codz (l := 2) (n := 4) (by decide) hj.1 (by omega))
  · rw [kc_o (a := 0) kk28 (by decide) (shX_4 kk28)]
    exact avoid_n hm (codz (l := 4) (n := 7) (by decide) hj.1 (by omega))
  · rcases qk with qk | qk | qk | qk | qk
    · rw [kc_a qk (by decide) (shX_14 qk)]; exact avoid_n hm (by decide)
    · rw [kc_a qk (by decide) (shX_15 qk)]; exact avoid_n hm (by decide)
    · rw [kc_a qk (by decide) (shX_12 qk)]; exact avoid_n hm (by decide)
    · rw [kc_a qk (by decide) (shX_20 qk)]; exact avoid_n hm (by decide)
    · rw [kc_a qk (by decide) (shX_22 qk)]; exact avoid_n hm (by decide)
  · have k2_z : wX.2 2 = 10 := by decide
    rw [kc_a k2_z (by decide) (shX_10 k2_z)]; exact avoid_n hm (by decide)
  · rw [kc_a kk46 (by decide) (shX_19 kk46)]; exact avoid_n hm (by decide)
  · rw [kc_a kk3 (by decide) (shX_11 kk3)]; exact avoid_n hm (by decide)
  · rw [kc_o (a := 0) kk72 (by decide) (shX_5 kk72)]; exact avoid_n hm (by decide)
  · rw [kc_o (a := 0) kk72 (by decide) (shX_5 kk72)]; exact avoid_n hm (by decide)
/-- cells that never change -/
def CA (A : pm_A) : Prop := AT A ∧ A 413 3 = 415 ∧ A 24 3 = 26 ∧ A 49 5 = 53
def caC : List Nat := [500, 502, 503, 504, 505, 506, 508, 509, 512, 515, 516, 517, 102, 104, 105, 703, 303, 10022]
theorem CA.k {A B : pm_A} {ms : List Nat} (h : CA A) (hF : gFk wY ms A B) (hm : avoid caC ms = true) : CA B := by
  have k413 : wX.2 413 = 7 := by decide
  have k24 : wX.2 24 = 3 := by decide
  have f72 : ∀ j_z : Int, j_z = 0 ∨ j_z = 2 ∨ j_z = 3 ∨ j_z = 4 ∨ j_z = 5 ∨ j_z = 6 ∨ j_z = 8 ∨ j_z = 9 ∨ j_z = 12 ∨ j_z = 15 ∨ j_z = 16 ∨ j_z = 17 → B 72 j_z = A 72 j_z := fun j_z hj => hF 72 j_z (by omega) (by omega) (by
    rw [kc_o (a := 0) kk72 (by decide) (shX_5 kk72)]
    refine avoid_n hm ?_
    rcases hj with rfl | rfl | rfl | rfl | rfl | rfl | rfl | rfl | rfl | rfl | rfl | rfl <;> decide)
  have f79 : ∀ j_z : Int, j_z = 2 ∨ j_z = 4 → B 79 j_z = A 79 j_z := fun j_z hj => hF 79 j_z (by omega) (by omega) (by
    rw [kc_o (a := 0) kk79 (by decide) (shX_1 kk79)]
    refine avoid_n hm ?_
    rcases hj with rfl | rfl <;> decide)
  have f73 : ∀ j_z : Int, 0 ≤ j_z → B 73 j_z = A 73 j_z := fun j_z j0 => hF 73 j_z (by omega) j0 (by
    rw [kc_a kk73 (by decide) (shX_22 kk73)]
    exact avoid_n hm (by decide))
  obtain ⟨⟨⟨a1_z, a2, a3, a4, a5, a6, a7, a8, a9⟩, ⟨b1, b2, b3⟩, ⟨c1_z, c2_z⟩, d_z⟩, e1, e2, e3⟩ := h
  refine ⟨⟨⟨by rw [f72 0 (by omega)]; exact a1_z, by rw [f72 2 (by omega)]; exact a2, by rw [f72 3 (by omega)]; exact a3, by rw [f72 4 (by omega)]; exact a4, by rw [f72 5 (by omega)]; exact a5, by rw [f72 6 (by omega)]; exact a6, by rw [f72 8 (by omega)]; exact a7, by rw [f72 9 (by omega)]; exact a8, by rw [f72 12 (by omega)]; exact a9⟩, ⟨by rw [f72 15 (by omega)]; exact b1, by rw [f72 16 (by omega)]; exact b2, by rw [f72 17 (by omega)]; exact b3⟩, ⟨by rw [f79 2 (by omega)]; exact c1_z, by rw [f79 4 (by omega)]; exact c2_z⟩, fun x_z x0_z x1_z => by rw [f73 x_z x0_z]; exact d_z x_z x0_z x1_z⟩, ?_, ?_, ?_⟩
  · rw [hF 413 3 (by omega) (by omega) (by rw [kc_o (a := 0) k413 (by decide) (shX_7 k413)]; exact avoid_n hm (by decide))]; exact e1
  · rw [hF 24 3 (by omega) (by omega) (by rw [kc_o (a := 0) k24 (by decide) (shX_3 k24)]; exact avoid_n hm (by decide))]; exact e2
  · rw [hF 49 5 (by omega) (by omega) (by rw [kc_o (a := 0) kk49 (by decide) (shX_1 kk49)]; exact avoid_n hm (by decide))]; exact e3
theorem ca_first : CA (wA WX) := by
  refine ⟨⟨⟨?_, ?_, ?_, ?_, ?_, ?_, ?_, ?_, ?_⟩, ⟨?_, ?_, ?_⟩, ⟨?_, ?_⟩, fun x_z x0_z x1_z => all_int (P := fun x_z => wA WX 73 x_z = 107 + 3 * x_z) (n := 100) (by decide +kernel) x0_z x1_z⟩, ?_, ?_, ?_⟩ <;> decide +kernel
/-- the same with the judged table and the draft's sizes as kinds of their own -/
theorem kf_o {r : Int} {l b : Nat} {n : Int} (hk : wX.2 r = l) (hl : ¬ l = 10) (hl2 : ¬ l = 11) (hs : an_sh wX r = (0, b, n)) (j : Int) : kcode wF r j = 100 * l + j.toNat := by
  unfold kcode
  rw [shF, hs]
  show 100 * wF.2 r + j.toNat = 100 * l + j.toNat
  have e_z : wF.2 r = l := by
    show (if r = 415 then 36 else if r = 26 then 37 else wX.2 r) = l
    have k1_z : wX.2 415 = 10 := by decide
    have k2_z : wX.2 26 = 11 := by decide
    rw [if_neg (fun e_z => hl (by rw [e_z] at hk; omega)), if_neg (fun e_z => hl2 (by rw [e_z] at hk; omega))]
    exact hk
  rw [e_z]
theorem kf_a {r : Int} {l b : Nat} {n : Int} (hk : wX.2 r = l) (h1 : ¬ r = 415) (h2 : ¬ r = 26) (hs : an_sh wX r = (1, b, n)) (j : Int) : kcode wF r j = 10000 + l := by
  unfold kcode
  rw [shF, hs]
  show 10000 + wF.2 r = 10000 + l
  have e_z : wF.2 r = l := by
    show (if r = 415 then 36 else if r = 26 then 37 else wX.2 r) = l
    rw [if_neg h1, if_neg h2]
    exact hk
  rw [e_z]
theorem xsm.kF {s : cx_Sd 12} {ks : List (Fin 12)} {A B : pm_A} {ms : List Nat} (hS : StE A) (hT : TrX s ks A 1) (hB : gH wX B) (hF : gFk wF ms A B) (hm : avoid bdC ms = true) : xsm s ks A B := by
  have nA : ∀ {q_z : Int} {l : Nat}, wX.2 q_z = l → ¬ l = 10 → ¬ l = 11 → ¬ q_z = 415 ∧ ¬ q_z = 26 := fun {q_z l} qk n1_z n2_z => by
    have k1_z : wX.2 415 = 10 := by decide
    have k2_z : wX.2 26 = 11 := by decide
    exact ⟨fun e_z => n1_z (by rw [e_z] at qk; omega), fun e_z => n2_z (by rw [e_z] at qk; omega)⟩
  have h0 : ∀ j_z : Int, j_z = 0 ∨ j_z = 2 ∨ j_z = 3 ∨ j_z = 4 ∨ j_z = 5 ∨ j_z = 8 ∨ j_z = 9 → B 0 j_z = A 0 j_z := fun j_z hj => hF 0 j_z (by omega) (by omega) (by
    rw [kf_o kk0 (by decide) (by decide) (shX_0 kk0)]
    refine avoid_n hm ?_
    rcases hj with rfl | rfl | rfl | rfl | rfl | rfl | rfl <;> decide)
  refine xsm.of0 hS hT hB h0 (fun g_z j_z g0 gk hj => hF g_z j_z g0 hj.1 ?_) (fun q_z j_z q0 qk hj => hF q_z j_z q0 hj.1 ?_) (fun j_z hj => hF 28 j_z (by omega) hj.1 ?_) (fun q_z j_z q0 qk j0 => hF q_z j_z q0 j0 ?_) (fun j_z j0 => hF 2 j_z (by omega) j0 ?_) (fun j_z j0 => hF 46 j_z (by omega) j0 ?_) (fun j_z j0 => hF 3 j_z (by omega) j0 ?_) ⟨hF 72 0 (by omega) (by omega) ?_, hF 72 8 (by omega) (by omega) ?_⟩
  · rw [kf_o gk (by decide) (by decide) (shX_1 gk)]
    exact avoid_n hm (codz (l := 1) (n := 6) (by decide) hj.1 (by omega))
  · rw [kf_o qk (by decide) (by decide) (shX_2 qk)]
    exact avoid_n hm (codz (l := 2) (n := 4) (by decide) hj.1 (by omega))
  · rw [kf_o kk28 (by decide) (by decide) (shX_4 kk28)]
    exact avoid_n hm (codz (l := 4) (n := 7) (by decide) hj.1 (by omega))
  · rcases qk with qk | qk | qk | qk | qk
    · rw [kf_a qk (nA qk (by decide) (by decide)).1 (nA qk (by decide) (by decide)).2 (shX_14 qk)]; exact avoid_n hm (by decide)
    · rw [kf_a qk (nA qk (by decide) (by decide)).1 (nA qk (by decide) (by decide)).2 (shX_15 qk)]; exact avoid_n hm (by decide)
    · rw [kf_a qk (nA qk (by decide) (by decide)).1 (nA qk (by decide) (by decide)).2 (shX_12 qk)]; exact avoid_n hm (by decide)
    · rw [kf_a qk (nA qk (by decide) (by decide)).1 (nA qk (by decide) (by decide)).2 (shX_20 qk)]; exact avoid_n hm (by decide)
    · rw [kf_a qk (nA qk (by decide) (by decide)).1 (nA qk (by decide) (by decide)).2 (shX_22 qk)]; exact avoid_n hm (by decide)
  · have k2_z : wX.2 2 = 10 := by decide
    rw [kf_a k2_z (by omega) (by omega) (shX_10 k2_z)]; exact avoid_n hm (by decide)
  · rw [kf_a kk46 (by omega) (by omega) (shX_19 kk46)]; exact avoid_n hm (by decide)
  · rw [kf_a kk3 (by omega) (by omega) (shX_11 kk3)]; exact avoid_n hm (by decide)
  · rw [kf_o kk72 (by decide) (by decide) (shX_5 kk72)]; exact avoid_n hm (by decide)
  · rw [kf_o kk72 (by decide) (by decide) (shX_5 kk72)]; exact avoid_n hm (by decide)
/-- finite leaves the class's seed -/
theorem xfin_sm {s : cx_Sd 12} {ks : List (Fin 12)} {n : Nat} {A : pm_A} {r : pm_R} (hS : StE A) (hC : CA A) (hT : TrX s ks A 1) (h : pm_call pmt (an_sh wX) n 90 [(2, 0)] A = some r) (hB : gH wX r.2) : xsm s ks A r.2 := xsm.kF hS hT hB (fx_finF h (gK_F hS.1 hS.2.2.2.2.2 hC.2.1 hC.2.2.1)) (by decide)
end

section
/-! the class's seed begun anew: startSeed, begin, exactly -/
theorem srt_startSeed : pm_srt o_X9_startSeed = true := by decide +kernel
theorem kk24 : wX.2 24 = 3 := by decide
theorem kk25 : wX.2 25 = 16 := by decide
theorem kk26 : wX.2 26 = 11 := by decide
theorem StE.begH {A : pm_A} (hS : StE A) : scH A 1 49 := by
  have hA := hS.1
  have m8_z := hS.2.2.2.2.2
  refine ⟨hA, ⟨⟨by omega, kk1⟩, by omega, kk49⟩, by omega, fun c_z c0_z ck => m8_z.1 c_z c0_z ck, fun a_z a0_z ak => ⟨hS.2.1.2.1 a_z a0_z ak, hS.2.2.2.1 a_z a0_z ak⟩, fun i_z j_z i0_z i1_z j0 j1 => ?_, fun i_z j_z i0_z i1_z j0 j1 hij => ?_⟩
  · exact fun e_z => hS.walkH.2.2.2.2.2.1 j_z i_z j0 j1 i0_z i1_z e_z.symm
  · have h1 := hS.2.1.2.2.2.2.2 i_z j_z i0_z (by omega) j0 (by omega) hij
    have h2 := own_pc (A := A) own1 i0_z (show i_z ≤ 5 by omega)
    have h3 := own_pc (A := A) own1 j0 (show j_z ≤ 5 by omega)
    rw [Int.zero_add] at h2 h3
    rw [h2, h3] at h1
    exact h1
theorem StE.stQ {A : pm_A} {n m : Int} (hS : StE A) (hn : 1 ≤ n ∧ n ≤ 6) (hm : 0 ≤ m ∧ m ≤ 6) : stH A 1 n m 25 26 :=
  ⟨hS.1, ⟨by omega, kk1⟩, ⟨hn, hm⟩, ⟨⟨by omega, kk25⟩, by omega, kk26, by omega⟩, hS.begH.2.2.2.1, hS.begH.2.2.2.2.1, hS.begH.2.2.2.2.2.2⟩
/-- the table told is the seed's first one -/
def tld (s : cx_Sd 12) (T : Int → Int) (n m : Int) : Prop := ∀ i_z j_z : Fin 12, (j_z.1 : Int) < n → ((i_z.1 : Int) < n + m → s.b i_z j_z = T (6 * (i_z.1 : Int) + (j_z.1 : Int))) ∧ (n + m ≤ (i_z.1 : Int) → s.b i_z j_z = 0)
theorem trx0 {s : cx_Sd 12} {A B : pm_A} {n m : Int} (hS : StE A) (hn : 1 ≤ n ∧ n ≤ 6) (hm : 0 ≤ m ∧ m ≤ 6) (h9 : ∀ k_z : Int, 0 ≤ k_z → k_z < 72 → -9 ≤ A 25 k_z ∧ A 25 k_z ≤ 9) (ht : tld s (A 25) n m) (hI : stI A B 1 n m 25 26 n) : TrX s [] B 1 := by
  have hSB := hS.sc hS.begH hI.1
  have m8_z := hSB.2.2.2.2.2.1 1 (by omega) kk1
  have k4_z := st_k (hS.stQ hn hm)
  obtain ⟨hF, ⟨b0, b1⟩, bt_z, bz, bl⟩ := hI
  have eW : bgW B 1 = n + m := by unfold bgW; rw [b0, b1]
  have e4_z : ∀ j_z : Int, B 4 j_z = A 4 j_z := fun j_z => hF.no hS.begH kk4 (Or.inl (by omega)) (by omega) (by omega) (by decide) (by decide) (by decide)
  have bt2 : ∀ i_z j_z : Int, 0 ≤ i_z → i_z < n + m → 0 ≤ j_z → j_z < n → B (B 1 2) (i_z * 6 + j_z) = A 25 (6 * i_z + j_z) := fun i_z j_z i0_z i1_z j0 j1 => by
    rw [m8_z.1, show i_z * 6 + j_z = 6 * i_z + j_z by omega]
    exact bt_z _ (by omega) (by omega)
  refine ⟨hF.1, ⟨by omega, kk1⟩, by omega, fun i_z j_z hj => ⟨fun hi_z => ?_, fun hi_z => ?_⟩, fun k_z hk => absurd hk List.not_mem_nil, fun v_z k_z hk => ?_, fun i_z j_z i0_z i1_z j0 j1 => ?_, fun i_z hi_z => ?_⟩
  · rw [b0] at hj
    rw [eW] at hi_z
    rw [bt2 _ _ (by omega) hi_z (by omega) hj]
    exact (ht i_z j_z hj).1 hi_z
  · rw [b0] at hj
    rw [eW] at hi_z
    exact (ht i_z j_z hj).2 hi_z
  · rw [b0] at hk
    by_cases e_z : (v_z.1 : Int) < n + m
    · rw [(ht v_z k_z hk).1 e_z]
      have h1 := h9 (6 * (v_z.1 : Int) + (k_z.1 : Int)) (by omega) (by omega)
      omega
    · rw [(ht v_z k_z hk).2 (by omega)]
      omega
  · rw [eW] at i1_z
    rw [b0] at j1
    rw [bt2 _ _ i0_z i1_z j0 j1]
    have h1 := h9 (6 * i_z + j_z) (by omega) (by omega)
    omega
  · rw [b0] at hi_z
    obtain ⟨c1_z, c2_z, c3_z, c4_z, c5_z⟩ := bl i_z.1 (by omega) hi_z
    have e5 : B (B 1 4) (i_z.1 : Int) = A (1 + 3) (i_z.1 : Int) := by rw [m8_z.2.2]; exact e4_z _
    rw [e5, eW]
    exact ⟨c3_z, c4_z, c1_z, fun x_z => (c5_z i_z rfl x_z).symm⟩
def ssP (A : pm_A) (r : pm_R) : Prop := r.1 = none ∧ ∃ C_z, stI A C_z 1 (A 24 0) (A 24 1) 25 26 (A 24 0) ∧ r.2 = pm_upd C_z 0 4 0
theorem startSeed_ex {A : pm_A} (hS : StE A) (e1 : A 0 1 = 24) (e2 : A 24 2 = 25) (e3 : A 24 3 = 26) (n1 : 1 ≤ A 24 0) : Cl pmt (an_sh wX) 109 [(2, 0)] A (ssP A) := by
  have a1_z := hS.2.1.1.1
  have d0_z : 0 ≤ A 0 1 ∧ wX.2 (A 0 1) = 3 := by rw [e1]; exact ⟨by omega, kk24⟩
  have p6_z := fX_3_0 hS.1 (r := 24) (by omega) kk24
  have q6_z := fX_3_1 hS.1 (r := 24) (by omega) kk24
  refine Cl.of (Nat.le_of_ble_eq_true rfl) ?_
  refine wq_ok (full := o_X9_startSeed) srt_startSeed (fr := []) (cuts := [35]) (J := fun pc st_z => pc = 35 ∧ ∃ C_z, stI A C_z 1 (A 24 0) (A 24 1) 25 26 (A 24 0) ∧ st_z = ([(2, 0)], [], C_z)) ?_ 20 0 _ ?_
  · rintro pc st_z ⟨rfl, C_z, hC, rfl⟩
    refine wq_ok srt_startSeed (fr := []) (cuts := []) (J := fun pc st_z => False) (fun _ _ h_z => h_z.elim) 20 35 _ ?_
    refine ⟨oX_0 z0 kk0 4 rfl, ?_⟩
    exact ⟨rfl, C_z, hC, rfl⟩
  · refine ⟨oX_0 z0 kk0 0 rfl, ?_⟩
    refine ⟨oX_0 z0 kk0 1 rfl, ?_⟩
    refine ⟨oX_3 d0_z.1 d0_z.2 0 rfl, ?_⟩
    refine ⟨oX_0 z0 kk0 1 rfl, ?_⟩
    refine ⟨oX_3 d0_z.1 d0_z.2 1 rfl, ?_⟩
    refine ⟨oX_0 z0 kk0 1 rfl, ?_⟩
    refine ⟨oX_3 d0_z.1 d0_z.2 2 rfl, ?_⟩
    refine ⟨oX_0 z0 kk0 1 rfl, ?_⟩
    refine ⟨oX_3 d0_z.1 d0_z.2 3 rfl, ?_⟩
    refine ⟨rX_1 (by rw [a1_z]; omega) (by rw [a1_z]; exact kk1), ?_⟩
    have hcall := start_ex (A := A) (g := 1) (n := A 24 0) (m := A 24 1) (T := 25) (Z := 26) (hS.stQ ⟨n1, p6_z.2⟩ q6_z)
    rw [a1_z, e1, e2, e3]
    refine hcall.imp ?_
    rintro ⟨r1_z, C_z⟩ ⟨hr, hC⟩
    simp only at hr hC
    subst hr
    exact ⟨rfl, C_z, hC, rfl⟩
/-- the class's seed is begun anew from the table T -/
def xnw (T : Int → Int) (n m : Int) (B : pm_A) : Prop := StE B ∧ (∀ s_z : cx_Sd 12, tld s_z T n m → TrX s_z [] B 1) ∧ (B 0 4 = 0 ∧ B 1 0 = n ∧ B 1 1 = m)
theorem tld.c {s : cx_Sd 12} {T U : Int → Int} {n m : Int} (h : tld s T n m) (hn : n ≤ 6) (hm : m ≤ 6) (e : ∀ k_z : Int, 0 ≤ k_z → k_z < 72 → U k_z = T k_z) : tld s U n m := fun i_z j_z hj => ⟨fun hi_z => by rw [e _ (by omega) (by omega)]; exact (h i_z j_z hj).1 hi_z, (h i_z j_z hj).2⟩
theorem xnw.c {T U : Int → Int} {n m : Int} {B : pm_A} (h : xnw T n m B) (hn : n ≤ 6) (hm : m ≤ 6) (e : ∀ k_z : Int, 0 ≤ k_z → k_z < 72 → T k_z = U k_z) : xnw U n m B := ⟨h.1, fun s_z hs => h.2.1 s_z (hs.c hn hm e), h.2.2⟩
theorem ssP.nw {A : pm_A} {r : pm_R} (hS : StE A) (n1 : 1 ≤ A 24 0) (h9 : ∀ k_z : Int, 0 ≤ k_z → k_z < 72 → -9 ≤ A 25 k_z ∧ A 25 k_z ≤ 9) (h : ssP A r) : xnw (A 25) (A 24 0) (A 24 1) r.2 ∧ (∀ i_z : Int, 0 ≤ i_z → i_z < 6 → r.2 3 i_z = A 26 i_z) ∧ (∀ r_z j_z : Int, 100 ≤ r_z → r.2 r_z j_z = A r_z j_z) ∧ (∀ j_z : Int, r.2 24 j_z = A 24 j_z) ∧ ∀ j_z : Int, r.2 25 j_z = A 25 j_z := by
  have p6_z := fX_3_0 hS.1 (r := 24) (by omega) kk24
  have q6_z := fX_3_1 hS.1 (r := 24) (by omega) kk24
  obtain ⟨_, C_z, hC, e_z⟩ := h
  have hSC := hS.sc hS.begH hC.1
  have hB_z : gH wX (pm_upd C_z 0 4 0) := put_t hC.1.1 (by omega) (by omega)
  have hne : ∀ r_z j_z : Int, ¬ (r_z = 0 ∧ j_z = 4) → ¬ r_z = 46 → pm_upd C_z 0 4 0 r_z j_z = C_z r_z j_z := fun r_z j_z h1 _ => upd_o h1
  rw [e_z]
  refine ⟨⟨hSC.far hB_z hne, fun s_z ht => (trx0 hS ⟨n1, p6_z.2⟩ q6_z h9 ht hC).far hB_z (fun r_z j_z h1 h2 => hne r_z j_z (fun q_z => h1 q_z.1) h2), ⟨upd_at, by rw [upd_o (by omega)]; exact hC.2.1.1, by rw [upd_o (by omega)]; exact hC.2.1.2⟩⟩, fun i_z i0_z i1_z => by rw [upd_o (by omega)]; exact hC.2.2.2.1 i_z i0_z i1_z, fun r_z j_z hr => ?_, fun j_z => ?_, fun j_z => ?_⟩
  · rw [upd_o (by omega)]
    refine hC.1.2.1 r_z j_z (by omega) (by omega) (by omega) (fun n_z n0_z n1_z => ?_)
    have h1 := (hS.2.1.2.2.2.2.1 n_z n0_z (by omega)).1
    have h2 := own_pc (A := A) own1 n0_z (show n_z ≤ 5 by omega)
    rw [Int.zero_add] at h2
    rw [h2] at h1
    have h1 : A 4 n_z < 72 := h1
    show ¬ r_z = A 4 n_z ∧ ¬ r_z = A 4 n_z + 1 ∧ ¬ r_z = A 4 n_z + 2
    omega
  · rw [upd_o (by omega)]
    exact hC.1.no hS.begH kk24 (Or.inl (by omega)) (by omega) (by omega) (by decide) (by decide) (by decide)
  · rw [upd_o (by omega)]
    exact hC.1.no hS.begH kk25 (Or.inl (by omega)) (by omega) (by omega) (by decide) (by decide) (by decide)
theorem xsm.tr {s : cx_Sd 12} {ks : List (Fin 12)} {A B C : pm_A} (h : xsm s ks A B) (g : xsm s ks B C) : xsm s ks A C :=
  ⟨g.1, g.2.1, ⟨by rw [g.2.2.1.1]; exact h.2.2.1.1, by rw [g.2.2.1.2.1]; exact h.2.2.1.2.1, by rw [g.2.2.1.2.2]; exact h.2.2.1.2.2⟩, fun d_z d0_z => by rw [g.2.2.2.1 d_z d0_z]; exact h.2.2.2.1 d_z d0_z, fun i_z i0_z => by rw [g.2.2.2.2 i_z i0_z]; exact h.2.2.2.2 i_z i0_z⟩
/-- the smallest sizes -/
def syL (p : Int) (T t : Int → Int) : Prop := sy p T t ∧ ∀ w_z, sy p T w_z → ∀ i_z : Int, 0 ≤ i_z → i_z < p → ∃ c_z, w_z i_z = c_z * t i_z
theorem syL_one {p : Int} {T s t : Int → Int} (h : lsz p T s) (g : syL p T t) {i : Int} (i0 : 0 ≤ i) (i1 : i < p) : s i = t i := by
  obtain ⟨a_z, ha_z⟩ := h.2.2 t g.1 i i0 i1
  obtain ⟨b_z, hb_z⟩ := g.2 s h.2.1 i i0 i1
  have h1 := h.1 i i0 i1
  have g1 := g.1.1 i i0 i1
  have d1_z : s i ∣ t i := ⟨a_z, by rw [ha_z, Int.mul_comm]⟩
  have d2_z : t i ∣ s i := ⟨b_z, by rw [hb_z, Int.mul_comm]⟩
  have := Int.le_of_dvd (by omega) d1_z
  have := Int.le_of_dvd (by omega) d2_z
  omega
theorem syL.c {p : Int} {T U s t : Int → Int} (h : syL p T t) (hp : p ≤ 6) (eT : ∀ k_z : Int, 0 ≤ k_z → k_z < 72 → T k_z = U k_z) (e : ∀ i_z : Int, 0 ≤ i_z → i_z < p → s i_z = t i_z) : syL p U s := by
  have h1 := sy_c hp eT h.1
  refine ⟨⟨fun i_z i0_z i1_z => by rw [e i_z i0_z i1_z]; exact h1.1 i_z i0_z i1_z, fun i_z j_z i0_z i1_z j0 j1 => by rw [e i_z i0_z i1_z, e j_z j0 j1]; exact h1.2 i_z j_z i0_z i1_z j0 j1⟩, fun w_z hw i_z i0_z i1_z => ?_⟩
  rw [e i_z i0_z i1_z]
  exact h.2 w_z (sy_c hp (fun k_z k0_z k1_z => (eT k_z k0_z k1_z).symm) hw) i_z i0_z i1_z
/-- fault, with what it leaves -/
def fqP (s : cx_Sd 12) (ks : List (Fin 12)) (A : pm_A) (r : pm_R) : Prop := faq_post A 24 r ∧ xsm s ks A r.2 ∧ CA r.2 ∧ (∀ j_z : Int, 0 ≤ j_z → j_z < 20 → r.2 24 j_z = A 24 j_z ∧ r.2 0 j_z = A 0 j_z) ∧ ∀ j_z : Int, 0 ≤ j_z → r.2 25 j_z = A 25 j_z
theorem fault_exq {s : cx_Sd 12} {ks : List (Fin 12)} {A : pm_A} (hS : StE A) (hC : CA A) (hK : gK wY A) (hT : TrX s ks A 1) (hT9 : b9t A 24) : Cl pmt (an_sh wX) 21 [(2, 24)] A (fqP s ks A) := by
  obtain ⟨n_z, r_z, c1_z, q_z⟩ := fault_ex hS.1 (by omega) kk24 hT9
  have hF := fx_fault c1_z (gK_F hS.1 hS.2.2.2.2.2 hC.2.1 hC.2.2.1)
  have hFY : gFk wY [10011, 10017] A r_z.2 := by
    have c2_z := c1_z
    rw [← shY] at c2_z
    exact (ksX n_z 21 ([6], 2, [10011, 10017]) (List.contains_iff_mem.mp (by decide +kernel)) [(2, 24)] A r_z ⟨⟨rfl, (by show (0 : Int) ≤ 24; omega), by decide +kernel⟩, trivial⟩ hK c2_z).2.2
  refine ⟨n_z, r_z, c1_z, q_z, xsm.kF hS hT q_z.1.1 hF (by decide), hC.k hFY (by decide), fun j_z j0 j1 => ⟨hF 24 j_z (by omega) j0 ?_, hF 0 j_z (by omega) j0 ?_⟩, fun j_z j0 => hF 25 j_z (by omega) j0 ?_⟩
  · rw [kf_o kk24 (by decide) (by decide) (shX_3 kk24)]
    intro h_z
    simp only [List.mem_cons, List.not_mem_nil, or_false] at h_z
    omega
  · rw [kf_o kk0 (by decide) (by decide) (shX_0 kk0)]
    intro h_z
    simp only [List.mem_cons, List.not_mem_nil, or_false] at h_z
    omega
  · rw [kf_a kk25 (by omega) (by omega) (shX_16 kk25)]
    decide
def xbQ (s : cx_Sd 12) (ks : List (Fin 12)) (A : pm_A) (r : pm_R) : Prop := ∃ x_z, r.1 = some (0, x_z) ∧ bgA (A 24 0) (A 25) x_z ∧ ((¬ x_z = 0 ∧ xsm s ks A r.2) ∨ (x_z = 0 ∧ xnw (A 25) (A 24 0) (A 24 1) r.2 ∧ syL (A 24 0) (A 25) (r.2 3)))
theorem xsm.rf {s : cx_Sd 12} {ks : List (Fin 12)} {A : pm_A} (hS : StE A) (hT : TrX s ks A 1) : xsm s ks A A := ⟨hS, hT, ⟨rfl, rfl, rfl⟩, fun _ _ => rfl, fun _ _ => rfl⟩
theorem fq_go {s : cx_Sd 12} {ks : List (Fin 12)} {A C : pm_A} {x : Int} {r : pm_R} (hT9 : ∀ k_z : Int, 0 ≤ k_z → k_z < 72 → -9 ≤ A 25 k_z ∧ A 25 k_z ≤ 9) (e2 : A 24 2 = 25) (e3 : A 24 3 = 26) (p1 : 1 ≤ A 24 0) (p6 : A 24 0 ≤ 6) (q6 : A 24 1 ≤ 6) (hq : fqP s ks A (some (0, x), C)) (hx : x = 0) (hr : ssP C r) : xnw (A 25) (A 24 0) (A 24 1) r.2 ∧ syL (A 24 0) (A 25) (r.2 3) ∧ (∀ j_z : Int, 0 ≤ j_z → j_z < 20 → r.2 24 j_z = A 24 j_z) ∧ ∀ j_z : Int, 0 ≤ j_z → r.2 25 j_z = A 25 j_z := by
  obtain ⟨⟨_, y_z, ey, _, hy⟩, h2, _, h4, h5⟩ := hq
  simp only at ey h2 h4 h5 hy
  cases ey
  have hy2 := hy hx
  rw [e2, e3] at hy2
  have e0_z := (h4 0 (by omega) (by omega)).1
  have e1_z := (h4 1 (by omega) (by omega)).1
  have h6 := ssP.nw h2.1 (by rw [e0_z]; exact p1) (fun k_z k0_z k1_z => by rw [h5 k_z k0_z]; exact hT9 k_z k0_z k1_z) hr
  rw [e0_z, e1_z] at h6
  refine ⟨h6.1.c p6 q6 (fun k_z k0_z _ => h5 k_z k0_z), syL.c (T := A 25) (t := C 26) ⟨hy2.1, hy2.2⟩ p6 (fun _ _ _ => rfl) (fun i_z i0_z i1_z => h6.2.1 i_z i0_z (by omega)), fun j_z j0 j1 => by rw [h6.2.2.2.1, (h4 j_z j0 j1).1], fun j_z j0 => by rw [h6.2.2.2.2, h5 j_z j0]⟩
theorem xbegin_exq {s : cx_Sd 12} {ks : List (Fin 12)} {A : pm_A} (hS : StE A) (hC : CA A) (hK : gK wY A) (hT : TrX s ks A 1) (e1 : A 0 1 = 24) (e2 : A 24 2 = 25) (hT9 : b9t A 24) : Cl pmt (an_sh wX) 87 [(2, 0)] A (xbQ s ks A) := by
  have e3 := hC.2.2.1
  have d0_z : 0 ≤ A 0 1 ∧ wX.2 (A 0 1) = 3 := by rw [e1]; exact ⟨by omega, kk24⟩
  have p6_z := fX_3_0 hS.1 (r := 24) (by omega) kk24
  have q6_z := fX_3_1 hS.1 (r := 24) (by omega) kk24
  have hT8 : ∀ k_z : Int, 0 ≤ k_z → k_z < 72 → -9 ≤ A 25 k_z ∧ A 25 k_z ≤ 9 := fun k_z k0_z k1_z => by
    have h1 := hT9 k_z k0_z k1_z
    rw [e2] at h1
    exact h1
  refine Cl.of (Nat.le_of_ble_eq_true rfl) ?_
  refine wq_ok (full := o_X9_begin) srt_Xbegin (fr := []) (cuts := [19]) (J := fun pc st_z => pc = 19 ∧ (¬ A 24 0 = 0) ∧ ∃ C_z x_z w_z, fqP s ks A (some (0, x_z), C_z) ∧ st_z = ([(2, 0), w_z], [(0, x_z)], C_z)) ?_ 20 0 _ ?_
  · rintro pc st_z ⟨rfl, h0, C_z, x_z, w_z, hq, rfl⟩
    have p1_z : 1 ≤ A 24 0 := by omega
    have hb_z : bgA (A 24 0) (A 25) x_z := by
      obtain ⟨⟨_, y_z, ey, hy, _⟩, _⟩ := hq
      simp only at ey
      cases ey
      rw [e2] at hy
      exact Or.inr ⟨p1_z, hy⟩
    refine wq_ok srt_Xbegin (fr := []) (cuts := []) (J := fun pc st_z => False) (fun _ _ h_z => h_z.elim) 20 19 _ ?_
    refine ⟨fun h_z => ?_, fun h_z => ?_⟩
    · exact ⟨rfl, x_z, rfl, hb_z, Or.inl ⟨h_z, hq.2.1⟩⟩
    · refine ⟨rX_0 (by omega) kk0, ?_⟩
      have g4 := hq.2.2.2.1
      simp only at g4
      have g5_z : C_z 24 0 = A 24 0 := (g4 0 (by omega) (by omega)).1
      have hcall := startSeed_ex (A := C_z) hq.2.1.1 (by rw [(g4 1 (by omega) (by omega)).2]; exact e1) (by rw [(g4 2 (by omega) (by omega)).1]; exact e2) (by rw [(g4 3 (by omega) (by omega)).1]; exact e3) (by rw [g5_z]; exact p1_z)
      refine hcall.imp ?_
      rintro ⟨r1_z, D_z⟩ hD
      have hr1 : r1_z = none := hD.1
      subst hr1
      have h6 := fq_go hT8 e2 e3 p1_z p6_z.2 q6_z.2 hq h_z hD
      exact ⟨rfl, x_z, rfl, hb_z, Or.inr ⟨h_z, h6.1, h6.2.1⟩⟩
  · refine ⟨oX_0 (by omega) kk0 1 rfl, ?_⟩
    refine ⟨oX_3 d0_z.1 d0_z.2 0 rfl, ?_⟩
    refine ⟨fun h0 => ?_, fun h0 => ?_⟩
    · refine ⟨oX_0 (by omega) kk0 1 rfl, ?_⟩
      refine ⟨rX_3 d0_z.1 d0_z.2, ?_⟩
      rw [e1] at h0 ⊢
      refine (fault_exq hS hC hK hT hT9).imp ?_
      rintro ⟨r1_z, C_z⟩ hq
      have hq0 := hq
      obtain ⟨⟨_, x_z, e_z, _⟩, _⟩ := hq0
      simp only at e_z
      subst e_z
      exact ⟨rfl, h0, C_z, x_z, _, hq, rfl⟩
    · rw [e1] at h0
      exact ⟨rfl, -1, rfl, Or.inl ⟨rfl, h0⟩, Or.inl ⟨by omega, xsm.rf hS hT⟩⟩
end

section
/-! the class's seed from a ring, exactly -/
def xsR (sd : cx_Sd 12) (ks : List (Fin 12)) (A : pm_A) (s n : Int) (F : Int → Int) (r : pm_R) : Prop := (¬ okSd s n F ∧ r = (some (0, 0), A)) ∨ (okSd s n F ∧ ∃ x_z, faA (n - 3) (tsum (ctr n F) 1000) x_z ∧ r.1 = some (0, if x_z = 0 then 1 else 0) ∧ (r.2 24 0 = n - 3 ∧ r.2 24 1 = 0 ∧ ∀ k_z : Int, 0 ≤ k_z → k_z < 72 → r.2 25 k_z = tsum (ctr n F) 1000 k_z) ∧ ((¬ x_z = 0 ∧ xsm sd ks A r.2) ∨ (x_z = 0 ∧ xnw (tsum (ctr n F) 1000) (n - 3) 0 r.2 ∧ syL (n - 3) (tsum (ctr n F) 1000) (r.2 3))))
theorem xrestart_k3 {A : pm_A} {n m : Int} (hA : gH wX A) (hK : gK wY A) (h0 : 0 ≤ n) (h1 : n ≤ 6) (h2 : 0 ≤ m) (h3 : m ≤ 6) : Cl pmt (an_sh wX) 25 [(2, 24), (0, n), (0, m)] A (fun r_z => rxP A 24 n m r_z ∧ gK wY r_z.2 ∧ gFk wY [300, 301, 10016] A r_z.2) := by
  obtain ⟨k_z, r_z, c1_z, q_z⟩ := xrestart_ex hA (d := 24) (by omega) (by decide +kernel) h0 h1 h2 h3
  have c2_z := c1_z
  rw [← shY] at c2_z
  have h5 := (ksX k_z 25 ([6, 1, 1], 0, [300, 301, 10016]) (List.contains_iff_mem.mp (by decide +kernel)) [(2, 24), (0, n), (0, m)] A r_z ⟨⟨rfl, (by show (0 : Int) ≤ 24; omega), by decide +kernel⟩, (by show ¬ (0 : Nat) = 1; decide), (by show ¬ (0 : Nat) = 1; decide), trivial⟩ hK c2_z).2
  exact ⟨k_z, r_z, c1_z, q_z, h5.1, h5.2⟩
theorem xsm.n25 {s : cx_Sd 12} {ks : List (Fin 12)} {A B : pm_A} (hS : StE A) (hT : TrX s ks A 1) (hB : gH wX B) (h : ∀ r_z j_z : Int, ¬ r_z = 25 → B r_z j_z = A r_z j_z) : xsm s ks A B := by
  have hk : ∀ {r_z : Int} {l : Nat}, wX.2 r_z = l → ¬ l = 16 → ∀ j_z : Int, B r_z j_z = A r_z j_z := fun hr hl j_z => h _ j_z (knd hr kk25 hl)
  refine xsm.of0 hS hT hB (fun j_z _ => h 0 j_z (by omega)) (fun g_z j_z g0 gk hj => hk gk (by decide) j_z) (fun q_z j_z q0 qk hj => hk qk (by decide) j_z) (fun j_z hj => h 28 j_z (by omega)) (fun q_z j_z q0 qk j0 => ?_) (fun j_z j0 => h 2 j_z (by omega)) (fun j_z j0 => h 46 j_z (by omega)) (fun j_z j0 => h 3 j_z (by omega)) ⟨h 72 0 (by omega), h 72 8 (by omega)⟩
  rcases qk with qk | qk | qk | qk | qk <;> exact hk qk (by decide) j_z
theorem CA.n25 {A B : pm_A} (h : CA A) (e : ∀ r_z j_z : Int, ¬ r_z = 25 → B r_z j_z = A r_z j_z) : CA B := by
  obtain ⟨⟨⟨a1_z, a2, a3, a4, a5, a6, a7, a8, a9⟩, ⟨b1, b2, b3⟩, ⟨c1_z, c2_z⟩, d_z⟩, e1, e2, e3⟩ := h
  refine ⟨⟨⟨?_, ?_, ?_, ?_, ?_, ?_, ?_, ?_, ?_⟩, ⟨?_, ?_, ?_⟩, ⟨?_, ?_⟩, fun x_z x0_z x1_z => by rw [e 73 _ (by omega)]; exact d_z x_z x0_z x1_z⟩, ?_, ?_, ?_⟩
  all_goals first
    | (rw [e 72 _ (by omega)]; assumption)
    | (rw [e 79 _ (by omega)]; assumption)
    | (rw [e 413 _ (by omega)]; assumption)
    | (rw [e 24 _ (by omega)]; assumption)
    | (rw [e 49 _ (by omega)]; assumption)
theorem gK_n25 {A B : pm_A} (h : gK wY A) (e : ∀ r_z j_z : Int, ¬ r_z = 25 → B r_z j_z = A r_z j_z) : gK wY B := fun r_z k_z r0 hk => by
  by_cases e25_z : r_z = 25
  · subst e25_z
    have hk2 : wY.1[wY.2 25]? = some (1, 0, 72, [(0, -2999, 2999)]) := rfl
    rw [hk2] at hk
    cases hk
    exact ⟨fun q_z => absurd q_z (by decide), fun _ j_z _ _ => trivial⟩
  · have h1 := h r_z k_z r0 hk
    exact ⟨fun q_z j_z => by rw [e r_z j_z e25_z]; exact h1.1 q_z j_z, fun q_z j_z j0 j1 => by rw [e r_z j_z e25_z]; exact h1.2 q_z j_z j0 j1⟩
theorem ksd_72 {sd : cx_Sd 12} {ks : List (Fin 12)} {A C : pm_A} {n s : Int} {F : Int → Int} (hs : okSd s n F) (hn4 : 4 ≤ n) (hX : xsm sd ks A C) (hCA : CA C) (hK : gK wY C) (e1 : C 0 1 = 24) (e2 : C 24 2 = 25) (e0 : C 24 0 = n - 3) (eh : C 24 1 = 0) (eT : ∀ k_z : Int, 0 ≤ k_z → k_z < 72 → C 25 k_z = tsum (ctr n F) 1000 k_z) (h9 : ∀ k_z : Int, 0 ≤ k_z → k_z < 72 → -9 ≤ tsum (ctr n F) 1000 k_z ∧ tsum (ctr n F) 1000 k_z ≤ 9) : Tm pmt (an_sh wX) o_X9_seed 72 ([(2, 0), (0, s)], [], C) (xsR sd ks A s n F) := by
  have hC := hX.1.1
  have e3 := hCA.2.2.1
  have n9 := hs.2.2
  have d0_z := fX_0_1 hC (r := 0) (by omega) kk0
  have hT8 : ∀ k_z : Int, 0 ≤ k_z → k_z < 72 → -9 ≤ C 25 k_z ∧ C 25 k_z ≤ 9 := fun k_z k0_z k1_z => by rw [eT k_z k0_z k1_z]; exact h9 k_z k0_z k1_z
  have hT9 : b9t C 24 := fun j_z j0 j1 => by rw [e2]; exact hT8 j_z j0 j1
  refine wq_ok srt_seed (fr := []) (cuts := []) (J := fun pc st_z => False) (fun _ _ h_z => h_z.elim) 20 72 _ ?_
  refine ⟨oX_0 (by omega) kk0 1 rfl, ?_⟩
  refine ⟨rX_3 d0_z.1 d0_z.2, ?_⟩
  rw [e1]
  refine (fault_exq hX.1 hCA hK hX.2.1 hT9).imp ?_
  rintro ⟨r1_z, D_z⟩ hq
  have hq0 := hq
  obtain ⟨⟨_, x_z, e_z, g3_z, _⟩, g2, _, g4, g5_z⟩ := hq0
  simp only at e_z g2 g4 g5_z
  subst e_z
  rw [e0, e2] at g3_z
  have g6 : faA (n - 3) (tsum (ctr n F) 1000) x_z := faA_c (by omega) eT g3_z
  have k0_z : D_z 24 0 = n - 3 := by rw [(g4 0 (by omega) (by omega)).1]; exact e0
  have k1_y : D_z 24 1 = 0 := by rw [(g4 1 (by omega) (by omega)).1]; exact eh
  have k2_y : ∀ k_z : Int, 0 ≤ k_z → k_z < 72 → D_z 25 k_z = tsum (ctr n F) 1000 k_z := fun k_z h0 h1 => by rw [g5_z k_z h0]; exact eT k_z h0 h1
  refine ⟨fun h_z => ?_, fun h_z => ?_⟩
  · refine ⟨rX_0 (by omega) kk0, ?_⟩
    have hcall := startSeed_ex (A := D_z) g2.1 (by rw [(g4 1 (by omega) (by omega)).2]; exact e1) (by rw [(g4 2 (by omega) (by omega)).1]; exact e2) (by rw [(g4 3 (by omega) (by omega)).1]; exact e3) (by omega)
    refine hcall.imp ?_
    rintro ⟨r1_z, E_z⟩ hE
    have hr1 : r1_z = none := hE.1
    subst hr1
    have h6 := fq_go hT8 e2 e3 (by omega) (by omega) (by omega) hq h_z hE
    rw [e0, eh] at h6
    refine ⟨rfl, Or.inr ⟨hs, x_z, g6, by rw [if_pos h_z], ⟨by rw [h6.2.2.1 0 (by omega) (by omega)]; exact e0, by rw [h6.2.2.1 1 (by omega) (by omega)]; exact eh, fun k_z k0_z k1_z => by rw [h6.2.2.2 k_z k0_z]; exact eT k_z k0_z k1_z⟩, Or.inr ⟨h_z, h6.1.c (by omega) (by omega) eT, h6.2.1.c (by omega) eT (fun _ _ _ => rfl)⟩⟩⟩
  · exact ⟨rfl, Or.inr ⟨hs, x_z, g6, by rw [if_neg h_z], ⟨k0_z, k1_y, k2_y⟩, Or.inl ⟨h_z, hX.tr g2⟩⟩⟩
theorem ksd_56 {sd : cx_Sd 12} {ks : List (Fin 12)} {A C : pm_A} {n s : Int} {F : Int → Int} (hs : okSd s n F) (hX : xsm sd ks A C) (hCA : CA C) (hK : gK wY C) (e1 : C 0 1 = 24) (e2 : C 24 2 = 25) (e0 : C 24 0 = n - 3) (eh : C 24 1 = 0) (hz : ∀ k_z : Int, 0 ≤ k_z → k_z < 72 → C 25 k_z = 0) (hr : rgX C (C (C 0 13) s) n F) (hS : rgS n F) (h9 : ∀ k_z : Int, 0 ≤ k_z → k_z < 72 → -9 ≤ tsum (ctr n F) 1000 k_z ∧ tsum (ctr n F) 1000 k_z ≤ 9) : Tm pmt (an_sh wX) o_X9_seed 56 ([(2, 0), (0, s)], [], C) (xsR sd ks A s n F) := by
  have hC := hX.1.1
  have hs1 := hs.1
  have d0_z := fX_0_1 hC (r := 0) (by omega) kk0
  have r0 := fX_0_13 hC (r := 0) (by omega) kk0
  have g0 := eX_34 hC r0.1 r0.2 (j := s) (by omega) (by omega)
  have hdk : wX.2 24 = 3 := by decide +kernel
  have hh : taH C (C (C 0 13) s) 25 n F := ⟨g0, ⟨by omega, by decide +kernel⟩, hr, hS, by have := hs.2; omega, hs.2.2⟩
  refine wq_ok srt_seed (fr := []) (cuts := [72]) (J := fun pc st_z => pc = 72 ∧ ∃ D_z, gH wX D_z ∧ (∀ k_z j_z : Int, ¬ k_z = 25 → D_z k_z j_z = C k_z j_z) ∧ (∀ k_z : Int, 0 ≤ k_z → k_z < 72 → D_z 25 k_z = tsum (ctr n F) 1000 k_z) ∧ st_z = ([(2, 0), (0, s)], [], D_z)) ?_ 20 56 _ ?_
  · rintro pc st_z ⟨rfl, D_z, h1, h2, h3, rfl⟩
    exact ksd_72 hs (by have := hS.1; omega) (hX.tr (xsm.n25 hX.1 hX.2.1 h1 h2)) (hCA.n25 h2) (gK_n25 hK h2) (by rw [h2 0 1 (by omega)]; exact e1) (by rw [h2 24 2 (by omega)]; exact e2) (by rw [h2 24 0 (by omega)]; exact e0) (by rw [h2 24 1 (by omega)]; exact eh) h3 h9
  · refine ⟨oX_0 (by omega) kk0 13 rfl, ?_⟩
    refine ⟨aX_34 r0.1 r0.2 (by omega) (by omega), ?_⟩
    refine ⟨oX_0 (by omega) kk0 1 rfl, ?_⟩
    refine ⟨oX_3 d0_z.1 d0_z.2 2 rfl, ?_⟩
    refine ⟨rX_9 g0.1 g0.2, ?_⟩
    rw [e1, e2]
    refine (tellArrows_ex hC hh hz).imp ?_
    rintro ⟨r1_z, D_z⟩ ⟨q1_z, q2_z, q3_z, q4_z⟩
    simp only at q1_z q2_z q3_z q4_z
    subst q1_z
    exact ⟨rfl, D_z, q2_z, q3_z, q4_z, rfl⟩
theorem kxq_37 {sd : cx_Sd 12} {ks : List (Fin 12)} {A : pm_A} {n s : Int} {F : Int → Int} (hSE : StE A) (hCA : CA A) (hTX : TrX sd ks A 1) (hK : gK wY A) (e1 : A 0 1 = 24) (ed : A 24 2 = 25) (ht9 : ∀ k_z : Int, 0 ≤ k_z → k_z < 72 → -9 ≤ tsum (ctr n F) 1000 k_z ∧ tsum (ctr n F) 1000 k_z ≤ 9) (hs : s = 0 ∨ s = 1) (h : rgX A (A (A 0 13) s) n F) (hS : rgS n F) (hc : cntF F 100 = n - 3) (h9 : n ≤ 9) : Tm pmt (an_sh wX) o_X9_seed 37 ([(2, 0), (0, s)], [], A) (xsR sd ks A s n F) := by
  have hA := hSE.1
  have p0_z := fX_0_13 hA (Int.le_refl 0) kk0
  have g0 := eX_34 hA p0_z.1 p0_z.2 (j := s) (by omega) (by omega)
  have en : A (A (A 0 13) s) 0 = n := h.1
  have hn := hS.1
  have d0_z := fX_0_1 hA (r := 0) (by omega) kk0
  refine wq_ok srt_seed (fr := []) (cuts := [56]) (J := fun pc st_z => pc = 56 ∧ ∃ C_z, (rxP A 24 (n - 3) 0 (none, C_z) ∧ gK wY C_z ∧ gFk wY [300, 301, 10016] A C_z) ∧ st_z = ([(2, 0), (0, s)], [], C_z)) ?_ 30 37 _ ?_
  · rintro pc st_z ⟨rfl, C_z, ⟨⟨_, q2_z, q3_z, q4_z, q5_z, q6_z⟩, q7_z, q8_z⟩, rfl⟩
    simp only at q2_z q3_z q4_z q5_z q6_z
    have e2 : C_z 0 1 = 24 := by
      rw [q3_z 0 1 (by omega) (by omega) (by unfold mcode; rw [shX_0 kk0]; show ¬ 901 ∈ rs_M; decide)]; exact e1
    have e3 : C_z 24 2 = A 24 2 := q3_z 24 2 (by omega) (by omega) (by unfold mcode; rw [shX_3 (show wX.2 24 = 3 by decide +kernel)]; show ¬ 202 ∈ rs_M; decide)
    have er : C_z 0 13 = A 0 13 := q3_z 0 13 (by omega) (by omega) (by unfold mcode; rw [shX_0 kk0]; show ¬ 913 ∈ rs_M; decide)
    have eqq : C_z (A 0 13) s = A (A 0 13) s := q3_z _ s p0_z.1 (by omega) (by unfold mcode; rw [shX_34 p0_z.2]; show ¬ (10000 + wX.2 (A 0 13)) ∈ rs_M; rw [p0_z.2]; decide)
    have ek : ∀ j_z : Int, 0 ≤ j_z → j_z ≤ 1 → C_z (A (A 0 13) s) j_z = A (A (A 0 13) s) j_z := fun j_z j0 j1 => by
      refine q3_z _ j_z g0.1 j0 ?_
      unfold mcode
      rw [shX_9 g0.2]
      show ¬ (600 + j_z.toNat) ∈ rs_M
      rcases (show j_z.toNat = 0 ∨ j_z.toNat = 1 by omega) with e_z | e_z <;> rw [e_z] <;> decide
    have hrg : rgX C_z (C_z (C_z 0 13) s) n F := by
      rw [er, eqq]
      obtain ⟨y1, V, y2, y3⟩ := h
      exact ⟨by rw [ek 0 (by omega) (by omega)]; exact y1, V, by rw [ek 1 (by omega) (by omega)]; exact y2, y3⟩
    exact ksd_56 ⟨hs, hc, h9⟩ (xsm.k hSE hTX q2_z q8_z (by decide)) (hCA.k q8_z (by decide)) q7_z e2 (by rw [e3]; exact ed) q5_z q6_z (fun k_z k0_z k1_z => by have := q4_z k_z k0_z k1_z; rw [ed] at this; omega) hrg hS ht9
  · refine ⟨oX_0 (Int.le_refl 0) kk0 1 rfl, ?_⟩
    refine ⟨oX_0 (Int.le_refl 0) kk0 13 rfl, ?_⟩
    refine ⟨aX_34 p0_z.1 p0_z.2 (by omega) (by omega), ?_⟩
    refine ⟨oX_9 g0.1 g0.2 0 rfl, ?_⟩
    refine ⟨⟨by omega, by omega⟩, ?_⟩
    refine ⟨rX_3 d0_z.1 d0_z.2, ?_⟩
    rw [e1, en]
    refine (xrestart_k3 hA hK (n := n - 3) (m := 0) (by omega) (by omega) (by omega) (by omega)).imp ?_
    rintro ⟨r1_z, C_z⟩ ⟨q_z, q7_z⟩
    obtain rfl : r1_z = none := q_z.1
    exact ⟨rfl, C_z, ⟨q_z, q7_z⟩, rfl⟩
theorem kseed_exq {sd : cx_Sd 12} {ks : List (Fin 12)} {A : pm_A} {n s : Int} {F : Int → Int} (hSE : StE A) (hCA : CA A) (hTX : TrX sd ks A 1) (hK : gK wY A) (e1 : A 0 1 = 24) (ed : A 24 2 = 25) (ht9 : okSd s n F → ∀ k_z : Int, 0 ≤ k_z → k_z < 72 → -9 ≤ tsum (ctr n F) 1000 k_z ∧ tsum (ctr n F) 1000 k_z ≤ 9) (h : s = 0 ∨ s = 1 → rgX A (A (A 0 13) s) n F ∧ rgS n F) : Cl pmt (an_sh wX) 107 [(2, 0), (0, s)] A (xsR sd ks A s n F) := by
  have hA := hSE.1
  have p0_z := fX_0_13 hA (Int.le_refl 0) kk0
  have h7 : s = 0 ∨ s = 1 → Tm pmt (an_sh wX) o_X9_seed 7 ([(2, 0), (0, s)], [], A) (xsR sd ks A s n F) := fun hs => by
    have e0_z := eX_34 hA p0_z.1 p0_z.2 (j := s) (by omega) (by omega)
    have en : A (A (A 0 13) s) 0 = n := (h hs).1.1
    have hn := (h hs).2.1
    refine wq_ok srt_seed (fr := []) (cuts := [16]) (J := fun pc st_z => (pc = 16 ∧ ∃ z_z : Int, ((z_z = 1 ∧ cntF F 100 = n - 3) ∨ (z_z = 0 ∧ ¬ cntF F 100 = n - 3)) ∧ st_z = ([(2, 0), (0, s)], [(0, z_z)], A))) ?_ 9 7 _ ?_
    · rintro pc st_z (⟨rfl, z_z, hz, rfl⟩)
      refine wq_ok srt_seed (fr := []) (cuts := [37]) (J := fun pc st_z => (pc = 37 ∧ (¬ z_z = 0) ∧ (((A (A (A 0 13) s) 0) - 3) ≤ 6) ∧ st_z = ([(2, 0), (0, s)], [], A))) ?_ 16 16 _ ?_
      · rintro pc st_z (⟨rfl, h0, h1, rfl⟩)
        have hc_z : cntF F 100 = n - 3 := (by rcases hz with ⟨_, e_z⟩ | ⟨e_z, _⟩; exact e_z; omega)
        have hn9 : n ≤ 9 := by omega
        exact kxq_37 hSE hCA hTX hK e1 ed (ht9 ⟨hs, hc_z, hn9⟩) hs (h hs).1 (h hs).2 hc_z hn9
      · refine ⟨fun h0 => ?_, fun h0 => ?_⟩
        · exact ⟨rfl, Or.inl ⟨fun q_z => absurd q_z.2.1 (by rcases hz with ⟨e_z, _⟩ | ⟨_, e_z⟩; omega; exact e_z), rfl⟩⟩
        · refine ⟨oX_0 (Int.le_refl 0) kk0 13 rfl, ?_⟩
          refine ⟨aX_34 (fX_0_13 hA (Int.le_refl 0) kk0).1 (fX_0_13 hA (Int.le_refl 0) kk0).2 (by omega) (by omega), ?_⟩
          refine ⟨oX_9 (eX_34 hA (fX_0_13 hA (Int.le_refl 0) kk0).1 (fX_0_13 hA (Int.le_refl 0) kk0).2 (j := s) (by omega) (by omega)).1 (eX_34 hA (fX_0_13 hA (Int.le_refl 0) kk0).1 (fX_0_13 hA (Int.le_refl 0) kk0).2 (j := s) (by omega) (by omega)).2 0 rfl, ?_⟩
          refine ⟨⟨by omega, by omega⟩, ?_⟩
          refine ⟨fun h1 => ?_, fun h1 => ?_⟩
          · exact ⟨rfl, h0, h1, rfl⟩
          · exact ⟨rfl, Or.inl ⟨fun q_z => by have := q_z.2.2; omega, rfl⟩⟩
    · refine ⟨oX_0 (Int.le_refl 0) kk0 13 rfl, ?_⟩
      refine ⟨aX_34 (fX_0_13 hA (Int.le_refl 0) kk0).1 (fX_0_13 hA (Int.le_refl 0) kk0).2 (by omega) (by omega), ?_⟩
      refine ⟨rX_9 (eX_34 hA (fX_0_13 hA (Int.le_refl 0) kk0).1 (fX_0_13 hA (Int.le_refl 0) kk0).2 (j := s) (by omega) (by omega)).1 (eX_34 hA (fX_0_13 hA (Int.le_refl 0) kk0).1 (fX_0_13 hA (Int.le_refl 0) kk0).2 (j := s) (by omega) (by omega)).2, ?_⟩
      refine (xcut_ex e0_z.1 e0_z.2 (h hs).1 (h hs).2).imp ?_
      rintro ⟨r1_z, C_z⟩ ⟨q1_z, z_z, q2_z, hz⟩
      simp only at q1_z q2_z
      subst q1_z
      subst q2_z
      exact ⟨rfl, z_z, hz, rfl⟩
  refine Cl.of (Nat.le_of_ble_eq_true rfl) ?_
  refine wq_ok (full := o_X9_seed) srt_seed (fr := []) (cuts := [4]) (J := fun pc st_z => (pc = 4 ∧ ∃ x_z : Int, ((x_z = 1 ∧ (s = 0 ∨ s = 1)) ∨ (x_z = 0 ∧ ¬ (s = 0 ∨ s = 1))) ∧ st_z = ([(2, 0), (0, s)], [(0, x_z)], A))) ?_ 6 0 _ ?_
  · rintro pc st_z (⟨rfl, x_z, hx, rfl⟩)
    refine wq_ok srt_seed (fr := []) (cuts := [7]) (J := fun pc st_z => (pc = 7 ∧ (¬ x_z = 0) ∧ st_z = ([(2, 0), (0, s)], [], A))) ?_ 7 4 _ ?_
    · rintro pc st_z (⟨rfl, h0, rfl⟩)
      exact h7 (by rcases hx with ⟨_, e_z⟩ | ⟨e_z, _⟩; exact e_z; omega)
    · refine ⟨fun h0 => ?_, fun h0 => ?_⟩
      · exact ⟨rfl, Or.inl ⟨fun q_z => absurd q_z.1 (by rcases hx with ⟨e_z, _⟩ | ⟨_, e_z⟩; omega; exact e_z), rfl⟩⟩
      · exact ⟨rfl, h0, rfl⟩
  · refine ⟨rfl, ?_⟩
    refine (xa_isSlot).imp ?_
    rintro ⟨r1_z, C_z⟩ ⟨q1_z, x_z, q2_z, hx⟩
    simp only at q1_z q2_z
    subst q1_z
    subst q2_z
    exact ⟨rfl, x_z, hx, rfl⟩
end

section
/-! size, terms, term, least, ones on both sides -/
abbrev inP (p i : Int) : Prop := 0 ≤ i ∧ i < p
def lkC (k : Nat) (A : pm_A) (c : Prop) (v : Int) (r : pm_R) : Prop := (r = (some (k, v), A) ∧ c) ∨ (r = (some (k, 0), A) ∧ ¬ c)
theorem lkC.eq {k : Nat} {A B : pm_A} {c d : Prop} {v w : Int} {q r : pm_R} (hq : lkC k A c v q) (hr : lkC k B d w r) (h : c ↔ d) (e : c → v = w) : q.2 = A ∧ r.2 = B ∧ q.1 = r.1 := by
  rcases hq with ⟨rfl, h1⟩ | ⟨rfl, h1⟩
  · rcases hr with ⟨rfl, h2⟩ | ⟨rfl, h2⟩
    · exact ⟨rfl, rfl, by rw [e h1]⟩
    · exact absurd (h.1 h1) h2
  · rcases hr with ⟨rfl, h2⟩ | ⟨rfl, h2⟩
    · exact absurd (h.2 h2) h1
    · exact ⟨rfl, rfl, rfl⟩
theorem sq_Xsize : pm_srt o_X9_size = true := by decide +kernel
theorem sq_Xterms : pm_srt o_X9_terms = true := by decide +kernel
theorem sq_Xterm : pm_srt o_X9_term = true := by decide +kernel
theorem sq_Xleast : pm_srt o_X9_least = true := by decide +kernel
theorem sq_Xones : pm_srt o_X9_ones = true := by decide +kernel
theorem sq_hasVar : pm_srt o_X8_hasVariable = true := by decide +kernel
theorem sq_Msize : pm_srt o_X10_size = true := by decide +kernel
theorem sq_Mterms : pm_srt o_X10_terms = true := by decide +kernel
theorem sq_Mterm : pm_srt o_X10_term = true := by decide +kernel
theorem sq_Mleast : pm_srt o_X10_least = true := by decide +kernel
theorem sq_MleastOf : pm_srt o_X10_leastOf = true := by decide +kernel
theorem sq_Mones : pm_srt o_X10_ones = true := by decide +kernel
theorem sq_MsumOf : pm_srt o_X10_sumOf = true := by decide +kernel
theorem xsize_ex {A : pm_A} {i : Int} (hS : StE A) (hi : r32 i) (h32 : inP (A 1 0) i → r32 (A 3 i)) : Cl pmt (an_sh wX) 108 [(2, 0), (0, i)] A (lkC 0 A (inP (A 1 0) i) (A 3 i)) := by
  have a1_z := hS.2.1.1.1
  have m8_z : A 1 3 = 3 := (hS.2.2.2.2.2.1 1 (by omega) kk1).2.1
  have p6_z := fX_1_0 hS.1 (r := 1) (by omega) kk1
  have k1_z : 0 ≤ A 0 0 := by rw [a1_z]; omega
  have k2_z : wX.2 (A 0 0) = 1 := by rw [a1_z]; exact kk1
  refine Cl.of (Nat.le_of_ble_eq_true rfl) ?_
  refine wq_ok (full := o_X9_size) sq_Xsize (fr := []) (cuts := []) (J := fun _ _ => False) (fun _ _ h_z => h_z.elim) 30 0 _ ?_
  refine ⟨rX_0 z0 kk0, ?_⟩
  refine (isPlace_ex hS hi).imp ?_
  rintro ⟨r1_z, C_z⟩ ⟨g1, g2⟩
  simp only at g1 g2
  subst g1
  rcases g2 with ⟨rfl, g3_z, g4_z⟩ | ⟨rfl, g3_z⟩
  · refine ⟨fun hh => absurd hh (by decide), fun _ => ?_⟩
    refine ⟨oX_0 z0 kk0 0 rfl, ?_⟩
    refine ⟨oX_1 k1_z k2_z 3 rfl, ?_⟩
    refine ⟨aX_11 (by (try dsimp only); rw [a1_z, m8_z]; omega) (by (try dsimp only); rw [a1_z, m8_z]; exact kk3) g3_z (by omega), ?_⟩
    refine ⟨by (try dsimp only); rw [a1_z, m8_z]; exact h32 ⟨g3_z, g4_z⟩, ?_⟩
    refine ⟨rfl, Or.inl ⟨?_, g3_z, g4_z⟩⟩
    try dsimp only
    rw [a1_z, m8_z] <;> rfl
  · refine ⟨fun _ => ?_, fun hh => absurd rfl hh⟩
    exact ⟨rfl, Or.inr ⟨rfl, g3_z⟩⟩
theorem xterms_ex {A : pm_A} {i : Int} (hS : StE A) (hi : r32 i) : Cl pmt (an_sh wX) 114 [(2, 0), (0, i)] A (lkC 0 A (inP (A 1 0) i) (A (A 4 i) 1)) := by
  have a1_z := hS.2.1.1.1
  have a5 := hS.2.1.1.2.2.2.2.1
  have p6_z := fX_1_0 hS.1 (r := 1) (by omega) kk1
  have k1_z : 0 ≤ A 0 0 := by rw [a1_z]; omega
  have k2_z : wX.2 (A 0 0) = 1 := by rw [a1_z]; exact kk1
  refine Cl.of (Nat.le_of_ble_eq_true rfl) ?_
  refine wq_ok (full := o_X9_terms) sq_Xterms (fr := []) (cuts := []) (J := fun _ _ => False) (fun _ _ h_z => h_z.elim) 30 0 _ ?_
  refine ⟨rX_0 z0 kk0, ?_⟩
  refine (isPlace_ex hS hi).imp ?_
  rintro ⟨r1_z, C_z⟩ ⟨g1, g2⟩
  simp only at g1 g2
  subst g1
  rcases g2 with ⟨rfl, g3_z, g4_z⟩ | ⟨rfl, g3_z⟩
  · refine ⟨fun hh => absurd hh (by decide), fun _ => ?_⟩
    have el := eX_12 hS.1 (r := 4) (by omega) kk4 g3_z (show i < 6 by omega)
    refine ⟨oX_0 z0 kk0 0 rfl, ?_⟩
    refine ⟨oX_1 k1_z k2_z 4 rfl, ?_⟩
    refine ⟨aX_12 (by (try dsimp only); rw [a1_z, a5]; omega) (by (try dsimp only); rw [a1_z, a5]; exact kk4) g3_z (by omega), ?_⟩
    refine ⟨oX_2 (by (try dsimp only); rw [a1_z, a5]; exact el.1) (by (try dsimp only); rw [a1_z, a5]; exact el.2) 1 rfl, ?_⟩
    refine ⟨rfl, Or.inl ⟨?_, g3_z, g4_z⟩⟩
    try dsimp only
    rw [a1_z, a5] <;> rfl
  · refine ⟨fun _ => ?_, fun hh => absurd rfl hh⟩
    exact ⟨rfl, Or.inr ⟨rfl, g3_z⟩⟩
theorem xones_ex {A : pm_A} {i : Int} (hS : StE A) (hi : r32 i) (hf : inP (A 1 0) i → cfX A (A 4 i)) : Cl pmt (an_sh wX) 101 [(2, 0), (0, i)] A (lkC 1 A (inP (A 1 0) i) (smP (A (A (A 4 i) 2)) (A (A 4 i) 1).toNat)) := by
  have a1_z := hS.2.1.1.1
  have a5 := hS.2.1.1.2.2.2.2.1
  have p6_z := fX_1_0 hS.1 (r := 1) (by omega) kk1
  have k1_z : 0 ≤ A 0 0 := by rw [a1_z]; omega
  have k2_z : wX.2 (A 0 0) = 1 := by rw [a1_z]; exact kk1
  refine Cl.of (Nat.le_of_ble_eq_true rfl) ?_
  refine wq_ok (full := o_X9_ones) sq_Xones (fr := []) (cuts := []) (J := fun _ _ => False) (fun _ _ h_z => h_z.elim) 30 0 _ ?_
  refine ⟨rX_0 z0 kk0, ?_⟩
  refine (isPlace_ex hS hi).imp ?_
  rintro ⟨r1_z, C_z⟩ ⟨g1, g2⟩
  simp only at g1 g2
  subst g1
  rcases g2 with ⟨rfl, g3_z, g4_z⟩ | ⟨rfl, g3_z⟩
  · refine ⟨fun hh => absurd hh (by decide), fun _ => ?_⟩
    have el := eX_12 hS.1 (r := 4) (by omega) kk4 g3_z (show i < 6 by omega)
    refine ⟨oX_0 z0 kk0 0 rfl, ?_⟩
    refine ⟨oX_1 k1_z k2_z 4 rfl, ?_⟩
    refine ⟨aX_12 (by (try dsimp only); rw [a1_z, a5]; omega) (by (try dsimp only); rw [a1_z, a5]; exact kk4) g3_z (by omega), ?_⟩
    refine ⟨rX_2 (by (try dsimp only); rw [a1_z, a5]; exact el.1) (by (try dsimp only); rw [a1_z, a5]; exact el.2), ?_⟩
    have hcall := sum_ex hS.1 el (hf ⟨g3_z, g4_z⟩)
    try dsimp only
    rw [a1_z, a5]
    refine hcall.imp ?_
    rintro r_z rfl
    exact ⟨rfl, Or.inl ⟨rfl, g3_z, g4_z⟩⟩
  · refine ⟨fun _ => ?_, fun hh => absurd rfl hh⟩
    exact ⟨rfl, Or.inr ⟨rfl, g3_z⟩⟩
theorem hasVar_ex {A : pm_A} {c v : Int} (hc : 0 ≤ c ∧ wX.2 c = 2) : Cl pmt (an_sh wX) 78 [(2, c), (0, v)] A (fun r_z => (r_z = (some (0, 1), A) ∧ inP (A c 0) v) ∨ (r_z = (some (0, 0), A) ∧ ¬ inP (A c 0) v)) := by
  refine Cl.of (Nat.le_of_ble_eq_true rfl) ?_
  refine wq_ok (full := o_X8_hasVariable) sq_hasVar (fr := []) (cuts := []) (J := fun _ _ => False) (fun _ _ h_z => h_z.elim) 20 0 _ ?_
  refine ⟨fun h0 => ?_, fun h0 => ?_⟩
  · exact ⟨rfl, Or.inr ⟨rfl, fun q_z => by omega⟩⟩
  · refine ⟨oX_2 hc.1 hc.2 0 rfl, ?_⟩
    refine ⟨fun h1 => ?_, fun h1 => ?_⟩
    · exact ⟨rfl, Or.inr ⟨rfl, fun q_z => by omega⟩⟩
    · exact ⟨rfl, Or.inl ⟨rfl, h0, h1⟩⟩
theorem xleast_ex {A : pm_A} {i v w : Int} (hS : StE A) (hi : r32 i) (hw : inP (A 1 0) i → A (A 4 i) 0 = w ∧ 1 ≤ A (A 4 i) 1) : Cl pmt (an_sh wX) 100 [(2, 0), (0, i), (0, v)] A (lkC 0 A (inP (A 1 0) i ∧ inP w v) (mnP (fun q_z => A (A (A 4 i) 3) (q_z * w + v)) ((A (A 4 i) 1).toNat - 1))) := by
  have a1_z := hS.2.1.1.1
  have a5 := hS.2.1.1.2.2.2.2.1
  have p6_z := fX_1_0 hS.1 (r := 1) (by omega) kk1
  have k1_z : 0 ≤ A 0 0 := by rw [a1_z]; omega
  have k2_z : wX.2 (A 0 0) = 1 := by rw [a1_z]; exact kk1
  refine Cl.of (Nat.le_of_ble_eq_true rfl) ?_
  refine wq_ok (full := o_X9_least) sq_Xleast (fr := []) (cuts := []) (J := fun _ _ => False) (fun _ _ h_z => h_z.elim) 40 0 _ ?_
  refine ⟨rX_0 z0 kk0, ?_⟩
  refine (isPlace_ex hS hi).imp ?_
  rintro ⟨r1_z, C_z⟩ ⟨g1, g2⟩
  simp only at g1 g2
  subst g1
  rcases g2 with ⟨rfl, g3_z, g4_z⟩ | ⟨rfl, g3_z⟩
  · refine ⟨fun hh => absurd hh (by decide), fun _ => ?_⟩
    have el := eX_12 hS.1 (r := 4) (by omega) kk4 g3_z (show i < 6 by omega)
    obtain ⟨hw1, hl1⟩ := hw ⟨g3_z, g4_z⟩
    refine ⟨oX_0 z0 kk0 0 rfl, ?_⟩
    refine ⟨oX_1 k1_z k2_z 4 rfl, ?_⟩
    refine ⟨aX_12 (by (try dsimp only); rw [a1_z, a5]; omega) (by (try dsimp only); rw [a1_z, a5]; exact kk4) g3_z (by omega), ?_⟩
    refine ⟨rX_2 (by (try dsimp only); rw [a1_z, a5]; exact el.1) (by (try dsimp only); rw [a1_z, a5]; exact el.2), ?_⟩
    try dsimp only
    rw [a1_z, a5]
    refine (hasVar_ex el).imp ?_
    rintro r_z (⟨rfl, h_z⟩ | ⟨rfl, h_z⟩)
    · rw [hw1] at h_z
      refine ⟨fun hh => absurd hh (by decide), fun _ => ?_⟩
      refine ⟨oX_0 z0 kk0 0 rfl, ?_⟩
      refine ⟨oX_1 k1_z k2_z 4 rfl, ?_⟩
      refine ⟨aX_12 (by (try dsimp only); rw [a1_z, a5]; omega) (by (try dsimp only); rw [a1_z, a5]; exact kk4) g3_z (by omega), ?_⟩
      refine ⟨rX_2 (by (try dsimp only); rw [a1_z, a5]; exact el.1) (by (try dsimp only); rw [a1_z, a5]; exact el.2), ?_⟩
      have hcall := leastPower_ex hS.1 el hl1 h_z.1 (by rw [hw1]; exact h_z.2)
      rw [hw1] at hcall
      try dsimp only
      rw [a1_z, a5]
      refine hcall.imp ?_
      rintro r_z rfl
      exact ⟨rfl, Or.inl ⟨rfl, ⟨g3_z, g4_z⟩, h_z⟩⟩
    · rw [hw1] at h_z
      refine ⟨fun _ => ?_, fun hh => absurd rfl hh⟩
      exact ⟨rfl, Or.inr ⟨rfl, fun q_z => h_z q_z.2⟩⟩
  · refine ⟨fun _ => ?_, fun hh => absurd rfl hh⟩
    exact ⟨rfl, Or.inr ⟨rfl, fun q_z => g3_z q_z.1⟩⟩
def tmP (A : pm_A) (p m w i t v x y : Int) (r : pm_R) : Prop := (r = (some (1, x), A) ∧ (inP p i ∧ inP m t) ∧ v = -1) ∨ (r = (some (1, y), A) ∧ (inP p i ∧ inP m t) ∧ inP w v) ∨ (r = (some (1, 0), A) ∧ ¬ ((inP p i ∧ inP m t) ∧ -1 ≤ v ∧ v < w))
theorem xterm_21 {A : pm_A} {i t v w : Int} (hS : StE A) (hi : inP (A 1 0) i) (hw : A (A 4 i) 0 = w) : Tm pmt (an_sh wX) o_X9_term 21 ([(2, 0), (0, i), (0, t), (0, v), (2, A 4 i)], [], A) (tmP A (A 1 0) (A (A 4 i) 1) w i t v (A (A (A 4 i) 2) t) (A (A (A 4 i) 3) (t * w + v))) := by
  have p6_z := fX_1_0 hS.1 (r := 1) (by omega) kk1
  have el := eX_12 hS.1 (r := 4) (by omega) kk4 hi.1 (show i < 6 by omega)
  have m1_z := fX_2_1 hS.1 el.1 el.2
  have w1_z := fX_2_0 hS.1 el.1 el.2
  have n2_z := fX_2_2 hS.1 el.1 el.2
  have n3_z := fX_2_3 hS.1 el.1 el.2
  rw [hw] at w1_z
  refine wq_ok sq_Xterm (fr := []) (cuts := []) (J := fun _ _ => False) (fun _ _ h_z => h_z.elim) 40 21 _ ?_
  refine ⟨fun h0 => ?_, fun h0 => ?_⟩
  · exact ⟨rfl, Or.inr (Or.inr ⟨rfl, fun q_z => by omega⟩)⟩
  refine ⟨oX_2 el.1 el.2 1 rfl, ?_⟩
  refine ⟨fun h1 => ?_, fun h1 => ?_⟩
  · refine ⟨fun h2 => ?_, fun h2 => ?_⟩
    · refine ⟨rX_2 el.1 el.2, ?_⟩
      refine (hasVar_ex el).imp ?_
      rintro r_z (⟨rfl, h_z⟩ | ⟨rfl, h_z⟩)
      · rw [hw] at h_z
        have hm0 : 0 ≤ t * A (A 4 i) 0 := by rw [hw]; exact Int.mul_nonneg h0 w1_z.1
        have hm1 : t * A (A 4 i) 0 ≤ 199 * w := by rw [hw]; exact Int.mul_le_mul_of_nonneg_right (by omega) w1_z.1
        refine ⟨fun hh => absurd hh (by decide), fun _ => ?_⟩
        refine ⟨oX_2 el.1 el.2 3 rfl, ?_⟩
        refine ⟨oX_2 el.1 el.2 0 rfl, ?_⟩
        refine ⟨⟨by dsimp only; omega, by dsimp only; omega⟩, ?_⟩
        refine ⟨⟨by dsimp only; omega, by dsimp only; omega⟩, ?_⟩
        refine ⟨aX_15 n3_z.1 n3_z.2 (by dsimp only; omega) (by dsimp only; omega), ?_⟩
        refine ⟨rfl, Or.inr (Or.inl ⟨?_, ⟨hi, h0, h1⟩, h_z⟩)⟩
        try dsimp only
        rw [hw] <;> rfl
      · rw [hw] at h_z
        refine ⟨fun _ => ?_, fun hh => absurd rfl hh⟩
        exact ⟨rfl, Or.inr (Or.inr ⟨rfl, fun q_z => h_z ⟨by omega, q_z.2.2⟩⟩)⟩
    · refine ⟨oX_2 el.1 el.2 2 rfl, ?_⟩
      refine ⟨aX_14 n2_z.1 n2_z.2 h0 (by omega), ?_⟩
      exact ⟨rfl, Or.inl ⟨rfl, ⟨hi, h0, h1⟩, h2⟩⟩
  · exact ⟨rfl, Or.inr (Or.inr ⟨rfl, fun q_z => by omega⟩)⟩
theorem xterm_ex {A : pm_A} {i t v w : Int} (hS : StE A) (hi : r32 i) (hw : inP (A 1 0) i → A (A 4 i) 0 = w) : Cl pmt (an_sh wX) 113 [(2, 0), (0, i), (0, t), (0, v)] A (tmP A (A 1 0) (A (A 4 i) 1) w i t v (A (A (A 4 i) 2) t) (A (A (A 4 i) 3) (t * w + v))) := by
  have a1_z := hS.2.1.1.1
  have a5 := hS.2.1.1.2.2.2.2.1
  have p6_z := fX_1_0 hS.1 (r := 1) (by omega) kk1
  have k1_z : 0 ≤ A 0 0 := by rw [a1_z]; omega
  have k2_z : wX.2 (A 0 0) = 1 := by rw [a1_z]; exact kk1
  refine Cl.of (Nat.le_of_ble_eq_true rfl) ?_
  refine wq_ok (full := o_X9_term) sq_Xterm (fr := []) (cuts := [21]) (J := fun pc st_z => pc = 21 ∧ inP (A 1 0) i ∧ st_z = ([(2, 0), (0, i), (0, t), (0, v), (2, A 4 i)], [], A)) ?_ 30 0 _ ?_
  · rintro pc st_z ⟨rfl, h_z, rfl⟩
    exact xterm_21 hS h_z (hw h_z)
  · refine ⟨rX_0 z0 kk0, ?_⟩
    refine (isPlace_ex hS hi).imp ?_
    rintro ⟨r1_z, C_z⟩ ⟨g1, g2⟩
    simp only at g1 g2
    subst g1
    rcases g2 with ⟨rfl, g3_z, g4_z⟩ | ⟨rfl, g3_z⟩
    · refine ⟨fun _ => ?_, fun hh => absurd hh (by decide)⟩
      refine ⟨oX_0 z0 kk0 0 rfl, ?_⟩
      refine ⟨oX_1 k1_z k2_z 4 rfl, ?_⟩
      refine ⟨aX_12 (by (try dsimp only); rw [a1_z, a5]; omega) (by (try dsimp only); rw [a1_z, a5]; exact kk4) g3_z (by omega), ?_⟩
      refine ⟨rfl, ⟨g3_z, g4_z⟩, ?_⟩
      try dsimp only
      rw [a1_z, a5] <;> rfl
    · refine ⟨fun hh => absurd rfl hh, fun _ => ?_⟩
      exact ⟨rfl, Or.inr (Or.inr ⟨rfl, fun q_z => g3_z q_z.1.1⟩)⟩
theorem msize_ex {A : pm_A} {i : Int} (hg : gH wM A) : Cl pmt (an_sh wM) 184 [(2, 0), (0, i)] A (lkC 0 A (inP (A 0 7) i) (A 10 i)) := by
  have p7_z := fM_0_7 hg (r := 0) (by omega) km0
  have c17_z := pM_17 hg
  refine Cl.of (Nat.le_of_ble_eq_true rfl) ?_
  refine wq_ok (full := o_X10_size) sq_Msize (fr := []) (cuts := []) (J := fun _ _ => False) (fun _ _ h_z => h_z.elim) 30 0 _ ?_
  refine ⟨fun h0 => ?_, fun h0 => ?_⟩
  · exact ⟨rfl, Or.inr ⟨rfl, fun q_z => by omega⟩⟩
  · refine ⟨oM_0 (by omega) km0 7 rfl, ?_⟩
    refine ⟨fun h1 => ?_, fun h1 => ?_⟩
    · refine ⟨oM_0 (by omega) km0 17 rfl, ?_⟩
      refine ⟨aM_10 (r := A 0 17) (by rw [c17_z]; omega) (by rw [c17_z]; exact kn10) h0 (by omega), ?_⟩
      refine ⟨rfl, Or.inl ⟨?_, h0, h1⟩⟩
      rw [c17_z] <;> rfl
    · exact ⟨rfl, Or.inr ⟨rfl, fun q_z => by omega⟩⟩
theorem mterms_ex {A : pm_A} {i : Int} (hg : gH wM A) : Cl pmt (an_sh wM) 194 [(2, 0), (0, i)] A (lkC 0 A (inP (A 0 7) i) (A 1 i)) := by
  have p7_z := fM_0_7 hg (r := 0) (by omega) km0
  have c1_z := pM_1 hg
  refine Cl.of (Nat.le_of_ble_eq_true rfl) ?_
  refine wq_ok (full := o_X10_terms) sq_Mterms (fr := []) (cuts := []) (J := fun _ _ => False) (fun _ _ h_z => h_z.elim) 30 0 _ ?_
  refine ⟨fun h0 => ?_, fun h0 => ?_⟩
  · exact ⟨rfl, Or.inr ⟨rfl, fun q_z => by omega⟩⟩
  · refine ⟨oM_0 (by omega) km0 7 rfl, ?_⟩
    refine ⟨fun h1 => ?_, fun h1 => ?_⟩
    · refine ⟨oM_0 (by omega) km0 1 rfl, ?_⟩
      refine ⟨aM_1 (r := A 0 1) (by rw [c1_z]; omega) (by rw [c1_z]; exact kn1) h0 (by omega), ?_⟩
      refine ⟨rfl, Or.inl ⟨?_, h0, h1⟩⟩
      rw [c1_z] <;> rfl
    · exact ⟨rfl, Or.inr ⟨rfl, fun q_z => by omega⟩⟩
theorem mterm_ex {A : pm_A} {i t v : Int} (hg : gH wM A) : Cl pmt (an_sh wM) 193 [(2, 0), (0, i), (0, t), (0, v)] A (tmP A (A 0 7) (A 1 i) (A 0 7 + A 0 8) i t v (A 2 (200 * i + t)) (A 3 (12 * (200 * i + t) + v))) := by
  have p7_z := fM_0_7 hg (r := 0) (by omega) km0
  have p8 := fM_0_8 hg (r := 0) (by omega) km0
  have c1_z := pM_1 hg
  have c2_z := pM_2 hg
  have c3_z := pM_3 hg
  refine Cl.of (Nat.le_of_ble_eq_true rfl) ?_
  refine wq_ok (full := o_X10_term) sq_Mterm (fr := []) (cuts := []) (J := fun _ _ => False) (fun _ _ h_z => h_z.elim) 60 0 _ ?_
  refine ⟨fun h0 => ?_, fun h0 => ?_⟩
  · exact ⟨rfl, Or.inr (Or.inr ⟨rfl, fun q_z => by omega⟩)⟩
  refine ⟨oM_0 (by omega) km0 7 rfl, ?_⟩
  refine ⟨fun h1 => ?_, fun h1 => ?_⟩
  · exact ⟨rfl, Or.inr (Or.inr ⟨rfl, fun q_z => by omega⟩)⟩
  refine ⟨fun h2 => ?_, fun h2 => ?_⟩
  · exact ⟨rfl, Or.inr (Or.inr ⟨rfl, fun q_z => by omega⟩)⟩
  refine ⟨oM_0 (by omega) km0 1 rfl, ?_⟩
  refine ⟨aM_1 (r := A 0 1) (by rw [c1_z]; omega) (by rw [c1_z]; exact kn1) h0 (by omega), ?_⟩
  have e1_z : A (A 0 1) i = A 1 i := by rw [c1_z]
  have m_z := eM_1 hg (r := 1) (by omega) kn1 (j := i) h0 (by omega)
  refine ⟨fun h3 => ?_, fun h3 => ?_⟩
  · exact ⟨rfl, Or.inr (Or.inr ⟨rfl, fun q_z => by omega⟩)⟩
  refine ⟨fun h4 => ?_, fun h4 => ?_⟩
  · exact ⟨rfl, Or.inr (Or.inr ⟨rfl, fun q_z => by omega⟩)⟩
  refine ⟨oM_0 (by omega) km0 7 rfl, ?_⟩
  refine ⟨oM_0 (by omega) km0 8 rfl, ?_⟩
  refine ⟨⟨by omega, by omega⟩, ?_⟩
  refine ⟨fun h5 => ?_, fun h5 => ?_⟩
  · refine ⟨fun h6 => ?_, fun h6 => ?_⟩
    · refine ⟨oM_0 (by omega) km0 3 rfl, ?_⟩
      refine ⟨⟨by omega, by omega⟩, ?_⟩
      refine ⟨⟨by omega, by omega⟩, ?_⟩
      refine ⟨⟨by omega, by omega⟩, ?_⟩
      refine ⟨⟨by omega, by omega⟩, ?_⟩
      refine ⟨aM_3 (r := A 0 3) (by rw [c3_z]; omega) (by rw [c3_z]; exact kn3) (by omega) (by omega), ?_⟩
      refine ⟨rfl, Or.inr (Or.inl ⟨?_, ⟨⟨h0, h1⟩, h2, by omega⟩, by omega, h5⟩)⟩
      rw [c3_z] <;> rfl
    · refine ⟨oM_0 (by omega) km0 2 rfl, ?_⟩
      refine ⟨⟨by omega, by omega⟩, ?_⟩
      refine ⟨⟨by omega, by omega⟩, ?_⟩
      refine ⟨aM_2 (r := A 0 2) (by rw [c2_z]; omega) (by rw [c2_z]; exact kn2) (by omega) (by omega), ?_⟩
      refine ⟨rfl, Or.inl ⟨?_, ⟨⟨h0, h1⟩, h2, by omega⟩, h6⟩⟩
      rw [c2_z] <;> rfl
  · exact ⟨rfl, Or.inr (Or.inr ⟨rfl, fun q_z => by omega⟩)⟩
theorem ms_5 {A : pm_A} {i : Int} (hg : gH wM A) (i0 : 0 ≤ i) (i1 : i < 152) (hf : cfs A i) : ∀ (m_z t_z : Nat), 200 - t_z < m_z → (t_z : Int) ≤ A 1 i → Tm pmt (an_sh wM) o_X10_sumOf 5 ([(2, 0), (0, i), (1, smP (fun q_z => A 2 (200 * i + q_z)) t_z), (9, 0), (0, (t_z : Int))], [], A) (fun r_z => r_z = (some (1, smP (fun q_z => A 2 (200 * i + q_z)) (A 1 i).toNat), A)) := by
  have c1_z := pM_1 hg
  have c2_z := pM_2 hg
  have hm_z := eM_1 hg (r := 1) (by omega) kn1 (j := i) i0 (by omega)
  have e1_z : A (A 0 1) i = A 1 i := by rw [c1_z]
  intro m_z
  induction m_z with
  | zero => intro t_z h_z; omega
  | succ m_z ih_z =>
    intro t_z hm_z t1_z
    refine wq_ok sq_MsumOf (fr := []) (cuts := [5]) (J := fun pc st_z => pc = 5 ∧ (t_z : Int) < A 1 i ∧ st_z = ([(2, 0), (0, i), (1, smP (fun q_z => A 2 (200 * i + q_z)) t_z + A 2 (200 * i + (t_z : Int))), (9, 0), (0, (t_z : Int) + 1)], [], A)) ?_ 30 5 _ ?_
    · rintro pc st_z ⟨rfl, h1, rfl⟩
      rw [show (t_z : Int) + 1 = ((t_z + 1 : Nat) : Int) by omega]
      exact ih_z (t_z + 1) (by omega) (by omega)
    · refine ⟨oM_0 (by omega) km0 1 rfl, ?_⟩
      refine ⟨aM_1 (r := A 0 1) (by rw [c1_z]; omega) (by rw [c1_z]; exact kn1) i0 (by omega), ?_⟩
      refine ⟨fun h_z => ?_, fun h_z => ?_⟩
      · have e_z : t_z = (A 1 i).toNat := by omega
        exact ⟨rfl, by rw [e_z]⟩
      · have b_z := smP_b (f := fun q_z => A 2 (200 * i + q_z)) t_z (by omega) (fun q_z q0 q1_z => hf q_z q0 (by omega))
        have b2 := hf t_z (by omega) (by omega)
        refine ⟨oM_0 (by omega) km0 2 rfl, ?_⟩
        refine ⟨⟨by omega, by omega⟩, ?_⟩
        refine ⟨⟨by omega, by omega⟩, ?_⟩
        refine ⟨aM_2 (r := A 0 2) (by rw [c2_z]; omega) (by rw [c2_z]; exact kn2) (by omega) (by omega), ?_⟩
        rw [c2_z]
        refine ⟨⟨by omega, by omega⟩, ?_⟩
        refine ⟨⟨by omega, by omega⟩, ?_⟩
        exact ⟨rfl, by omega, rfl⟩
theorem msum_ex {A : pm_A} {i : Int} (hg : gH wM A) (i0 : 0 ≤ i) (i1 : i < 152) (hf : cfs A i) : Cl pmt (an_sh wM) 186 [(2, 0), (0, i)] A (fun r_z => r_z = (some (1, smP (fun q_z => A 2 (200 * i + q_z)) (A 1 i).toNat), A)) := by
  have hm_z := eM_1 hg (r := 1) (by omega) kn1 (j := i) i0 (by omega)
  refine Cl.of (Nat.le_of_ble_eq_true rfl) ?_
  refine wq_ok (full := o_X10_sumOf) sq_MsumOf (fr := []) (cuts := [5]) (J := fun pc st_z => pc = 5 ∧ st_z = ([(2, 0), (0, i), (1, 0), (9, 0), (0, 0)], [], A)) ?_ 20 0 _ ?_
  · rintro pc st_z ⟨rfl, rfl⟩
    exact ms_5 hg i0 i1 hf _ 0 (Nat.lt_succ_self _) (by omega)
  · exact ⟨rfl, rfl⟩
theorem mones_ex {A : pm_A} {i : Int} (hg : gH wM A) (hf : inP (A 0 7) i → cfs A i) : Cl pmt (an_sh wM) 169 [(2, 0), (0, i)] A (lkC 1 A (inP (A 0 7) i) (smP (fun q_z => A 2 (200 * i + q_z)) (A 1 i).toNat)) := by
  have p7_z := fM_0_7 hg (r := 0) (by omega) km0
  refine Cl.of (Nat.le_of_ble_eq_true rfl) ?_
  refine wq_ok (full := o_X10_ones) sq_Mones (fr := []) (cuts := []) (J := fun _ _ => False) (fun _ _ h_z => h_z.elim) 30 0 _ ?_
  refine ⟨fun h0 => ?_, fun h0 => ?_⟩
  · exact ⟨rfl, Or.inr ⟨rfl, fun q_z => by omega⟩⟩
  · refine ⟨oM_0 (by omega) km0 7 rfl, ?_⟩
    refine ⟨fun h1 => ?_, fun h1 => ?_⟩
    · refine ⟨rM_0 (by omega) km0, ?_⟩
      refine (msum_ex hg h0 (by omega) (hf ⟨h0, h1⟩)).imp ?_
      rintro r_z rfl
      exact ⟨rfl, Or.inl ⟨rfl, h0, h1⟩⟩
    · exact ⟨rfl, Or.inr ⟨rfl, fun q_z => by omega⟩⟩
theorem ml_16 {A : pm_A} {i v : Int} (hg : gH wM A) (i0 : 0 ≤ i) (i1 : i < 152) (h1 : 1 ≤ A 1 i) (v0 : 0 ≤ v) (v1 : v < 12) : ∀ (m_z t_z : Nat), 200 - t_z < m_z → 1 ≤ t_z → (t_z : Int) ≤ A 1 i → Tm pmt (an_sh wM) o_X10_leastOf 16 ([(2, 0), (0, i), (0, v), (0, mnP (fun q_z => A 3 (12 * (200 * i + q_z) + v)) (t_z - 1)), (0, (t_z : Int))], [], A) (fun r_z => r_z = (some (0, mnP (fun q_z => A 3 (12 * (200 * i + q_z) + v)) ((A 1 i).toNat - 1)), A)) := by
  have c1_z := pM_1 hg
  have c3_z := pM_3 hg
  have hm_z := eM_1 hg (r := 1) (by omega) kn1 (j := i) i0 (by omega)
  have e1_z : A (A 0 1) i = A 1 i := by rw [c1_z]
  intro m_z
  induction m_z with
  | zero => intro t_z h_z; omega
  | succ m_z ih_z =>
    intro t_z hm_z t0_z t1_z
    have st1_z : mnP (fun q_z => A 3 (12 * (200 * i + q_z) + v)) t_z = min (mnP (fun q_z => A 3 (12 * (200 * i + q_z) + v)) (t_z - 1)) (A 3 (12 * (200 * i + (t_z : Int)) + v)) := by
      obtain ⟨u_z, rfl⟩ : ∃ u_z : Nat, t_z = u_z + 1 := ⟨t_z - 1, by omega⟩
      show min (mnP (fun q_z => A 3 (12 * (200 * i + q_z) + v)) u_z) (A 3 (12 * (200 * i + ((u_z : Int) + 1)) + v)) = _
      rw [show ((u_z + 1 : Nat) : Int) = (u_z : Int) + 1 by omega, show u_z + 1 - 1 = u_z by omega]
    refine wq_ok sq_MleastOf (fr := []) (cuts := [16]) (J := fun pc st_z => pc = 16 ∧ (t_z : Int) < A 1 i ∧ st_z = ([(2, 0), (0, i), (0, v), (0, min (mnP (fun q_z => A 3 (12 * (200 * i + q_z) + v)) (t_z - 1)) (A 3 (12 * (200 * i + (t_z : Int)) + v))), (0, (t_z : Int) + 1)], [], A)) ?_ 40 16 _ ?_
    · rintro pc st_z ⟨rfl, h2, rfl⟩
      rw [← st1_z, show (t_z : Int) + 1 = ((t_z + 1 : Nat) : Int) by omega]
      exact ih_z (t_z + 1) (by omega) (by omega) (by omega)
    · refine ⟨oM_0 (by omega) km0 1 rfl, ?_⟩
      refine ⟨aM_1 (r := A 0 1) (by rw [c1_z]; omega) (by rw [c1_z]; exact kn1) i0 (by omega), ?_⟩
      refine ⟨fun h_z => ?_, fun h_z => ?_⟩
      · have e_z : t_z = (A 1 i).toNat := by omega
        exact ⟨rfl, by rw [e_z]⟩
      · refine ⟨oM_0 (by omega) km0 3 rfl, ?_⟩
        refine ⟨⟨by omega, by omega⟩, ?_⟩
        refine ⟨⟨by omega, by omega⟩, ?_⟩
        refine ⟨⟨by omega, by omega⟩, ?_⟩
        refine ⟨⟨by omega, by omega⟩, ?_⟩
        refine ⟨aM_3 (r := A 0 3) (by rw [c3_z]; omega) (by rw [c3_z]; exact kn3) (by omega) (by omega), ?_⟩
        rw [c3_z]
        refine ⟨rfl, ?_⟩
        refine lesser_ex.imp ?_
        rintro r_z rfl
        refine ⟨⟨by omega, by omega⟩, ?_⟩
        exact ⟨rfl, by omega, rfl⟩
theorem mleastOf_ex {A : pm_A} {i v : Int} (hg : gH wM A) (i0 : 0 ≤ i) (i1 : i < 152) (h1 : 1 ≤ A 1 i) (v0 : 0 ≤ v) (v1 : v < 12) : Cl pmt (an_sh wM) 163 [(2, 0), (0, i), (0, v)] A (fun r_z => r_z = (some (0, mnP (fun q_z => A 3 (12 * (200 * i + q_z) + v)) ((A 1 i).toNat - 1)), A)) := by
  have hm_z := eM_1 hg (r := 1) (by omega) kn1 (j := i) i0 (by omega)
  have c3_z := pM_3 hg
  refine Cl.of (Nat.le_of_ble_eq_true rfl) ?_
  refine wq_ok (full := o_X10_leastOf) sq_MleastOf (fr := []) (cuts := [16]) (J := fun pc st_z => pc = 16 ∧ st_z = ([(2, 0), (0, i), (0, v), (0, A 3 (2400 * i + v)), (0, 1)], [], A)) ?_ 20 0 _ ?_
  · rintro pc st_z ⟨rfl, rfl⟩
    have h2 := ml_16 hg i0 i1 h1 v0 v1 _ 1 (Nat.lt_succ_self _) (by omega) (by omega)
    have e_z : mnP (fun q_z => A 3 (12 * (200 * i + q_z) + v)) (1 - 1) = A 3 (2400 * i + v) := by
      show A 3 (12 * (200 * i + 0) + v) = _
      rw [show 12 * (200 * i + 0) + v = 2400 * i + v by omega]
    rw [e_z] at h2
    exact h2
  · refine ⟨oM_0 (by omega) km0 3 rfl, ?_⟩
    refine ⟨⟨by omega, by omega⟩, ?_⟩
    refine ⟨⟨by omega, by omega⟩, ?_⟩
    refine ⟨aM_3 (r := A 0 3) (by rw [c3_z]; omega) (by rw [c3_z]; exact kn3) (by omega) (by omega), ?_⟩
    rw [c3_z]
    exact ⟨rfl, rfl⟩
theorem mleast_ex {A : pm_A} {i v : Int} (hg : gH wM A) (h1 : inP (A 0 7) i → 1 ≤ A 1 i) : Cl pmt (an_sh wM) 162 [(2, 0), (0, i), (0, v)] A (lkC 0 A (inP (A 0 7) i ∧ inP (A 0 7 + A 0 8) v) (mnP (fun q_z => A 3 (12 * (200 * i + q_z) + v)) ((A 1 i).toNat - 1))) := by
  have p7_z := fM_0_7 hg (r := 0) (by omega) km0
  have p8 := fM_0_8 hg (r := 0) (by omega) km0
  refine Cl.of (Nat.le_of_ble_eq_true rfl) ?_
  refine wq_ok (full := o_X10_least) sq_Mleast (fr := []) (cuts := []) (J := fun _ _ => False) (fun _ _ h_z => h_z.elim) 40 0 _ ?_
  refine ⟨fun h0 => ?_, fun h0 => ?_⟩
  · exact ⟨rfl, Or.inr ⟨rfl, fun q_z => by omega⟩⟩
  refine ⟨oM_0 (by omega) km0 7 rfl, ?_⟩
  refine ⟨fun h2 => ?_, fun h2 => ?_⟩
  · exact ⟨rfl, Or.inr ⟨rfl, fun q_z => by omega⟩⟩
  refine ⟨fun h3 => ?_, fun h3 => ?_⟩
  · exact ⟨rfl, Or.inr ⟨rfl, fun q_z => by omega⟩⟩
  refine ⟨oM_0 (by omega) km0 7 rfl, ?_⟩
  refine ⟨oM_0 (by omega) km0 8 rfl, ?_⟩
  refine ⟨⟨by omega, by omega⟩, ?_⟩
  refine ⟨fun h4 => ?_, fun h4 => ?_⟩
  · refine ⟨rM_0 (by omega) km0, ?_⟩
    refine (mleastOf_ex hg h0 (by omega) (h1 ⟨h0, h2⟩) h3 (by omega)).imp ?_
    rintro r_z rfl
    exact ⟨rfl, Or.inl ⟨rfl, ⟨h0, h2⟩, h3, h4⟩⟩
  · exact ⟨rfl, Or.inr ⟨rfl, fun q_z => by omega⟩⟩
/-- what both sides say of a letter -/
theorem rl_one {s : cx_Sd 12} {ks : List (Fin 12)} {AX AM : pm_A} (h : RL0 s ks AX AM) {i : Int} (hi : inP (AX 1 0) i) : 1 ≤ AM 1 i ∧ cfs AM i ∧ cfX AX (AX 4 i) := by
  have p6_z := fX_1_0 h.1.1 (r := 1) (by omega) kk1
  have a5 := h.1.2.1.1.2.2.2.2.1
  have e7_z := h.2.2.2.1
  obtain ⟨f_z, hf⟩ : ∃ f_z : Fin 12, i = (f_z.1 : Int) := ⟨⟨i.toNat, by omega⟩, by show i = ((i.toNat : Nat) : Int); omega⟩
  have h1 := h.2.1.one (i := f_z) (by rw [← hf]; exact hi.2)
  have h2 := (h.at hi.1 hi.2).1.1
  rw [a5, ← hf, h2] at h1
  have h3 := (h.2.2.1.2.2.2.2.2.2 f_z (by rw [← hf]; omega)).2.1
  have h4 := (h.2.1.2.2.2.2.2.2.2 f_z (by rw [← hf]; exact hi.2)).2.1
  rw [← hf] at h3 h4
  rw [a5] at h4
  exact ⟨h1, h3, h4⟩
theorem rl_terms {s : cx_Sd 12} {ks : List (Fin 12)} {AX AM : pm_A} {i : Int} {q r : pm_R} (h : RL0 s ks AX AM) (hq : lkC 0 AX (inP (AX 1 0) i) (AX (AX 4 i) 1) q) (hr : lkC 0 AM (inP (AM 0 7) i) (AM 1 i) r) : q.2 = AX ∧ r.2 = AM ∧ q.1 = r.1 :=
  hq.eq hr (by rw [h.2.2.2.1]) (fun hi_z => (h.at hi_z.1 hi_z.2).1.1)
theorem rl_ones {s : cx_Sd 12} {ks : List (Fin 12)} {AX AM : pm_A} {i : Int} {q r : pm_R} (h : RL0 s ks AX AM) (hq : lkC 1 AX (inP (AX 1 0) i) (smP (AX (AX (AX 4 i) 2)) (AX (AX 4 i) 1).toNat) q) (hr : lkC 1 AM (inP (AM 0 7) i) (smP (fun q_z => AM 2 (200 * i + q_z)) (AM 1 i).toNat) r) : q.2 = AX ∧ r.2 = AM ∧ q.1 = r.1 :=
  hq.eq hr (by rw [h.2.2.2.1]) (fun hi_z => by
    have h1 := h.at hi_z.1 hi_z.2
    have h2 := (rl_one h hi_z).1
    rw [h1.1.1]
    exact smP_c _ (fun q_z q0 q1_z => (h1.2 q_z q0 (by omega)).1))
theorem rl_least {s : cx_Sd 12} {ks : List (Fin 12)} {AX AM : pm_A} {i v : Int} {q r : pm_R} (h : RL0 s ks AX AM) (hq : lkC 0 AX (inP (AX 1 0) i ∧ inP (AM 0 7 + AM 0 8) v) (mnP (fun q_z => AX (AX (AX 4 i) 3) (q_z * (AM 0 7 + AM 0 8) + v)) ((AX (AX 4 i) 1).toNat - 1)) q) (hr : lkC 0 AM (inP (AM 0 7) i ∧ inP (AM 0 7 + AM 0 8) v) (mnP (fun q_z => AM 3 (12 * (200 * i + q_z) + v)) ((AM 1 i).toNat - 1)) r) : q.2 = AX ∧ r.2 = AM ∧ q.1 = r.1 :=
  hq.eq hr (by rw [h.2.2.2.1]) (fun hi_z => by
    have h1 := h.at hi_z.1.1 hi_z.1.2
    have h2 := (rl_one h hi_z.1).1
    rw [h1.1.1]
    exact mnP_c _ (fun q_z q0 q1_z => (h1.2 q_z q0 (by omega)).2 v hi_z.2.1 hi_z.2.2))
theorem rl_term {s : cx_Sd 12} {ks : List (Fin 12)} {AX AM : pm_A} {i t v : Int} {q r : pm_R} (h : RL0 s ks AX AM) (hq : tmP AX (AX 1 0) (AX (AX 4 i) 1) (AM 0 7 + AM 0 8) i t v (AX (AX (AX 4 i) 2) t) (AX (AX (AX 4 i) 3) (t * (AM 0 7 + AM 0 8) + v)) q) (hr : tmP AM (AM 0 7) (AM 1 i) (AM 0 7 + AM 0 8) i t v (AM 2 (200 * i + t)) (AM 3 (12 * (200 * i + t) + v)) r) : q.2 = AX ∧ r.2 = AM ∧ q.1 = r.1 := by
  have e7_z := h.2.2.2.1
  have p7_z := fM_0_7 h.2.2.1.1 (r := 0) (by omega) km0
  have p8 := fM_0_8 h.2.2.1.1 (r := 0) (by omega) km0
  have hl : inP (AM 0 7) i → AX (AX 4 i) 1 = AM 1 i := fun hi_z => (h.at hi_z.1 (by omega)).1.1
  rw [e7_z] at hq
  rcases hq with ⟨rfl, h1, h2⟩ | ⟨rfl, h1, h2⟩ | ⟨rfl, h1⟩
  · rw [hl h1.1] at h1
    rcases hr with ⟨rfl, g1, g2⟩ | ⟨rfl, g1, g2⟩ | ⟨rfl, g1⟩
    · exact ⟨rfl, rfl, by rw [((h.at h1.1.1 (by omega)).2 t h1.2.1 h1.2.2).1]⟩
    · omega
    · exact absurd ⟨h1, by omega⟩ g1
  · rw [hl h1.1] at h1
    rcases hr with ⟨rfl, g1, g2⟩ | ⟨rfl, g1, g2⟩ | ⟨rfl, g1⟩
    · omega
    · exact ⟨rfl, rfl, by rw [((h.at h1.1.1 (by omega)).2 t h1.2.1 h1.2.2).2 v h2.1 h2.2]⟩
    · exact absurd ⟨h1, by omega⟩ g1
  · rcases hr with ⟨rfl, g1, g2⟩ | ⟨rfl, g1, g2⟩ | ⟨rfl, g1⟩
    · rw [← hl g1.1] at g1
      exact absurd ⟨g1, by omega⟩ h1
    · rw [← hl g1.1] at g1
      exact absurd ⟨g1, by omega⟩ h1
    · exact ⟨rfl, rfl, rfl⟩
end

section
/-! the reference's begin and seed, with the seed that they begin -/
theorem gpF_rf {A : pm_A} (h : gH wM A) : gpF A A := ⟨h, fun _ _ _ _ _ => rfl⟩
def bz3 (A : pm_A) (r : pm_R) : Prop := ri_post r ∧ ∃ x_z, r.1 = some (0, x_z) ∧ bgA (A 0 12) (A 7) x_z ∧ ((x_z = 0 ∧ lsz (A 0 12) (A 7) (r.2 10) ∧ ∃ B_z, gpF A B_z ∧ szd B_z ∧ bgJ B_z r.2) ∨ (¬ x_z = 0 ∧ gpF A r.2))
theorem mqc_125 {A : pm_A} (h : RI A) (hT : tz A) (p1 : 1 ≤ A 0 12) (hdg : dgz (A 0 12) (A 7)) (hsk : skz (A 0 12) (A 7)) {w1 w2 w3 w4 : pm_V} : Tm pmt (an_sh wM) o_X10_begin 125 ([(2, 0), w1, w2, w3, w4], [], A) (bz3 A) := by
  have p12 := fM_0_12 h.g (r := 0) (by omega) km0
  refine wq_ok srt_Mbegin (fr := []) (cuts := [129]) (J := fun pc st_z => (pc = 129 ∧ ∃ B_z x_z, gpF A B_z ∧ ((x_z = 0 ∧ ∀ d_z, ¬ sy (A 0 12) (A 7) d_z) ∨ (¬ x_z = 0 ∧ szd B_z ∧ ∀ d_z, sy (A 0 12) (A 7) d_z → ∀ i_z : Int, 0 ≤ i_z → i_z < A 0 12 → ∃ c_z, d_z i_z = c_z * B_z 8 i_z)) ∧ st_z = ([(2, 0), w1, w2, w3, w4], [(0, x_z)], B_z))) ?_ 6 125 _ ?_
  · rintro pc st_z (⟨rfl, B_z, x_z, q1_z, q3_z, rfl⟩)
    have hB_z : RI B_z := h.typed q1_z.1 q1_z.fr rfl
    have f12_z : B_z 0 12 = A 0 12 := q1_z.2 0 12 (by omega) (by omega) (by omega)
    refine wq_ok srt_Mbegin (fr := []) (cuts := [138]) (J := fun pc st_z => (pc = 138 ∧ szd B_z ∧ ∃ C_z, bgJ B_z C_z ∧ lsz (A 0 12) (A 7) (C_z 10) ∧ st_z = ([(2, 0), w1, w2, w3, w4], [], C_z))) ?_ 7 129 _ ?_
    · rintro pc st_z (⟨rfl, q3_z, C_z, y2, y3, rfl⟩)
      refine wq_ok srt_Mbegin (fr := []) (cuts := []) (J := fun _ _ => False) ?_ 6 138 _ ?_
      · intro pc st_z h; exact h.elim
      · exact ⟨rfl, ⟨⟨_, rfl⟩, bg_ri hB_z q3_z (by omega) y2⟩, 0, rfl, Or.inr ⟨p1, Or.inr (Or.inr (Or.inr ⟨rfl, hdg, hsk, _, y3.2.1⟩))⟩, Or.inl ⟨rfl, y3, B_z, q1_z, q3_z, y2⟩⟩
    · refine ⟨fun h0 => ?_, fun h0 => ?_⟩
      · refine ⟨rM_0 (by omega) km0, ?_⟩
        rcases q3_z with q3_z | ⟨q3_z, q4_z, q5_z⟩
        · exact absurd q3_z.1 h0
        refine (begins_ex2 hB_z.g q4_z).imp ?_
        rintro ⟨r1_z, C_z⟩ ⟨⟨y1, y2⟩, y3⟩
        simp only at y1 y2 y3
        subst y1
        exact ⟨rfl, q4_z, C_z, y2, lsz_of f12_z (fun x_z => q1_z.2 7 x_z (by omega) (by omega) (by omega)) q4_z q5_z y3, rfl⟩
      · rcases q3_z with q3_z | ⟨q3_z, q4_z, q5_z⟩
        · exact ⟨rfl, ⟨⟨_, rfl⟩, hB_z⟩, 3, rfl, Or.inr ⟨p1, Or.inr (Or.inr (Or.inl ⟨rfl, hdg, hsk, q3_z.2⟩))⟩, Or.inr ⟨by omega, q1_z⟩⟩
        · exact absurd h0 q3_z
  · refine ⟨rM_0 (by omega) km0, ?_⟩
    refine (hasSizes_ex2 h.g hT p12.2).imp ?_
    rintro ⟨r1_z, B_z⟩ ⟨q1_z, x_z, q2_z, q3_z⟩
    simp only at q1_z q2_z q3_z
    subst q2_z
    exact ⟨rfl, B_z, x_z, q1_z, q3_z, rfl⟩
theorem mqc_51 {A : pm_A} (h : RI A) {i : Int} (i0 : 0 ≤ i) (i1 : i < A 0 12) (p6 : A 0 12 ≤ 6) (hdg : dgz (A 0 12) (A 7)) (H : (∀ j_z : Int, 0 ≤ j_z → j_z < A 0 12 → gdz (A 7 (6 * i + j_z)) (A 7 (6 * j_z + i))) → ∀ w2_z w3_z w4_z, Tm pmt (an_sh wM) o_X10_begin 41 ([(2, 0), (0, i + 1), w2_z, w3_z, w4_z], [], A) (bz3 A)) : ∀ (m_z : Nat) (j_z : Int) (w3_z w4_z : pm_V), (6 - j_z).toNat < m_z → 0 ≤ j_z → j_z ≤ 6 → (∀ k_z : Int, 0 ≤ k_z → k_z < j_z → k_z < A 0 12 → gdz (A 7 (6 * i + k_z)) (A 7 (6 * k_z + i))) → Tm pmt (an_sh wM) o_X10_begin 51 ([(2, 0), (0, i), (0, j_z), w3_z, w4_z], [], A) (bz3 A) := by
  have c14_z := pM_14 h.g
  intro m_z
  induction m_z with
  | zero => intro j_z w3_z w4_z h; omega
  | succ m_z ih_z =>
    intro j_z w3_z w4_z hm_z j0 j1 hj
    have go_z : j_z < A 0 12 → gdz (A 7 (6 * i + j_z)) (A 7 (6 * j_z + i)) → ∀ w3_z w4_z, Tm pmt (an_sh wM) o_X10_begin 51 ([(2, 0), (0, i), (0, j_z + 1), w3_z, w4_z], [], A) (bz3 A) := fun hlt hs w3_z w4_z => by
      refine ih_z (j_z + 1) _ _ (by omega) (by omega) (by omega) (fun k_z k0_z k1_z k2_z => ?_)
      by_cases e_z : k_z = j_z
      · rw [e_z]; exact hs
      · exact hj k_z k0_z (by omega) k2_z
    have hend : A 0 12 ≤ j_z → ∀ k_z : Int, 0 ≤ k_z → k_z < A 0 12 → gdz (A 7 (6 * i + k_z)) (A 7 (6 * k_z + i)) := fun hlt k_z k0_z k1_z => hj k_z k0_z (by omega) k1_z
    have h2b : j_z < A 0 12 → ¬ gdz (A 7 (6 * i + j_z)) (A 7 (6 * j_z + i)) → bz3 A (some (0, 2), A) := fun hlt hn => ⟨⟨⟨_, rfl⟩, h⟩, 2, rfl, Or.inr ⟨by omega, Or.inr (Or.inl ⟨rfl, hdg, fun hs => hn (hs i j_z i0 i1 j0 hlt)⟩)⟩, Or.inr ⟨by omega, gpF_rf h.g⟩⟩
    refine wq_ok srt_Mbegin (fr := []) (cuts := [41, 51]) (J := fun pc st_z => (pc = 41 ∧ ((A 0 12) ≤ j_z) ∧ st_z = ([(2, 0), (0, i + 1), (0, j_z), w3_z, w4_z], [], A)) ∨ (pc = 51 ∧ (j_z < (A 0 12)) ∧ (¬ (A (A 0 14) ((6 * i) + j_z)) = 0) ∧ ((A (A 0 14) ((6 * i) + j_z)) ≤ 0) ∧ ((A (A 0 14) ((6 * i) + j_z)) < 0) ∧ (0 < (A (A 0 14) ((6 * j_z) + i))) ∧ st_z = ([(2, 0), (0, i), (0, j_z + 1), (0, A (A 0 14) ((6 * i) + j_z)), (0, A (A 0 14) ((6 * j_z) + i))], [], A)) ∨ (pc = 51 ∧ (j_z < (A 0 12)) ∧ (¬ (A (A 0 14) ((6 * i) + j_z)) = 0) ∧ (0 < (A (A 0 14) ((6 * i) + j_z))) ∧ ((A (A 0 14) ((6 * j_z) + i)) < 0) ∧ st_z = ([(2, 0), (0, i), (0, j_z + 1), (0, A (A 0 14) ((6 * i) + j_z)), (0, A (A 0 14) ((6 * j_z) + i))], [], A)) ∨ (pc = 51 ∧ (j_z < (A 0 12)) ∧ (¬ (A (A 0 14) ((6 * i) + j_z)) = 0) ∧ (0 < (A (A 0 14) ((6 * i) + j_z))) ∧ (0 ≤ (A (A 0 14) ((6 * j_z) + i))) ∧ ((A (A 0 14) ((6 * i) + j_z)) < 0) ∧ (0 < (A (A 0 14) ((6 * j_z) + i))) ∧ st_z = ([(2, 0), (0, i), (0, j_z + 1), (0, A (A 0 14) ((6 * i) + j_z)), (0, A (A 0 14) ((6 * j_z) + i))], [], A)) ∨ (pc = 51 ∧ (j_z < (A 0 12)) ∧ ((A (A 0 14) ((6 * i) + j_z)) = 0) ∧ ((A (A 0 14) ((6 * j_z) + i)) = 0) ∧ st_z = ([(2, 0), (0, i), (0, j_z + 1), (0, A (A 0 14) ((6 * i) + j_z)), (0, A (A 0 14) ((6 * j_z) + i))], [], A)) ∨ (pc = 51 ∧ (j_z < (A 0 12)) ∧ ((A (A 0 14) ((6 * i) + j_z)) = 0) ∧ (¬ (A (A 0 14) ((6 * j_z) + i)) = 0) ∧ ((A (A 0 14) ((6 * i) + j_z)) ≤ 0) ∧ ((A (A 0 14) ((6 * i) + j_z)) < 0) ∧ (0 < (A (A 0 14) ((6 * j_z) + i))) ∧ st_z = ([(2, 0), (0, i), (0, j_z + 1), (0, A (A 0 14) ((6 * i) + j_z)), (0, A (A 0 14) ((6 * j_z) + i))], [], A)) ∨ (pc = 51 ∧ (j_z < (A 0 12)) ∧ ((A (A 0 14) ((6 * i) + j_z)) = 0) ∧ (¬ (A (A 0 14) ((6 * j_z) + i)) = 0) ∧ (0 < (A (A 0 14) ((6 * i) + j_z))) ∧ ((A (A 0 14) ((6 * j_z) + i)) < 0) ∧ st_z = ([(2, 0), (0, i), (0, j_z + 1), (0, A (A 0 14) ((6 * i) + j_z)), (0, A (A 0 14) ((6 * j_z) + i))], [], A)) ∨ (pc = 51 ∧ (j_z < (A 0 12)) ∧ ((A (A 0 14) ((6 * i) + j_z)) = 0) ∧ (¬ (A (A 0 14) ((6 * j_z) + i)) = 0) ∧ (0 < (A (A 0 14) ((6 * i) + j_z))) ∧ (0 ≤ (A (A 0 14) ((6 * j_z) + i))) ∧ ((A (A 0 14) ((6 * i) + j_z)) < 0) ∧ (0 < (A (A 0 14) ((6 * j_z) + i))) ∧ st_z = ([(2, 0), (0, i), (0, j_z + 1), (0, A (A 0 14) ((6 * i) + j_z)), (0, A (A 0 14) ((6 * j_z) + i))], [], A))) ?_ 41 51 _ ?_
    · rintro pc st_z (⟨rfl, h0, rfl⟩ | ⟨rfl, h0, h1, h2, h3, h4, rfl⟩ | ⟨rfl, h0, h1, h2, h3, rfl⟩ | ⟨rfl, h0, h1, h2, h3, h4, h5, rfl⟩ | ⟨rfl, h0, h1, h2, rfl⟩ | ⟨rfl, h0, h1, h2, h3, h4, h5, rfl⟩ | ⟨rfl, h0, h1, h2, h3, h4, rfl⟩ | ⟨rfl, h0, h1, h2, h3, h4, h5, h6, rfl⟩)
      · exact H (hend (by omega)) _ _ _
      · rw [c14_z] at h1 h2 h3 h4
        exact go_z (by omega) (by unfold gdz; omega) _ _
      · rw [c14_z] at h1 h2 h3
        exact go_z (by omega) (by unfold gdz; omega) _ _
      · rw [c14_z] at h1 h2 h3 h4 h5
        exact go_z (by omega) (by unfold gdz; omega) _ _
      · rw [c14_z] at h1 h2
        exact go_z (by omega) (by unfold gdz; omega) _ _
      · rw [c14_z] at h1 h2 h3 h4 h5
        exact go_z (by omega) (by unfold gdz; omega) _ _
      · rw [c14_z] at h1 h2 h3 h4
        exact go_z (by omega) (by unfold gdz; omega) _ _
      · rw [c14_z] at h1 h2 h3 h4 h5 h6
        exact go_z (by omega) (by unfold gdz; omega) _ _
    · refine ⟨oM_0 (by omega) km0 12 rfl, ?_⟩
      refine ⟨fun h0 => ?_, fun h0 => ?_⟩
      · refine ⟨⟨by omega, by omega⟩, ?_⟩
        exact Or.inl (⟨rfl, h0, rfl⟩)
      · refine ⟨oM_0 (by omega) km0 14 rfl, ?_⟩
        refine ⟨⟨by omega, by omega⟩, ?_⟩
        refine ⟨⟨by omega, by omega⟩, ?_⟩
        refine ⟨aM_7 (r := A 0 14) (by rw [c14_z]; omega) (by rw [c14_z]; exact kn7) (by omega) (by omega), ?_⟩
        have e1 : A (A 0 14) ((6 * i) + j_z) = A 7 ((6 * i) + j_z) := by rw [c14_z]
        refine ⟨oM_0 (by omega) km0 14 rfl, ?_⟩
        refine ⟨⟨by omega, by omega⟩, ?_⟩
        refine ⟨⟨by omega, by omega⟩, ?_⟩
        refine ⟨aM_7 (r := A 0 14) (by rw [c14_z]; omega) (by rw [c14_z]; exact kn7) (by omega) (by omega), ?_⟩
        have e2 : A (A 0 14) ((6 * j_z) + i) = A 7 ((6 * j_z) + i) := by rw [c14_z]
        refine ⟨fun h1 => ?_, fun h1 => ?_⟩
        · refine ⟨fun h2 => ?_, fun h2 => ?_⟩
          · refine ⟨fun h3 => ?_, fun h3 => ?_⟩
            · exact ⟨rfl, h2b (by omega) (by rw [← e1, ← e2]; unfold gdz; omega)⟩
            · refine ⟨fun h4 => ?_, fun h4 => ?_⟩
              · refine ⟨⟨by omega, by omega⟩, ?_⟩
                exact Or.inr (Or.inl (⟨rfl, h0, h1, h2, h3, h4, rfl⟩))
              · exact ⟨rfl, h2b (by omega) (by rw [← e1, ← e2]; unfold gdz; omega)⟩
          · refine ⟨fun h3 => ?_, fun h3 => ?_⟩
            · refine ⟨⟨by omega, by omega⟩, ?_⟩
              exact Or.inr (Or.inr (Or.inl (⟨rfl, h0, h1, h2, h3, rfl⟩)))
            · refine ⟨fun h4 => ?_, fun h4 => ?_⟩
              · exact ⟨rfl, h2b (by omega) (by rw [← e1, ← e2]; unfold gdz; omega)⟩
              · refine ⟨fun h5 => ?_, fun h5 => ?_⟩
                · refine ⟨⟨by omega, by omega⟩, ?_⟩
                  exact Or.inr (Or.inr (Or.inr (Or.inl (⟨rfl, h0, h1, h2, h3, h4, h5, rfl⟩))))
                · exact ⟨rfl, h2b (by omega) (by rw [← e1, ← e2]; unfold gdz; omega)⟩
        · refine ⟨fun h2 => ?_, fun h2 => ?_⟩
          · refine ⟨⟨by omega, by omega⟩, ?_⟩
            exact Or.inr (Or.inr (Or.inr (Or.inr (Or.inl (⟨rfl, h0, h1, h2, rfl⟩)))))
          · refine ⟨fun h3 => ?_, fun h3 => ?_⟩
            · refine ⟨fun h4 => ?_, fun h4 => ?_⟩
              · exact ⟨rfl, h2b (by omega) (by rw [← e1, ← e2]; unfold gdz; omega)⟩
              · refine ⟨fun h5 => ?_, fun h5 => ?_⟩
                · refine ⟨⟨by omega, by omega⟩, ?_⟩
                  exact Or.inr (Or.inr (Or.inr (Or.inr (Or.inr (Or.inl (⟨rfl, h0, h1, h2, h3, h4, h5, rfl⟩))))))
                · exact ⟨rfl, h2b (by omega) (by rw [← e1, ← e2]; unfold gdz; omega)⟩
            · refine ⟨fun h4 => ?_, fun h4 => ?_⟩
              · refine ⟨⟨by omega, by omega⟩, ?_⟩
                exact Or.inr (Or.inr (Or.inr (Or.inr (Or.inr (Or.inr (Or.inl (⟨rfl, h0, h1, h2, h3, h4, rfl⟩)))))))
              · refine ⟨fun h5 => ?_, fun h5 => ?_⟩
                · exact ⟨rfl, h2b (by omega) (by rw [← e1, ← e2]; unfold gdz; omega)⟩
                · refine ⟨fun h6 => ?_, fun h6 => ?_⟩
                  · refine ⟨⟨by omega, by omega⟩, ?_⟩
                    exact Or.inr (Or.inr (Or.inr (Or.inr (Or.inr (Or.inr (Or.inr (⟨rfl, h0, h1, h2, h3, h4, h5, h6, rfl⟩)))))))
                  · exact ⟨rfl, h2b (by omega) (by rw [← e1, ← e2]; unfold gdz; omega)⟩
theorem mqc_41 {A : pm_A} (h : RI A) (p1 : 1 ≤ A 0 12) (hdg : dgz (A 0 12) (A 7)) : ∀ (m_z : Nat) (i_z : Int) (w2_z w3_z w4_z : pm_V), (6 - i_z).toNat < m_z → 0 ≤ i_z → i_z ≤ 6 → (∀ k_z : Int, 0 ≤ k_z → k_z < i_z → k_z < A 0 12 → ∀ j_z : Int, 0 ≤ j_z → j_z < A 0 12 → gdz (A 7 (6 * k_z + j_z)) (A 7 (6 * j_z + k_z))) → Tm pmt (an_sh wM) o_X10_begin 41 ([(2, 0), (0, i_z), w2_z, w3_z, w4_z], [], A) (bz3 A) := by
  have p12 := fM_0_12 h.g (r := 0) (by omega) km0
  intro m_z
  induction m_z with
  | zero => intro i_z w2_z w3_z w4_z h; omega
  | succ m_z ih_z =>
    intro i_z w2_z w3_z w4_z hm_z i0_z i1_z hi_z
    refine wq_ok srt_Mbegin (fr := []) (cuts := [51, 125]) (J := fun pc st_z => (pc = 125 ∧ ((A 0 12) ≤ i_z) ∧ st_z = ([(2, 0), (0, i_z), w2_z, w3_z, w4_z], [], A)) ∨ (pc = 51 ∧ (i_z < (A 0 12)) ∧ st_z = ([(2, 0), (0, i_z), (0, 0), w3_z, w4_z], [], A))) ?_ 11 41 _ ?_
    · rintro pc st_z (⟨rfl, h0, rfl⟩ | ⟨rfl, h0, rfl⟩)
      · exact mqc_125 h ⟨h.2.1.1, fun a_z b_z a0_z a1_z b0 b1 e_z => by have := hi_z a_z a0_z (by omega) a1_z b_z b0 b1; unfold gdz at this; omega⟩ p1 hdg (fun a_z b_z a0_z a1_z b0 b1 => hi_z a_z a0_z (by omega) a1_z b_z b0 b1)
      · refine mqc_51 h i0_z (by omega) p12.2 hdg (fun hj w2_z w3_z w4_z => ih_z (i_z + 1) _ _ _ (by omega) (by omega) (by omega) (fun k_z k0_z k1_z k2_z => ?_)) _ 0 _ _ (Nat.lt_succ_self _) (by omega) (by omega) (fun k_z k0_z k1_z => by omega)
        by_cases e_z : k_z = i_z
        · rw [e_z]; exact hj
        · exact hi_z k_z k0_z (by omega) k2_z
    · refine ⟨oM_0 (by omega) km0 12 rfl, ?_⟩
      refine ⟨fun h0 => ?_, fun h0 => ?_⟩
      · exact Or.inl (⟨rfl, h0, rfl⟩)
      · exact Or.inr (⟨rfl, h0, rfl⟩)
theorem mqc_11 {A : pm_A} (h : RI A) (p1 : 1 ≤ A 0 12) : ∀ (m_z : Nat) (i_z : Int) (w2_z w3_z w4_z : pm_V), (6 - i_z).toNat < m_z → 0 ≤ i_z → i_z ≤ 6 → (∀ k_z : Int, 0 ≤ k_z → k_z < i_z → k_z < A 0 12 → A 7 (7 * k_z) = 0) → Tm pmt (an_sh wM) o_X10_begin 11 ([(2, 0), (0, i_z), w2_z, w3_z, w4_z], [], A) (bz3 A) := by
  have p12 := fM_0_12 h.g (r := 0) (by omega) km0
  have c14_z := pM_14 h.g
  intro m_z
  induction m_z with
  | zero => intro i_z w2_z w3_z w4_z h; omega
  | succ m_z ih_z =>
    intro i_z w2_z w3_z w4_z hm_z i0_z i1_z hi_z
    refine wq_ok srt_Mbegin (fr := []) (cuts := [11, 41]) (J := fun pc st_z => (pc = 41 ∧ ((A 0 12) ≤ i_z) ∧ st_z = ([(2, 0), (0, 0), w2_z, w3_z, w4_z], [], A)) ∨ (pc = 11 ∧ (i_z < (A 0 12)) ∧ ((A (A 0 14) (7 * i_z)) = 0) ∧ st_z = ([(2, 0), (0, i_z + 1), w2_z, w3_z, w4_z], [], A))) ?_ 18 11 _ ?_
    · rintro pc st_z (⟨rfl, h0, rfl⟩ | ⟨rfl, h0, h1, rfl⟩)
      · exact mqc_41 h p1 (fun k_z k0_z k1_z => hi_z k_z k0_z (by omega) k1_z) _ 0 _ _ _ (Nat.lt_succ_self _) (by omega) (by omega) (fun k_z k0_z k1_z => by omega)
      · rw [c14_z] at h1
        refine ih_z (i_z + 1) _ _ _ (by omega) (by omega) (by omega) (fun k_z k0_z k1_z k2_z => ?_)
        by_cases e_z : k_z = i_z
        · rw [e_z]; exact h1
        · exact hi_z k_z k0_z (by omega) k2_z
    · refine ⟨oM_0 (by omega) km0 12 rfl, ?_⟩
      refine ⟨fun h0 => ?_, fun h0 => ?_⟩
      · exact Or.inl (⟨rfl, h0, rfl⟩)
      · refine ⟨oM_0 (by omega) km0 14 rfl, ?_⟩
        refine ⟨⟨by omega, by omega⟩, ?_⟩
        refine ⟨aM_7 (r := A 0 14) (by rw [c14_z]; omega) (by rw [c14_z]; exact kn7) (by omega) (by omega), ?_⟩
        have e1 : A (A 0 14) (7 * i_z) = A 7 (7 * i_z) := by rw [c14_z]
        refine ⟨fun h1 => ?_, fun h1 => ?_⟩
        · refine ⟨⟨by omega, by omega⟩, ?_⟩
          exact Or.inr (⟨rfl, h0, h1, rfl⟩)
        · rw [c14_z] at h1
          exact ⟨rfl, ⟨⟨_, rfl⟩, h⟩, 1, rfl, Or.inr ⟨p1, Or.inl ⟨rfl, fun hs => h1 (hs i_z i0_z (by omega))⟩⟩, Or.inr ⟨by omega, gpF_rf h.g⟩⟩
theorem mbegin_ex3 {A : pm_A} (h : RI A) : Cl pmt (an_sh wM) 129 [(2, 0)] A (bz3 A) := by
  have p12 := fM_0_12 h.g (r := 0) (by omega) km0
  refine Cl.of (Nat.le_of_ble_eq_true rfl) ?_
  refine wq_ok (full := o_X10_begin) srt_Mbegin (fr := []) (cuts := [11]) (J := fun pc st_z => (pc = 11 ∧ (¬ (A 0 12) = 0) ∧ st_z = ([(2, 0), (0, 0), (9, 0), (9, 0), (9, 0)], [], A))) ?_ 10 0 _ ?_
  · rintro pc st_z (⟨rfl, h0, rfl⟩)
    exact mqc_11 h (by omega) _ 0 _ _ _ (Nat.lt_succ_self _) (by omega) (by omega) (fun k_z k0_z k1_z => by omega)
  · refine ⟨oM_0 (by omega) km0 12 rfl, ?_⟩
    refine ⟨fun h0 => ?_, fun h0 => ?_⟩
    · exact ⟨rfl, h0, rfl⟩
    · exact ⟨rfl, ⟨⟨_, rfl⟩, h⟩, -1, rfl, Or.inl ⟨rfl, h0⟩, Or.inr ⟨by omega, gpF_rf h.g⟩⟩
def ms3 (A : pm_A) (sl n : Int) (r : pm_R) : Prop := ri_post r ∧ ∃ B_z x_z, RI B_z ∧ sdF A B_z ∧ (∀ k_z : Int, 0 ≤ k_z → k_z < 72 → B_z 7 k_z = tsum (ctr n (fcs A sl)) 1000 k_z) ∧ (∀ k_z : Int, 0 ≤ k_z → k_z < 72 → -9 ≤ B_z 7 k_z ∧ B_z 7 k_z ≤ 9) ∧ (B_z 0 12 = n - 3 ∧ B_z 0 13 = 0) ∧ bgA (B_z 0 12) (B_z 7) x_z ∧ r.1 = some (0, if x_z = 0 then 1 else 0) ∧ (r.2 0 12 = B_z 0 12 ∧ r.2 0 13 = B_z 0 13 ∧ ∀ k_z : Int, 0 ≤ k_z → r.2 7 k_z = B_z 7 k_z) ∧ ((x_z = 0 ∧ lsz (B_z 0 12) (B_z 7) (r.2 10) ∧ ∃ E_z, gpF B_z E_z ∧ szd E_z ∧ bgJ E_z r.2) ∨ (¬ x_z = 0 ∧ gpF B_z r.2))
theorem mbegin_fr3 {A : pm_A} (h : RI A) : Cl pmt (an_sh wM) 129 [(2, 0)] A (fun r_z => bz3 A r_z ∧ r_z.2 0 12 = A 0 12 ∧ r_z.2 0 13 = A 0 13 ∧ ∀ k_z : Int, 0 ≤ k_z → r_z.2 7 k_z = A 7 k_z) := by
  obtain ⟨k_z, r_z, c1_z, q_z⟩ := mbegin_ex3 h
  have f_z := (fm_begin c1_z (gK_of h.g)).2
  exact ⟨k_z, r_z, c1_z, q_z, f_z 0 12 (by omega) (by omega) (by rw [kMd 12]; exact nin rfl), f_z 0 13 (by omega) (by omega) (by rw [kMd 13]; exact nin rfl), fun k_z k0_z => f_z 7 k_z (by omega) k0_z (by rw [kM7]; exact nin rfl)⟩
theorem sdr_150 {A B : pm_A} {sl n z3 a b c : Int} (hs : sl = 0 ∨ sl = 1) (hA : gH wM A) (hcut : cntF (fcs A sl) 100 ≤ 6) (n1 : n ≤ 10) (cn : c < n) (hs3 : sdT n (fcs A sl) a b c) (ht : tri3 a b c) (hJ : sdK A B sl n (100 * a + 10 * b + c)) (H : ∀ C_z w7_z w8 w9, sdK A C_z sl n (100 * a + 10 * b + c + 1) → Tm pmt (an_sh wM) o_X10_seed 174 ([(2, 0), (0, sl), (0, n), (0, z3), (0, a), (0, b), (0, c), w7_z, w8, w9], [], C_z) (ms3 A sl n)) {p7 p8 p9 : Int} (hp7 : plV (fcs A sl) (10 * a + b) p7) (hp8 : plV (fcs A sl) (10 * b + c) p8) (hp9 : plV (fcs A sl) (10 * a + c) p9) : Tm pmt (an_sh wM) o_X10_seed 150 ([(2, 0), (0, sl), (0, n), (0, z3), (0, a), (0, b), (0, c), (0, p7), (0, p8), (0, p9)], [], B) (ms3 A sl n) := by
  have gB := hJ.1.1.1
  have mB : ∀ k_z : Int, 0 ≤ k_z → k_z < 72 → -100 ≤ B 7 k_z ∧ B 7 k_z ≤ 100 := fun k_z k0_z k1_z => by have := hJ.1.b9 k0_z k1_z; omega
  refine wq_ok srt_Mseed (fr := []) (cuts := [158]) (J := fun pc st_z => (pc = 158 ∧ ∃ B1, ldq_post B p7 p8 (none, B1) ∧ st_z = ([(2, 0), (0, sl), (0, n), (0, z3), (0, a), (0, b), (0, c), (0, p7), (0, p8), (0, p9)], [], B1))) ?_ 8 150 _ ?_
  · rintro pc st_z (⟨rfl, B1, lB1, rfl⟩)
    have gB1 := lB1.1.2.1
    have mB1 : ∀ k_z : Int, 0 ≤ k_z → k_z < 72 → -100 ≤ B1 7 k_z ∧ B1 7 k_z ≤ 100 := fun k_z k0_z k1_z => by have := hJ.1.b9 k0_z k1_z; have e1 := lB1.1.2.2.2.1 k_z; simp only at e1; omega
    refine wq_ok srt_Mseed (fr := []) (cuts := [166]) (J := fun pc st_z => (pc = 166 ∧ ∃ B2, ldq_post B1 p8 p9 (none, B2) ∧ st_z = ([(2, 0), (0, sl), (0, n), (0, z3), (0, a), (0, b), (0, c), (0, p7), (0, p8), (0, p9)], [], B2))) ?_ 8 158 _ ?_
    · rintro pc st_z (⟨rfl, B2, lB2, rfl⟩)
      have gB2 := lB2.1.2.1
      have mB2 : ∀ k_z : Int, 0 ≤ k_z → k_z < 72 → -100 ≤ B2 7 k_z ∧ B2 7 k_z ≤ 100 := fun k_z k0_z k1_z => by have := hJ.1.b9 k0_z k1_z; have e1 := lB1.1.2.2.2.1 k_z; have e2 := lB2.1.2.2.2.1 k_z; simp only at e1 e2; omega
      refine wq_ok srt_Mseed (fr := []) (cuts := [174]) (J := fun pc st_z => (pc = 174 ∧ ∃ B3, ldq_post B2 p9 p7 (none, B3) ∧ st_z = ([(2, 0), (0, sl), (0, n), (0, z3), (0, a), (0, b), (0, c), (0, p7), (0, p8), (0, p9)], [], B3))) ?_ 8 166 _ ?_
      · rintro pc st_z (⟨rfl, B3, lB3, rfl⟩)
        exact H B3 _ _ _ (hJ.step n1 cn hs3 ht hp7 hp8 hp9 lB1 lB2 lB3)
      · refine ⟨rM_0 (by omega) km0, ?_⟩
        refine (leads_exq (B := B2) (i := p9) (j := p7) gB2 (by rcases hp9 with e_z | e_z <;> omega) (by rcases hp9 with e_z | e_z <;> omega) (by rcases hp7 with e_z | e_z <;> omega) (by rcases hp7 with e_z | e_z <;> omega) mB2).imp ?_
        rintro ⟨r1_z, B3⟩ lB3
        have q1_z := lB3.1.1
        simp only at q1_z
        subst q1_z
        exact ⟨rfl, B3, lB3, rfl⟩
    · refine ⟨rM_0 (by omega) km0, ?_⟩
      refine (leads_exq (B := B1) (i := p8) (j := p9) gB1 (by rcases hp8 with e_z | e_z <;> omega) (by rcases hp8 with e_z | e_z <;> omega) (by rcases hp9 with e_z | e_z <;> omega) (by rcases hp9 with e_z | e_z <;> omega) mB1).imp ?_
      rintro ⟨r1_z, B2⟩ lB2
      have q1_z := lB2.1.1
      simp only at q1_z
      subst q1_z
      exact ⟨rfl, B2, lB2, rfl⟩
  · refine ⟨rM_0 (by omega) km0, ?_⟩
    refine (leads_exq (B := B) (i := p7) (j := p8) gB (by rcases hp7 with e_z | e_z <;> omega) (by rcases hp7 with e_z | e_z <;> omega) (by rcases hp8 with e_z | e_z <;> omega) (by rcases hp8 with e_z | e_z <;> omega) mB).imp ?_
    rintro ⟨r1_z, B1⟩ lB1
    have q1_z := lB1.1.1
    simp only at q1_z
    subst q1_z
    exact ⟨rfl, B1, lB1, rfl⟩
theorem sdr_117 {A B : pm_A} {sl n z3 a b c : Int} (hs : sl = 0 ∨ sl = 1) (hA : gH wM A) (hcut : cntF (fcs A sl) 100 ≤ 6) (n1 : n ≤ 10) (cn : c < n) (hs3 : sdT n (fcs A sl) a b c) (ht : tri3 a b c) (hJ : sdK A B sl n (100 * a + 10 * b + c)) (H : ∀ C_z w7 w8 w9, sdK A C_z sl n (100 * a + 10 * b + c + 1) → Tm pmt (an_sh wM) o_X10_seed 174 ([(2, 0), (0, sl), (0, n), (0, z3), (0, a), (0, b), (0, c), w7, w8, w9], [], C_z) (ms3 A sl n)) {w7 w8 w9 : pm_V} : Tm pmt (an_sh wM) o_X10_seed 117 ([(2, 0), (0, sl), (0, n), (0, z3), (0, a), (0, b), (0, c), w7, w8, w9], [], B) (ms3 A sl n) := by
  have ht2 := ht
  unfold tri3 at ht2
  refine wq_ok srt_Mseed (fr := []) (cuts := [126]) (J := fun pc st_z => (pc = 126 ∧ ∃ p7_z, plV (fcs A sl) (10 * a + b) p7_z ∧ st_z = ([(2, 0), (0, sl), (0, n), (0, z3), (0, a), (0, b), (0, c), w7, w8, w9], [(0, p7_z)], B))) ?_ 9 117 _ ?_
  · rintro pc st_z (⟨rfl, p7_z, hp7, rfl⟩)
    refine wq_ok srt_Mseed (fr := []) (cuts := [137]) (J := fun pc st_z => (pc = 137 ∧ ∃ p8, plV (fcs A sl) (10 * b + c) p8 ∧ st_z = ([(2, 0), (0, sl), (0, n), (0, z3), (0, a), (0, b), (0, c), (0, p7_z), w8, w9], [(0, p8)], B))) ?_ 10 126 _ ?_
    · rintro pc st_z (⟨rfl, p8, hp8, rfl⟩)
      refine wq_ok srt_Mseed (fr := []) (cuts := [148]) (J := fun pc st_z => (pc = 148 ∧ ∃ p9, plV (fcs A sl) (10 * a + c) p9 ∧ st_z = ([(2, 0), (0, sl), (0, n), (0, z3), (0, a), (0, b), (0, c), (0, p7_z), (0, p8), w9], [(0, p9)], B))) ?_ 10 137 _ ?_
      · rintro pc st_z (⟨rfl, p9, hp9, rfl⟩)
        refine wq_ok srt_Mseed (fr := []) (cuts := [150]) (J := fun pc st_z => (pc = 150 ∧ st_z = ([(2, 0), (0, sl), (0, n), (0, z3), (0, a), (0, b), (0, c), (0, p7_z), (0, p8), (0, p9)], [], B))) ?_ 6 148 _ ?_
        · rintro pc st_z (⟨rfl, rfl⟩)
          exact sdr_150 hs hA hcut n1 cn hs3 ht hJ H hp7 hp8 hp9
        · exact ⟨rfl, rfl⟩
      · refine ⟨rM_0 (by omega) km0, ?_⟩
        refine (placeOf_ex (A := B) (sl := sl) (x := a) (y := c) hJ.1.1.1 (by omega) (by omega) (by omega) (by omega) (by omega)).imp ?_
        rintro ⟨r1_z, C_z⟩ hpo
        obtain ⟨q1_z, p9, q2_z, hp9⟩ := po_plV hJ.1.1 hA hcut (by omega) (by omega) hpo
        simp only at q1_z q2_z
        subst q1_z
        subst q2_z
        exact ⟨rfl, p9, hp9, rfl⟩
    · refine ⟨rM_0 (by omega) km0, ?_⟩
      refine (placeOf_ex (A := B) (sl := sl) (x := b) (y := c) hJ.1.1.1 (by omega) (by omega) (by omega) (by omega) (by omega)).imp ?_
      rintro ⟨r1_z, C_z⟩ hpo
      obtain ⟨q1_z, p8, q2_z, hp8⟩ := po_plV hJ.1.1 hA hcut (by omega) (by omega) hpo
      simp only at q1_z q2_z
      subst q1_z
      subst q2_z
      exact ⟨rfl, p8, hp8, rfl⟩
  · refine ⟨rM_0 (by omega) km0, ?_⟩
    refine (placeOf_ex (A := B) (sl := sl) (x := a) (y := b) hJ.1.1.1 (by omega) (by omega) (by omega) (by omega) (by omega)).imp ?_
    rintro ⟨r1_z, C_z⟩ hpo
    obtain ⟨q1_z, p7_z, q2_z, hp7⟩ := po_plV hJ.1.1 hA hcut (by omega) (by omega) hpo
    simp only at q1_z q2_z
    subst q1_z
    subst q2_z
    exact ⟨rfl, p7_z, hp7, rfl⟩
theorem sdr_72 {A : pm_A} {sl n z3 a b : Int} (hs : sl = 0 ∨ sl = 1) (hA : gH wM A) (hcut : cntF (fcs A sl) 100 ≤ 6) (n9 : n ≤ 9) (hn : n = A 31 sl) (a0 : 0 ≤ a) (ab : a < b) (bn : b < n) (H : ∀ C_z w6_z w7_z w8 w9, sdK A C_z sl n (100 * a + 10 * b + 10) → Tm pmt (an_sh wM) o_X10_seed 180 ([(2, 0), (0, sl), (0, n), (0, z3), (0, a), (0, b), w6_z, w7_z, w8, w9], [], C_z) (ms3 A sl n)) : ∀ (m_z : Nat) (c_z : Int) (w7_z w8 w9 : pm_V) (B_z : pm_A), (10 - c_z).toNat < m_z → b < c_z → c_z ≤ 10 → sdK A B_z sl n (100 * a + 10 * b + c_z) → Tm pmt (an_sh wM) o_X10_seed 72 ([(2, 0), (0, sl), (0, n), (0, z3), (0, a), (0, b), (0, c_z), w7_z, w8, w9], [], B_z) (ms3 A sl n) := by
  intro m_z
  induction m_z with
  | zero => intro c_z w7_z w8 w9 B_z h_z; omega
  | succ m_z ih_z =>
    intro c_z w7_z w8 w9 B_z hm_z c0_z c1_z hJ
    have eF : fcs B_z sl = fcs A sl := fcs_sd hJ.1.1
    have e31_z : B_z 31 sl = n := by rw [hJ.1.1.2 31 sl (by omega) (by omega), hn]
    have h174 : c_z < n → ∀ C_z w7_z w8 w9, sdK A C_z sl n (100 * a + 10 * b + c_z + 1) → Tm pmt (an_sh wM) o_X10_seed 174 ([(2, 0), (0, sl), (0, n), (0, z3), (0, a), (0, b), (0, c_z), w7_z, w8, w9], [], C_z) (ms3 A sl n) := fun hc_z C_z w7_z w8 w9 hC => by
      refine wq_ok srt_Mseed (fr := []) (cuts := [72]) (J := fun pc st_z => (pc = 72 ∧ st_z = ([(2, 0), (0, sl), (0, n), (0, z3), (0, a), (0, b), (0, c_z + 1), w7_z, w8, w9], [], C_z))) ?_ 7 174 _ ?_
      · rintro pc st_z (⟨rfl, rfl⟩)
        exact ih_z (c_z + 1) _ _ _ C_z (by omega) (by omega) (by omega) (hC.up (by omega) (by omega) (fun v_z v0_z v1_z x_z y_z z_z x0_z xy_z yz zn e_z => by omega))
      · refine ⟨⟨by omega, by omega⟩, ?_⟩
        exact ⟨rfl, rfl⟩
    refine wq_ok srt_Mseed (fr := []) (cuts := [87, 180]) (J := fun pc st_z => (pc = 180 ∧ (n ≤ c_z) ∧ st_z = ([(2, 0), (0, sl), (0, n), (0, z3), (0, a), (0, b), (0, c_z), w7_z, w8, w9], [], B_z)) ∨ (pc = 87 ∧ (c_z < n) ∧ ∃ x1_z : Int, ((x1_z = 1 ∧ side (B_z 31 sl) (fcs B_z sl) a b) ∨ (x1_z = 0 ∧ ¬ side (B_z 31 sl) (fcs B_z sl) a b)) ∧ st_z = ([(2, 0), (0, sl), (0, n), (0, z3), (0, a), (0, b), (0, c_z), w7_z, w8, w9], [(0, x1_z)], B_z))) ?_ 12 72 _ ?_
    · rintro pc st_z (⟨rfl, h0, rfl⟩ | ⟨rfl, hcn, x1_z, hx1, rfl⟩)
      · exact H B_z _ _ _ _ (hJ.up (by omega) (by omega) (fun v_z v0_z v1_z x_z y_z z_z x0_z xy_z yz zn e_z => by omega))
      · refine wq_ok srt_Mseed (fr := []) (cuts := [99, 174]) (J := fun pc st_z => (pc = 174 ∧ (x1_z = 0) ∧ st_z = ([(2, 0), (0, sl), (0, n), (0, z3), (0, a), (0, b), (0, c_z), w7_z, w8, w9], [], B_z)) ∨ (pc = 99 ∧ (¬ x1_z = 0) ∧ ∃ x2_z : Int, ((x2_z = 1 ∧ side (B_z 31 sl) (fcs B_z sl) b c_z) ∨ (x2_z = 0 ∧ ¬ side (B_z 31 sl) (fcs B_z sl) b c_z)) ∧ st_z = ([(2, 0), (0, sl), (0, n), (0, z3), (0, a), (0, b), (0, c_z), w7_z, w8, w9], [(0, x2_z)], B_z))) ?_ 10 87 _ ?_
        · rintro pc st_z (⟨rfl, h0, rfl⟩ | ⟨rfl, hz1, x2_z, hx2, rfl⟩)
          · refine h174 (by omega) B_z _ _ _ (hJ.no (by omega) a0 ab c0_z (by omega) (fun q_z => ?_))
            rw [e31_z, eF] at hx1
            rcases hx1 with ⟨e_z, _⟩ | ⟨_, e_z⟩
            · omega
            · exact e_z q_z.1
          · refine wq_ok srt_Mseed (fr := []) (cuts := [111, 174]) (J := fun pc st_z => (pc = 174 ∧ (x2_z = 0) ∧ st_z = ([(2, 0), (0, sl), (0, n), (0, z3), (0, a), (0, b), (0, c_z), w7_z, w8, w9], [], B_z)) ∨ (pc = 111 ∧ (¬ x2_z = 0) ∧ ∃ x3 : Int, ((x3 = 1 ∧ side (B_z 31 sl) (fcs B_z sl) a c_z) ∨ (x3 = 0 ∧ ¬ side (B_z 31 sl) (fcs B_z sl) a c_z)) ∧ st_z = ([(2, 0), (0, sl), (0, n), (0, z3), (0, a), (0, b), (0, c_z), w7_z, w8, w9], [(0, x3)], B_z))) ?_ 10 99 _ ?_
            · rintro pc st_z (⟨rfl, h0, rfl⟩ | ⟨rfl, hz2, x3, hx3, rfl⟩)
              · refine h174 (by omega) B_z _ _ _ (hJ.no (by omega) a0 ab c0_z (by omega) (fun q_z => ?_))
                rw [e31_z, eF] at hx2
                rcases hx2 with ⟨e_z, _⟩ | ⟨_, e_z⟩
                · omega
                · exact e_z q_z.2.1
              · refine wq_ok srt_Mseed (fr := []) (cuts := [117, 174]) (J := fun pc st_z => (pc = 117 ∧ (¬ x3 = 0) ∧ st_z = ([(2, 0), (0, sl), (0, n), (0, z3), (0, a), (0, b), (0, c_z), w7_z, w8, w9], [], B_z)) ∨ (pc = 174 ∧ (x3 = 0) ∧ st_z = ([(2, 0), (0, sl), (0, n), (0, z3), (0, a), (0, b), (0, c_z), w7_z, w8, w9], [], B_z))) ?_ 7 111 _ ?_
                · rintro pc st_z (⟨rfl, h0, rfl⟩ | ⟨rfl, h0, rfl⟩)
                  · refine sdr_117 hs hA hcut (by omega) (by omega) ⟨?_, ?_, ?_⟩ ⟨a0, ab, c0_z, by omega⟩ hJ (h174 (by omega))
                    · rw [e31_z, eF] at hx1
                      rcases hx1 with ⟨_, e_z⟩ | ⟨e_z, _⟩
                      · exact e_z
                      · omega
                    · rw [e31_z, eF] at hx2
                      rcases hx2 with ⟨_, e_z⟩ | ⟨e_z, _⟩
                      · exact e_z
                      · omega
                    · rw [e31_z, eF] at hx3
                      rcases hx3 with ⟨_, e_z⟩ | ⟨e_z, _⟩
                      · exact e_z
                      · omega
                  · refine h174 (by omega) B_z _ _ _ (hJ.no (by omega) a0 ab c0_z (by omega) (fun q_z => ?_))
                    rw [e31_z, eF] at hx3
                    rcases hx3 with ⟨e_z, _⟩ | ⟨_, e_z⟩
                    · omega
                    · exact e_z q_z.2.2
                · refine ⟨fun h0 => ?_, fun h0 => ?_⟩
                  · exact Or.inl (⟨rfl, h0, rfl⟩)
                  · exact Or.inr (⟨rfl, h0, rfl⟩)
            · refine ⟨fun h0 => ?_, fun h0 => ?_⟩
              · exact Or.inl (⟨rfl, h0, rfl⟩)
              · refine ⟨rM_0 (by omega) km0, ?_⟩
                refine (isSide_ex (A := B_z) (sl := sl) (x := a) (y := c_z) hJ.1.1.1 (by omega) (by omega) (by omega) (by omega) (by omega) (by omega)).imp ?_
                rintro ⟨r1_z, C_z⟩ ⟨q1_z, x3, q2_z, hx3⟩
                simp only at q1_z q2_z
                subst q1_z
                subst q2_z
                exact Or.inr (⟨rfl, h0, x3, hx3, rfl⟩)
        · refine ⟨fun h0 => ?_, fun h0 => ?_⟩
          · exact Or.inl (⟨rfl, h0, rfl⟩)
          · refine ⟨rM_0 (by omega) km0, ?_⟩
            refine (isSide_ex (A := B_z) (sl := sl) (x := b) (y := c_z) hJ.1.1.1 (by omega) (by omega) (by omega) (by omega) (by omega) (by omega)).imp ?_
            rintro ⟨r1_z, C_z⟩ ⟨q1_z, x2_z, q2_z, hx2⟩
            simp only at q1_z q2_z
            subst q1_z
            subst q2_z
            exact Or.inr (⟨rfl, h0, x2_z, hx2, rfl⟩)
    · refine ⟨fun h0 => ?_, fun h0 => ?_⟩
      · exact Or.inl (⟨rfl, h0, rfl⟩)
      · refine ⟨rM_0 (by omega) km0, ?_⟩
        refine (isSide_ex (A := B_z) (sl := sl) (x := a) (y := b) hJ.1.1.1 (by omega) (by omega) (by omega) (by omega) (by omega) (by omega)).imp ?_
        rintro ⟨r1_z, C_z⟩ ⟨q1_z, x1_z, q2_z, hx1⟩
        simp only at q1_z q2_z
        subst q1_z
        subst q2_z
        exact Or.inr (⟨rfl, h0, x1_z, hx1, rfl⟩)
theorem sdr_60 {A : pm_A} {sl n z3 a : Int} (hs : sl = 0 ∨ sl = 1) (hA : gH wM A) (hcut : cntF (fcs A sl) 100 ≤ 6) (n9 : n ≤ 9) (hn : n = A 31 sl) (a0 : 0 ≤ a) (an : a < n) (H : ∀ C_z w5 w6_z w7_z w8 w9, sdK A C_z sl n (100 * a + 100) → Tm pmt (an_sh wM) o_X10_seed 186 ([(2, 0), (0, sl), (0, n), (0, z3), (0, a), w5, w6_z, w7_z, w8, w9], [], C_z) (ms3 A sl n)) : ∀ (m_z : Nat) (b_z : Int) (w6_z w7_z w8 w9 : pm_V) (B_z : pm_A), (10 - b_z).toNat < m_z → a < b_z → b_z ≤ 10 → sdK A B_z sl n (100 * a + 10 * b_z) → Tm pmt (an_sh wM) o_X10_seed 60 ([(2, 0), (0, sl), (0, n), (0, z3), (0, a), (0, b_z), w6_z, w7_z, w8, w9], [], B_z) (ms3 A sl n) := by
  intro m_z
  induction m_z with
  | zero => intro b_z w6_z w7_z w8 w9 B_z h_z; omega
  | succ m_z ih_z =>
    intro b_z w6_z w7_z w8 w9 B_z hm_z b0 b1 hJ
    have h180 : b_z < n → ∀ C_z w6_z w7_z w8 w9, sdK A C_z sl n (100 * a + 10 * b_z + 10) → Tm pmt (an_sh wM) o_X10_seed 180 ([(2, 0), (0, sl), (0, n), (0, z3), (0, a), (0, b_z), w6_z, w7_z, w8, w9], [], C_z) (ms3 A sl n) := fun hc_z C_z w6_z w7_z w8 w9 hC => by
      refine wq_ok srt_Mseed (fr := []) (cuts := [60]) (J := fun pc st_z => (pc = 60 ∧ st_z = ([(2, 0), (0, sl), (0, n), (0, z3), (0, a), (0, b_z + 1), w6_z, w7_z, w8, w9], [], C_z))) ?_ 7 180 _ ?_
      · rintro pc st_z (⟨rfl, rfl⟩)
        exact ih_z (b_z + 1) _ _ _ _ C_z (by omega) (by omega) (by omega) (hC.up (by omega) (by omega) (fun v_z v0_z v1_z x_z y_z z_z x0_z xy_z yz zn e_z => by omega))
      · refine ⟨⟨by omega, by omega⟩, ?_⟩
        exact ⟨rfl, rfl⟩
    refine wq_ok srt_Mseed (fr := []) (cuts := [72, 186]) (J := fun pc st_z => (pc = 186 ∧ (n ≤ b_z) ∧ st_z = ([(2, 0), (0, sl), (0, n), (0, z3), (0, a), (0, b_z), w6_z, w7_z, w8, w9], [], B_z)) ∨ (pc = 72 ∧ (b_z < n) ∧ st_z = ([(2, 0), (0, sl), (0, n), (0, z3), (0, a), (0, b_z), (0, b_z + 1), w7_z, w8, w9], [], B_z))) ?_ 12 60 _ ?_
    · rintro pc st_z (⟨rfl, h0, rfl⟩ | ⟨rfl, h0, rfl⟩)
      · exact H B_z _ _ _ _ _ (hJ.up (by omega) (by omega) (fun v_z v0_z v1_z x_z y_z z_z x0_z xy_z yz zn e_z => by rcases Int.lt_trichotomy x_z a with q_z | q_z | q_z <;> omega))
      · exact sdr_72 hs hA hcut n9 hn a0 b0 (by omega) (h180 (by omega)) _ (b_z + 1) _ _ _ B_z (Nat.lt_succ_self _) (by omega) (by omega) (hJ.up (by omega) (by omega) (fun v_z v0_z v1_z x_z y_z z_z x0_z xy_z yz zn e_z => by omega))
    · refine ⟨fun h0 => ?_, fun h0 => ?_⟩
      · exact Or.inl (⟨rfl, h0, rfl⟩)
      · refine ⟨⟨by omega, by omega⟩, ?_⟩
        exact Or.inr (⟨rfl, h0, rfl⟩)
theorem sdr_192 {A B : pm_A} {sl n : Int} (h : RI A) (hJ : sdK A B sl n 1000) {w1 w2 w3 w4 w5 w6 w7 w8 w9 : pm_V} : Tm pmt (an_sh wM) o_X10_seed 192 ([(2, 0), w1, w2, w3, w4, w5, w6, w7, w8, w9], [], B) (ms3 A sl n) := by
  have hB_z : RI B := hJ.1.1.ri h (fun j_z j0 j1 => by have := hJ.1.b9 j0 j1; omega)
  refine wq_ok srt_Mseed (fr := []) (cuts := [196]) (J := fun pc st_z => (pc = 196 ∧ ∃ C_z x_z, RI C_z ∧ (bgA (B 0 12) (B 7) x_z ∧ (C_z 0 12 = B 0 12 ∧ C_z 0 13 = B 0 13 ∧ ∀ k_z : Int, 0 ≤ k_z → C_z 7 k_z = B 7 k_z) ∧ ((x_z = 0 ∧ lsz (B 0 12) (B 7) (C_z 10) ∧ ∃ E_z, gpF B E_z ∧ szd E_z ∧ bgJ E_z C_z) ∨ (¬ x_z = 0 ∧ gpF B C_z))) ∧ st_z = ([(2, 0), w1, w2, w3, w4, w5, w6, w7, w8, w9], [(0, x_z)], C_z))) ?_ 6 192 _ ?_
  · rintro pc st_z (⟨rfl, C_z, x_z, q2_z, ⟨q3_z, q4_z, q5_z⟩, rfl⟩)
    have q6_z : (x_z = 0 ∧ lsz (B 0 12) (B 7) (C_z 10) ∧ ∃ E_z, gpF B E_z ∧ szd E_z ∧ bgJ E_z C_z) ∨ (¬ x_z = 0 ∧ gpF B C_z) := q5_z
    have b9 : ∀ k_z : Int, 0 ≤ k_z → k_z < 72 → -9 ≤ B 7 k_z ∧ B 7 k_z ≤ 9 := fun k_z k0_z k1_z => by have := hJ.1.b9 k0_z k1_z; omega
    refine wq_ok srt_Mseed (fr := []) (cuts := []) (J := fun _ _ => False) ?_ 8 196 _ ?_
    · intro pc st_z h; exact h.elim
    · refine ⟨fun h0 => ?_, fun h0 => ?_⟩
      · exact ⟨rfl, ⟨⟨_, rfl⟩, q2_z⟩, B, x_z, hB_z, hJ.1.1, hJ.2.1, b9, hJ.2.2, q3_z, by rw [if_neg h0], q4_z, q6_z⟩
      · exact ⟨rfl, ⟨⟨_, rfl⟩, q2_z⟩, B, x_z, hB_z, hJ.1.1, hJ.2.1, b9, hJ.2.2, q3_z, by rw [if_pos h0], q4_z, q6_z⟩
  · refine ⟨rM_0 (by omega) km0, ?_⟩
    refine (mbegin_fr3 hB_z).imp ?_
    rintro ⟨r1_z, C_z⟩ ⟨⟨⟨_, q2_z⟩, x_z, q1_z, q3_z, q5_z⟩, q4_z⟩
    simp only at q1_z q2_z q3_z q4_z q5_z
    subst q1_z
    exact ⟨rfl, C_z, x_z, q2_z, ⟨q3_z, q4_z, q5_z⟩, rfl⟩
theorem sdr_48 {A : pm_A} {sl n z3 : Int} (h : RI A) (hs : sl = 0 ∨ sl = 1) (hcut : cntF (fcs A sl) 100 ≤ 6) (n9 : n ≤ 9) (hn : n = A 31 sl) : ∀ (m_z : Nat) (a_z : Int) (w5 w6_z w7_z w8 w9 : pm_V) (B_z : pm_A), (10 - a_z).toNat < m_z → 0 ≤ a_z → a_z ≤ 10 → sdK A B_z sl n (100 * a_z) → Tm pmt (an_sh wM) o_X10_seed 48 ([(2, 0), (0, sl), (0, n), (0, z3), (0, a_z), w5, w6_z, w7_z, w8, w9], [], B_z) (ms3 A sl n) := by
  intro m_z
  induction m_z with
  | zero => intro a_z w5 w6_z w7_z w8 w9 B_z h; omega
  | succ m_z ih_z =>
    intro a_z w5 w6_z w7_z w8 w9 B_z hm_z a0_z a1_z hJ
    have h186 : a_z < n → ∀ C_z w5 w6_z w7_z w8 w9, sdK A C_z sl n (100 * a_z + 100) → Tm pmt (an_sh wM) o_X10_seed 186 ([(2, 0), (0, sl), (0, n), (0, z3), (0, a_z), w5, w6_z, w7_z, w8, w9], [], C_z) (ms3 A sl n) := fun hc_z C_z w5 w6_z w7_z w8 w9 hC => by
      refine wq_ok srt_Mseed (fr := []) (cuts := [48]) (J := fun pc st_z => (pc = 48 ∧ st_z = ([(2, 0), (0, sl), (0, n), (0, z3), (0, a_z + 1), w5, w6_z, w7_z, w8, w9], [], C_z))) ?_ 7 186 _ ?_
      · rintro pc st_z (⟨rfl, rfl⟩)
        exact ih_z (a_z + 1) _ _ _ _ _ C_z (by omega) (by omega) (by omega) (hC.up (by omega) (by omega) (fun v_z v0_z v1_z x_z y_z z_z x0_z xy_z yz zn e_z => by omega))
      · refine ⟨⟨by omega, by omega⟩, ?_⟩
        exact ⟨rfl, rfl⟩
    refine wq_ok srt_Mseed (fr := []) (cuts := [60, 192]) (J := fun pc st_z => (pc = 192 ∧ (n ≤ a_z) ∧ st_z = ([(2, 0), (0, sl), (0, n), (0, z3), (0, a_z), w5, w6_z, w7_z, w8, w9], [], B_z)) ∨ (pc = 60 ∧ (a_z < n) ∧ st_z = ([(2, 0), (0, sl), (0, n), (0, z3), (0, a_z), (0, a_z + 1), w6_z, w7_z, w8, w9], [], B_z))) ?_ 12 48 _ ?_
    · rintro pc st_z (⟨rfl, h0, rfl⟩ | ⟨rfl, h0, rfl⟩)
      · exact sdr_192 h (hJ.up (by omega) (by omega) (fun v_z v0_z v1_z x_z y_z z_z x0_z xy_z yz zn e_z => by omega))
      · exact sdr_60 hs h.g hcut n9 hn a0_z (by omega) (h186 (by omega)) _ (a_z + 1) _ _ _ _ B_z (Nat.lt_succ_self _) (by omega) (by omega) (hJ.up (by omega) (by omega) (fun v_z v0_z v1_z x_z y_z z_z x0_z xy_z yz zn e_z => by omega))
    · refine ⟨fun h0 => ?_, fun h0 => ?_⟩
      · exact Or.inl (⟨rfl, h0, rfl⟩)
      · refine ⟨⟨by omega, by omega⟩, ?_⟩
        exact Or.inr (⟨rfl, h0, rfl⟩)

def mS3 (A : pm_A) (sl : Int) (r : pm_R) : Prop := (¬ okSd sl (A 31 sl) (fcs A sl) ∧ r = (some (0, 0), A)) ∨ (okSd sl (A 31 sl) (fcs A sl) ∧ ms3 A sl (A 31 sl) r)
theorem smr_36 {A : pm_A} {sl : Int} (h : RI A) (ho : okSd sl (A 31 sl) (fcs A sl)) : Tm pmt (an_sh wM) o_X10_seed 36 ([(2, 0), (0, sl), (0, A 31 sl), (9, 0), (9, 0), (9, 0), (9, 0), (9, 0), (9, 0), (9, 0)], [], A) (mS3 A sl) := by
  have hs := ho.1
  have b31 := eM_31 h.g (r := 31) (by omega) kn31 (j := sl) (by omega) (by omega)
  have hc_z := ho.2.1
  have h9 := ho.2.2
  have h44 : ∀ B_z, sdF A B_z → B_z 0 12 = A 31 sl - 3 → B_z 0 13 = 0 → (∀ j_z : Int, 0 ≤ j_z → j_z < 72 → B_z 7 j_z = 0) → Tm pmt (an_sh wM) o_X10_seed 44 ([(2, 0), (0, sl), (0, A 31 sl), (9, 0), (9, 0), (9, 0), (9, 0), (9, 0), (9, 0), (9, 0)], [(0, 1)], B_z) (mS3 A sl) := fun B_z q3_z q4_z q5_z q6_z => by
    refine wq_ok srt_Mseed (fr := []) (cuts := [48]) (J := fun pc st_z => (pc = 48 ∧ st_z = ([(2, 0), (0, sl), (0, A 31 sl), (0, 1), (0, 0), (9, 0), (9, 0), (9, 0), (9, 0), (9, 0)], [], B_z))) ?_ 8 44 _ ?_
    · rintro pc st_z (⟨rfl, rfl⟩)
      have t_z := sdr_48 h hs (by omega) (by omega) rfl _ 0 (9, 0) (9, 0) (9, 0) (9, 0) (9, 0) B_z (z3 := 1) (Nat.lt_succ_self _) (by omega) (by omega) ⟨⟨q3_z, fun i_z j_z i0_z i1_z j0 j1 => by rw [q6_z (6 * i_z + j_z) (by omega) (by omega)]; exact ⟨by omega, Or.inl rfl⟩⟩, fun k_z k0_z k1_z => by rw [q6_z k_z k0_z k1_z]; rfl, q4_z, q5_z⟩
      obtain ⟨k_z, r_z, c1_z, q_z⟩ := t_z
      exact ⟨k_z, r_z, c1_z, Or.inr ⟨ho, q_z⟩⟩
    · exact ⟨rfl, rfl⟩
  refine wq_ok srt_Mseed (fr := []) (cuts := [44]) (J := fun pc st_z => (pc = 44 ∧ ∃ B_z, sdF A B_z ∧ B_z 0 12 = A 31 sl - 3 ∧ B_z 0 13 = 0 ∧ (∀ j_z : Int, 0 ≤ j_z → j_z < 72 → B_z 7 j_z = 0) ∧ st_z = ([(2, 0), (0, sl), (0, A 31 sl), (9, 0), (9, 0), (9, 0), (9, 0), (9, 0), (9, 0), (9, 0)], [(0, 1)], B_z))) ?_ 10 36 _ ?_
  · rintro pc st_z (⟨rfl, B_z, q3_z, q4_z, q5_z, q6_z, rfl⟩)
    exact h44 B_z q3_z q4_z q5_z q6_z
  · refine ⟨⟨by omega, by omega⟩, ?_⟩
    refine ⟨rM_0 (by omega) km0, ?_⟩
    refine (table_ex h.g (A 31 sl - 3) 0).imp ?_
    rintro ⟨r1_z, B_z⟩ (⟨q1_z, q2_z, q3_z⟩ | ⟨q1_z, q2_z, q3_z, q4_z, q5_z, q6_z⟩)
    · exact absurd (show okT (A 31 sl - 3) 0 from ⟨⟨by omega, by omega⟩, by omega, by omega⟩) q3_z
    · simp only at q1_z q3_z q4_z q5_z q6_z
      subst q1_z
      exact ⟨rfl, B_z, q3_z, q4_z, q5_z, q6_z, rfl⟩
theorem mseed_ex3 {A : pm_A} {sl : Int} (h : RI A) : Cl pmt (an_sh wM) 183 [(2, 0), (0, sl)] A (mS3 A sl) := by
  have c48_z := pM_48 h.g
  have e48 : A (A 0 48) sl = A 31 sl := by rw [c48_z]
  have h8 : sl = 0 ∨ sl = 1 → Tm pmt (an_sh wM) o_X10_seed 8 ([(2, 0), (0, sl), (9, 0), (9, 0), (9, 0), (9, 0), (9, 0), (9, 0), (9, 0), (9, 0)], [], A) (mS3 A sl) := fun hs => by
    have b31 := eM_31 h.g (r := 31) (by omega) kn31 (j := sl) (by omega) (by omega)
    refine wq_ok srt_Mseed (fr := []) (cuts := [13]) (J := fun pc st_z => (pc = 13 ∧ ∃ y_z : Int, ((y_z = 1 ∧ cntF (fcs A sl) 100 = A 31 sl - 3) ∨ (y_z = 0 ∧ ¬ cntF (fcs A sl) 100 = A 31 sl - 3)) ∧ st_z = ([(2, 0), (0, sl), (9, 0), (9, 0), (9, 0), (9, 0), (9, 0), (9, 0), (9, 0), (9, 0)], [(0, y_z)], A))) ?_ 7 8 _ ?_
    · rintro pc st_z (⟨rfl, y_z, hy, rfl⟩)
      refine wq_ok srt_Mseed (fr := []) (cuts := [36]) (J := fun pc st_z => (pc = 36 ∧ (¬ y_z = 0) ∧ (¬ (A (A 0 48) sl) = 10) ∧ st_z = ([(2, 0), (0, sl), (0, A (A 0 48) sl), (9, 0), (9, 0), (9, 0), (9, 0), (9, 0), (9, 0), (9, 0)], [], A))) ?_ 17 13 _ ?_
      · rintro pc st_z (⟨rfl, h0, h1, rfl⟩)
        rw [c48_z]
        exact smr_36 h ⟨hs, (by rcases hy with ⟨_, e_z⟩ | ⟨e_z, _⟩; exact e_z; omega), by omega⟩
      · refine ⟨fun h0 => ?_, fun h0 => ?_⟩
        · exact ⟨rfl, Or.inl ⟨fun q_z => absurd q_z.2.1 (by rcases hy with ⟨e_z, _⟩ | ⟨_, e_z⟩; omega; exact e_z), rfl⟩⟩
        · refine ⟨oM_0 (by omega) km0 48 rfl, ?_⟩
          refine ⟨aM_31 (r := A 0 48) (by rw [c48_z]; omega) (by rw [c48_z]; exact kn31) (by omega) (by omega), ?_⟩
          have e1 : A (A 0 48) sl = A 31 sl := by rw [c48_z]
          refine ⟨fun h1 => ?_, fun h1 => ?_⟩
          · refine ⟨oM_0 (by omega) km0 48 rfl, ?_⟩
            refine ⟨aM_31 (r := A 0 48) (by rw [c48_z]; omega) (by rw [c48_z]; exact kn31) (by omega) (by omega), ?_⟩
            have e2 : A (A 0 48) sl = A 31 sl := by rw [c48_z]
            exact ⟨rfl, h0, h1, rfl⟩
          · exact ⟨rfl, Or.inl ⟨fun q_z => by have := q_z.2.2; omega, rfl⟩⟩
    · refine ⟨rM_0 (by omega) km0, ?_⟩
      refine (isCutting_ex h.g (by omega) (by omega)).imp ?_
      rintro ⟨r1_z, C_z⟩ ⟨q1_z, y_z, q2_z, hy⟩
      simp only at q1_z q2_z
      subst q1_z
      subst q2_z
      exact ⟨rfl, y_z, hy, rfl⟩
  refine Cl.of (Nat.le_of_ble_eq_true rfl) ?_
  refine wq_ok (full := o_X10_seed) srt_Mseed (fr := []) (cuts := [5]) (J := fun pc st_z => (pc = 5 ∧ ∃ x_z : Int, ((x_z = 1 ∧ (sl = 0 ∨ sl = 1)) ∨ (x_z = 0 ∧ ¬ (sl = 0 ∨ sl = 1))) ∧ st_z = ([(2, 0), (0, sl), (9, 0), (9, 0), (9, 0), (9, 0), (9, 0), (9, 0), (9, 0), (9, 0)], [(0, x_z)], A))) ?_ 7 0 _ ?_
  · rintro pc st_z (⟨rfl, x_z, hx, rfl⟩)
    refine wq_ok srt_Mseed (fr := []) (cuts := [8]) (J := fun pc st_z => (pc = 8 ∧ (¬ x_z = 0) ∧ st_z = ([(2, 0), (0, sl), (9, 0), (9, 0), (9, 0), (9, 0), (9, 0), (9, 0), (9, 0), (9, 0)], [], A))) ?_ 7 5 _ ?_
    · rintro pc st_z (⟨rfl, h0, rfl⟩)
      exact h8 (by rcases hx with ⟨_, e_z⟩ | ⟨e_z, _⟩; exact e_z; omega)
    · refine ⟨fun h0 => ?_, fun h0 => ?_⟩
      · exact ⟨rfl, Or.inl ⟨fun q_z => absurd q_z.1 (by rcases hx with ⟨e_z, _⟩ | ⟨_, e_z⟩; omega; exact e_z), rfl⟩⟩
      · exact ⟨rfl, h0, rfl⟩
  · refine ⟨rM_0 (by omega) km0, ?_⟩
    refine (MisSlot_ex).imp ?_
    rintro ⟨r1_z, C_z⟩ ⟨q1_z, x_z, q2_z, hx⟩
    simp only at q1_z q2_z
    subst q1_z
    subst q2_z
    exact ⟨rfl, x_z, hx, rfl⟩
/-- the reference's seed is begun anew from the table T -/
def mnw (T : Int → Int) (n m : Int) (C : pm_A) : Prop := ∃ s_z : cx_Sd 12, Tru s_z [] C ∧ tld s_z T n m ∧ (C 0 7 = n ∧ C 0 8 = m ∧ C 0 10 = 0)
theorem bgJ.nw {A B C : pm_A} (h9 : ∀ k_z : Int, 0 ≤ k_z → k_z < 72 → -9 ≤ A 7 k_z ∧ A 7 k_z ≤ 9) (hA : gH wM A) (p1 : 1 ≤ A 0 12) (hB : gpF A B) (hz : szd B) (h : bgJ B C) : mnw (A 7) (A 0 12) (A 0 13) C := by
  have p12_z := fM_0_12 hA (r := 0) (by omega) km0
  have p13_z := fM_0_13 hA (r := 0) (by omega) km0
  have f12_z : B 0 12 = A 0 12 := hB.2 0 12 (by omega) (by omega) (by omega)
  have f13_z : B 0 13 = A 0 13 := hB.2 0 13 (by omega) (by omega) (by omega)
  have f7_z : ∀ j_z : Int, B 7 j_z = A 7 j_z := fun j_z => hB.2 7 j_z (by omega) (by omega) (by omega)
  refine ⟨Sd0 B hz (by omega) (by omega), bg_tru hz (fun j_z j0 j1 => by rw [f7_z]; exact h9 j_z j0 j1) (by omega) (by omega) (by omega) (by omega) h, fun i_z j_z hj => ⟨fun hi_z => ?_, fun hi_z => ?_⟩, by rw [h.2.1, f12_z], by rw [h.2.2.1, f13_z], h.2.2.2.2.2.1⟩
  · show bbs B i_z.1 j_z.1 = _
    unfold bbs bb0
    rw [if_pos (by omega), if_pos (by omega), if_pos (by omega), f7_z]
  · show bbs B i_z.1 j_z.1 = _
    unfold bbs bb0
    rw [if_pos (by omega), if_neg (by omega)]
end

section
/-! the reference keeps its very seed: keep, same, finite, all -/
def RIk (s : cx_Sd 12) (ks : List (Fin 12)) (A : pm_A) : Prop := Tru s ks A ∧ RB A ∧ RG A
def rik_post (s : cx_Sd 12) (ks : List (Fin 12)) (r : pm_R) : Prop := (∃ z_z, r.1 = some (0, z_z)) ∧ RIk s ks r.2
theorem RIk.g {s : cx_Sd 12} {ks : List (Fin 12)} {A : pm_A} (h : RIk s ks A) : gH wM A := h.1.1
theorem RIk.ri {s : cx_Sd 12} {ks : List (Fin 12)} {A : pm_A} (h : RIk s ks A) : RI A := ⟨⟨s, ks, h.1⟩, h.2⟩
theorem RIk.typed {s : cx_Sd 12} {ks : List (Fin 12)} {A B : pm_A} {ms : List Nat} (h : RIk s ks A) (hB : gH wM B) (hF : gFr wM ms A B) (hm : (ms.all fun c_z => !([1007, 1008, 1010, 10001, 10002, 10003, 10005, 10006, 10007, 10031, 10032].contains c_z)) = true) : RIk s ks B := by
  have hno : ∀ c_z, c_z ∈ ([1007, 1008, 1010, 10001, 10002, 10003, 10005, 10006, 10007, 10031, 10032] : List Nat) → ¬ c_z ∈ ms := fun c_z hc_z hin => by
    have := List.all_eq_true.1 hm c_z hin
    rw [List.contains_iff_mem.mpr hc_z] at this
    exact absurd this (by decide)
  have f0_z : ∀ j_z : Int, j_z = 7 ∨ j_z = 8 ∨ j_z = 10 → B 0 j_z = A 0 j_z := fun j_z hj => hF 0 j_z (by omega) (by omega) (by rw [mc_0]; rcases hj with rfl | rfl | rfl <;> exact hno _ (by decide))
  have c1_z : ∀ j_z : Int, 0 ≤ j_z → B 1 j_z = A 1 j_z := fun j_z j0 => hF 1 j_z (by omega) j0 (by rw [mc_1]; exact hno _ (by decide))
  have c2_z : ∀ j_z : Int, 0 ≤ j_z → B 2 j_z = A 2 j_z := fun j_z j0 => hF 2 j_z (by omega) j0 (by rw [mc_2]; exact hno _ (by decide))
  have c3_z : ∀ j_z : Int, 0 ≤ j_z → B 3 j_z = A 3 j_z := fun j_z j0 => hF 3 j_z (by omega) j0 (by rw [mc_3]; exact hno _ (by decide))
  have c5_z : ∀ j_z : Int, 0 ≤ j_z → B 5 j_z = A 5 j_z := fun j_z j0 => hF 5 j_z (by omega) j0 (by rw [mc_5]; exact hno _ (by decide))
  have c6_z : ∀ j_z : Int, 0 ≤ j_z → B 6 j_z = A 6 j_z := fun j_z j0 => hF 6 j_z (by omega) j0 (by rw [mc_6]; exact hno _ (by decide))
  have c7_z : ∀ j_z : Int, 0 ≤ j_z → B 7 j_z = A 7 j_z := fun j_z j0 => hF 7 j_z (by omega) j0 (by rw [mc_7]; exact hno _ (by decide))
  have c31_z : ∀ j_z : Int, 0 ≤ j_z → B 31 j_z = A 31 j_z := fun j_z j0 => hF 31 j_z (by omega) j0 (by rw [mc_31]; exact hno _ (by decide))
  have c32_z : ∀ j_z : Int, 0 ≤ j_z → B 32 j_z = A 32 j_z := fun j_z j0 => hF 32 j_z (by omega) j0 (by rw [mc_32]; exact hno _ (by decide))
  obtain ⟨hT_z, ⟨b1, b2⟩, hRG⟩ := h
  refine ⟨hT_z.same hB (f0_z 7 (by omega)) (f0_z 8 (by omega)) (fun j_z j0 _ => c5_z j_z j0) (fun p_z p0_z p1_z r_z j_z hr => ?_), ⟨fun j_z j0 j1 => by rw [c7_z j_z j0]; exact b1 j_z j0 j1, fun d_z d0_z d1_z => ?_⟩, hRG.same2 c31_z c32_z⟩
  · unfold inS at hr
    rcases hr with ⟨rfl, rfl⟩ | ⟨rfl, h1, h2⟩ | ⟨rfl, h1, h2⟩
    · exact c1_z _ p0_z
    · exact c2_z _ (by omega)
    · exact c3_z _ (by omega)
  · rw [c6_z d_z d0_z, f0_z 7 (by omega)]; rw [f0_z 10 (by omega)] at d1_z; exact b2 d_z d0_z d1_z
theorem RIk.upd {s : cx_Sd 12} {ks : List (Fin 12)} {A : pm_A} {r j x : Int} (h : RIk s ks A) (hB : gH wM (pm_upd A r j x)) (h1 : r ≠ 1 ∧ r ≠ 2 ∧ r ≠ 3 ∧ r ≠ 5 ∧ r ≠ 6 ∧ r ≠ 7 ∧ r ≠ 31 ∧ r ≠ 32) (h2 : ¬ (r = 0 ∧ (j = 7 ∨ j = 8 ∨ j = 10))) : RIk s ks (pm_upd A r j x) := by
  obtain ⟨hT_z, ⟨b1, b2⟩, hRG⟩ := h
  refine ⟨hT_z.same hB (upd_o (by omega)) (upd_o (by omega)) (fun i_z _ _ => upd_o (by omega)) (fun p_z p0_z p1_z q_z i_z hq => upd_o (by unfold inS at hq; omega)), ⟨fun i_z i0_z i1_z => by rw [upd_o (by omega)]; exact b1 i_z i0_z i1_z, fun d_z d0_z d1_z => ?_⟩, hRG.same (fun i_z => upd_o (by omega)) (fun i_z => upd_o (by omega))⟩
  rw [upd_o (by omega), upd_o (by omega)]
  rw [upd_o (by omega)] at d1_z
  exact b2 d_z d0_z d1_z
theorem RIk.copy {s : cx_Sd 12} {ks : List (Fin 12)} {A C : pm_A} {p : Int} (h : RIk s ks A) (hC : gH wM C) (p0 : 6 ≤ p) (hf : ∀ q_z j_z, ¬ inS p q_z j_z → C q_z j_z = A q_z j_z) : RIk s ks C := by
  obtain ⟨hT_z, ⟨b1, b2⟩, hRG⟩ := h
  have p7_z := fM_0_7 hT_z.1 (r := 0) (by omega) km0
  refine ⟨hT_z.same hC (hf 0 7 (by unfold inS; omega)) (hf 0 8 (by unfold inS; omega)) (fun i_z _ _ => hf 5 i_z (by unfold inS; omega)) (fun t_z t0_z t1_z q_z i_z hq => hf q_z i_z (by unfold inS at *; omega)), ⟨fun i_z i0_z i1_z => by rw [hf 7 i_z (by unfold inS; omega)]; exact b1 i_z i0_z i1_z, fun d_z d0_z d1_z => ?_⟩, hRG.same (fun i_z => hf 31 i_z (by unfold inS; omega)) (fun i_z => hf 32 i_z (by unfold inS; omega))⟩
  rw [hf 6 d_z (by unfold inS; omega), hf 0 7 (by unfold inS; omega)]
  rw [hf 0 10 (by unfold inS; omega)] at d1_z
  exact b2 d_z d0_z d1_z
theorem restoredk {s : cx_Sd 12} {ks : List (Fin 12)} {A A1 B C : pm_A} (hA : RIk s ks A) (h1 : savesJ A A1 30 72) (hB : gH wM B) (hf : ∀ r_z j_z : Int, 0 ≤ j_z → (r_z = 0 → j_z < 100) → (r_z = 0 ∧ j_z ≠ 4 ∧ j_z ≠ 5 ∧ j_z ≠ 24 ∧ j_z ≠ 26 ∧ j_z ≠ 40 ∧ j_z ≠ 41 ∧ j_z ≠ 42) ∨ (r_z = 6 ∨ r_z = 7 ∨ r_z = 22 ∨ r_z = 31 ∨ r_z = 32) → B r_z j_z = A1 r_z j_z) (hs : ∀ p_z : Int, 30 ≤ p_z → p_z ≤ 35 → ∀ r_z j_z, inS p_z r_z j_z → B r_z j_z = A1 r_z j_z) (hC : restoresJ B C 30 72) : RIk s ks C := by
  obtain ⟨hT_z, ⟨b1, b2⟩, hRG⟩ := hA
  have p7_z := fM_0_7 hT_z.1 (r := 0) (by omega) km0
  obtain ⟨q2_z, q3_z, q4_z, q5_z⟩ := hC
  have s1_z : ∀ r_z j_z : Int, r_z ≠ 22 → (∀ t_z : Int, 30 ≤ t_z → t_z ≤ 35 → ¬ inS t_z r_z j_z) → A1 r_z j_z = A r_z j_z := fun r_z j_z hr hn => h1.2.1 r_z j_z (fun t_z t0_z t1_z ht => hn (30 + t_z) (by omega) (by omega) ht) hr
  have e7_z : B 0 7 = A 0 7 := by rw [hf 0 7 (by omega) (by omega) (by omega)]; exact s1_z 0 7 (by omega) (fun t_z t0_z t1_z ht => by unfold inS at ht; omega)
  have c0_z : ∀ j_z : Int, j_z = 7 ∨ j_z = 8 ∨ j_z = 10 → C 0 j_z = A 0 j_z := fun j_z hj => by
    rw [q3_z 0 j_z (fun t_z t0_z t1_z ht => by unfold inS at ht; omega) (by omega), hf 0 j_z (by omega) (by omega) (by omega)]; exact s1_z 0 j_z (by omega) (fun t_z t0_z t1_z ht => by unfold inS at ht; omega)
  have cC : ∀ r_z j_z : Int, 0 ≤ j_z → r_z = 6 ∨ r_z = 7 ∨ r_z = 31 ∨ r_z = 32 → C r_z j_z = A r_z j_z := fun r_z j_z j0 hr => by
    rw [q3_z r_z j_z (fun t_z t0_z t1_z ht => by unfold inS at ht; omega) (by omega), hf r_z j_z j0 (by omega) (by omega)]; exact s1_z r_z j_z (by omega) (fun t_z t0_z t1_z ht => by unfold inS at ht; omega)
  refine ⟨hT_z.ls q2_z (c0_z 7 (by omega)) (c0_z 8 (by omega)) (fun j_z j0 j1 => ?_) (fun p_z p0_z p1_z => ?_), ⟨fun j_z j0 j1 => by rw [cC 7 j_z j0 (by omega)]; exact b1 j_z j0 j1, fun d_z d0_z d1_z => ?_⟩, hRG.same2 (fun j_z j0 => cC 31 j_z j0 (by omega)) (fun j_z j0 => cC 32 j_z j0 (by omega))⟩
  · rw [q5_z j_z j0 j1, hf 22 j_z j0 (by omega) (by omega)]; exact h1.2.2.2 j_z j0 j1
  · rw [q4_z p_z p0_z (by omega)]
    have m1_z := eM_1 h1.1 (r := 1) (by omega) kn1 (j := 30 + p_z) (by omega) (by omega)
    rw [LSm_same m1_z.2 (hs (30 + p_z) (by omega) (by omega))]
    exact h1.2.2.1 p_z p0_z p1_z
  · rw [cC 6 d_z d0_z (by omega), c0_z 7 (by omega)]
    rw [c0_z 10 (by omega)] at d1_z
    exact b2 d_z d0_z d1_z
def alK (s : cx_Sd 12) (ks : List (Fin 12)) (B : pm_A) : Prop := RIk s ks B ∧ B 0 26 ≤ 100
theorem al_94k {s : cx_Sd 12} {ks : List (Fin 12)} {l : Int} (l0 : 0 ≤ l) (l1 : l ≤ 99) (H : ∀ C_z w3_z, alK s ks C_z → Tm pmt (an_sh wM) o_X10_all 55 ([(2, 0), (0, 1), (0, l + 1), w3_z], [], C_z) (rik_post s ks)) : ∀ (m_z : Nat) (v_z : Int) (B_z : pm_A), (12 - v_z).toNat < m_z → 0 ≤ v_z → v_z ≤ 12 → alK s ks B_z → Tm pmt (an_sh wM) o_X10_all 94 ([(2, 0), (0, 1), (0, l), (0, v_z)], [], B_z) (rik_post s ks) := by
  intro m_z
  induction m_z with
  | zero => intro v_z B_z h_z; omega
  | succ m_z ih_z =>
    intro v_z B_z hm_z v0_z v1_z hB_z
    have hg := hB_z.1.g
    have c33_z := pM_33 hg
    refine wq_ok srt_Mall (fr := []) (cuts := [55, 119]) (J := fun pc st_z => (pc = 55 ∧ (12 ≤ v_z) ∧ st_z = ([(2, 0), (0, 1), (0, l + 1), (0, v_z)], [], B_z)) ∨ (pc = 119 ∧ v_z < 12 ∧ ∃ C_z x_z, alK s ks C_z ∧ (-2147483648 ≤ x_z ∧ x_z ≤ 2147483647) ∧ st_z = ([(2, 0), (0, 1), (0, l), (0, v_z)], [(0, x_z), (0, 12 * l + v_z), (2, B_z 0 33)], C_z))) ?_ 20 94 _ ?_
    · rintro pc st_z (⟨rfl, h0, rfl⟩ | ⟨rfl, hv, C_z, x_z, hC, hx, rfl⟩)
      · exact H B_z _ hB_z
      · refine wq_ok srt_Mall (fr := []) (cuts := [94]) (J := fun pc st_z => (pc = 94 ∧ st_z = ([(2, 0), (0, 1), (0, l), (0, v_z + 1)], [], pm_upd C_z (B_z 0 33) (12 * l + v_z) x_z))) ?_ 8 119 _ ?_
        · rintro pc st_z (⟨rfl, rfl⟩)
          rw [c33_z]
          exact ih_z (v_z + 1) _ (by omega) (by omega) (by omega) ⟨hC.1.upd (uM_21 hC.1.g kn21 hx.1 hx.2) (by omega) (by omega), by rw [upd_o (by omega)]; exact hC.2⟩
        · refine ⟨tM_21 (r := B_z 0 33) (by rw [c33_z]; omega) (by rw [c33_z]; exact kn21) (by omega) (by omega) rfl, ?_⟩
          refine ⟨⟨by omega, by omega⟩, ?_⟩
          exact ⟨rfl, rfl⟩
    · refine ⟨fun h0 => ?_, fun h0 => ?_⟩
      · refine ⟨⟨by omega, by omega⟩, ?_⟩
        exact Or.inl (⟨rfl, h0, rfl⟩)
      · refine ⟨oM_0 (by omega) km0 33 rfl, ?_⟩
        refine ⟨⟨by omega, by omega⟩, ?_⟩
        refine ⟨⟨by omega, by omega⟩, ?_⟩
        refine ⟨⟨by omega, by omega⟩, ?_⟩
        refine ⟨rM_0 (by omega) km0, ?_⟩
        refine Cl.gct q_X10_leastOf_0 (A := B_z) (a := [(2, 0), (0, 50 + l), (0, v_z)]) ⟨gv_ref (by omega) km0, ⟨rfl, by simp only; omega, by simp only; omega⟩, ⟨rfl, by simp only; omega, by simp only; omega⟩, trivial⟩ hg ?_
        rintro ⟨r1_z, C_z⟩ f1_z f2_z f3_z
        simp only at f1_z f2_z f3_z
        match r1_z, f1_z with
        | some (0, x_z), fx => exact Or.inr (⟨rfl, h0, C_z, x_z, ⟨hB_z.1.typed f2_z f3_z (by decide), by rw [f3_z 0 26 (by omega) (by omega) (by rw [mc_0]; decide)]; exact hB_z.2⟩, ⟨fx.1.2.1, fx.1.2.2⟩, rfl⟩)
        | some (n_z + 1, x_z), ⟨⟨q_z, _⟩, _⟩ => exact absurd q_z (by intro q_z; cases q_z)
        | none, q_z => exact absurd q_z (by intro q_z; cases q_z)
theorem al_55k {s : cx_Sd 12} {ks : List (Fin 12)} : ∀ (m_z : Nat) (l : Int) (w3_z : pm_V) (B_z : pm_A), (101 - l).toNat < m_z → 0 ≤ l → l ≤ 100 → alK s ks B_z → Tm pmt (an_sh wM) o_X10_all 55 ([(2, 0), (0, 1), (0, l), w3_z], [], B_z) (rik_post s ks) := by
  intro m_z
  induction m_z with
  | zero => intro l w3_z B_z h_z; omega
  | succ m_z ih_z =>
    intro l w3_z B_z hm_z l0 l1 hB_z
    have hg := hB_z.1.g
    have h26 := hB_z.2
    have p7_z := fM_0_7 hg (r := 0) (by omega) km0
    have p8 := fM_0_8 hg (r := 0) (by omega) km0
    have c31_z := pM_31 hg
    have c1_z := pM_1 hg
    have ml_z : l < 100 → 0 ≤ B_z 1 (50 + l) ∧ B_z 1 (50 + l) ≤ 200 := fun h_z => eM_1 hg (r := 1) (by omega) kn1 (by omega) (by omega)
    have h78 : ∀ C_z, l < 100 → alK s ks C_z → Tm pmt (an_sh wM) o_X10_all 78 ([(2, 0), (0, 1), (0, l), w3_z], [], C_z) (rik_post s ks) := fun C_z hl hC => by
      have hgC := hC.1.g
      have c32_z := pM_32 hgC
      refine wq_ok srt_Mall (fr := []) (cuts := [91]) (J := fun pc st_z => (pc = 91 ∧ ∃ D_z x_z, alK s ks D_z ∧ (-9223372036854775808 ≤ x_z ∧ x_z ≤ 9223372036854775807) ∧ st_z = ([(2, 0), (0, 1), (0, l), w3_z], [(1, x_z), (0, l), (2, C_z 0 32)], D_z))) ?_ 12 78 _ ?_
      · rintro pc st_z (⟨rfl, D_z, x_z, hD, hx, rfl⟩)
        refine wq_ok srt_Mall (fr := []) (cuts := [94]) (J := fun pc st_z => (pc = 94 ∧ st_z = ([(2, 0), (0, 1), (0, l), (0, 0)], [], pm_upd D_z (C_z 0 32) l x_z))) ?_ 8 91 _ ?_
        · rintro pc st_z (⟨rfl, rfl⟩)
          rw [c32_z]
          exact al_94k l0 (by omega) (fun E_z w3_z hE => ih_z (l + 1) w3_z E_z (by omega) (by omega) (by omega) hE) _ 0 _ (Nat.lt_succ_self _) (by omega) (by omega) ⟨hD.1.upd (uM_20 hD.1.g kn20 hx.1 hx.2) (by omega) (by omega), by rw [upd_o (by omega)]; exact hD.2⟩
        · refine ⟨tM_20 (r := C_z 0 32) (by rw [c32_z]; omega) (by rw [c32_z]; exact kn20) (by omega) (by omega) rfl, ?_⟩
          exact ⟨rfl, rfl⟩
      · refine ⟨oM_0 (by omega) km0 32 rfl, ?_⟩
        refine ⟨⟨by omega, by omega⟩, ?_⟩
        refine ⟨rM_0 (by omega) km0, ?_⟩
        refine Cl.gct q_X10_sumOf_0 (A := C_z) (a := [(2, 0), (0, 50 + l)]) ⟨gv_ref (by omega) km0, ⟨rfl, by simp only; omega, by simp only; omega⟩, trivial⟩ hgC ?_
        rintro ⟨r1_z, D_z⟩ f1_z f2_z f3_z
        simp only at f1_z f2_z f3_z
        match r1_z, f1_z with
        | some (1, x_z), fx => exact ⟨rfl, D_z, x_z, ⟨hC.1.typed f2_z f3_z (by decide), by rw [f3_z 0 26 (by omega) (by omega) (by rw [mc_0]; decide)]; exact hC.2⟩, ⟨fx.1.2.1, fx.1.2.2⟩, rfl⟩
        | some (0, x_z), ⟨⟨q_z, _⟩, _⟩ => exact absurd q_z (by intro q_z; cases q_z)
        | some (n_z + 2, x_z), ⟨⟨q_z, _⟩, _⟩ => exact absurd q_z (by intro q_z; cases q_z)
        | none, q_z => exact absurd q_z (by intro q_z; cases q_z)
    refine wq_ok srt_Mall (fr := []) (cuts := [78]) (J := fun pc st_z => (pc = 78 ∧ (l < (B_z 0 26)) ∧ st_z = ([(2, 0), (0, 1), (0, l), w3_z], [], pm_upd B_z (B_z 0 31) l (B_z (B_z 0 1) (50 + l))))) ?_ 19 55 _ ?_
    · rintro pc st_z (⟨rfl, h0, rfl⟩)
      rw [c31_z, c1_z]
      have b_z := ml_z (by omega)
      exact h78 _ (by omega) ⟨hB_z.1.upd (uM_19 hg kn19 (by omega) (by omega)) (by omega) (by omega), by rw [upd_o (by omega)]; exact hB_z.2⟩
    · refine ⟨oM_0 (by omega) km0 26 rfl, ?_⟩
      refine ⟨fun h0 => ?_, fun h0 => ?_⟩
      · refine ⟨oM_0 (by omega) km0 7 rfl, ?_⟩
        refine ⟨oM_0 (by omega) km0 8 rfl, ?_⟩
        refine ⟨⟨by omega, by omega⟩, ?_⟩
        refine ⟨oM_0 (by omega) km0 36 rfl, ?_⟩
        refine ⟨oM_0 (by omega) km0 24 rfl, ?_⟩
        exact ⟨rfl, ⟨_, rfl⟩, hB_z.1.upd (uM_0_36 hg (by omega) (by omega)) (by omega) (by omega)⟩
      · refine ⟨oM_0 (by omega) km0 31 rfl, ?_⟩
        refine ⟨oM_0 (by omega) km0 1 rfl, ?_⟩
        refine ⟨⟨by omega, by omega⟩, ?_⟩
        refine ⟨aM_1 (r := B_z 0 1) (by rw [c1_z]; omega) (by rw [c1_z]; exact kn1) (by omega) (by omega), ?_⟩
        have e1 : B_z (B_z 0 1) (50 + l) = B_z 1 (50 + l) := by rw [c1_z]
        refine ⟨tM_19 (r := B_z 0 31) (by rw [c31_z]; omega) (by rw [c31_z]; exact kn19) (by omega) (by omega) rfl, ?_⟩
        exact ⟨rfl, h0, rfl⟩
theorem al_33k {s : cx_Sd 12} {ks : List (Fin 12)} {y : Int} {E : pm_A} (hy1 : y = 0 ∨ y = 1) (hE : RIk s ks E) (hlE : y ≠ 0 → E 0 26 ≤ 100) : Tm pmt (an_sh wM) o_X10_all 33 ([(2, 0), (0, y), (9, 0), (9, 0)], [], E) (rik_post s ks) := by
  have hg := hE.g
  have p26 := fM_0_26 hg (r := 0) (by omega) km0
  rcases hy1 with rfl | rfl
  · refine wq_ok srt_Mall (fr := []) (cuts := [55]) (J := fun _ _ => False) ?_ 8 33 _ ?_
    · intro pc st_z h_z; exact h_z.elim
    · refine ⟨fun hh => absurd hh (by decide), fun _ => ?_⟩
      exact ⟨rfl, ⟨_, rfl⟩, hE⟩
  · have hl := hlE (by omega)
    have u29 : pm_upd E 0 29 1 0 26 = E 0 26 := upd_o (by omega)
    have hR1 := hE.upd (uM_0_29 hg (x := 1) (by omega) (by omega)) (by omega) (by omega)
    have hR2 := hR1.upd (uM_0_30 hR1.g (x := E 0 26) (by omega) (by omega)) (by omega) (by omega)
    refine wq_ok srt_Mall (fr := []) (cuts := [55]) (J := fun pc st_z => (pc = 55 ∧ st_z = ([(2, 0), (0, 1), (0, 0), (9, 0)], [], pm_upd (pm_upd E 0 29 1) 0 30 ((pm_upd E 0 29 1) 0 26)))) ?_ 16 33 _ ?_
    · rintro pc st_z (⟨rfl, rfl⟩)
      rw [u29]
      exact al_55k _ 0 _ _ (Nat.lt_succ_self _) (by omega) (by omega) ⟨hR2, by rw [upd_o (by omega), u29]; exact hl⟩
    · refine ⟨fun _ => ?_, fun hh => absurd hh (by decide)⟩
      refine ⟨oM_0 (by omega) km0 29 rfl, ?_⟩
      refine ⟨oM_0 (by omega) km0 26 rfl, ?_⟩
      refine ⟨oM_0 (by omega) km0 30 rfl, ?_⟩
      exact ⟨rfl, rfl⟩
theorem mall_exk {s : cx_Sd 12} {ks : List (Fin 12)} {A : pm_A} (h : RIk s ks A) : Cl pmt (an_sh wM) 123 [(2, 0)] A (rik_post s ks) := by
  have hg := h.g
  have p7_z := fM_0_7 hg (r := 0) (by omega) km0
  refine Cl.of (Nat.le_of_ble_eq_true rfl) ?_
  refine wq_ok (full := o_X10_all) srt_Mall (fr := []) (cuts := [6]) (J := fun pc st_z => (pc = 6 ∧ ∃ C_z, savesJ A C_z 30 72 ∧ st_z = ([(2, 0), (9, 0), (9, 0), (9, 0)], [], C_z))) ?_ 7 0 _ ?_
  · rintro pc st_z (⟨rfl, C_z, hC, rfl⟩)
    have s1_z : ∀ r_z j_z : Int, r_z ≠ 22 → (∀ t_z : Int, 30 ≤ t_z → t_z ≤ 35 → ¬ inS t_z r_z j_z) → C_z r_z j_z = A r_z j_z := fun r_z j_z hr hn => hC.2.1 r_z j_z (fun t_z t0_z t1_z ht => hn (30 + t_z) (by omega) (by omega) ht) hr
    have hCT : ∃ s ks, Tru s ks C_z := by
      exact ⟨s, ks, h.1.same hC.1 (s1_z 0 7 (by omega) (fun t_z t0_z t1_z ht => by unfold inS at ht; omega)) (s1_z 0 8 (by omega) (fun t_z t0_z t1_z ht => by unfold inS at ht; omega)) (fun i_z _ _ => s1_z 5 i_z (by omega) (fun t_z t0_z t1_z ht => by unfold inS at ht; omega)) (fun p_z p0_z p1_z r_z i_z hr => s1_z r_z i_z (by unfold inS at hr; omega) (fun t_z t0_z t1_z ht => by unfold inS at *; omega))⟩
    refine wq_ok srt_Mall (fr := []) (cuts := [10]) (J := fun pc st_z => (pc = 10 ∧ ∃ B_z y_z, gtF C_z B_z ∧ (y_z = 0 ∨ (y_z = 1 ∧ B_z 0 26 ≤ 100)) ∧ st_z = ([(2, 0), (9, 0), (9, 0), (9, 0)], [(0, y_z)], B_z))) ?_ 6 6 _ ?_
    · rintro pc st_z (⟨rfl, B_z, y_z, hB_z, hy, rfl⟩)
      refine wq_ok srt_Mall (fr := []) (cuts := [17]) (J := fun pc st_z => (pc = 17 ∧ ∃ D_z, restoresJ B_z D_z 30 72 ∧ st_z = ([(2, 0), (0, y_z), (9, 0), (9, 0)], [], D_z))) ?_ 8 10 _ ?_
      · rintro pc st_z (⟨rfl, D_z, hD, rfl⟩)
        have hRI : RIk s ks D_z := restoredk h hC hB_z.1 (fun r_z j_z j0 j1 hr => hB_z.2 r_z j_z (by omega) (by omega) j0 j1 (fun t_z t0_z ht => by unfold inS at ht; omega) (by omega) (by omega)) (fun p_z p0_z p1_z r_z j_z hr => hB_z.2 r_z j_z (by unfold inS at hr; omega) (by unfold inS at hr; omega) (by unfold inS at hr; omega) (by unfold inS at hr; omega) (fun t_z t0_z ht => by unfold inS at *; omega) (by unfold inS at hr; omega) (by unfold inS at hr; omega)) hD
        have hgD := hRI.g
        have p24 := fM_0_24 hgD (r := 0) (by omega) km0
        have hl : y_z ≠ 0 → D_z 0 26 ≤ 100 := fun hne => by rw [hD.2.1 0 26 (fun t_z t0_z t1_z ht => by unfold inS at ht; omega) (by omega)]; rcases hy with e_z | e_z; exact absurd e_z hne; exact e_z.2
        have h33 : ∀ E_z, RIk s ks E_z → (y_z ≠ 0 → E_z 0 26 ≤ 100) → Tm pmt (an_sh wM) o_X10_all 33 ([(2, 0), (0, y_z), (9, 0), (9, 0)], [], E_z) (rik_post s ks) := fun E_z hE hlE => by
          have hy1 : y_z = 0 ∨ y_z = 1 := by rcases hy with e_z | e_z; exact Or.inl e_z; exact Or.inr e_z.1
          exact al_33k hy1 hE hlE
        refine wq_ok srt_Mall (fr := []) (cuts := [33]) (J := fun pc st_z => (pc = 33 ∧ (y_z = 0) ∧ st_z = ([(2, 0), (0, y_z), (9, 0), (9, 0)], [], pm_upd D_z 0 25 0)) ∨ (pc = 33 ∧ (¬ y_z = 0) ∧ st_z = ([(2, 0), (0, y_z), (9, 0), (9, 0)], [], pm_upd D_z 0 25 (D_z 0 24)))) ?_ 12 17 _ ?_
        · rintro pc st_z (⟨rfl, h0, rfl⟩ | ⟨rfl, h0, rfl⟩)
          · have hR2 := hRI.upd (uM_0_25 hgD (x := 0) (by omega) (by omega)) (by omega) (by omega)
            exact h33 _ hR2 (fun hy1 => by rw [upd_o (by omega)]; exact hl hy1)
          · have hR2 := hRI.upd (uM_0_25 hgD (x := D_z 0 24) (by omega) (by omega)) (by omega) (by omega)
            exact h33 _ hR2 (fun hy1 => by rw [upd_o (by omega)]; exact hl hy1)
        · refine ⟨fun h0 => ?_, fun h0 => ?_⟩
          · refine ⟨oM_0 (by omega) km0 25 rfl, ?_⟩
            exact Or.inl (⟨rfl, h0, rfl⟩)
          · refine ⟨oM_0 (by omega) km0 24 rfl, ?_⟩
            refine ⟨oM_0 (by omega) km0 25 rfl, ?_⟩
            exact Or.inr (⟨rfl, h0, rfl⟩)
      · refine ⟨rM_0 (by omega) km0, ?_⟩
        refine (restores_ex (p := 30) hB_z.1 (by omega) (by omega)).imp ?_
        rintro ⟨r1_z, D_z⟩ ⟨q1_z, q2_z⟩
        simp only at q1_z q2_z
        subst q1_z
        exact ⟨rfl, D_z, q2_z, rfl⟩
    · refine ⟨rM_0 (by omega) km0, ?_⟩
      refine (goesThrough_ex hCT).imp ?_
      rintro ⟨r1_z, B_z⟩ ⟨q1_z, q2_z⟩
      simp only at q1_z q2_z
      rcases q2_z with q2_z | ⟨q2_z, q3_z⟩
      · subst q2_z
        exact ⟨rfl, B_z, 0, q1_z, Or.inl rfl, rfl⟩
      · subst q2_z
        exact ⟨rfl, B_z, 1, q1_z, Or.inr ⟨rfl, q3_z⟩, rfl⟩
  · refine ⟨rM_0 (by omega) km0, ?_⟩
    refine (saves_ex (p := 30) hg (by omega) (by omega)).imp ?_
    rintro ⟨r1_z, C_z⟩ ⟨q1_z, q2_z⟩
    simp only at q1_z q2_z
    subst q1_z
    exact ⟨rfl, C_z, q2_z, rfl⟩
theorem kp_64k {s : cx_Sd 12} {ks : List (Fin 12)} {k : Int} (k0 : 0 ≤ k) (k1 : k ≤ 3) : ∀ (m_z : Nat) (i_z : Int) (B_z : pm_A), (6 - i_z).toNat < m_z → 0 ≤ i_z → i_z ≤ 6 → RIk s ks B_z → Tm pmt (an_sh wM) o_X10_keep 64 ([(2, 0), (0, k), (0, i_z)], [], B_z) (rik_post s ks) := by
  intro m_z
  induction m_z with
  | zero => intro i_z B_z h_z; omega
  | succ m_z ih_z =>
    intro i_z B_z hm_z i0_z i1_z hB_z
    have p7_z := fM_0_7 hB_z.g (r := 0) (by omega) km0
    refine wq_ok srt_Mkeep (fr := []) (cuts := [86]) (J := fun pc st_z => (pc = 86 ∧ i_z < B_z 0 7 ∧ ∃ C_z, RIk s ks C_z ∧ st_z = ([(2, 0), (0, k), (0, i_z)], [], C_z))) ?_ 18 64 _ ?_
    · rintro pc st_z (⟨rfl, h0, C_z, hC, rfl⟩)
      refine wq_ok srt_Mkeep (fr := []) (cuts := [64]) (J := fun pc st_z => (pc = 64 ∧ st_z = ([(2, 0), (0, k), (0, i_z + 1)], [], C_z))) ?_ 7 86 _ ?_
      · rintro pc st_z (⟨rfl, rfl⟩)
        exact ih_z (i_z + 1) C_z (by omega) (by omega) (by omega) hC
      · refine ⟨⟨by omega, by omega⟩, ?_⟩
        exact ⟨rfl, rfl⟩
    · refine ⟨oM_0 (by omega) km0 7 rfl, ?_⟩
      refine ⟨fun h0 => ?_, fun h0 => ?_⟩
      · exact ⟨rfl, ⟨_, rfl⟩, hB_z⟩
      · refine ⟨⟨by omega, by omega⟩, ?_⟩
        refine ⟨⟨by omega, by omega⟩, ?_⟩
        refine ⟨⟨by omega, by omega⟩, ?_⟩
        refine ⟨rM_0 (by omega) km0, ?_⟩
        refine (copy_ex (to := (6 + (6 * k)) + i_z) (fr := i_z) hB_z.g (by omega) (by omega) (by omega) (by omega) (by omega)).imp ?_
        rintro ⟨r1_z, C_z⟩ ⟨q1_z, q2_z, q3_z, q4_z⟩
        simp only at q1_z q2_z q3_z q4_z
        subst q1_z
        exact ⟨rfl, h0, C_z, hB_z.copy q2_z (by omega) q3_z, rfl⟩
theorem kp_33k {s : cx_Sd 12} {ks : List (Fin 12)} {k : Int} (k0 : 0 ≤ k) (k1 : k ≤ 3) : ∀ (m_z : Nat) (i_z : Int) (B_z : pm_A), (72 - i_z).toNat < m_z → 0 ≤ i_z → i_z ≤ 72 → RIk s ks B_z → Tm pmt (an_sh wM) o_X10_keep 33 ([(2, 0), (0, k), (0, i_z)], [], B_z) (rik_post s ks) := by
  intro m_z
  induction m_z with
  | zero => intro i_z B_z h_z; omega
  | succ m_z ih_z =>
    intro i_z B_z hm_z i0_z i1_z hB_z
    have c22 := pM_22 hB_z.g
    have c9_z := pM_9 hB_z.g
    have b5 : i_z < 72 → -2147483648 ≤ B_z 5 i_z ∧ B_z 5 i_z ≤ 2147483647 := fun h_z => eM_5 hB_z.g (r := 5) (by omega) kn5 i0_z h_z
    refine wq_ok srt_Mkeep (fr := []) (cuts := [33, 64]) (J := fun pc st_z => (pc = 64 ∧ (72 ≤ i_z) ∧ st_z = ([(2, 0), (0, k), (0, 0)], [], B_z)) ∨ (pc = 33 ∧ (i_z < 72) ∧ st_z = ([(2, 0), (0, k), (0, i_z + 1)], [], pm_upd B_z (B_z 0 22) ((72 * k) + i_z) (B_z (B_z 0 9) i_z)))) ?_ 22 33 _ ?_
    · rintro pc st_z (⟨rfl, h0, rfl⟩ | ⟨rfl, h0, rfl⟩)
      · exact kp_64k k0 k1 _ 0 B_z (Nat.lt_succ_self _) (by omega) (by omega) hB_z
      · rw [c22, c9_z]
        have b_z := b5 h0
        exact ih_z (i_z + 1) _ (by omega) (by omega) (by omega) (hB_z.upd (uM_15 hB_z.g kn15 b_z.1 b_z.2) (by omega) (by omega))
    · refine ⟨fun h0 => ?_, fun h0 => ?_⟩
      · exact Or.inl (⟨rfl, h0, rfl⟩)
      · refine ⟨oM_0 (by omega) km0 22 rfl, ?_⟩
        refine ⟨⟨by omega, by omega⟩, ?_⟩
        refine ⟨⟨by omega, by omega⟩, ?_⟩
        refine ⟨oM_0 (by omega) km0 9 rfl, ?_⟩
        refine ⟨aM_5 (r := B_z 0 9) (by rw [c9_z]; omega) (by rw [c9_z]; exact kn5) (by omega) (by omega), ?_⟩
        have e1 : B_z (B_z 0 9) i_z = B_z 5 i_z := by rw [c9_z]
        refine ⟨tM_15 (r := B_z 0 22) (by rw [c22]; omega) (by rw [c22]; exact kn15) (by omega) (by omega) rfl, ?_⟩
        refine ⟨⟨by omega, by omega⟩, ?_⟩
        exact Or.inr (⟨rfl, h0, rfl⟩)
theorem mkeep_exk {s : cx_Sd 12} {ks : List (Fin 12)} {A : pm_A} (h : RIk s ks A) (k : Int) : Cl pmt (an_sh wM) 160 [(2, 0), (0, k)] A (rik_post s ks) := by
  have hg := h.g
  have p7_z := fM_0_7 hg (r := 0) (by omega) km0
  have p8 := fM_0_8 hg (r := 0) (by omega) km0
  have c20_z := pM_20 hg
  have c21 : pm_upd A (A 0 20) k (A 0 7) 0 21 = 14 := by rw [c20_z, upd_o (by omega)]; exact pM_21 hg
  have hk1 : 0 ≤ k → k ≤ 3 → RIk s ks (pm_upd A 13 k (A 0 7)) := fun _ _ => h.upd (uM_13 hg kn13 (by omega) (by omega)) (by omega) (by omega)
  have e8 : pm_upd A (A 0 20) k (A 0 7) 0 8 = A 0 8 := by rw [c20_z, upd_o (by omega)]
  refine Cl.of (Nat.le_of_ble_eq_true rfl) ?_
  refine wq_ok (full := o_X10_keep) srt_Mkeep (fr := []) (cuts := [33]) (J := fun pc st_z => (pc = 33 ∧ (0 ≤ k) ∧ (k ≤ 3) ∧ st_z = ([(2, 0), (0, k), (0, 0)], [], pm_upd (pm_upd A (A 0 20) k (A 0 7)) ((pm_upd A (A 0 20) k (A 0 7)) 0 21) k ((pm_upd A (A 0 20) k (A 0 7)) 0 8)))) ?_ 24 0 _ ?_
  · rintro pc st_z (⟨rfl, h0, h1, rfl⟩)
    rw [c21, e8, c20_z]
    have hR := hk1 (by omega) (by omega)
    exact kp_33k (by omega) (by omega) _ 0 _ (Nat.lt_succ_self _) (by omega) (by omega) (hR.upd (uM_14 hR.g kn14 (by omega) (by omega)) (by omega) (by omega))
  · refine ⟨fun h0 => ?_, fun h0 => ?_⟩
    · exact ⟨rfl, ⟨_, rfl⟩, h⟩
    · refine ⟨fun h1 => ?_, fun h1 => ?_⟩
      · refine ⟨oM_0 (by omega) km0 20 rfl, ?_⟩
        refine ⟨oM_0 (by omega) km0 7 rfl, ?_⟩
        refine ⟨tM_13 (r := A 0 20) (by rw [c20_z]; omega) (by rw [c20_z]; exact kn13) (by omega) (by omega) rfl, ?_⟩
        refine ⟨oM_0 (by omega) km0 21 rfl, ?_⟩
        refine ⟨oM_0 (by omega) km0 8 rfl, ?_⟩
        refine ⟨tM_14 (r := (pm_upd A (A 0 20) k (A 0 7)) 0 21) (by rw [c21]; omega) (by rw [c21]; exact kn14) (by omega) (by omega) rfl, ?_⟩
        exact ⟨rfl, h0, h1, rfl⟩
      · exact ⟨rfl, ⟨_, rfl⟩, h⟩
theorem mfinite_exk {s : cx_Sd 12} {ks : List (Fin 12)} {A : pm_A} (h : RIk s ks A) : Cl pmt (an_sh wM) 141 [(2, 0)] A (rik_post s ks) := by
  have hg := h.g
  refine Cl.of (Nat.le_of_ble_eq_true rfl) ?_
  refine wq_ok (full := o_X10_finite) srt_Mfinite (fr := []) (cuts := [6]) (J := fun pc st_z => (pc = 6 ∧ ∃ C_z, savesJ A C_z 30 72 ∧ st_z = ([(2, 0), (9, 0)], [], C_z))) ?_ 7 0 _ ?_
  · rintro pc st_z (⟨rfl, C_z, hC, rfl⟩)
    refine wq_ok srt_Mfinite (fr := []) (cuts := [10]) (J := fun pc st_z => (pc = 10 ∧ ∃ B_z x_z, fF C_z B_z ∧ st_z = ([(2, 0), (9, 0)], [(0, x_z)], B_z))) ?_ 6 6 _ ?_
    · rintro pc st_z (⟨rfl, B_z, x_z, hB_z, rfl⟩)
      refine wq_ok srt_Mfinite (fr := []) (cuts := [17]) (J := fun pc st_z => (pc = 17 ∧ ∃ D_z, restoresJ B_z D_z 30 72 ∧ st_z = ([(2, 0), (0, x_z)], [], D_z))) ?_ 8 10 _ ?_
      · rintro pc st_z (⟨rfl, D_z, hD, rfl⟩)
        have hout : ∀ r_z j_z : Int, 0 ≤ r_z → r_z ≤ 38 → 0 ≤ j_z → (r_z = 0 → j_z < 100) → (r_z = 0 ∧ j_z ≠ 40 ∧ j_z ≠ 41 ∧ j_z ≠ 42) ∨ (r_z ≠ 0 ∧ r_z ≠ 5 ∧ r_z ≠ 12 ∧ r_z ≠ 24 ∧ r_z ≠ 25 ∧ r_z ≠ 26 ∧ r_z ≠ 27 ∧ r_z ≠ 28 ∧ r_z ≠ 29) → B_z r_z j_z = C_z r_z j_z := fun r_z j_z r0 r1_z j0 j1 hr => hB_z.2 r_z j_z r0 j0 (fr_out r0 r1_z j0 j1 (fun e_z => by unfold fms; simp only [List.mem_cons, List.not_mem_nil, or_false]; omega) (fun e_z => by unfold fms; simp only [List.mem_cons, List.not_mem_nil, or_false]; omega))
        have hRI : RIk s ks D_z := restoredk h hC hB_z.1 (fun r_z j_z j0 j1 hr => hout r_z j_z (by omega) (by omega) j0 j1 (by omega)) (fun p_z p0_z p1_z r_z j_z hr => hout r_z j_z (by unfold inS at hr; omega) (by unfold inS at hr; omega) (by unfold inS at hr; omega) (by unfold inS at hr; omega) (by unfold inS at hr; omega)) hD
        refine wq_ok srt_Mfinite (fr := []) (cuts := []) (J := fun _ _ => False) ?_ 6 17 _ ?_
        · intro pc st_z h; exact h.elim
        · exact ⟨rfl, ⟨_, rfl⟩, hRI⟩
      · refine ⟨rM_0 (by omega) km0, ?_⟩
        refine (restores_ex (p := 30) hB_z.1 (by omega) (by omega)).imp ?_
        rintro ⟨r1_z, D_z⟩ ⟨q1_z, q2_z⟩
        simp only at q1_z q2_z
        subst q1_z
        exact ⟨rfl, D_z, q2_z, rfl⟩
    · refine ⟨rM_0 (by omega) km0, ?_⟩
      refine (searches_ex hC.1).imp ?_
      rintro ⟨r1_z, B_z⟩ ⟨⟨x_z, q1_z⟩, q2_z⟩
      simp only at q1_z q2_z
      subst q1_z
      exact ⟨rfl, B_z, x_z, q2_z, rfl⟩
  · refine ⟨rM_0 (by omega) km0, ?_⟩
    refine (saves_ex (p := 30) hg (by omega) (by omega)).imp ?_
    rintro ⟨r1_z, C_z⟩ ⟨q1_z, q2_z⟩
    simp only at q1_z q2_z
    subst q1_z
    exact ⟨rfl, C_z, q2_z, rfl⟩
theorem msame_exk {s : cx_Sd 12} {ks : List (Fin 12)} {A : pm_A} (h : RIk s ks A) (k : Int) : Cl pmt (an_sh wM) 180 [(2, 0), (0, k)] A (rik_post s ks) := by
  refine (msame_ex h.g k).imp ?_
  rintro r_z ⟨x_z, e_z, _, hI⟩
  exact ⟨⟨x_z, e_z⟩, h.typed hI.1 hI.2 (by decide)⟩
end

section
/-! both sides hold one seed -/
def XRs (s : cx_Sd 12) (ks : List (Fin 12)) (AX AM : pm_A) : Prop := RL0 s ks AX AM ∧ CA AX ∧ (AX 0 4 = AM 0 10 ∧ AM 0 10 = (ks.length : Int)) ∧ (∀ (d_z : Nat) (f_z : Fin 12), ks[d_z]? = some f_z → AX 46 (d_z : Int) = (f_z.1 : Int) ∧ AM 6 (d_z : Int) = (f_z.1 : Int)) ∧ wkS s (AM 0 7 + AM 0 8) (AM 0 7) [] ks ∧ ∀ i_z : Int, 0 ≤ i_z → i_z < AM 0 7 → AX 3 i_z = AM 10 i_z
def XR (AX AM : pm_A) : Prop := ∃ (s_z : cx_Sd 12) (ks_z : List (Fin 12)), XRs s_z ks_z AX AM
def msm (s : cx_Sd 12) (ks : List (Fin 12)) (A B : pm_A) : Prop := Tru s ks B ∧ (B 0 7 = A 0 7 ∧ B 0 8 = A 0 8 ∧ B 0 10 = A 0 10) ∧ (∀ d_z : Int, 0 ≤ d_z → B 6 d_z = A 6 d_z) ∧ ∀ i_z : Int, 0 ≤ i_z → B 10 i_z = A 10 i_z
def mdC : List Nat := [7, 8, 10, 10001, 10002, 10003, 10005, 10006, 10010]
def mdD : List Nat := [7, 8, 10, 10006, 10010]
theorem kmA {c : Int} {l : Nat} (hk : wM.2 c = l) (hs : (an_sh wM c).1 = 1) (j : Int) : kcode wM c j = 10000 + l := by
  rw [kc_1 hs, hk]
theorem msm.t {s : cx_Sd 12} {ks : List (Fin 12)} {A B : pm_A} {ms : List Nat} (hT : Tru s ks B) (hF : gFk wM ms A B) (hm : avoid mdD ms = true) : msm s ks A B := by
  have h0 : ∀ j_z : Int, j_z = 7 ∨ j_z = 8 ∨ j_z = 10 → B 0 j_z = A 0 j_z := fun j_z hj => hF 0 j_z (by omega) (by omega) (by
    rw [kMd j_z]
    refine avoid_n hm ?_
    rcases hj with rfl | rfl | rfl <;> decide)
  refine ⟨hT, ⟨h0 7 (by omega), h0 8 (by omega), h0 10 (by omega)⟩, fun d_z d0_z => hF 6 d_z (by omega) d0_z ?_, fun i_z i0_z => hF 10 i_z (by omega) i0_z ?_⟩
  · rw [kmA kn6 (by decide +kernel)]
    exact avoid_n hm (by decide)
  · rw [kmA kn10 (by decide +kernel)]
    exact avoid_n hm (by decide)
theorem msm.k {s : cx_Sd 12} {ks : List (Fin 12)} {A B : pm_A} {ms : List Nat} (hT : Tru s ks A) (hB : gH wM B) (hF : gFk wM ms A B) (hm : avoid mdC ms = true) (hm2 : avoid mdD ms = true) : msm s ks A B := by
  have h0 : ∀ j_z : Int, j_z = 7 ∨ j_z = 8 → B 0 j_z = A 0 j_z := fun j_z hj => hF 0 j_z (by omega) (by omega) (by
    rw [kMd j_z]
    refine avoid_n hm ?_
    rcases hj with rfl | rfl <;> decide)
  have h1 : ∀ j_z : Int, 0 ≤ j_z → B 1 j_z = A 1 j_z := fun j_z j0 => hF 1 j_z (by omega) j0 (by
    rw [kmA kn1 (by decide +kernel)]
    exact avoid_n hm (by decide))
  have h2 : ∀ j_z : Int, 0 ≤ j_z → B 2 j_z = A 2 j_z := fun j_z j0 => hF 2 j_z (by omega) j0 (by
    rw [kmA kn2 (by decide +kernel)]
    exact avoid_n hm (by decide))
  have h3 : ∀ j_z : Int, 0 ≤ j_z → B 3 j_z = A 3 j_z := fun j_z j0 => hF 3 j_z (by omega) j0 (by
    rw [kmA kn3 (by decide +kernel)]
    exact avoid_n hm (by decide))
  refine msm.t (hT.same hB (h0 7 (by omega)) (h0 8 (by omega)) (fun j_z j0 _ => hF 5 j_z (by omega) j0 ?_) (fun p_z p0_z p1_z r_z j_z hr => ?_)) hF hm2
  · rw [kmA kn5 (by decide +kernel)]
    exact avoid_n hm (by decide)
  · unfold inS at hr
    rcases hr with ⟨rfl, rfl⟩ | ⟨rfl, g1, g2⟩ | ⟨rfl, g1, g2⟩
    · exact h1 _ p0_z
    · exact h2 _ (by omega)
    · exact h3 _ (by omega)
theorem xr_sm {s : cx_Sd 12} {ks : List (Fin 12)} {AX AM BX BM : pm_A} (h : XRs s ks AX AM) (hx : xsm s ks AX BX) (hc : CA BX) (hm : msm s ks AM BM) : XRs s ks BX BM := by
  obtain ⟨⟨_, _, _, h7, h8⟩, _, ⟨h4, h10⟩, ht, hw, hz⟩ := h
  obtain ⟨x1_z, x2_z, ⟨x3, x4_z, x5_z⟩, x6, x7⟩ := hx
  obtain ⟨m1_z, ⟨m2_z, m3_z, m4_z⟩, m5_z, m6_z⟩ := hm
  refine ⟨⟨x1_z, x2_z, m1_z, by rw [x4_z, m2_z]; exact h7, by rw [x5_z, m3_z]; exact h8⟩, hc, ⟨by rw [x3, m4_z]; exact h4, by rw [m4_z]; exact h10⟩, fun d_z f_z hd_z => ?_, by rw [m2_z, m3_z]; exact hw, fun i_z i0_z i1_z => ?_⟩
  · rw [x6 d_z (by omega), m5_z d_z (by omega)]; exact ht d_z f_z hd_z
  · rw [m2_z] at i1_z
    rw [x7 i_z i0_z, m6_z i_z i0_z]; exact hz i_z i0_z i1_z
theorem XR.kk {AX AM BX BM : pm_A} {msX msM : List Nat} (h : XR AX AM) (hBX : gH wX BX) (hBM : gH wM BM) (hX : gFk wY msX AX BX) (hM : gFk wM msM AM BM) (a1 : avoid bdC msX = true) (a2 : avoid caC msX = true) (a3 : avoid mdC msM = true) (a4 : avoid mdD msM = true) : XR BX BM := by
  obtain ⟨s_z, ks_z, h_z⟩ := h
  exact ⟨s_z, ks_z, xr_sm h_z (xsm.k h_z.1.1 h_z.1.2.1 hBX hX a1) (h_z.2.1.k hX a2) (msm.k h_z.1.2.2.1 hBM hM a3 a4)⟩
/-- a seed begun on both sides -/
theorem xr_new {AX AM : pm_A} {T : Int → Int} {n m : Int} (hx : xnw T n m AX) (hm : mnw T n m AM) (hc : CA AX) (hz : ∀ i_z : Int, 0 ≤ i_z → i_z < n → AX 3 i_z = AM 10 i_z) : XR AX AM := by
  obtain ⟨s_z, g1, g2, g3_z, g4, g5_z⟩ := hm
  obtain ⟨x1_z, x2_z, x3, x4_z, x5_z⟩ := hx
  refine ⟨s_z, [], ⟨x1_z, x2_z s_z g2, g1, by rw [x4_z, g3_z], by rw [x5_z, g4]⟩, hc, ⟨by rw [x3, g5_z], by rw [g5_z]; rfl⟩, fun d_z f_z hd_z => absurd hd_z (by intro q_z; simp at q_z), trivial, fun i_z i0_z i1_z => hz i_z i0_z (by rw [g3_z] at i1_z; exact i1_z)⟩
theorem msm.gp {s : cx_Sd 12} {ks : List (Fin 12)} {A B : pm_A} (hT : Tru s ks A) (h : gpF A B) : msm s ks A B :=
  ⟨hT.same h.1 (h.2 0 7 (by omega) (by omega) (by omega)) (h.2 0 8 (by omega) (by omega) (by omega)) (fun j_z _ _ => h.2 5 j_z (by omega) (by omega) (by omega)) (fun p_z p0_z p1_z r_z j_z hr => h.2 r_z j_z (by unfold inS at hr; omega) (by unfold inS at hr; omega) (by unfold inS at hr; omega)), ⟨h.2 0 7 (by omega) (by omega) (by omega), h.2 0 8 (by omega) (by omega) (by omega), h.2 0 10 (by omega) (by omega) (by omega)⟩, fun d_z _ => h.2 6 d_z (by omega) (by omega) (by omega), fun i_z _ => h.2 10 i_z (by omega) (by omega) (by omega)⟩
theorem mnw.c {T U : Int → Int} {n m : Int} {B : pm_A} (h : mnw T n m B) (hn : n ≤ 6) (hm : m ≤ 6) (e : ∀ k_z : Int, 0 ≤ k_z → k_z < 72 → U k_z = T k_z) : mnw U n m B := by
  obtain ⟨s_z, g1, g2, g3_z⟩ := h
  exact ⟨s_z, g1, g2.c hn hm e, g3_z⟩
theorem bgA_0 {p : Int} {T : Int → Int} (h : bgA p T 0) : 1 ≤ p := by
  rcases h with ⟨q_z, _⟩ | ⟨q_z, _⟩
  · omega
  · exact q_z
theorem xr_begin {s : cx_Sd 12} {ks : List (Fin 12)} {AX AM : pm_A} {q r : pm_R} (hD : DT AX AM) (hI : RI AM) (h : XRs s ks AX AM) (hc : CA q.2) (hq : xbQ s ks AX q) (hr : bz3 AM r) : XR q.2 r.2 ∧ q.1 = r.1 := by
  have p12_z := fM_0_12 hI.g (r := 0) (by omega) km0
  have p13_z := fM_0_13 hI.g (r := 0) (by omega) km0
  obtain ⟨x_z, q1_z, q2_z, q3_z⟩ := hq
  obtain ⟨_, y_z, r1_z, r2_z, r3_z⟩ := hr
  rw [hD.1.2.1] at q2_z q3_z
  rw [hD.1.2.2] at q3_z
  have hxy : x_z = y_z := bgA_one (bgA_c p12_z.2 hD.2.2 q2_z) r2_z
  subst hxy
  refine ⟨?_, by rw [q1_z, r1_z]⟩
  rcases q3_z with ⟨n_z, hx⟩ | ⟨e_z, hx, hsy⟩
  · rcases r3_z with ⟨e_z, _⟩ | ⟨_, hg⟩
    · exact absurd e_z n_z
    · exact ⟨s, ks, xr_sm h hx hc (msm.gp h.1.2.2.1 hg)⟩
  · rcases r3_z with ⟨_, hl, B_z, b1_z, b2_z, b3_z⟩ | ⟨n_z, _⟩
    · subst e_z
      have p1_z := bgA_0 r2_z
      have hm_z := bgJ.nw hI.2.1.1 hI.g p1_z b1_z b2_z b3_z
      refine xr_new hx (hm_z.c p12_z.2 p13_z.2 hD.2.2) hc (fun i_z i0_z i1_z => ?_)
      exact (syL_one hl (hsy.c p12_z.2 hD.2.2 (fun _ _ _ => rfl)) i0_z i1_z).symm
    · exact absurd e_z n_z
theorem xr_seed {s : cx_Sd 12} {ks : List (Fin 12)} {AX AM : pm_A} {sl : Int} {q r : pm_R} (hI : RI AM) (h : XRs s ks AX AM) (hc : CA q.2) (hq : xsR s ks AX sl (AM 31 sl) (fcs AM sl) q) (hr : mS3 AM sl r) : XR q.2 r.2 := by
  rcases hq with ⟨no_z, rfl⟩ | ⟨ok_z, x_z, q1_z, q2_z, q3_z, q4_z⟩
  · rcases hr with ⟨_, rfl⟩ | ⟨ok_z, _⟩
    · exact ⟨s, ks, h⟩
    · exact absurd ok_z no_z
  · rcases hr with ⟨no_z, _⟩ | ⟨_, _, B_z, y_z, b1_z, b2_z, b3_z, b4_z, b5_z, b6_z, b7_z, b8_z, b9_z⟩
    · exact absurd ok_z no_z
    · have hn := ok_z.2.2
      have hn4 : 1 ≤ AM 31 sl - 3 := by have := (hI.2.2 sl ok_z.1).1; omega
      have hx : bgA (B_z 0 12) (B_z 7) x_z := by
        rw [b5_z.1]
        refine bgA_c (T := tsum (ctr (AM 31 sl) (fcs AM sl)) 1000) (by omega) (fun k_z k0_z k1_z => (b3_z k_z k0_z k1_z).symm) ?_
        exact Or.inr ⟨hn4, q1_z⟩
      have hxy : x_z = y_z := bgA_one hx b6_z
      subst hxy
      rcases q4_z with ⟨n_z, hxs⟩ | ⟨e_z, hxs, hsy⟩
      · rcases b9_z with ⟨e_z, _⟩ | ⟨_, hg⟩
        · exact absurd e_z n_z
        · have hB_z : msm s ks AM B_z := ⟨h.1.2.2.1.same b2_z.1 (b2_z.2 0 7 (by omega) (by omega)) (b2_z.2 0 8 (by omega) (by omega)) (fun j_z _ _ => b2_z.2 5 j_z (by omega) (by omega)) (fun p_z p0_z p1_z r_z j_z hr => b2_z.2 r_z j_z (by unfold inS at hr; omega) (by unfold inS at hr; omega)), ⟨b2_z.2 0 7 (by omega) (by omega), b2_z.2 0 8 (by omega) (by omega), b2_z.2 0 10 (by omega) (by omega)⟩, fun d_z _ => b2_z.2 6 d_z (by omega) (by omega), fun i_z _ => b2_z.2 10 i_z (by omega) (by omega)⟩
          have hC := msm.gp hB_z.1 hg
          refine ⟨s, ks, xr_sm h hxs hc ⟨hC.1, ⟨by rw [hC.2.1.1, hB_z.2.1.1], by rw [hC.2.1.2.1, hB_z.2.1.2.1], by rw [hC.2.1.2.2, hB_z.2.1.2.2]⟩, fun d_z d0_z => by rw [hC.2.2.1 d_z d0_z, hB_z.2.2.1 d_z d0_z], fun i_z i0_z => by rw [hC.2.2.2 i_z i0_z, hB_z.2.2.2 i_z i0_z]⟩⟩
      · rcases b9_z with ⟨_, hl, E_z, c1_z, c2_z, c3_z⟩ | ⟨n_z, _⟩
        · have hm_z := bgJ.nw b4_z b1_z.g (by rw [b5_z.1]; exact hn4) c1_z c2_z c3_z
          rw [b5_z.1, b5_z.2] at hm_z
          rw [b5_z.1] at hl
          refine xr_new hxs (hm_z.c (by omega) (by omega) (fun k_z k0_z k1_z => (b3_z k_z k0_z k1_z).symm)) hc (fun i_z i0_z i1_z => ?_)
          exact (syL_one hl (hsy.c (by omega) (fun k_z k0_z k1_z => (b3_z k_z k0_z k1_z).symm) (fun _ _ _ => rfl)) i0_z i1_z).symm
        · exact absurd e_z n_z
/-! turn and back on both sides -/
theorem wk_sn {s : cx_Sd 12} {W P : Int} {ks : List (Fin 12)} {f : Fin 12} : wkS s W P [] (ks ++ [f]) ↔ wkS s W P [] ks ∧ okS s ks W P f := by
  rw [wkS_app, List.nil_append]
  exact ⟨fun h_z => ⟨h_z.1, h_z.2.1⟩, fun h_z => ⟨h_z.1, h_z.2, trivial⟩⟩
theorem wk_bd {s : cx_Sd 12} {W P : Int} {l : List (Fin 12)} (h9 : ∀ v_z k_z : Fin 12, (k_z.1 : Int) < P → s.b v_z k_z ≤ 9 ∧ -9 ≤ s.b v_z k_z) (h : wkS s W P [] l) : bdS s l W P := by
  rcases List.eq_nil_or_concat l with rfl | ⟨l', f_z, rfl⟩
  · intro i_z j_z _ hj
    have h1 := h9 i_z j_z hj
    show -9999 ≤ s.b i_z j_z ∧ s.b i_z j_z ≤ 9999
    omega
  · rw [List.concat_eq_append] at h ⊢
    exact it_bd.1 (wk_sn.1 h).2.2
theorem tuG_0 {A B : pm_A} (h : tuG A B) : B 0 7 = A 0 7 ∧ B 0 8 = A 0 8 ∧ B 0 10 = A 0 10 ∧ ∀ d_z : Int, B 6 d_z = A 6 d_z :=
  ⟨h.2 0 7 (fun t_z t0_z t1_z ht => by unfold inS at ht; omega) (by omega) (by omega) (by omega), h.2 0 8 (fun t_z t0_z t1_z ht => by unfold inS at ht; omega) (by omega) (by omega) (by omega), h.2 0 10 (fun t_z t0_z t1_z ht => by unfold inS at ht; omega) (by omega) (by omega) (by omega), fun d_z => h.2 6 d_z (fun t_z t0_z t1_z ht => by unfold inS at ht; omega) (by omega) (by omega) (by omega)⟩
theorem xr_turn {s : cx_Sd 12} {ks : List (Fin 12)} {AX AM : pm_A} {k : Int} {q r : pm_R} {msX msM : List Nat} (h : XRs s ks AX AM) (hc : CA q.2) (hX : gFk wY msX AX q.2) (hM : gFk wM msM AM r.2) (a1 : avoid [10011] msX = true) (a2 : avoid [10010] msM = true) (hq : tnP s ks AX k q) (hr : mtP s ks AM k r) : XR q.2 r.2 := by
  have hh := h
  obtain ⟨⟨x1_z, x2_z, x3, h7, h8⟩, x4_z, ⟨h4, h10⟩, ht, hw, hz⟩ := hh
  have eW : bgW AX 1 = AM 0 7 + AM 0 8 := by unfold bgW; rw [h7, h8]
  have e3 : ∀ i_z : Int, 0 ≤ i_z → q.2 3 i_z = AX 3 i_z := fun i_z i0_z => hX 3 i_z (by omega) i0_z (by
    rw [kc_a kk3 (by decide) (shX_11 kk3)]
    exact avoid_n a1 (by decide))
  have e10_z : ∀ i_z : Int, 0 ≤ i_z → r.2 10 i_z = AM 10 i_z := fun i_z i0_z => hM 10 i_z (by omega) i0_z (by
    rw [kmA kn10 (by decide +kernel)]
    exact avoid_n a2 (by decide))
  have xt : tnE s ks AX q.2 → xsm s ks AX q.2 := fun g_z => by
    have hq28 : (0 : Int) ≤ 28 ∧ wX.2 28 = 4 := ⟨by omega, kk28⟩
    have hh2 : ∀ {r_z : Int} {l : Nat}, wX.2 r_z = l → ¬ l = 2 → ¬ l = 14 → ¬ l = 15 → ¬ l = 18 → ∀ j_z : Int, q.2 r_z j_z = AX r_z j_z := fun hr_z n1_z n2_z n3_z n4_z j_z => g_z.1.2.1 _ j_z (ml_no x1_z.1 hq28 hr_z n1_z n2_z n3_z n4_z)
    exact ⟨g_z.2.1, g_z.2.2, ⟨hh2 kk0 (by decide) (by decide) (by decide) (by decide) 4, hh2 kk1 (by decide) (by decide) (by decide) (by decide) 0, hh2 kk1 (by decide) (by decide) (by decide) (by decide) 1⟩, fun d_z _ => hh2 kk46 (by decide) (by decide) (by decide) (by decide) d_z, fun i_z i0_z => e3 i_z i0_z⟩
  have mid_z : xsm s ks AX q.2 → msm s ks AM r.2 → XR q.2 r.2 := fun g1 g2 => ⟨s, ks, xr_sm h g1 hc g2⟩
  have mrf : msm s ks AM AM := ⟨x3, ⟨rfl, rfl, rfl⟩, fun _ _ => rfl, fun _ _ => rfl⟩
  have mtu : tuG AM r.2 → Tru s ks r.2 → msm s ks AM r.2 := fun g1 g2 => ⟨g2, ⟨(tuG_0 g1).1, (tuG_0 g1).2.1, (tuG_0 g1).2.2.1⟩, fun d_z _ => (tuG_0 g1).2.2.2 d_z, e10_z⟩
  have hx : (q.2 = AX ∨ tnE s ks AX q.2) → xsm s ks AX q.2 := fun g_z => by
    rcases g_z with g_z | g_z
    · rw [g_z]; exact xsm.rf x1_z x2_z
    · exact xt g_z
  have hm_z : (r.2 = AM ∨ (tuG AM r.2 ∧ Tru s ks r.2)) → msm s ks AM r.2 := fun g_z => by
    rcases g_z with g_z | g_z
    · rw [g_z]; exact mrf
    · exact mtu g_z.1 g_z.2
  have t4_z := fX_0_4 x1_z.1 z0 kk0
  rcases hq with ⟨e_z, n_z⟩ | ⟨f_z, hf, hq⟩
  · have hqx : q.2 = AX := by rw [e_z]
    rcases hr with ⟨g_z, _⟩ | ⟨g_z, g2, _⟩ | ⟨f_z, hf, _⟩
    · exact mid_z (hx (Or.inl hqx)) (hm_z (Or.inl (by rw [g_z])))
    · exact mid_z (hx (Or.inl hqx)) (hm_z (Or.inl (by rw [g_z])))
    · exact absurd ⟨by omega, by omega⟩ n_z
  · have hfM : (f_z.1 : Int) < AM 0 7 := by omega
    have hitX : itA AX (f_z.1 : Int) ↔ itS s ks (AM 0 7 + AM 0 8) (AM 0 7) f_z := by
      rw [← eW, ← h7]
      exact x2_z.its (k := f_z) (by omega)
    have hitM := x3.its (k := f_z) hfM
    rcases hr with ⟨g_z, g2⟩ | ⟨g_z, g2, g3_z⟩ | ⟨g_z, hg, hr⟩
    · exact absurd ⟨by omega, by omega⟩ g2
    · rcases hq with ⟨_, b_z, _⟩ | ⟨_, b_z, _⟩ | ⟨_, ⟨b_z, _⟩, _⟩
      · exact mid_z (xt b_z) (hm_z (Or.inl (by rw [g_z])))
      · exact mid_z (xt b_z) (hm_z (Or.inl (by rw [g_z])))
      · omega
    · have hfg : g_z = f_z := Fin.ext (by omega)
      subst hfg
      rw [← hf.1] at hq hr
      rcases hq with ⟨_, b_z, b2_z⟩ | ⟨_, b_z, b2_z⟩ | ⟨_, ⟨b_z, b2_z, b3_z⟩, b4_z, b5_z, ⟨b6_z, b7_z, b8_z⟩, b9_z, b10_z⟩
      · rcases hr with ⟨_, c1_z, c2_z, _⟩ | ⟨_, _, c1_z, _⟩
        · exact mid_z (xt b_z) (mtu c1_z c2_z)
        · exact absurd ⟨c1_z.1, hitM.1 c1_z.2⟩ (nok hitX b2_z)
      · omega
      · rcases hr with ⟨_, _, _, c1_z⟩ | ⟨_, c1_z, _, ⟨c2_z, c3_z, c4_z⟩, c5_z, c6_z⟩
        · exact absurd ⟨b2_z, hitX.1 b3_z⟩ (nok hitM c1_z)
        · refine ⟨s, ks ++ [g_z], ⟨b5_z, b4_z, c1_z, by rw [b9_z, c5_z]; exact h7, by rw [b10_z, c6_z]; exact h8⟩, hc, ⟨by rw [b6_z, c2_z, h4], by rw [c2_z, h10, List.length_append]; show (ks.length : Int) + 1 = ((ks.length + 1 : Nat) : Int); omega⟩, fun d_z u_z hd_z => ?_, by rw [c5_z, c6_z]; exact wk_sn.2 ⟨hw, b2_z, hitX.1 b3_z⟩, fun i_z i0_z i1_z => by rw [e3 i_z i0_z, e10_z i_z i0_z]; exact hz i_z i0_z (by rw [c5_z] at i1_z; exact i1_z)⟩
          by_cases hdl : d_z < ks.length
          · rw [List.getElem?_append_left hdl] at hd_z
            have h5 := ht d_z u_z hd_z
            rw [b8_z d_z (by omega), c4_z d_z (by omega)]
            exact h5
          · have hde : d_z = ks.length := by
              have h6 := (List.getElem?_eq_some_iff.mp hd_z).1
              rw [List.length_append] at h6
              have h6 : d_z < ks.length + 1 := h6
              omega
            rw [hde, List.getElem?_append_right (Nat.le_refl _), Nat.sub_self] at hd_z
            have hu : g_z = u_z := Option.some.inj hd_z
            rw [← hu, hde]
            rw [h4, h10] at b7_z
            rw [h10] at c3_z
            exact ⟨b7_z, c3_z⟩
theorem ls_split (ks : List (Fin 12)) : ks = [] ∨ ∃ l f_z, ks = l ++ [f_z] := by
  rcases List.eq_nil_or_concat ks with h_z | ⟨l, f_z, h_z⟩
  · exact Or.inl h_z
  · exact Or.inr ⟨l, f_z, by rw [h_z, List.concat_eq_append]⟩
def bkX (s : cx_Sd 12) (ks : List (Fin 12)) (A : pm_A) (r : pm_R) : Prop := (ks = [] ∧ r = (some (0, 0), A)) ∨ ∃ l f_z, ks = l ++ [f_z] ∧ r.1 = some (0, 1) ∧ TrX s l r.2 1 ∧ StE r.2 ∧ (r.2 0 4 = A 0 4 - 1 ∧ ∀ d_z : Int, r.2 46 d_z = A 46 d_z) ∧ r.2 1 0 = A 1 0 ∧ r.2 1 1 = A 1 1
def bkM (s : cx_Sd 12) (ks : List (Fin 12)) (A : pm_A) (r : pm_R) : Prop := (ks = [] ∧ r = (some (0, 0), A)) ∨ ∃ l f_z, ks = l ++ [f_z] ∧ r.1 = some (0, 1) ∧ Tru s l r.2 ∧ (r.2 0 10 = A 0 10 - 1 ∧ ∀ d_z : Int, r.2 6 d_z = A 6 d_z) ∧ r.2 0 7 = A 0 7 ∧ r.2 0 8 = A 0 8
theorem bk_ok {s : cx_Sd 12} {W P : Int} {l : List (Fin 12)} {f : Fin 12} (h9 : ∀ v_z k_z : Fin 12, (k_z.1 : Int) < P → s.b v_z k_z ≤ 9 ∧ -9 ≤ s.b v_z k_z) (h : wkS s W P [] (l ++ [f])) : okS s (l ++ [f]) W P f := by
  have h1 := wk_sn.1 h
  refine ⟨fun q_z => h1.2.1 (sp_twice q_z), it_bd.2 ?_⟩
  have h2 := wk_bd h9 h1.1
  intro i_z j_z hi_z hj
  rw [bs_twice]
  exact h2 i_z j_z hi_z hj
theorem xback_c {s : cx_Sd 12} {ks : List (Fin 12)} {AX AM : pm_A} (h : XRs s ks AX AM) : Cl pmt (an_sh wX) 86 [(2, 0)] AX (bkX s ks AX) := by
  obtain ⟨⟨x1_z, x2_z, x3, h7, h8⟩, x4_z, ⟨h4, h10⟩, ht, hw, hz⟩ := h
  rcases ls_split ks with rfl | ⟨l, f_z, rfl⟩
  · refine (back_noX x1_z (by rw [h4, h10]; show ¬ (1 : Int) ≤ ((0 : Nat) : Int); omega)).imp ?_
    rintro r_z rfl
    exact Or.inl ⟨rfl, rfl⟩
  · have hlen : AX 0 4 = (l.length : Int) + 1 := by rw [h4, h10, List.length_append]; show ((l.length + 1 : Nat) : Int) = _; omega
    have hk : (f_z.1 : Int) < AX 1 0 := x2_z.2.2.2.2.1 f_z (List.mem_append.2 (Or.inr (List.mem_singleton.2 rfl)))
    have hl := ht l.length f_z (by rw [List.getElem?_append_right (Nat.le_refl _), Nat.sub_self]; rfl)
    have eW : bgW AX 1 = AM 0 7 + AM 0 8 := by unfold bgW; rw [h7, h8]
    have hok := bk_ok (fun v_z k_z hk2 => x2_z.2.2.2.2.2.1 v_z k_z (by rw [h7]; exact hk2)) hw
    have hitX : itA AX (f_z.1 : Int) ↔ itS s (l ++ [f_z]) (AM 0 7 + AM 0 8) (AM 0 7) f_z := by
      rw [← eW, ← h7]
      exact x2_z.its (k := f_z) hk
    refine (back_exX x1_z x2_z (f := f_z) (by omega) (by rw [hlen, show (l.length : Int) + 1 - 1 = (l.length : Int) by omega]; exact hl.1) hk).imp ?_
    rintro r_z (⟨_, _, g_z⟩ | ⟨g1, g2, g3_z, g4, g5_z, g6⟩)
    · exact absurd hok (nok hitX g_z)
    · exact Or.inr ⟨l, f_z, rfl, g1, g3_z.twice, g4, g5_z, g6⟩
theorem mback_c {s : cx_Sd 12} {ks : List (Fin 12)} {AX AM : pm_A} (h : XRs s ks AX AM) : Cl pmt (an_sh wM) 128 [(2, 0)] AM (bkM s ks AM) := by
  obtain ⟨⟨x1_z, x2_z, x3, h7, h8⟩, x4_z, ⟨h4, h10⟩, ht, hw, hz⟩ := h
  rcases ls_split ks with rfl | ⟨l, f_z, rfl⟩
  · refine (mback_no x3.1 (by rw [h10]; rfl)).imp ?_
    rintro r_z rfl
    exact Or.inl ⟨rfl, rfl⟩
  · have hlen : AM 0 10 = (l.length : Int) + 1 := by rw [h10, List.length_append]; show ((l.length + 1 : Nat) : Int) = _; omega
    have hk : (f_z.1 : Int) < AM 0 7 := x3.2.2.2.1 f_z (List.mem_append.2 (Or.inr (List.mem_singleton.2 rfl)))
    have hl := ht l.length f_z (by rw [List.getElem?_append_right (Nat.le_refl _), Nat.sub_self]; rfl)
    have hok := bk_ok (fun v_z k_z hk2 => x3.2.2.2.2.1 v_z k_z hk2) hw
    have hitM := x3.its (k := f_z) hk
    refine (mback_exq x3 (f := f_z) (by omega) (by rw [hlen, show (l.length : Int) + 1 - 1 = (l.length : Int) by omega]; exact hl.2) hk).imp ?_
    rintro r_z (⟨_, g_z⟩ | ⟨g1, g2, g3_z, g4, g5_z, g6⟩)
    · exact absurd hok (nok hitM g_z)
    · exact Or.inr ⟨l, f_z, rfl, g1, g2.twice, g4, g5_z, g6⟩
theorem xr_back {s : cx_Sd 12} {ks : List (Fin 12)} {AX AM : pm_A} {q r : pm_R} {msX msM : List Nat} (h : XRs s ks AX AM) (hc : CA q.2) (hX : gFk wY msX AX q.2) (hM : gFk wM msM AM r.2) (a1 : avoid [10011] msX = true) (a2 : avoid [10010] msM = true) (hq : bkX s ks AX q) (hr : bkM s ks AM r) : XR q.2 r.2 ∧ q.1 = r.1 := by
  have hh := h
  obtain ⟨⟨x1_z, x2_z, x3, h7, h8⟩, x4_z, ⟨h4, h10⟩, ht, hw, hz⟩ := hh
  have e3 : ∀ i_z : Int, 0 ≤ i_z → q.2 3 i_z = AX 3 i_z := fun i_z i0_z => hX 3 i_z (by omega) i0_z (by
    rw [kc_a kk3 (by decide) (shX_11 kk3)]
    exact avoid_n a1 (by decide))
  have e10_z : ∀ i_z : Int, 0 ≤ i_z → r.2 10 i_z = AM 10 i_z := fun i_z i0_z => hM 10 i_z (by omega) i0_z (by
    rw [kmA kn10 (by decide +kernel)]
    exact avoid_n a2 (by decide))
  rcases hq with ⟨e_z, rfl⟩ | ⟨l, f_z, e_z, q1_z, q2_z, q3_z, ⟨q4_z, q5_z⟩, q6_z, q7_z⟩
  · rcases hr with ⟨_, rfl⟩ | ⟨l, f_z, e2_z, _⟩
    · exact ⟨⟨s, ks, h⟩, rfl⟩
    · rw [e_z] at e2_z
      exact absurd e2_z (by intro w_z; simp at w_z)
  · rcases hr with ⟨e2_z, _⟩ | ⟨l2_z, f2_z, e2_z, r1_z, r2_z, ⟨r3_z, r4_z⟩, r5_z, r6_z⟩
    · rw [e_z] at e2_z
      exact absurd e2_z (by intro w_z; simp at w_z)
    · rw [e_z] at e2_z
      obtain ⟨el, _⟩ := List.append_inj' e2_z rfl
      subst el
      subst e_z
      refine ⟨⟨s, l, ⟨q3_z, q2_z, r2_z, by rw [q6_z, r5_z]; exact h7, by rw [q7_z, r6_z]; exact h8⟩, hc, ⟨by rw [q4_z, r3_z, h4], ?_⟩, fun d_z u_z hd_z => ?_, by rw [r5_z, r6_z]; exact (wk_sn.1 hw).1, fun i_z i0_z i1_z => by rw [e3 i_z i0_z, e10_z i_z i0_z]; exact hz i_z i0_z (by rw [r5_z] at i1_z; exact i1_z)⟩, by rw [q1_z, r1_z]⟩
      · rw [r3_z, h10, List.length_append]
        show ((l.length + 1 : Nat) : Int) - 1 = (l.length : Int)
        omega
      · have hdl := (List.getElem?_eq_some_iff.mp hd_z).1
        have h5 := ht d_z u_z (by rw [List.getElem?_append_left hdl]; exact hd_z)
        rw [q5_z, r4_z]
        exact h5
/-! order, keep, all, finite -/
theorem orF.sm {s : cx_Sd 12} {ks : List (Fin 12)} {A B : pm_A} (h : orF s ks A B) : xsm s ks A B := ⟨h.1, h.2.1, ⟨h.2.2.1 4, h.2.2.2.2.1 0, h.2.2.2.2.1 1⟩, fun d_z _ => h.2.2.2.1 d_z, fun i_z _ => h.2.2.2.2.2.2 i_z⟩
theorem kpP.sm {s : cx_Sd 12} {ks : List (Fin 12)} {A : pm_A} {k : Int} {r : pm_R} (hS : StE A) (hT : TrX s ks A 1) (h : kpP s ks A k r) : xsm s ks A r.2 := by
  rcases h with ⟨e_z, _⟩ | ⟨_, hk, h1, h2, h3⟩
  · rw [e_z]; exact xsm.rf hS hT
  · have hH := hS.keepH hk.1 hk.2
    have hF : scF A r.2 (420 + 23 * k) := h3.2.1
    refine ⟨h1, h2, ⟨hF.no hH kk0 (Or.inl (by omega)) (by omega) (by omega) (by decide) (by decide) (by decide), hF.no hH kk1 (Or.inl (by omega)) (by omega) (by omega) (by decide) (by decide) (by decide), hF.no hH kk1 (Or.inl (by omega)) (by omega) (by omega) (by decide) (by decide) (by decide)⟩, fun d_z _ => hF.no hH kk46 (Or.inl (by omega)) (by omega) (by omega) (by decide) (by decide) (by decide), fun i_z _ => hF.no hH kk3 (Or.inl (by omega)) (by omega) (by omega) (by decide) (by decide) (by decide)⟩
theorem xaF.sm {s : cx_Sd 12} {ks : List (Fin 12)} {A B : pm_A} (h : xaF s ks A B) : xsm s ks A B := ⟨h.1, h.2.2.1, ⟨h.2.2.2.1 4, h.2.2.2.2.2.1 0, h.2.2.2.2.2.1 1⟩, fun d_z _ => h.2.2.2.2.1 d_z, fun i_z _ => h.2.2.2.2.2.2.1 i_z⟩
theorem xlP2.sm {s : cx_Sd 12} {ks : List (Fin 12)} {A : pm_A} {W P : Int} {q : pm_R} (h : xlP2 s ks A W P q) : xsm s ks A q.2 := by
  obtain ⟨C_z, z_z, hE, _, e_z, hg⟩ := h
  have hC : ∃ B_z, xaF s ks A B_z ∧ ∀ r_z j_z : Int, ¬ (r_z = 72 ∧ (j_z = 13 ∨ j_z = 14)) → ¬ (104 ≤ r_z ∧ r_z ≤ 106) → C_z r_z j_z = B_z r_z j_z := by
    rcases hE with ⟨h1, _⟩ | ⟨_, _, B_z, _, _, h1, _, h2⟩
    · exact ⟨C_z, h1, fun _ _ _ _ => rfl⟩
    · exact ⟨B_z, h1, h2.2.1.2.1⟩
  obtain ⟨B_z, h1, h2⟩ := hC
  have h3 : ∀ r_z j_z : Int, ¬ (r_z = 0 ∧ j_z = 10) → ¬ (r_z = 72 ∧ (j_z = 13 ∨ j_z = 14)) → ¬ (104 ≤ r_z ∧ r_z ≤ 106) → q.2 r_z j_z = B_z r_z j_z := fun r_z j_z n1_z n2_z n3_z => by
    rw [e_z, upd_o n1_z]; exact h2 r_z j_z n2_z n3_z
  have hk : ∀ {r_z : Int} {l : Nat}, wX.2 r_z = l → ¬ l = 0 → ¬ l = 5 → ¬ l = 19 → ¬ l = 28 → ¬ l = 29 → ∀ j_z : Int, q.2 r_z j_z = B_z r_z j_z := fun {r_z l} hr n0_z n1_z n2_z n3_z n4_z j_z => by
    refine h3 r_z j_z (fun w_z => knd hr kk0 n0_z w_z.1) (fun w_z => knd hr kk72 n1_z w_z.1) (fun w_z => ?_)
    have k1_z := knd hr rk104.1 n2_z
    have k2_z := knd hr rk104.2.1 n3_z
    have k3_z := knd hr rk104.2.2 n4_z
    omega
  refine (h1.sm).tr (xsm.of0 h1.1 h1.2.2.1 hg (fun j_z hj => h3 0 j_z (by omega) (by omega) (by omega)) (fun g_z j_z g0 gk hj => hk gk (by decide) (by decide) (by decide) (by decide) (by decide) j_z) (fun q_z j_z q0 qk hj => hk qk (by decide) (by decide) (by decide) (by decide) (by decide) j_z) (fun j_z hj => h3 28 j_z (by omega) (by omega) (by omega)) (fun q_z j_z q0 qk j0 => ?_) (fun j_z j0 => h3 2 j_z (by omega) (by omega) (by omega)) (fun j_z j0 => h3 46 j_z (by omega) (by omega) (by omega)) (fun j_z j0 => h3 3 j_z (by omega) (by omega) (by omega)) ⟨h3 72 0 (by omega) (by omega) (by omega), h3 72 8 (by omega) (by omega) (by omega)⟩)
  rcases qk with qk | qk | qk | qk | qk <;> exact hk qk (by decide) (by decide) (by decide) (by decide) (by decide) j_z
theorem XRs.wp {s : cx_Sd 12} {ks : List (Fin 12)} {AX AM : pm_A} (h : XRs s ks AX AM) : sWP s (bgW AX 1) (AX 1 0) := by
  have p6_z := fX_1_0 h.1.1.1 (r := 1) (by omega) kk1
  have q6_z := fX_1_1 h.1.1.1 (r := 1) (by omega) kk1
  have hT_z := h.1.2.1
  refine ⟨⟨hT_z.2.2.1, p6_z.2⟩, ⟨by unfold bgW; omega, by unfold bgW; omega⟩, hT_z.2.2.2.2.2.1⟩
theorem orZ_one {s : cx_Sd 12} {ks : List (Fin 12)} {R R' : Int → Int} {n W P z z' : Int} (hR : ∀ i_z : Int, 0 ≤ i_z → i_z < n → R i_z = R' i_z) (h0 : ∀ i_z : Int, 0 ≤ i_z → i_z < n → 0 ≤ R i_z ∧ R i_z < 12) (n0 : 0 ≤ n) (h : orZ s ks R n W P z) (g : orZ s ks R' n W P z') : z = z' := by
  rcases h with ⟨e_z, h1⟩ | ⟨h1, h2, h3⟩
  · rcases g with ⟨e2_z, _⟩ | ⟨g1, g2, _⟩
    · rw [e_z, e2_z]
    · rcases h1 with h1 | ⟨i_z, i0_z, i1_z, h1⟩
      · exact absurd h1 g1
      · exact absurd (by rw [hR i_z i0_z i1_z]; exact g2 i_z i0_z i1_z) h1
  · rcases g with ⟨_, g1⟩ | ⟨g1, g2, g3_z⟩
    · rcases g1 with g1 | ⟨i_z, i0_z, i1_z, g1⟩
      · exact absurd g1 h1
      · exact absurd (by rw [← hR i_z i0_z i1_z]; exact h2 i_z i0_z i1_z) g1
    · obtain ⟨L_z, hL⟩ := rwL_ex (R := R) (n := n) n0 h0
      have hL2 : rwL R' n L_z := ⟨hL.1, fun i_z f_z hf => by
        have hi_z := (List.getElem?_eq_some_iff.mp hf).1
        rw [← hR i_z (by omega) (by have := hL.1; omega)]
        exact hL.2 i_z f_z hf⟩
      exact ordA_u (h3 L_z hL) (g3_z L_z hL2)
theorem XRs.r3 {s : cx_Sd 12} {ks : List (Fin 12)} {AX AM : pm_A} (h : XRs s ks AX AM) {i : Int} (hi : inP (AX 1 0) i) : r32 (AX 3 i) := by
  have h7 := h.1.2.2.2.1
  have p7_z := fM_0_7 h.1.2.2.1.1 (r := 0) (by omega) km0
  rw [h.2.2.2.2.2 i hi.1 (by rw [← h7]; exact hi.2)]
  exact eM_10 h.1.2.2.1.1 (r := 10) (by omega) kn10 hi.1 (by omega)
theorem rl_size {s : cx_Sd 12} {ks : List (Fin 12)} {AX AM : pm_A} {i : Int} {q r : pm_R} (h : XRs s ks AX AM) (hq : lkC 0 AX (inP (AX 1 0) i) (AX 3 i) q) (hr : lkC 0 AM (inP (AM 0 7) i) (AM 10 i) r) : q.2 = AX ∧ r.2 = AM ∧ q.1 = r.1 :=
  hq.eq hr (by rw [h.1.2.2.2.1]) (fun hi_z => h.2.2.2.2.2 i hi_z.1 (by rw [← h.1.2.2.2.1]; exact hi_z.2))
end
