/-! what kinds of cells say of the class's seed; startSeed, begin, seed exactly -/
def sm0 (A B : pm_A) (c : Int) : Prop := (∀ j_z : Int, 0 ≤ j_z ∧ j_z ≤ 3 → B c j_z = A c j_z) ∧ (∀ j_z : Int, 0 ≤ j_z → B (A c 2) j_z = A (A c 2) j_z) ∧ ∀ j_z : Int, 0 ≤ j_z → B (A c 3) j_z = A (A c 3) j_z
theorem sm0.xe {A B : pm_A} {c : Int} (h : sm0 A B c) (w0 : 0 ≤ A c 0) {q : Int} (q0 : 0 ≤ q) : xeX B c q = xeX A c q := funext fun v_z => by
  have hq := Int.mul_nonneg q0 w0
  unfold xeX
  rw [h.1 0 (by omega), h.1 3 (by omega)]
  by_cases e_z : (v_z.1 : Int) < A c 0
  · rw [if_pos e_z, if_pos e_z]; exact h.2.2 _ (by omega)
  · rw [if_neg e_z, if_neg e_z]
theorem sm0.ls {A B : pm_A} {c : Int} (h : sm0 A B c) (w0 : 0 ≤ A c 0) : LSx B c = LSx A c := by
  unfold LSx lsf
  rw [h.1 1 (by omega)]
  refine List.map_congr_left (fun q_z hq => ?_)
  show (B (B c 2) (q_z : Int), xeX B c (q_z : Int)) = (A (A c 2) (q_z : Int), xeX A c (q_z : Int))
  rw [h.xe w0 (by omega), h.1 2 (by omega), h.2.1 _ (by omega)]
theorem TrX.cong0 {s : cx_Sd 12} {ks : List (Fin 12)} {A B : pm_A} {g : Int} (hT : TrX s ks A g) (hB : gH wX B) (e2 : ∀ j_z : Int, 0 ≤ j_z ∧ j_z ≤ 5 → B g j_z = A g j_z) (e3 : ∀ j_z : Int, 0 ≤ j_z → B (A g 2) j_z = A (A g 2) j_z) (e4 : ∀ j_z : Int, 0 ≤ j_z → B (A g 4) j_z = A (A g 4) j_z) (hsm : ∀ i_z : Int, 0 ≤ i_z → i_z < A g 0 → sm0 A B (A (A g 4) i_z)) : TrX s ks B g := by
  have p6_z := fX_1_0 hT.1 hT.2.1.1 hT.2.1.2
  have l4 := fX_1_4 hT.1 hT.2.1.1 hT.2.1.2
  obtain ⟨hg, hk, h1, hb_z, hks, h9, ha_z, hl⟩ := hT
  have eW : bgW B g = bgW A g := by unfold bgW; rw [e2 0 (by omega), e2 1 (by omega)]
  refine ⟨hB, hk, by rw [e2 0 (by omega)]; exact h1, fun i_z j_z hj => ?_, fun k_z hk2 => by rw [e2 0 (by omega)]; exact hks k_z hk2, fun v_z k_z hk2 => h9 v_z k_z (by rw [e2 0 (by omega)] at hk2; exact hk2), fun i_z j_z i0_z i1_z j0 j1 => ?_, fun i_z hi_z => ?_⟩
  · rw [e2 0 (by omega)] at hj
    rw [eW, e2 2 (by omega), e3 _ (by omega)]
    exact hb_z i_z j_z hj
  · rw [eW] at i1_z
    rw [e2 0 (by omega)] at j1
    rw [e2 2 (by omega), e3 _ (by omega)]
    exact ha_z i_z j_z i0_z i1_z j0 j1
  · rw [e2 0 (by omega)] at hi_z
    have e0_z := eX_12 hg l4.1 l4.2 (j := (i_z.1 : Int)) (by omega) (by omega)
    have w0_z := (fX_2_0 hg e0_z.1 e0_z.2).1
    have sm_z := hsm (i_z.1 : Int) (by omega) hi_z
    obtain ⟨a1_z, a2, a3, a5⟩ := hl i_z hi_z
    rw [e2 4 (by omega), e4 _ (by omega), eW]
    refine ⟨fun q_z q' q0 hq hq' => ?_, fun q_z q0 q1_z => ?_, by rw [sm_z.1 0 (by omega)]; exact a3, fun x_z => ?_⟩
    · rw [sm_z.1 1 (by omega)] at hq'
      rw [sm_z.xe w0_z q0, sm_z.xe w0_z (by omega)]
      exact a1_z q_z q' q0 hq hq'
    · rw [sm_z.1 1 (by omega)] at q1_z
      rw [sm_z.1 2 (by omega), sm_z.2.1 q_z q0]
      exact a2 q_z q0 q1_z
    · have h5 := a5 x_z
      unfold VX at h5 ⊢
      rw [sm_z.ls w0_z]
      exact h5
theorem kc_o {r : Int} {l a b : Nat} {n : Int} (hk : wX.2 r = l) (hl : ¬ l = 9) (hs : an_sh wX r = (0, b, n)) (j : Int) : kcode wY r j = 100 * l + j.toNat := by
  unfold kcode
  rw [shY, hs]
  show 100 * wY.2 r + j.toNat = 100 * l + j.toNat
  have e_z : wY.2 r = l := by
    show (if r = 419 then 36 else wX.2 r) = l
    rw [if_neg (fun e_z => hl ?_)]
    · exact hk
    · rw [e_z] at hk
      have : wX.2 419 = 9 := by decide
      omega
  rw [e_z]
theorem kc_a {r : Int} {l b : Nat} {n : Int} (hk : wX.2 r = l) (hl : ¬ l = 9) (hs : an_sh wX r = (1, b, n)) (j : Int) : kcode wY r j = 10000 + l := by
  unfold kcode
  rw [shY, hs]
  show 10000 + wY.2 r = 10000 + l
  have e_z : wY.2 r = l := by
    show (if r = 419 then 36 else wX.2 r) = l
    rw [if_neg (fun e_z => hl ?_)]
    · exact hk
    · rw [e_z] at hk
      have : wX.2 419 = 9 := by decide
      omega
  rw [e_z]
/-- codes that the class's seed stands on -/
def bdC : List Nat := [0, 1, 2, 3, 4, 5, 8, 9, 100, 101, 102, 103, 104, 105, 200, 201, 202, 203, 400, 401, 402, 403, 404, 405, 406, 500, 508, 10010, 10011, 10012, 10014, 10015, 10019, 10020, 10022]
def avoid (bad ms : List Nat) : Bool := ms.all (fun c_z => !bad.contains c_z)
theorem avoid_n {bad ms : List Nat} (h : avoid bad ms = true) {c : Nat} (hc : bad.contains c = true) : ¬ c ∈ ms := fun q_z => by
  have h1 := List.all_eq_true.mp h c q_z
  rw [hc] at h1
  cases h1
/-- the class's seed is left as it was -/
def xsm (s : cx_Sd 12) (ks : List (Fin 12)) (A B : pm_A) : Prop := StE B ∧ TrX s ks B 1 ∧ (B 0 4 = A 0 4 ∧ B 1 0 = A 1 0 ∧ B 1 1 = A 1 1) ∧ (∀ d_z : Int, 0 ≤ d_z → B 46 d_z = A 46 d_z) ∧ ∀ i_z : Int, 0 ≤ i_z → B 3 i_z = A 3 i_z
theorem xsm.of0 {s : cx_Sd 12} {ks : List (Fin 12)} {A B : pm_A} (hS : StE A) (hT : TrX s ks A 1) (hB : gH wX B) (f0 : ∀ j_z : Int, j_z = 0 ∨ j_z = 2 ∨ j_z = 3 ∨ j_z = 4 ∨ j_z = 5 ∨ j_z = 8 ∨ j_z = 9 → B 0 j_z = A 0 j_z) (f1 : ∀ g_z j_z : Int, 0 ≤ g_z → wX.2 g_z = 1 → 0 ≤ j_z ∧ j_z ≤ 5 → B g_z j_z = A g_z j_z) (f2 : ∀ q_z j_z : Int, 0 ≤ q_z → wX.2 q_z = 2 → 0 ≤ j_z ∧ j_z ≤ 3 → B q_z j_z = A q_z j_z) (f28 : ∀ j_z : Int, 0 ≤ j_z ∧ j_z ≤ 6 → B 28 j_z = A 28 j_z) (f14 : ∀ q_z j_z : Int, 0 ≤ q_z → wX.2 q_z = 14 ∨ wX.2 q_z = 15 ∨ wX.2 q_z = 12 ∨ wX.2 q_z = 20 ∨ wX.2 q_z = 22 → 0 ≤ j_z → B q_z j_z = A q_z j_z) (ft : ∀ j_z : Int, 0 ≤ j_z → B 2 j_z = A 2 j_z) (f46 : ∀ j_z : Int, 0 ≤ j_z → B 46 j_z = A 46 j_z) (f3 : ∀ j_z : Int, 0 ≤ j_z → B 3 j_z = A 3 j_z) (f72 : B 72 0 = A 72 0 ∧ B 72 8 = A 72 8) : xsm s ks A B := by
  have m8_z := hS.2.2.2.2.2.1 1 (by omega) kk1
  have p6_z := fX_1_0 hS.1 (r := 1) (by omega) kk1
  refine ⟨hS.of hB (fun j_z hj => f0 j_z (by omega)) (fun g_z j_z g0 gk hj => f1 g_z j_z g0 gk (by omega)) (fun q_z j_z q0 qk hj => f2 q_z j_z q0 qk (by omega)) f28 f72 (fun j_z j0 => f14 4 j_z (by omega) (by rw [kk4]; omega) j0) (fun j_z j0 => f14 52 j_z (by omega) (by rw [kk52]; omega) j0) (fun j_z j0 => f14 73 j_z (by omega) (by rw [kk73]; omega) j0) (fun j_z j0 j1 => by rw [f14 82 j_z (by omega) (by rw [kk82]; omega) j0]; exact hS.2.1.2.2.2.1 j_z j0 j1) (fun j_z j0 => f14 47 j_z (by omega) (by rw [kk47]; omega) j0) (fun k_z j_z k0_z k1_z j0 => f14 _ j_z (by omega) (by rw [kkK k0_z k1_z]; omega) j0), ?_, ⟨f0 4 (by omega), f1 1 0 (by omega) kk1 (by omega), f1 1 1 (by omega) kk1 (by omega)⟩, f46, f3⟩
  refine hT.cong0 hB (fun j_z j0 => f1 1 j_z (by omega) kk1 j0) (fun j_z j0 => by rw [m8_z.1]; exact ft j_z j0) (fun j_z j0 => by rw [m8_z.2.2]; exact f14 4 j_z (by omega) (by rw [kk4]; omega) j0) (fun i_z i0_z i1_z => ?_)
  have l4 := fX_1_4 hS.1 (r := 1) (by omega) kk1
  have e0_z := eX_12 hS.1 l4.1 l4.2 i0_z (show i_z < 6 by omega)
  have n2_z := fX_2_2 hS.1 e0_z.1 e0_z.2
  have n3_z := fX_2_3 hS.1 e0_z.1 e0_z.2
  exact ⟨fun j_z j0 => f2 _ j_z e0_z.1 e0_z.2 j0, fun j_z j0 => f14 _ j_z n2_z.1 (by rw [n2_z.2]; omega) j0, fun j_z j0 => f14 _ j_z n3_z.1 (by rw [n3_z.2]; omega) j0⟩
theorem codz {l n : Nat} {bad : List Nat} (h : (List.range n).all (fun j => bad.contains (100 * l + j)) = true) {j : Int} (j0 : 0 ≤ j) (j1 : j < n) : bad.contains (100 * l + j.toNat) = true := List.all_eq_true.mp h j.toNat (List.mem_range.2 (by omega))
theorem xsm.k {s : cx_Sd 12} {ks : List (Fin 12)} {A B : pm_A} {ms : List Nat} (hS : StE A) (hT : TrX s ks A 1) (hB : gH wX B) (hF : gFk wY ms A B) (hm : avoid bdC ms = true) : xsm s ks A B := by
  have h0 : ∀ j_z : Int, j_z = 0 ∨ j_z = 2 ∨ j_z = 3 ∨ j_z = 4 ∨ j_z = 5 ∨ j_z = 8 ∨ j_z = 9 → B 0 j_z = A 0 j_z := fun j_z hj => hF 0 j_z (by omega) (by omega) (by
    rw [kc_o (a := 0) kk0 (by decide) (shX_0 kk0)]
    refine avoid_n hm ?_
    rcases hj with rfl | rfl | rfl | rfl | rfl | rfl | rfl <;> decide)
  refine xsm.of0 hS hT hB h0 (fun g_z j_z g0 gk hj => hF g_z j_z g0 hj.1 ?_) (fun q_z j_z q0 qk hj => hF q_z j_z q0 hj.1 ?_) (fun j_z hj => hF 28 j_z (by omega) hj.1 ?_) (fun q_z j_z q0 qk j0 => hF q_z j_z q0 j0 ?_) (fun j_z j0 => hF 2 j_z (by omega) j0 ?_) (fun j_z j0 => hF 46 j_z (by omega) j0 ?_) (fun j_z j0 => hF 3 j_z (by omega) j0 ?_) ⟨hF 72 0 (by omega) (by omega) ?_, hF 72 8 (by omega) (by omega) ?_⟩
  · rw [kc_o (a := 0) gk (by decide) (shX_1 gk)]
    exact avoid_n hm (codz (l := 1) (n := 6) (by decide) hj.1 (by omega))
  · rw [kc_o (a := 0) qk (by decide) (shX_2 qk)]
    exact avoid_n hm (codz (l := 2) (n := 4) (by decide) hj.1 (by omega))
  · rw [kc_o (a := 0) kk28 (by decide) (shX_4 kk28)]
    exact avoid_n hm (codz (l := 4) (n := 7) (by decide) hj.1 (by omega))
  · rcases qk with qk | qk | qk | qk | qk
    · rw [kc_a qk (by decide) (shX_14 qk)]; exact avoid_n hm (by decide)
    · rw [kc_a qk (by decide) (shX_15 qk)]; exact avoid_n hm (by decide)
    · rw [kc_a qk (by decide) (shX_12 qk)]; exact avoid_n hm (by decide)
    · rw [kc_a qk (by decide) (shX_20 qk)]; exact avoid_n hm (by decide)
    · rw [kc_a qk (by decide) (shX_22 qk)]; exact avoid_n hm (by decide)
  · have k2_z : wX.2 2 = 10 := by decide
    rw [kc_a k2_z (by decide) (shX_10 k2_z)]; exact avoid_n hm (by decide)
  · rw [kc_a kk46 (by decide) (shX_19 kk46)]; exact avoid_n hm (by decide)
  · rw [kc_a kk3 (by decide) (shX_11 kk3)]; exact avoid_n hm (by decide)
  · rw [kc_o (a := 0) kk72 (by decide) (shX_5 kk72)]; exact avoid_n hm (by decide)
  · rw [kc_o (a := 0) kk72 (by decide) (shX_5 kk72)]; exact avoid_n hm (by decide)
/-- cells that never change -/
def CA (A : pm_A) : Prop := AT A ∧ A 413 3 = 415 ∧ A 24 3 = 26 ∧ A 49 5 = 53
def caC : List Nat := [500, 502, 503, 504, 505, 506, 508, 509, 512, 515, 516, 517, 102, 104, 105, 703, 303, 10022]
theorem CA.k {A B : pm_A} {ms : List Nat} (h : CA A) (hF : gFk wY ms A B) (hm : avoid caC ms = true) : CA B := by
  have k413 : wX.2 413 = 7 := by decide
  have k24 : wX.2 24 = 3 := by decide
  have f72 : ∀ j_z : Int, j_z = 0 ∨ j_z = 2 ∨ j_z = 3 ∨ j_z = 4 ∨ j_z = 5 ∨ j_z = 6 ∨ j_z = 8 ∨ j_z = 9 ∨ j_z = 12 ∨ j_z = 15 ∨ j_z = 16 ∨ j_z = 17 → B 72 j_z = A 72 j_z := fun j_z hj => hF 72 j_z (by omega) (by omega) (by
    rw [kc_o (a := 0) kk72 (by decide) (shX_5 kk72)]
    refine avoid_n hm ?_
    rcases hj with rfl | rfl | rfl | rfl | rfl | rfl | rfl | rfl | rfl | rfl | rfl | rfl <;> decide)
  have f79 : ∀ j_z : Int, j_z = 2 ∨ j_z = 4 → B 79 j_z = A 79 j_z := fun j_z hj => hF 79 j_z (by omega) (by omega) (by
    rw [kc_o (a := 0) kk79 (by decide) (shX_1 kk79)]
    refine avoid_n hm ?_
    rcases hj with rfl | rfl <;> decide)
  have f73 : ∀ j_z : Int, 0 ≤ j_z → B 73 j_z = A 73 j_z := fun j_z j0 => hF 73 j_z (by omega) j0 (by
    rw [kc_a kk73 (by decide) (shX_22 kk73)]
    exact avoid_n hm (by decide))
  obtain ⟨⟨⟨a1_z, a2, a3, a4, a5, a6, a7, a8, a9⟩, ⟨b1, b2, b3⟩, ⟨c1_z, c2_z⟩, d_z⟩, e1, e2, e3⟩ := h
  refine ⟨⟨⟨by rw [f72 0 (by omega)]; exact a1_z, by rw [f72 2 (by omega)]; exact a2, by rw [f72 3 (by omega)]; exact a3, by rw [f72 4 (by omega)]; exact a4, by rw [f72 5 (by omega)]; exact a5, by rw [f72 6 (by omega)]; exact a6, by rw [f72 8 (by omega)]; exact a7, by rw [f72 9 (by omega)]; exact a8, by rw [f72 12 (by omega)]; exact a9⟩, ⟨by rw [f72 15 (by omega)]; exact b1, by rw [f72 16 (by omega)]; exact b2, by rw [f72 17 (by omega)]; exact b3⟩, ⟨by rw [f79 2 (by omega)]; exact c1_z, by rw [f79 4 (by omega)]; exact c2_z⟩, fun x_z x0_z x1_z => by rw [f73 x_z x0_z]; exact d_z x_z x0_z x1_z⟩, ?_, ?_, ?_⟩
  · rw [hF 413 3 (by omega) (by omega) (by rw [kc_o (a := 0) k413 (by decide) (shX_7 k413)]; exact avoid_n hm (by decide))]; exact e1
  · rw [hF 24 3 (by omega) (by omega) (by rw [kc_o (a := 0) k24 (by decide) (shX_3 k24)]; exact avoid_n hm (by decide))]; exact e2
  · rw [hF 49 5 (by omega) (by omega) (by rw [kc_o (a := 0) kk49 (by decide) (shX_1 kk49)]; exact avoid_n hm (by decide))]; exact e3
theorem ca_first : CA (wA WX) := by
  refine ⟨⟨⟨?_, ?_, ?_, ?_, ?_, ?_, ?_, ?_, ?_⟩, ⟨?_, ?_, ?_⟩, ⟨?_, ?_⟩, fun x_z x0_z x1_z => all_int (P := fun x_z => wA WX 73 x_z = 107 + 3 * x_z) (n := 100) (by decide +kernel) x0_z x1_z⟩, ?_, ?_, ?_⟩ <;> decide +kernel
/-- the same with the judged table and the draft's sizes as kinds of their own -/
theorem kf_o {r : Int} {l b : Nat} {n : Int} (hk : wX.2 r = l) (hl : ¬ l = 10) (hl2 : ¬ l = 11) (hs : an_sh wX r = (0, b, n)) (j : Int) : kcode wF r j = 100 * l + j.toNat := by
  unfold kcode
  rw [shF, hs]
  show 100 * wF.2 r + j.toNat = 100 * l + j.toNat
  have e_z : wF.2 r = l := by
    show (if r = 415 then 36 else if r = 26 then 37 else wX.2 r) = l
    have k1_z : wX.2 415 = 10 := by decide
    have k2_z : wX.2 26 = 11 := by decide
    rw [if_neg (fun e_z => hl (by rw [e_z] at hk; omega)), if_neg (fun e_z => hl2 (by rw [e_z] at hk; omega))]
    exact hk
  rw [e_z]
theorem kf_a {r : Int} {l b : Nat} {n : Int} (hk : wX.2 r = l) (h1 : ¬ r = 415) (h2 : ¬ r = 26) (hs : an_sh wX r = (1, b, n)) (j : Int) : kcode wF r j = 10000 + l := by
  unfold kcode
  rw [shF, hs]
  show 10000 + wF.2 r = 10000 + l
  have e_z : wF.2 r = l := by
    show (if r = 415 then 36 else if r = 26 then 37 else wX.2 r) = l
    rw [if_neg h1, if_neg h2]
    exact hk
  rw [e_z]
theorem xsm.kF {s : cx_Sd 12} {ks : List (Fin 12)} {A B : pm_A} {ms : List Nat} (hS : StE A) (hT : TrX s ks A 1) (hB : gH wX B) (hF : gFk wF ms A B) (hm : avoid bdC ms = true) : xsm s ks A B := by
  have nA : ∀ {q_z : Int} {l : Nat}, wX.2 q_z = l → ¬ l = 10 → ¬ l = 11 → ¬ q_z = 415 ∧ ¬ q_z = 26 := fun {q_z l} qk n1_z n2_z => by
    have k1_z : wX.2 415 = 10 := by decide
    have k2_z : wX.2 26 = 11 := by decide
    exact ⟨fun e_z => n1_z (by rw [e_z] at qk; omega), fun e_z => n2_z (by rw [e_z] at qk; omega)⟩
  have h0 : ∀ j_z : Int, j_z = 0 ∨ j_z = 2 ∨ j_z = 3 ∨ j_z = 4 ∨ j_z = 5 ∨ j_z = 8 ∨ j_z = 9 → B 0 j_z = A 0 j_z := fun j_z hj => hF 0 j_z (by omega) (by omega) (by
    rw [kf_o kk0 (by decide) (by decide) (shX_0 kk0)]
    refine avoid_n hm ?_
    rcases hj with rfl | rfl | rfl | rfl | rfl | rfl | rfl <;> decide)
  refine xsm.of0 hS hT hB h0 (fun g_z j_z g0 gk hj => hF g_z j_z g0 hj.1 ?_) (fun q_z j_z q0 qk hj => hF q_z j_z q0 hj.1 ?_) (fun j_z hj => hF 28 j_z (by omega) hj.1 ?_) (fun q_z j_z q0 qk j0 => hF q_z j_z q0 j0 ?_) (fun j_z j0 => hF 2 j_z (by omega) j0 ?_) (fun j_z j0 => hF 46 j_z (by omega) j0 ?_) (fun j_z j0 => hF 3 j_z (by omega) j0 ?_) ⟨hF 72 0 (by omega) (by omega) ?_, hF 72 8 (by omega) (by omega) ?_⟩
  · rw [kf_o gk (by decide) (by decide) (shX_1 gk)]
    exact avoid_n hm (codz (l := 1) (n := 6) (by decide) hj.1 (by omega))
  · rw [kf_o qk (by decide) (by decide) (shX_2 qk)]
    exact avoid_n hm (codz (l := 2) (n := 4) (by decide) hj.1 (by omega))
  · rw [kf_o kk28 (by decide) (by decide) (shX_4 kk28)]
    exact avoid_n hm (codz (l := 4) (n := 7) (by decide) hj.1 (by omega))
  · rcases qk with qk | qk | qk | qk | qk
    · rw [kf_a qk (nA qk (by decide) (by decide)).1 (nA qk (by decide) (by decide)).2 (shX_14 qk)]; exact avoid_n hm (by decide)
    · rw [kf_a qk (nA qk (by decide) (by decide)).1 (nA qk (by decide) (by decide)).2 (shX_15 qk)]; exact avoid_n hm (by decide)
    · rw [kf_a qk (nA qk (by decide) (by decide)).1 (nA qk (by decide) (by decide)).2 (shX_12 qk)]; exact avoid_n hm (by decide)
    · rw [kf_a qk (nA qk (by decide) (by decide)).1 (nA qk (by decide) (by decide)).2 (shX_20 qk)]; exact avoid_n hm (by decide)
    · rw [kf_a qk (nA qk (by decide) (by decide)).1 (nA qk (by decide) (by decide)).2 (shX_22 qk)]; exact avoid_n hm (by decide)
  · have k2_z : wX.2 2 = 10 := by decide
    rw [kf_a k2_z (by omega) (by omega) (shX_10 k2_z)]; exact avoid_n hm (by decide)
  · rw [kf_a kk46 (by omega) (by omega) (shX_19 kk46)]; exact avoid_n hm (by decide)
  · rw [kf_a kk3 (by omega) (by omega) (shX_11 kk3)]; exact avoid_n hm (by decide)
  · rw [kf_o kk72 (by decide) (by decide) (shX_5 kk72)]; exact avoid_n hm (by decide)
  · rw [kf_o kk72 (by decide) (by decide) (shX_5 kk72)]; exact avoid_n hm (by decide)
/-- finite leaves the class's seed -/
theorem xfin_sm {s : cx_Sd 12} {ks : List (Fin 12)} {n : Nat} {A : pm_A} {r : pm_R} (hS : StE A) (hC : CA A) (hT : TrX s ks A 1) (h : pm_call pmt (an_sh wX) n 90 [(2, 0)] A = some r) (hB : gH wX r.2) : xsm s ks A r.2 := xsm.kF hS hT hB (fx_finF h (gK_F hS.1 hS.2.2.2.2.2 hC.2.1 hC.2.2.1)) (by decide)
