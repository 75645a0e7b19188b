/-! the class's seed begun anew: startSeed, begin, exactly -/
theorem srt_startSeed : pm_srt o_X9_startSeed = true := by decide +kernel
theorem kk24 : wX.2 24 = 3 := by decide
theorem kk25 : wX.2 25 = 16 := by decide
theorem kk26 : wX.2 26 = 11 := by decide
theorem StE.begH {A : pm_A} (hS : StE A) : scH A 1 49 := by
  have hA := hS.1
  have m8_z := hS.2.2.2.2.2
  refine ⟨hA, ⟨⟨by omega, kk1⟩, by omega, kk49⟩, by omega, fun c_z c0_z ck => m8_z.1 c_z c0_z ck, fun a_z a0_z ak => ⟨hS.2.1.2.1 a_z a0_z ak, hS.2.2.2.1 a_z a0_z ak⟩, fun i_z j_z i0_z i1_z j0 j1 => ?_, fun i_z j_z i0_z i1_z j0 j1 hij => ?_⟩
  · exact fun e_z => hS.walkH.2.2.2.2.2.1 j_z i_z j0 j1 i0_z i1_z e_z.symm
  · have h1 := hS.2.1.2.2.2.2.2 i_z j_z i0_z (by omega) j0 (by omega) hij
    have h2 := own_pc (A := A) own1 i0_z (show i_z ≤ 5 by omega)
    have h3 := own_pc (A := A) own1 j0 (show j_z ≤ 5 by omega)
    rw [Int.zero_add] at h2 h3
    rw [h2, h3] at h1
    exact h1
theorem StE.stQ {A : pm_A} {n m : Int} (hS : StE A) (hn : 1 ≤ n ∧ n ≤ 6) (hm : 0 ≤ m ∧ m ≤ 6) : stH A 1 n m 25 26 :=
  ⟨hS.1, ⟨by omega, kk1⟩, ⟨hn, hm⟩, ⟨⟨by omega, kk25⟩, by omega, kk26, by omega⟩, hS.begH.2.2.2.1, hS.begH.2.2.2.2.1, hS.begH.2.2.2.2.2.2⟩
/-- the table told is the seed's first one -/
def tld (s : cx_Sd 12) (T : Int → Int) (n m : Int) : Prop := ∀ i_z j_z : Fin 12, (j_z.1 : Int) < n → ((i_z.1 : Int) < n + m → s.b i_z j_z = T (6 * (i_z.1 : Int) + (j_z.1 : Int))) ∧ (n + m ≤ (i_z.1 : Int) → s.b i_z j_z = 0)
theorem trx0 {s : cx_Sd 12} {A B : pm_A} {n m : Int} (hS : StE A) (hn : 1 ≤ n ∧ n ≤ 6) (hm : 0 ≤ m ∧ m ≤ 6) (h9 : ∀ k_z : Int, 0 ≤ k_z → k_z < 72 → -9 ≤ A 25 k_z ∧ A 25 k_z ≤ 9) (ht : tld s (A 25) n m) (hI : stI A B 1 n m 25 26 n) : TrX s [] B 1 := by
  have hSB := hS.sc hS.begH hI.1
  have m8_z := hSB.2.2.2.2.2.1 1 (by omega) kk1
  have k4_z := st_k (hS.stQ hn hm)
  obtain ⟨hF, ⟨b0, b1⟩, bt_z, bz, bl⟩ := hI
  have eW : bgW B 1 = n + m := by unfold bgW; rw [b0, b1]
  have e4_z : ∀ j_z : Int, B 4 j_z = A 4 j_z := fun j_z => hF.no hS.begH kk4 (Or.inl (by omega)) (by omega) (by omega) (by decide) (by decide) (by decide)
  have bt2 : ∀ i_z j_z : Int, 0 ≤ i_z → i_z < n + m → 0 ≤ j_z → j_z < n → B (B 1 2) (i_z * 6 + j_z) = A 25 (6 * i_z + j_z) := fun i_z j_z i0_z i1_z j0 j1 => by
    rw [m8_z.1, show i_z * 6 + j_z = 6 * i_z + j_z by omega]
    exact bt_z _ (by omega) (by omega)
  refine ⟨hF.1, ⟨by omega, kk1⟩, by omega, fun i_z j_z hj => ⟨fun hi_z => ?_, fun hi_z => ?_⟩, fun k_z hk => absurd hk List.not_mem_nil, fun v_z k_z hk => ?_, fun i_z j_z i0_z i1_z j0 j1 => ?_, fun i_z hi_z => ?_⟩
  · rw [b0] at hj
    rw [eW] at hi_z
    rw [bt2 _ _ (by omega) hi_z (by omega) hj]
    exact (ht i_z j_z hj).1 hi_z
  · rw [b0] at hj
    rw [eW] at hi_z
    exact (ht i_z j_z hj).2 hi_z
  · rw [b0] at hk
    by_cases e_z : (v_z.1 : Int) < n + m
    · rw [(ht v_z k_z hk).1 e_z]
      have h1 := h9 (6 * (v_z.1 : Int) + (k_z.1 : Int)) (by omega) (by omega)
      omega
    · rw [(ht v_z k_z hk).2 (by omega)]
      omega
  · rw [eW] at i1_z
    rw [b0] at j1
    rw [bt2 _ _ i0_z i1_z j0 j1]
    have h1 := h9 (6 * i_z + j_z) (by omega) (by omega)
    omega
  · rw [b0] at hi_z
    obtain ⟨c1_z, c2_z, c3_z, c4_z, c5_z⟩ := bl i_z.1 (by omega) hi_z
    have e5 : B (B 1 4) (i_z.1 : Int) = A (1 + 3) (i_z.1 : Int) := by rw [m8_z.2.2]; exact e4_z _
    rw [e5, eW]
    exact ⟨c3_z, c4_z, c1_z, fun x_z => (c5_z i_z rfl x_z).symm⟩
def ssP (A : pm_A) (r : pm_R) : Prop := r.1 = none ∧ ∃ C_z, stI A C_z 1 (A 24 0) (A 24 1) 25 26 (A 24 0) ∧ r.2 = pm_upd C_z 0 4 0
theorem startSeed_ex {A : pm_A} (hS : StE A) (e1 : A 0 1 = 24) (e2 : A 24 2 = 25) (e3 : A 24 3 = 26) (n1 : 1 ≤ A 24 0) : Cl pmt (an_sh wX) 109 [(2, 0)] A (ssP A) := by
  have a1_z := hS.2.1.1.1
  have d0_z : 0 ≤ A 0 1 ∧ wX.2 (A 0 1) = 3 := by rw [e1]; exact ⟨by omega, kk24⟩
  have p6_z := fX_3_0 hS.1 (r := 24) (by omega) kk24
  have q6_z := fX_3_1 hS.1 (r := 24) (by omega) kk24
  refine Cl.of (Nat.le_of_ble_eq_true rfl) ?_
  refine wq_ok (full := o_X9_startSeed) srt_startSeed (fr := []) (cuts := [35]) (J := fun pc st_z => pc = 35 ∧ ∃ C_z, stI A C_z 1 (A 24 0) (A 24 1) 25 26 (A 24 0) ∧ st_z = ([(2, 0)], [], C_z)) ?_ 20 0 _ ?_
  · rintro pc st_z ⟨rfl, C_z, hC, rfl⟩
    refine wq_ok srt_startSeed (fr := []) (cuts := []) (J := fun pc st_z => False) (fun _ _ h_z => h_z.elim) 20 35 _ ?_
    refine ⟨oX_0 z0 kk0 4 rfl, ?_⟩
    exact ⟨rfl, C_z, hC, rfl⟩
  · refine ⟨oX_0 z0 kk0 0 rfl, ?_⟩
    refine ⟨oX_0 z0 kk0 1 rfl, ?_⟩
    refine ⟨oX_3 d0_z.1 d0_z.2 0 rfl, ?_⟩
    refine ⟨oX_0 z0 kk0 1 rfl, ?_⟩
    refine ⟨oX_3 d0_z.1 d0_z.2 1 rfl, ?_⟩
    refine ⟨oX_0 z0 kk0 1 rfl, ?_⟩
    refine ⟨oX_3 d0_z.1 d0_z.2 2 rfl, ?_⟩
    refine ⟨oX_0 z0 kk0 1 rfl, ?_⟩
    refine ⟨oX_3 d0_z.1 d0_z.2 3 rfl, ?_⟩
    refine ⟨rX_1 (by rw [a1_z]; omega) (by rw [a1_z]; exact kk1), ?_⟩
    have hcall := start_ex (A := A) (g := 1) (n := A 24 0) (m := A 24 1) (T := 25) (Z := 26) (hS.stQ ⟨n1, p6_z.2⟩ q6_z)
    rw [a1_z, e1, e2, e3]
    refine hcall.imp ?_
    rintro ⟨r1_z, C_z⟩ ⟨hr, hC⟩
    simp only at hr hC
    subst hr
    exact ⟨rfl, C_z, hC, rfl⟩
/-- the class's seed is begun anew from the table T -/
def xnw (T : Int → Int) (n m : Int) (B : pm_A) : Prop := StE B ∧ (∀ s_z : cx_Sd 12, tld s_z T n m → TrX s_z [] B 1) ∧ (B 0 4 = 0 ∧ B 1 0 = n ∧ B 1 1 = m)
theorem tld.c {s : cx_Sd 12} {T U : Int → Int} {n m : Int} (h : tld s T n m) (hn : n ≤ 6) (hm : m ≤ 6) (e : ∀ k_z : Int, 0 ≤ k_z → k_z < 72 → U k_z = T k_z) : tld s U n m := fun i_z j_z hj => ⟨fun hi_z => by rw [e _ (by omega) (by omega)]; exact (h i_z j_z hj).1 hi_z, (h i_z j_z hj).2⟩
theorem xnw.c {T U : Int → Int} {n m : Int} {B : pm_A} (h : xnw T n m B) (hn : n ≤ 6) (hm : m ≤ 6) (e : ∀ k_z : Int, 0 ≤ k_z → k_z < 72 → T k_z = U k_z) : xnw U n m B := ⟨h.1, fun s_z hs => h.2.1 s_z (hs.c hn hm e), h.2.2⟩
theorem ssP.nw {A : pm_A} {r : pm_R} (hS : StE A) (n1 : 1 ≤ A 24 0) (h9 : ∀ k_z : Int, 0 ≤ k_z → k_z < 72 → -9 ≤ A 25 k_z ∧ A 25 k_z ≤ 9) (h : ssP A r) : xnw (A 25) (A 24 0) (A 24 1) r.2 ∧ (∀ i_z : Int, 0 ≤ i_z → i_z < 6 → r.2 3 i_z = A 26 i_z) ∧ (∀ r_z j_z : Int, 100 ≤ r_z → r.2 r_z j_z = A r_z j_z) ∧ (∀ j_z : Int, r.2 24 j_z = A 24 j_z) ∧ ∀ j_z : Int, r.2 25 j_z = A 25 j_z := by
  have p6_z := fX_3_0 hS.1 (r := 24) (by omega) kk24
  have q6_z := fX_3_1 hS.1 (r := 24) (by omega) kk24
  obtain ⟨_, C_z, hC, e_z⟩ := h
  have hSC := hS.sc hS.begH hC.1
  have hB_z : gH wX (pm_upd C_z 0 4 0) := put_t hC.1.1 (by omega) (by omega)
  have hne : ∀ r_z j_z : Int, ¬ (r_z = 0 ∧ j_z = 4) → ¬ r_z = 46 → pm_upd C_z 0 4 0 r_z j_z = C_z r_z j_z := fun r_z j_z h1 _ => upd_o h1
  rw [e_z]
  refine ⟨⟨hSC.far hB_z hne, fun s_z ht => (trx0 hS ⟨n1, p6_z.2⟩ q6_z h9 ht hC).far hB_z (fun r_z j_z h1 h2 => hne r_z j_z (fun q_z => h1 q_z.1) h2), ⟨upd_at, by rw [upd_o (by omega)]; exact hC.2.1.1, by rw [upd_o (by omega)]; exact hC.2.1.2⟩⟩, fun i_z i0_z i1_z => by rw [upd_o (by omega)]; exact hC.2.2.2.1 i_z i0_z i1_z, fun r_z j_z hr => ?_, fun j_z => ?_, fun j_z => ?_⟩
  · rw [upd_o (by omega)]
    refine hC.1.2.1 r_z j_z (by omega) (by omega) (by omega) (fun n_z n0_z n1_z => ?_)
    have h1 := (hS.2.1.2.2.2.2.1 n_z n0_z (by omega)).1
    have h2 := own_pc (A := A) own1 n0_z (show n_z ≤ 5 by omega)
    rw [Int.zero_add] at h2
    rw [h2] at h1
    have h1 : A 4 n_z < 72 := h1
    show ¬ r_z = A 4 n_z ∧ ¬ r_z = A 4 n_z + 1 ∧ ¬ r_z = A 4 n_z + 2
    omega
  · rw [upd_o (by omega)]
    exact hC.1.no hS.begH kk24 (Or.inl (by omega)) (by omega) (by omega) (by decide) (by decide) (by decide)
  · rw [upd_o (by omega)]
    exact hC.1.no hS.begH kk25 (Or.inl (by omega)) (by omega) (by omega) (by decide) (by decide) (by decide)
theorem xsm.tr {s : cx_Sd 12} {ks : List (Fin 12)} {A B C : pm_A} (h : xsm s ks A B) (g : xsm s ks B C) : xsm s ks A C :=
  ⟨g.1, g.2.1, ⟨by rw [g.2.2.1.1]; exact h.2.2.1.1, by rw [g.2.2.1.2.1]; exact h.2.2.1.2.1, by rw [g.2.2.1.2.2]; exact h.2.2.1.2.2⟩, fun d_z d0_z => by rw [g.2.2.2.1 d_z d0_z]; exact h.2.2.2.1 d_z d0_z, fun i_z i0_z => by rw [g.2.2.2.2 i_z i0_z]; exact h.2.2.2.2 i_z i0_z⟩
/-- the smallest sizes -/
def syL (p : Int) (T t : Int → Int) : Prop := sy p T t ∧ ∀ w_z, sy p T w_z → ∀ i_z : Int, 0 ≤ i_z → i_z < p → ∃ c_z, w_z i_z = c_z * t i_z
theorem syL_one {p : Int} {T s t : Int → Int} (h : lsz p T s) (g : syL p T t) {i : Int} (i0 : 0 ≤ i) (i1 : i < p) : s i = t i := by
  obtain ⟨a_z, ha_z⟩ := h.2.2 t g.1 i i0 i1
  obtain ⟨b_z, hb_z⟩ := g.2 s h.2.1 i i0 i1
  have h1 := h.1 i i0 i1
  have g1 := g.1.1 i i0 i1
  have d1_z : s i ∣ t i := ⟨a_z, by rw [ha_z, Int.mul_comm]⟩
  have d2_z : t i ∣ s i := ⟨b_z, by rw [hb_z, Int.mul_comm]⟩
  have := Int.le_of_dvd (by omega) d1_z
  have := Int.le_of_dvd (by omega) d2_z
  omega
theorem syL.c {p : Int} {T U s t : Int → Int} (h : syL p T t) (hp : p ≤ 6) (eT : ∀ k_z : Int, 0 ≤ k_z → k_z < 72 → T k_z = U k_z) (e : ∀ i_z : Int, 0 ≤ i_z → i_z < p → s i_z = t i_z) : syL p U s := by
  have h1 := sy_c hp eT h.1
  refine ⟨⟨fun i_z i0_z i1_z => by rw [e i_z i0_z i1_z]; exact h1.1 i_z i0_z i1_z, fun i_z j_z i0_z i1_z j0 j1 => by rw [e i_z i0_z i1_z, e j_z j0 j1]; exact h1.2 i_z j_z i0_z i1_z j0 j1⟩, fun w_z hw i_z i0_z i1_z => ?_⟩
  rw [e i_z i0_z i1_z]
  exact h.2 w_z (sy_c hp (fun k_z k0_z k1_z => (eT k_z k0_z k1_z).symm) hw) i_z i0_z i1_z
/-- fault, with what it leaves -/
def fqP (s : cx_Sd 12) (ks : List (Fin 12)) (A : pm_A) (r : pm_R) : Prop := faq_post A 24 r ∧ xsm s ks A r.2 ∧ CA r.2 ∧ (∀ j_z : Int, 0 ≤ j_z → j_z < 20 → r.2 24 j_z = A 24 j_z ∧ r.2 0 j_z = A 0 j_z) ∧ ∀ j_z : Int, 0 ≤ j_z → r.2 25 j_z = A 25 j_z
theorem fault_exq {s : cx_Sd 12} {ks : List (Fin 12)} {A : pm_A} (hS : StE A) (hC : CA A) (hK : gK wY A) (hT : TrX s ks A 1) (hT9 : b9t A 24) : Cl pmt (an_sh wX) 21 [(2, 24)] A (fqP s ks A) := by
  obtain ⟨n_z, r_z, c1_z, q_z⟩ := fault_ex hS.1 (by omega) kk24 hT9
  have hF := fx_fault c1_z (gK_F hS.1 hS.2.2.2.2.2 hC.2.1 hC.2.2.1)
  have hFY : gFk wY [10011, 10017] A r_z.2 := by
    have c2_z := c1_z
    rw [← shY] at c2_z
    exact (ksX n_z 21 ([6], 2, [10011, 10017]) (List.contains_iff_mem.mp (by decide +kernel)) [(2, 24)] A r_z ⟨⟨rfl, (by show (0 : Int) ≤ 24; omega), by decide +kernel⟩, trivial⟩ hK c2_z).2.2
  refine ⟨n_z, r_z, c1_z, q_z, xsm.kF hS hT q_z.1.1 hF (by decide), hC.k hFY (by decide), fun j_z j0 j1 => ⟨hF 24 j_z (by omega) j0 ?_, hF 0 j_z (by omega) j0 ?_⟩, fun j_z j0 => hF 25 j_z (by omega) j0 ?_⟩
  · rw [kf_o kk24 (by decide) (by decide) (shX_3 kk24)]
    intro h_z
    simp only [List.mem_cons, List.not_mem_nil, or_false] at h_z
    omega
  · rw [kf_o kk0 (by decide) (by decide) (shX_0 kk0)]
    intro h_z
    simp only [List.mem_cons, List.not_mem_nil, or_false] at h_z
    omega
  · rw [kf_a kk25 (by omega) (by omega) (shX_16 kk25)]
    decide
def xbQ (s : cx_Sd 12) (ks : List (Fin 12)) (A : pm_A) (r : pm_R) : Prop := ∃ x_z, r.1 = some (0, x_z) ∧ bgA (A 24 0) (A 25) x_z ∧ ((¬ x_z = 0 ∧ xsm s ks A r.2) ∨ (x_z = 0 ∧ xnw (A 25) (A 24 0) (A 24 1) r.2 ∧ syL (A 24 0) (A 25) (r.2 3)))
theorem xsm.rf {s : cx_Sd 12} {ks : List (Fin 12)} {A : pm_A} (hS : StE A) (hT : TrX s ks A 1) : xsm s ks A A := ⟨hS, hT, ⟨rfl, rfl, rfl⟩, fun _ _ => rfl, fun _ _ => rfl⟩
theorem fq_go {s : cx_Sd 12} {ks : List (Fin 12)} {A C : pm_A} {x : Int} {r : pm_R} (hT9 : ∀ k_z : Int, 0 ≤ k_z → k_z < 72 → -9 ≤ A 25 k_z ∧ A 25 k_z ≤ 9) (e2 : A 24 2 = 25) (e3 : A 24 3 = 26) (p1 : 1 ≤ A 24 0) (p6 : A 24 0 ≤ 6) (q6 : A 24 1 ≤ 6) (hq : fqP s ks A (some (0, x), C)) (hx : x = 0) (hr : ssP C r) : xnw (A 25) (A 24 0) (A 24 1) r.2 ∧ syL (A 24 0) (A 25) (r.2 3) ∧ (∀ j_z : Int, 0 ≤ j_z → j_z < 20 → r.2 24 j_z = A 24 j_z) ∧ ∀ j_z : Int, 0 ≤ j_z → r.2 25 j_z = A 25 j_z := by
  obtain ⟨⟨_, y_z, ey, _, hy⟩, h2, _, h4, h5⟩ := hq
  simp only at ey h2 h4 h5 hy
  cases ey
  have hy2 := hy hx
  rw [e2, e3] at hy2
  have e0_z := (h4 0 (by omega) (by omega)).1
  have e1_z := (h4 1 (by omega) (by omega)).1
  have h6 := ssP.nw h2.1 (by rw [e0_z]; exact p1) (fun k_z k0_z k1_z => by rw [h5 k_z k0_z]; exact hT9 k_z k0_z k1_z) hr
  rw [e0_z, e1_z] at h6
  refine ⟨h6.1.c p6 q6 (fun k_z k0_z _ => h5 k_z k0_z), syL.c (T := A 25) (t := C 26) ⟨hy2.1, hy2.2⟩ p6 (fun _ _ _ => rfl) (fun i_z i0_z i1_z => h6.2.1 i_z i0_z (by omega)), fun j_z j0 j1 => by rw [h6.2.2.2.1, (h4 j_z j0 j1).1], fun j_z j0 => by rw [h6.2.2.2.2, h5 j_z j0]⟩
theorem xbegin_exq {s : cx_Sd 12} {ks : List (Fin 12)} {A : pm_A} (hS : StE A) (hC : CA A) (hK : gK wY A) (hT : TrX s ks A 1) (e1 : A 0 1 = 24) (e2 : A 24 2 = 25) (hT9 : b9t A 24) : Cl pmt (an_sh wX) 87 [(2, 0)] A (xbQ s ks A) := by
  have e3 := hC.2.2.1
  have d0_z : 0 ≤ A 0 1 ∧ wX.2 (A 0 1) = 3 := by rw [e1]; exact ⟨by omega, kk24⟩
  have p6_z := fX_3_0 hS.1 (r := 24) (by omega) kk24
  have q6_z := fX_3_1 hS.1 (r := 24) (by omega) kk24
  have hT8 : ∀ k_z : Int, 0 ≤ k_z → k_z < 72 → -9 ≤ A 25 k_z ∧ A 25 k_z ≤ 9 := fun k_z k0_z k1_z => by
    have h1 := hT9 k_z k0_z k1_z
    rw [e2] at h1
    exact h1
  refine Cl.of (Nat.le_of_ble_eq_true rfl) ?_
  refine wq_ok (full := o_X9_begin) srt_Xbegin (fr := []) (cuts := [19]) (J := fun pc st_z => pc = 19 ∧ (¬ A 24 0 = 0) ∧ ∃ C_z x_z w_z, fqP s ks A (some (0, x_z), C_z) ∧ st_z = ([(2, 0), w_z], [(0, x_z)], C_z)) ?_ 20 0 _ ?_
  · rintro pc st_z ⟨rfl, h0, C_z, x_z, w_z, hq, rfl⟩
    have p1_z : 1 ≤ A 24 0 := by omega
    have hb_z : bgA (A 24 0) (A 25) x_z := by
      obtain ⟨⟨_, y_z, ey, hy, _⟩, _⟩ := hq
      simp only at ey
      cases ey
      rw [e2] at hy
      exact Or.inr ⟨p1_z, hy⟩
    refine wq_ok srt_Xbegin (fr := []) (cuts := []) (J := fun pc st_z => False) (fun _ _ h_z => h_z.elim) 20 19 _ ?_
    refine ⟨fun h_z => ?_, fun h_z => ?_⟩
    · exact ⟨rfl, x_z, rfl, hb_z, Or.inl ⟨h_z, hq.2.1⟩⟩
    · refine ⟨rX_0 (by omega) kk0, ?_⟩
      have g4 := hq.2.2.2.1
      simp only at g4
      have g5_z : C_z 24 0 = A 24 0 := (g4 0 (by omega) (by omega)).1
      have hcall := startSeed_ex (A := C_z) hq.2.1.1 (by rw [(g4 1 (by omega) (by omega)).2]; exact e1) (by rw [(g4 2 (by omega) (by omega)).1]; exact e2) (by rw [(g4 3 (by omega) (by omega)).1]; exact e3) (by rw [g5_z]; exact p1_z)
      refine hcall.imp ?_
      rintro ⟨r1_z, D_z⟩ hD
      have hr1 : r1_z = none := hD.1
      subst hr1
      have h6 := fq_go hT8 e2 e3 p1_z p6_z.2 q6_z.2 hq h_z hD
      exact ⟨rfl, x_z, rfl, hb_z, Or.inr ⟨h_z, h6.1, h6.2.1⟩⟩
  · refine ⟨oX_0 (by omega) kk0 1 rfl, ?_⟩
    refine ⟨oX_3 d0_z.1 d0_z.2 0 rfl, ?_⟩
    refine ⟨fun h0 => ?_, fun h0 => ?_⟩
    · refine ⟨oX_0 (by omega) kk0 1 rfl, ?_⟩
      refine ⟨rX_3 d0_z.1 d0_z.2, ?_⟩
      rw [e1] at h0 ⊢
      refine (fault_exq hS hC hK hT hT9).imp ?_
      rintro ⟨r1_z, C_z⟩ hq
      have hq0 := hq
      obtain ⟨⟨_, x_z, e_z, _⟩, _⟩ := hq0
      simp only at e_z
      subst e_z
      exact ⟨rfl, h0, C_z, x_z, _, hq, rfl⟩
    · rw [e1] at h0
      exact ⟨rfl, -1, rfl, Or.inl ⟨rfl, h0⟩, Or.inl ⟨by omega, xsm.rf hS hT⟩⟩
