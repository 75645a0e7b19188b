/-! both sides hold one seed -/
def XRs (s : cx_Sd 12) (ks : List (Fin 12)) (AX AM : pm_A) : Prop := RL0 s ks AX AM ∧ CA AX ∧ (AX 0 4 = AM 0 10 ∧ AM 0 10 = (ks.length : Int)) ∧ (∀ (d_z : Nat) (f_z : Fin 12), ks[d_z]? = some f_z → AX 46 (d_z : Int) = (f_z.1 : Int) ∧ AM 6 (d_z : Int) = (f_z.1 : Int)) ∧ wkS s (AM 0 7 + AM 0 8) (AM 0 7) [] ks ∧ ∀ i_z : Int, 0 ≤ i_z → i_z < AM 0 7 → AX 3 i_z = AM 10 i_z
def XR (AX AM : pm_A) : Prop := ∃ (s_z : cx_Sd 12) (ks_z : List (Fin 12)), XRs s_z ks_z AX AM
def msm (s : cx_Sd 12) (ks : List (Fin 12)) (A B : pm_A) : Prop := Tru s ks B ∧ (B 0 7 = A 0 7 ∧ B 0 8 = A 0 8 ∧ B 0 10 = A 0 10) ∧ (∀ d_z : Int, 0 ≤ d_z → B 6 d_z = A 6 d_z) ∧ ∀ i_z : Int, 0 ≤ i_z → B 10 i_z = A 10 i_z
def mdC : List Nat := [7, 8, 10, 10001, 10002, 10003, 10005, 10006, 10010]
def mdD : List Nat := [7, 8, 10, 10006, 10010]
theorem kmA {c : Int} {l : Nat} (hk : wM.2 c = l) (hs : (an_sh wM c).1 = 1) (j : Int) : kcode wM c j = 10000 + l := by
  rw [kc_1 hs, hk]
theorem msm.t {s : cx_Sd 12} {ks : List (Fin 12)} {A B : pm_A} {ms : List Nat} (hT : Tru s ks B) (hF : gFk wM ms A B) (hm : avoid mdD ms = true) : msm s ks A B := by
  have h0 : ∀ j_z : Int, j_z = 7 ∨ j_z = 8 ∨ j_z = 10 → B 0 j_z = A 0 j_z := fun j_z hj => hF 0 j_z (by omega) (by omega) (by
    rw [kMd j_z]
    refine avoid_n hm ?_
    rcases hj with rfl | rfl | rfl <;> decide)
  refine ⟨hT, ⟨h0 7 (by omega), h0 8 (by omega), h0 10 (by omega)⟩, fun d_z d0_z => hF 6 d_z (by omega) d0_z ?_, fun i_z i0_z => hF 10 i_z (by omega) i0_z ?_⟩
  · rw [kmA kn6 (by decide +kernel)]
    exact avoid_n hm (by decide)
  · rw [kmA kn10 (by decide +kernel)]
    exact avoid_n hm (by decide)
theorem msm.k {s : cx_Sd 12} {ks : List (Fin 12)} {A B : pm_A} {ms : List Nat} (hT : Tru s ks A) (hB : gH wM B) (hF : gFk wM ms A B) (hm : avoid mdC ms = true) (hm2 : avoid mdD ms = true) : msm s ks A B := by
  have h0 : ∀ j_z : Int, j_z = 7 ∨ j_z = 8 → B 0 j_z = A 0 j_z := fun j_z hj => hF 0 j_z (by omega) (by omega) (by
    rw [kMd j_z]
    refine avoid_n hm ?_
    rcases hj with rfl | rfl <;> decide)
  have h1 : ∀ j_z : Int, 0 ≤ j_z → B 1 j_z = A 1 j_z := fun j_z j0 => hF 1 j_z (by omega) j0 (by
    rw [kmA kn1 (by decide +kernel)]
    exact avoid_n hm (by decide))
  have h2 : ∀ j_z : Int, 0 ≤ j_z → B 2 j_z = A 2 j_z := fun j_z j0 => hF 2 j_z (by omega) j0 (by
    rw [kmA kn2 (by decide +kernel)]
    exact avoid_n hm (by decide))
  have h3 : ∀ j_z : Int, 0 ≤ j_z → B 3 j_z = A 3 j_z := fun j_z j0 => hF 3 j_z (by omega) j0 (by
    rw [kmA kn3 (by decide +kernel)]
    exact avoid_n hm (by decide))
  refine msm.t (hT.same hB (h0 7 (by omega)) (h0 8 (by omega)) (fun j_z j0 _ => hF 5 j_z (by omega) j0 ?_) (fun p_z p0_z p1_z r_z j_z hr => ?_)) hF hm2
  · rw [kmA kn5 (by decide +kernel)]
    exact avoid_n hm (by decide)
  · unfold inS at hr
    rcases hr with ⟨rfl, rfl⟩ | ⟨rfl, g1, g2⟩ | ⟨rfl, g1, g2⟩
    · exact h1 _ p0_z
    · exact h2 _ (by omega)
    · exact h3 _ (by omega)
theorem xr_sm {s : cx_Sd 12} {ks : List (Fin 12)} {AX AM BX BM : pm_A} (h : XRs s ks AX AM) (hx : xsm s ks AX BX) (hc : CA BX) (hm : msm s ks AM BM) : XRs s ks BX BM := by
  obtain ⟨⟨_, _, _, h7, h8⟩, _, ⟨h4, h10⟩, ht, hw, hz⟩ := h
  obtain ⟨x1_z, x2_z, ⟨x3, x4_z, x5_z⟩, x6, x7⟩ := hx
  obtain ⟨m1_z, ⟨m2_z, m3_z, m4_z⟩, m5_z, m6_z⟩ := hm
  refine ⟨⟨x1_z, x2_z, m1_z, by rw [x4_z, m2_z]; exact h7, by rw [x5_z, m3_z]; exact h8⟩, hc, ⟨by rw [x3, m4_z]; exact h4, by rw [m4_z]; exact h10⟩, fun d_z f_z hd_z => ?_, by rw [m2_z, m3_z]; exact hw, fun i_z i0_z i1_z => ?_⟩
  · rw [x6 d_z (by omega), m5_z d_z (by omega)]; exact ht d_z f_z hd_z
  · rw [m2_z] at i1_z
    rw [x7 i_z i0_z, m6_z i_z i0_z]; exact hz i_z i0_z i1_z
theorem XR.kk {AX AM BX BM : pm_A} {msX msM : List Nat} (h : XR AX AM) (hBX : gH wX BX) (hBM : gH wM BM) (hX : gFk wY msX AX BX) (hM : gFk wM msM AM BM) (a1 : avoid bdC msX = true) (a2 : avoid caC msX = true) (a3 : avoid mdC msM = true) (a4 : avoid mdD msM = true) : XR BX BM := by
  obtain ⟨s_z, ks_z, h_z⟩ := h
  exact ⟨s_z, ks_z, xr_sm h_z (xsm.k h_z.1.1 h_z.1.2.1 hBX hX a1) (h_z.2.1.k hX a2) (msm.k h_z.1.2.2.1 hBM hM a3 a4)⟩
/-- a seed begun on both sides -/
theorem xr_new {AX AM : pm_A} {T : Int → Int} {n m : Int} (hx : xnw T n m AX) (hm : mnw T n m AM) (hc : CA AX) (hz : ∀ i_z : Int, 0 ≤ i_z → i_z < n → AX 3 i_z = AM 10 i_z) : XR AX AM := by
  obtain ⟨s_z, g1, g2, g3_z, g4, g5_z⟩ := hm
  obtain ⟨x1_z, x2_z, x3, x4_z, x5_z⟩ := hx
  refine ⟨s_z, [], ⟨x1_z, x2_z s_z g2, g1, by rw [x4_z, g3_z], by rw [x5_z, g4]⟩, hc, ⟨by rw [x3, g5_z], by rw [g5_z]; rfl⟩, fun d_z f_z hd_z => absurd hd_z (by intro q_z; simp at q_z), trivial, fun i_z i0_z i1_z => hz i_z i0_z (by rw [g3_z] at i1_z; exact i1_z)⟩
theorem msm.gp {s : cx_Sd 12} {ks : List (Fin 12)} {A B : pm_A} (hT : Tru s ks A) (h : gpF A B) : msm s ks A B :=
  ⟨hT.same h.1 (h.2 0 7 (by omega) (by omega) (by omega)) (h.2 0 8 (by omega) (by omega) (by omega)) (fun j_z _ _ => h.2 5 j_z (by omega) (by omega) (by omega)) (fun p_z p0_z p1_z r_z j_z hr => h.2 r_z j_z (by unfold inS at hr; omega) (by unfold inS at hr; omega) (by unfold inS at hr; omega)), ⟨h.2 0 7 (by omega) (by omega) (by omega), h.2 0 8 (by omega) (by omega) (by omega), h.2 0 10 (by omega) (by omega) (by omega)⟩, fun d_z _ => h.2 6 d_z (by omega) (by omega) (by omega), fun i_z _ => h.2 10 i_z (by omega) (by omega) (by omega)⟩
theorem mnw.c {T U : Int → Int} {n m : Int} {B : pm_A} (h : mnw T n m B) (hn : n ≤ 6) (hm : m ≤ 6) (e : ∀ k_z : Int, 0 ≤ k_z → k_z < 72 → U k_z = T k_z) : mnw U n m B := by
  obtain ⟨s_z, g1, g2, g3_z⟩ := h
  exact ⟨s_z, g1, g2.c hn hm e, g3_z⟩
theorem bgA_0 {p : Int} {T : Int → Int} (h : bgA p T 0) : 1 ≤ p := by
  rcases h with ⟨q_z, _⟩ | ⟨q_z, _⟩
  · omega
  · exact q_z
theorem xr_begin {s : cx_Sd 12} {ks : List (Fin 12)} {AX AM : pm_A} {q r : pm_R} (hD : DT AX AM) (hI : RI AM) (h : XRs s ks AX AM) (hc : CA q.2) (hq : xbQ s ks AX q) (hr : bz3 AM r) : XR q.2 r.2 ∧ q.1 = r.1 := by
  have p12_z := fM_0_12 hI.g (r := 0) (by omega) km0
  have p13_z := fM_0_13 hI.g (r := 0) (by omega) km0
  obtain ⟨x_z, q1_z, q2_z, q3_z⟩ := hq
  obtain ⟨_, y_z, r1_z, r2_z, r3_z⟩ := hr
  rw [hD.1.2.1] at q2_z q3_z
  rw [hD.1.2.2] at q3_z
  have hxy : x_z = y_z := bgA_one (bgA_c p12_z.2 hD.2.2 q2_z) r2_z
  subst hxy
  refine ⟨?_, by rw [q1_z, r1_z]⟩
  rcases q3_z with ⟨n_z, hx⟩ | ⟨e_z, hx, hsy⟩
  · rcases r3_z with ⟨e_z, _⟩ | ⟨_, hg⟩
    · exact absurd e_z n_z
    · exact ⟨s, ks, xr_sm h hx hc (msm.gp h.1.2.2.1 hg)⟩
  · rcases r3_z with ⟨_, hl, B_z, b1_z, b2_z, b3_z⟩ | ⟨n_z, _⟩
    · subst e_z
      have p1_z := bgA_0 r2_z
      have hm_z := bgJ.nw hI.2.1.1 hI.g p1_z b1_z b2_z b3_z
      refine xr_new hx (hm_z.c p12_z.2 p13_z.2 hD.2.2) hc (fun i_z i0_z i1_z => ?_)
      exact (syL_one hl (hsy.c p12_z.2 hD.2.2 (fun _ _ _ => rfl)) i0_z i1_z).symm
    · exact absurd e_z n_z
theorem xr_seed {s : cx_Sd 12} {ks : List (Fin 12)} {AX AM : pm_A} {sl : Int} {q r : pm_R} (hI : RI AM) (h : XRs s ks AX AM) (hc : CA q.2) (hq : xsR s ks AX sl (AM 31 sl) (fcs AM sl) q) (hr : mS3 AM sl r) : XR q.2 r.2 := by
  rcases hq with ⟨no_z, rfl⟩ | ⟨ok_z, x_z, q1_z, q2_z, q3_z, q4_z⟩
  · rcases hr with ⟨_, rfl⟩ | ⟨ok_z, _⟩
    · exact ⟨s, ks, h⟩
    · exact absurd ok_z no_z
  · rcases hr with ⟨no_z, _⟩ | ⟨_, _, B_z, y_z, b1_z, b2_z, b3_z, b4_z, b5_z, b6_z, b7_z, b8_z, b9_z⟩
    · exact absurd ok_z no_z
    · have hn := ok_z.2.2
      have hn4 : 1 ≤ AM 31 sl - 3 := by have := (hI.2.2 sl ok_z.1).1; omega
      have hx : bgA (B_z 0 12) (B_z 7) x_z := by
        rw [b5_z.1]
        refine bgA_c (T := tsum (ctr (AM 31 sl) (fcs AM sl)) 1000) (by omega) (fun k_z k0_z k1_z => (b3_z k_z k0_z k1_z).symm) ?_
        exact Or.inr ⟨hn4, q1_z⟩
      have hxy : x_z = y_z := bgA_one hx b6_z
      subst hxy
      rcases q4_z with ⟨n_z, hxs⟩ | ⟨e_z, hxs, hsy⟩
      · rcases b9_z with ⟨e_z, _⟩ | ⟨_, hg⟩
        · exact absurd e_z n_z
        · have hB_z : msm s ks AM B_z := ⟨h.1.2.2.1.same b2_z.1 (b2_z.2 0 7 (by omega) (by omega)) (b2_z.2 0 8 (by omega) (by omega)) (fun j_z _ _ => b2_z.2 5 j_z (by omega) (by omega)) (fun p_z p0_z p1_z r_z j_z hr => b2_z.2 r_z j_z (by unfold inS at hr; omega) (by unfold inS at hr; omega)), ⟨b2_z.2 0 7 (by omega) (by omega), b2_z.2 0 8 (by omega) (by omega), b2_z.2 0 10 (by omega) (by omega)⟩, fun d_z _ => b2_z.2 6 d_z (by omega) (by omega), fun i_z _ => b2_z.2 10 i_z (by omega) (by omega)⟩
          have hC := msm.gp hB_z.1 hg
          refine ⟨s, ks, xr_sm h hxs hc ⟨hC.1, ⟨by rw [hC.2.1.1, hB_z.2.1.1], by rw [hC.2.1.2.1, hB_z.2.1.2.1], by rw [hC.2.1.2.2, hB_z.2.1.2.2]⟩, fun d_z d0_z => by rw [hC.2.2.1 d_z d0_z, hB_z.2.2.1 d_z d0_z], fun i_z i0_z => by rw [hC.2.2.2 i_z i0_z, hB_z.2.2.2 i_z i0_z]⟩⟩
      · rcases b9_z with ⟨_, hl, E_z, c1_z, c2_z, c3_z⟩ | ⟨n_z, _⟩
        · have hm_z := bgJ.nw b4_z b1_z.g (by rw [b5_z.1]; exact hn4) c1_z c2_z c3_z
          rw [b5_z.1, b5_z.2] at hm_z
          rw [b5_z.1] at hl
          refine xr_new hxs (hm_z.c (by omega) (by omega) (fun k_z k0_z k1_z => (b3_z k_z k0_z k1_z).symm)) hc (fun i_z i0_z i1_z => ?_)
          exact (syL_one hl (hsy.c (by omega) (fun k_z k0_z k1_z => (b3_z k_z k0_z k1_z).symm) (fun _ _ _ => rfl)) i0_z i1_z).symm
        · exact absurd e_z n_z
/-! turn and back on both sides -/
theorem wk_sn {s : cx_Sd 12} {W P : Int} {ks : List (Fin 12)} {f : Fin 12} : wkS s W P [] (ks ++ [f]) ↔ wkS s W P [] ks ∧ okS s ks W P f := by
  rw [wkS_app, List.nil_append]
  exact ⟨fun h_z => ⟨h_z.1, h_z.2.1⟩, fun h_z => ⟨h_z.1, h_z.2, trivial⟩⟩
theorem wk_bd {s : cx_Sd 12} {W P : Int} {l : List (Fin 12)} (h9 : ∀ v_z k_z : Fin 12, (k_z.1 : Int) < P → s.b v_z k_z ≤ 9 ∧ -9 ≤ s.b v_z k_z) (h : wkS s W P [] l) : bdS s l W P := by
  rcases List.eq_nil_or_concat l with rfl | ⟨l', f_z, rfl⟩
  · intro i_z j_z _ hj
    have h1 := h9 i_z j_z hj
    show -9999 ≤ s.b i_z j_z ∧ s.b i_z j_z ≤ 9999
    omega
  · rw [List.concat_eq_append] at h ⊢
    exact it_bd.1 (wk_sn.1 h).2.2
theorem tuG_0 {A B : pm_A} (h : tuG A B) : B 0 7 = A 0 7 ∧ B 0 8 = A 0 8 ∧ B 0 10 = A 0 10 ∧ ∀ d_z : Int, B 6 d_z = A 6 d_z :=
  ⟨h.2 0 7 (fun t_z t0_z t1_z ht => by unfold inS at ht; omega) (by omega) (by omega) (by omega), h.2 0 8 (fun t_z t0_z t1_z ht => by unfold inS at ht; omega) (by omega) (by omega) (by omega), h.2 0 10 (fun t_z t0_z t1_z ht => by unfold inS at ht; omega) (by omega) (by omega) (by omega), fun d_z => h.2 6 d_z (fun t_z t0_z t1_z ht => by unfold inS at ht; omega) (by omega) (by omega) (by omega)⟩
theorem xr_turn {s : cx_Sd 12} {ks : List (Fin 12)} {AX AM : pm_A} {k : Int} {q r : pm_R} {msX msM : List Nat} (h : XRs s ks AX AM) (hc : CA q.2) (hX : gFk wY msX AX q.2) (hM : gFk wM msM AM r.2) (a1 : avoid [10011] msX = true) (a2 : avoid [10010] msM = true) (hq : tnP s ks AX k q) (hr : mtP s ks AM k r) : XR q.2 r.2 := by
  have hh := h
  obtain ⟨⟨x1_z, x2_z, x3, h7, h8⟩, x4_z, ⟨h4, h10⟩, ht, hw, hz⟩ := hh
  have eW : bgW AX 1 = AM 0 7 + AM 0 8 := by unfold bgW; rw [h7, h8]
  have e3 : ∀ i_z : Int, 0 ≤ i_z → q.2 3 i_z = AX 3 i_z := fun i_z i0_z => hX 3 i_z (by omega) i0_z (by
    rw [kc_a kk3 (by decide) (shX_11 kk3)]
    exact avoid_n a1 (by decide))
  have e10_z : ∀ i_z : Int, 0 ≤ i_z → r.2 10 i_z = AM 10 i_z := fun i_z i0_z => hM 10 i_z (by omega) i0_z (by
    rw [kmA kn10 (by decide +kernel)]
    exact avoid_n a2 (by decide))
  have xt : tnE s ks AX q.2 → xsm s ks AX q.2 := fun g_z => by
    have hq28 : (0 : Int) ≤ 28 ∧ wX.2 28 = 4 := ⟨by omega, kk28⟩
    have hh2 : ∀ {r_z : Int} {l : Nat}, wX.2 r_z = l → ¬ l = 2 → ¬ l = 14 → ¬ l = 15 → ¬ l = 18 → ∀ j_z : Int, q.2 r_z j_z = AX r_z j_z := fun hr_z n1_z n2_z n3_z n4_z j_z => g_z.1.2.1 _ j_z (ml_no x1_z.1 hq28 hr_z n1_z n2_z n3_z n4_z)
    exact ⟨g_z.2.1, g_z.2.2, ⟨hh2 kk0 (by decide) (by decide) (by decide) (by decide) 4, hh2 kk1 (by decide) (by decide) (by decide) (by decide) 0, hh2 kk1 (by decide) (by decide) (by decide) (by decide) 1⟩, fun d_z _ => hh2 kk46 (by decide) (by decide) (by decide) (by decide) d_z, fun i_z i0_z => e3 i_z i0_z⟩
  have mid_z : xsm s ks AX q.2 → msm s ks AM r.2 → XR q.2 r.2 := fun g1 g2 => ⟨s, ks, xr_sm h g1 hc g2⟩
  have mrf : msm s ks AM AM := ⟨x3, ⟨rfl, rfl, rfl⟩, fun _ _ => rfl, fun _ _ => rfl⟩
  have mtu : tuG AM r.2 → Tru s ks r.2 → msm s ks AM r.2 := fun g1 g2 => ⟨g2, ⟨(tuG_0 g1).1, (tuG_0 g1).2.1, (tuG_0 g1).2.2.1⟩, fun d_z _ => (tuG_0 g1).2.2.2 d_z, e10_z⟩
  have hx : (q.2 = AX ∨ tnE s ks AX q.2) → xsm s ks AX q.2 := fun g_z => by
    rcases g_z with g_z | g_z
    · rw [g_z]; exact xsm.rf x1_z x2_z
    · exact xt g_z
  have hm_z : (r.2 = AM ∨ (tuG AM r.2 ∧ Tru s ks r.2)) → msm s ks AM r.2 := fun g_z => by
    rcases g_z with g_z | g_z
    · rw [g_z]; exact mrf
    · exact mtu g_z.1 g_z.2
  have t4_z := fX_0_4 x1_z.1 z0 kk0
  rcases hq with ⟨e_z, n_z⟩ | ⟨f_z, hf, hq⟩
  · have hqx : q.2 = AX := by rw [e_z]
    rcases hr with ⟨g_z, _⟩ | ⟨g_z, g2, _⟩ | ⟨f_z, hf, _⟩
    · exact mid_z (hx (Or.inl hqx)) (hm_z (Or.inl (by rw [g_z])))
    · exact mid_z (hx (Or.inl hqx)) (hm_z (Or.inl (by rw [g_z])))
    · exact absurd ⟨by omega, by omega⟩ n_z
  · have hfM : (f_z.1 : Int) < AM 0 7 := by omega
    have hitX : itA AX (f_z.1 : Int) ↔ itS s ks (AM 0 7 + AM 0 8) (AM 0 7) f_z := by
      rw [← eW, ← h7]
      exact x2_z.its (k := f_z) (by omega)
    have hitM := x3.its (k := f_z) hfM
    rcases hr with ⟨g_z, g2⟩ | ⟨g_z, g2, g3_z⟩ | ⟨g_z, hg, hr⟩
    · exact absurd ⟨by omega, by omega⟩ g2
    · rcases hq with ⟨_, b_z, _⟩ | ⟨_, b_z, _⟩ | ⟨_, ⟨b_z, _⟩, _⟩
      · exact mid_z (xt b_z) (hm_z (Or.inl (by rw [g_z])))
      · exact mid_z (xt b_z) (hm_z (Or.inl (by rw [g_z])))
      · omega
    · have hfg : g_z = f_z := Fin.ext (by omega)
      subst hfg
      rw [← hf.1] at hq hr
      rcases hq with ⟨_, b_z, b2_z⟩ | ⟨_, b_z, b2_z⟩ | ⟨_, ⟨b_z, b2_z, b3_z⟩, b4_z, b5_z, ⟨b6_z, b7_z, b8_z⟩, b9_z, b10_z⟩
      · rcases hr with ⟨_, c1_z, c2_z, _⟩ | ⟨_, _, c1_z, _⟩
        · exact mid_z (xt b_z) (mtu c1_z c2_z)
        · exact absurd ⟨c1_z.1, hitM.1 c1_z.2⟩ (nok hitX b2_z)
      · omega
      · rcases hr with ⟨_, _, _, c1_z⟩ | ⟨_, c1_z, _, ⟨c2_z, c3_z, c4_z⟩, c5_z, c6_z⟩
        · exact absurd ⟨b2_z, hitX.1 b3_z⟩ (nok hitM c1_z)
        · refine ⟨s, ks ++ [g_z], ⟨b5_z, b4_z, c1_z, by rw [b9_z, c5_z]; exact h7, by rw [b10_z, c6_z]; exact h8⟩, hc, ⟨by rw [b6_z, c2_z, h4], by rw [c2_z, h10, List.length_append]; show (ks.length : Int) + 1 = ((ks.length + 1 : Nat) : Int); omega⟩, fun d_z u_z hd_z => ?_, by rw [c5_z, c6_z]; exact wk_sn.2 ⟨hw, b2_z, hitX.1 b3_z⟩, fun i_z i0_z i1_z => by rw [e3 i_z i0_z, e10_z i_z i0_z]; exact hz i_z i0_z (by rw [c5_z] at i1_z; exact i1_z)⟩
          by_cases hdl : d_z < ks.length
          · rw [List.getElem?_append_left hdl] at hd_z
            have h5 := ht d_z u_z hd_z
            rw [b8_z d_z (by omega), c4_z d_z (by omega)]
            exact h5
          · have hde : d_z = ks.length := by
              have h6 := (List.getElem?_eq_some_iff.mp hd_z).1
              rw [List.length_append] at h6
              have h6 : d_z < ks.length + 1 := h6
              omega
            rw [hde, List.getElem?_append_right (Nat.le_refl _), Nat.sub_self] at hd_z
            have hu : g_z = u_z := Option.some.inj hd_z
            rw [← hu, hde]
            rw [h4, h10] at b7_z
            rw [h10] at c3_z
            exact ⟨b7_z, c3_z⟩
theorem ls_split (ks : List (Fin 12)) : ks = [] ∨ ∃ l f_z, ks = l ++ [f_z] := by
  rcases List.eq_nil_or_concat ks with h_z | ⟨l, f_z, h_z⟩
  · exact Or.inl h_z
  · exact Or.inr ⟨l, f_z, by rw [h_z, List.concat_eq_append]⟩
def bkX (s : cx_Sd 12) (ks : List (Fin 12)) (A : pm_A) (r : pm_R) : Prop := (ks = [] ∧ r = (some (0, 0), A)) ∨ ∃ l f_z, ks = l ++ [f_z] ∧ r.1 = some (0, 1) ∧ TrX s l r.2 1 ∧ StE r.2 ∧ (r.2 0 4 = A 0 4 - 1 ∧ ∀ d_z : Int, r.2 46 d_z = A 46 d_z) ∧ r.2 1 0 = A 1 0 ∧ r.2 1 1 = A 1 1
def bkM (s : cx_Sd 12) (ks : List (Fin 12)) (A : pm_A) (r : pm_R) : Prop := (ks = [] ∧ r = (some (0, 0), A)) ∨ ∃ l f_z, ks = l ++ [f_z] ∧ r.1 = some (0, 1) ∧ Tru s l r.2 ∧ (r.2 0 10 = A 0 10 - 1 ∧ ∀ d_z : Int, r.2 6 d_z = A 6 d_z) ∧ r.2 0 7 = A 0 7 ∧ r.2 0 8 = A 0 8
theorem bk_ok {s : cx_Sd 12} {W P : Int} {l : List (Fin 12)} {f : Fin 12} (h9 : ∀ v_z k_z : Fin 12, (k_z.1 : Int) < P → s.b v_z k_z ≤ 9 ∧ -9 ≤ s.b v_z k_z) (h : wkS s W P [] (l ++ [f])) : okS s (l ++ [f]) W P f := by
  have h1 := wk_sn.1 h
  refine ⟨fun q_z => h1.2.1 (sp_twice q_z), it_bd.2 ?_⟩
  have h2 := wk_bd h9 h1.1
  intro i_z j_z hi_z hj
  rw [bs_twice]
  exact h2 i_z j_z hi_z hj
theorem xback_c {s : cx_Sd 12} {ks : List (Fin 12)} {AX AM : pm_A} (h : XRs s ks AX AM) : Cl pmt (an_sh wX) 86 [(2, 0)] AX (bkX s ks AX) := by
  obtain ⟨⟨x1_z, x2_z, x3, h7, h8⟩, x4_z, ⟨h4, h10⟩, ht, hw, hz⟩ := h
  rcases ls_split ks with rfl | ⟨l, f_z, rfl⟩
  · refine (back_noX x1_z (by rw [h4, h10]; show ¬ (1 : Int) ≤ ((0 : Nat) : Int); omega)).imp ?_
    rintro r_z rfl
    exact Or.inl ⟨rfl, rfl⟩
  · have hlen : AX 0 4 = (l.length : Int) + 1 := by rw [h4, h10, List.length_append]; show ((l.length + 1 : Nat) : Int) = _; omega
    have hk : (f_z.1 : Int) < AX 1 0 := x2_z.2.2.2.2.1 f_z (List.mem_append.2 (Or.inr (List.mem_singleton.2 rfl)))
    have hl := ht l.length f_z (by rw [List.getElem?_append_right (Nat.le_refl _), Nat.sub_self]; rfl)
    have eW : bgW AX 1 = AM 0 7 + AM 0 8 := by unfold bgW; rw [h7, h8]
    have hok := bk_ok (fun v_z k_z hk2 => x2_z.2.2.2.2.2.1 v_z k_z (by rw [h7]; exact hk2)) hw
    have hitX : itA AX (f_z.1 : Int) ↔ itS s (l ++ [f_z]) (AM 0 7 + AM 0 8) (AM 0 7) f_z := by
      rw [← eW, ← h7]
      exact x2_z.its (k := f_z) hk
    refine (back_exX x1_z x2_z (f := f_z) (by omega) (by rw [hlen, show (l.length : Int) + 1 - 1 = (l.length : Int) by omega]; exact hl.1) hk).imp ?_
    rintro r_z (⟨_, _, g_z⟩ | ⟨g1, g2, g3_z, g4, g5_z, g6⟩)
    · exact absurd hok (nok hitX g_z)
    · exact Or.inr ⟨l, f_z, rfl, g1, g3_z.twice, g4, g5_z, g6⟩
theorem mback_c {s : cx_Sd 12} {ks : List (Fin 12)} {AX AM : pm_A} (h : XRs s ks AX AM) : Cl pmt (an_sh wM) 128 [(2, 0)] AM (bkM s ks AM) := by
  obtain ⟨⟨x1_z, x2_z, x3, h7, h8⟩, x4_z, ⟨h4, h10⟩, ht, hw, hz⟩ := h
  rcases ls_split ks with rfl | ⟨l, f_z, rfl⟩
  · refine (mback_no x3.1 (by rw [h10]; rfl)).imp ?_
    rintro r_z rfl
    exact Or.inl ⟨rfl, rfl⟩
  · have hlen : AM 0 10 = (l.length : Int) + 1 := by rw [h10, List.length_append]; show ((l.length + 1 : Nat) : Int) = _; omega
    have hk : (f_z.1 : Int) < AM 0 7 := x3.2.2.2.1 f_z (List.mem_append.2 (Or.inr (List.mem_singleton.2 rfl)))
    have hl := ht l.length f_z (by rw [List.getElem?_append_right (Nat.le_refl _), Nat.sub_self]; rfl)
    have hok := bk_ok (fun v_z k_z hk2 => x3.2.2.2.2.1 v_z k_z hk2) hw
    have hitM := x3.its (k := f_z) hk
    refine (mback_exq x3 (f := f_z) (by omega) (by rw [hlen, show (l.length : Int) + 1 - 1 = (l.length : Int) by omega]; exact hl.2) hk).imp ?_
    rintro r_z (⟨_, g_z⟩ | ⟨g1, g2, g3_z, g4, g5_z, g6⟩)
    · exact absurd hok (nok hitM g_z)
    · exact Or.inr ⟨l, f_z, rfl, g1, g2.twice, g4, g5_z, g6⟩
theorem xr_back {s : cx_Sd 12} {ks : List (Fin 12)} {AX AM : pm_A} {q r : pm_R} {msX msM : List Nat} (h : XRs s ks AX AM) (hc : CA q.2) (hX : gFk wY msX AX q.2) (hM : gFk wM msM AM r.2) (a1 : avoid [10011] msX = true) (a2 : avoid [10010] msM = true) (hq : bkX s ks AX q) (hr : bkM s ks AM r) : XR q.2 r.2 ∧ q.1 = r.1 := by
  have hh := h
  obtain ⟨⟨x1_z, x2_z, x3, h7, h8⟩, x4_z, ⟨h4, h10⟩, ht, hw, hz⟩ := hh
  have e3 : ∀ i_z : Int, 0 ≤ i_z → q.2 3 i_z = AX 3 i_z := fun i_z i0_z => hX 3 i_z (by omega) i0_z (by
    rw [kc_a kk3 (by decide) (shX_11 kk3)]
    exact avoid_n a1 (by decide))
  have e10_z : ∀ i_z : Int, 0 ≤ i_z → r.2 10 i_z = AM 10 i_z := fun i_z i0_z => hM 10 i_z (by omega) i0_z (by
    rw [kmA kn10 (by decide +kernel)]
    exact avoid_n a2 (by decide))
  rcases hq with ⟨e_z, rfl⟩ | ⟨l, f_z, e_z, q1_z, q2_z, q3_z, ⟨q4_z, q5_z⟩, q6_z, q7_z⟩
  · rcases hr with ⟨_, rfl⟩ | ⟨l, f_z, e2_z, _⟩
    · exact ⟨⟨s, ks, h⟩, rfl⟩
    · rw [e_z] at e2_z
      exact absurd e2_z (by intro w_z; simp at w_z)
  · rcases hr with ⟨e2_z, _⟩ | ⟨l2_z, f2_z, e2_z, r1_z, r2_z, ⟨r3_z, r4_z⟩, r5_z, r6_z⟩
    · rw [e_z] at e2_z
      exact absurd e2_z (by intro w_z; simp at w_z)
    · rw [e_z] at e2_z
      obtain ⟨el, _⟩ := List.append_inj' e2_z rfl
      subst el
      subst e_z
      refine ⟨⟨s, l, ⟨q3_z, q2_z, r2_z, by rw [q6_z, r5_z]; exact h7, by rw [q7_z, r6_z]; exact h8⟩, hc, ⟨by rw [q4_z, r3_z, h4], ?_⟩, fun d_z u_z hd_z => ?_, by rw [r5_z, r6_z]; exact (wk_sn.1 hw).1, fun i_z i0_z i1_z => by rw [e3 i_z i0_z, e10_z i_z i0_z]; exact hz i_z i0_z (by rw [r5_z] at i1_z; exact i1_z)⟩, by rw [q1_z, r1_z]⟩
      · rw [r3_z, h10, List.length_append]
        show ((l.length + 1 : Nat) : Int) - 1 = (l.length : Int)
        omega
      · have hdl := (List.getElem?_eq_some_iff.mp hd_z).1
        have h5 := ht d_z u_z (by rw [List.getElem?_append_left hdl]; exact hd_z)
        rw [q5_z, r4_z]
        exact h5
/-! order, keep, all, finite -/
theorem orF.sm {s : cx_Sd 12} {ks : List (Fin 12)} {A B : pm_A} (h : orF s ks A B) : xsm s ks A B := ⟨h.1, h.2.1, ⟨h.2.2.1 4, h.2.2.2.2.1 0, h.2.2.2.2.1 1⟩, fun d_z _ => h.2.2.2.1 d_z, fun i_z _ => h.2.2.2.2.2.2 i_z⟩
theorem kpP.sm {s : cx_Sd 12} {ks : List (Fin 12)} {A : pm_A} {k : Int} {r : pm_R} (hS : StE A) (hT : TrX s ks A 1) (h : kpP s ks A k r) : xsm s ks A r.2 := by
  rcases h with ⟨e_z, _⟩ | ⟨_, hk, h1, h2, h3⟩
  · rw [e_z]; exact xsm.rf hS hT
  · have hH := hS.keepH hk.1 hk.2
    have hF : scF A r.2 (420 + 23 * k) := h3.2.1
    refine ⟨h1, h2, ⟨hF.no hH kk0 (Or.inl (by omega)) (by omega) (by omega) (by decide) (by decide) (by decide), hF.no hH kk1 (Or.inl (by omega)) (by omega) (by omega) (by decide) (by decide) (by decide), hF.no hH kk1 (Or.inl (by omega)) (by omega) (by omega) (by decide) (by decide) (by decide)⟩, fun d_z _ => hF.no hH kk46 (Or.inl (by omega)) (by omega) (by omega) (by decide) (by decide) (by decide), fun i_z _ => hF.no hH kk3 (Or.inl (by omega)) (by omega) (by omega) (by decide) (by decide) (by decide)⟩
theorem xaF.sm {s : cx_Sd 12} {ks : List (Fin 12)} {A B : pm_A} (h : xaF s ks A B) : xsm s ks A B := ⟨h.1, h.2.2.1, ⟨h.2.2.2.1 4, h.2.2.2.2.2.1 0, h.2.2.2.2.2.1 1⟩, fun d_z _ => h.2.2.2.2.1 d_z, fun i_z _ => h.2.2.2.2.2.2.1 i_z⟩
theorem xlP2.sm {s : cx_Sd 12} {ks : List (Fin 12)} {A : pm_A} {W P : Int} {q : pm_R} (h : xlP2 s ks A W P q) : xsm s ks A q.2 := by
  obtain ⟨C_z, z_z, hE, _, e_z, hg⟩ := h
  have hC : ∃ B_z, xaF s ks A B_z ∧ ∀ r_z j_z : Int, ¬ (r_z = 72 ∧ (j_z = 13 ∨ j_z = 14)) → ¬ (104 ≤ r_z ∧ r_z ≤ 106) → C_z r_z j_z = B_z r_z j_z := by
    rcases hE with ⟨h1, _⟩ | ⟨_, _, B_z, _, _, h1, _, h2⟩
    · exact ⟨C_z, h1, fun _ _ _ _ => rfl⟩
    · exact ⟨B_z, h1, h2.2.1.2.1⟩
  obtain ⟨B_z, h1, h2⟩ := hC
  have h3 : ∀ r_z j_z : Int, ¬ (r_z = 0 ∧ j_z = 10) → ¬ (r_z = 72 ∧ (j_z = 13 ∨ j_z = 14)) → ¬ (104 ≤ r_z ∧ r_z ≤ 106) → q.2 r_z j_z = B_z r_z j_z := fun r_z j_z n1_z n2_z n3_z => by
    rw [e_z, upd_o n1_z]; exact h2 r_z j_z n2_z n3_z
  have hk : ∀ {r_z : Int} {l : Nat}, wX.2 r_z = l → ¬ l = 0 → ¬ l = 5 → ¬ l = 19 → ¬ l = 28 → ¬ l = 29 → ∀ j_z : Int, q.2 r_z j_z = B_z r_z j_z := fun {r_z l} hr n0_z n1_z n2_z n3_z n4_z j_z => by
    refine h3 r_z j_z (fun w_z => knd hr kk0 n0_z w_z.1) (fun w_z => knd hr kk72 n1_z w_z.1) (fun w_z => ?_)
    have k1_z := knd hr rk104.1 n2_z
    have k2_z := knd hr rk104.2.1 n3_z
    have k3_z := knd hr rk104.2.2 n4_z
    omega
  refine (h1.sm).tr (xsm.of0 h1.1 h1.2.2.1 hg (fun j_z hj => h3 0 j_z (by omega) (by omega) (by omega)) (fun g_z j_z g0 gk hj => hk gk (by decide) (by decide) (by decide) (by decide) (by decide) j_z) (fun q_z j_z q0 qk hj => hk qk (by decide) (by decide) (by decide) (by decide) (by decide) j_z) (fun j_z hj => h3 28 j_z (by omega) (by omega) (by omega)) (fun q_z j_z q0 qk j0 => ?_) (fun j_z j0 => h3 2 j_z (by omega) (by omega) (by omega)) (fun j_z j0 => h3 46 j_z (by omega) (by omega) (by omega)) (fun j_z j0 => h3 3 j_z (by omega) (by omega) (by omega)) ⟨h3 72 0 (by omega) (by omega) (by omega), h3 72 8 (by omega) (by omega) (by omega)⟩)
  rcases qk with qk | qk | qk | qk | qk <;> exact hk qk (by decide) (by decide) (by decide) (by decide) (by decide) j_z
theorem XRs.wp {s : cx_Sd 12} {ks : List (Fin 12)} {AX AM : pm_A} (h : XRs s ks AX AM) : sWP s (bgW AX 1) (AX 1 0) := by
  have p6_z := fX_1_0 h.1.1.1 (r := 1) (by omega) kk1
  have q6_z := fX_1_1 h.1.1.1 (r := 1) (by omega) kk1
  have hT_z := h.1.2.1
  refine ⟨⟨hT_z.2.2.1, p6_z.2⟩, ⟨by unfold bgW; omega, by unfold bgW; omega⟩, hT_z.2.2.2.2.2.1⟩
theorem orZ_one {s : cx_Sd 12} {ks : List (Fin 12)} {R R' : Int → Int} {n W P z z' : Int} (hR : ∀ i_z : Int, 0 ≤ i_z → i_z < n → R i_z = R' i_z) (h0 : ∀ i_z : Int, 0 ≤ i_z → i_z < n → 0 ≤ R i_z ∧ R i_z < 12) (n0 : 0 ≤ n) (h : orZ s ks R n W P z) (g : orZ s ks R' n W P z') : z = z' := by
  rcases h with ⟨e_z, h1⟩ | ⟨h1, h2, h3⟩
  · rcases g with ⟨e2_z, _⟩ | ⟨g1, g2, _⟩
    · rw [e_z, e2_z]
    · rcases h1 with h1 | ⟨i_z, i0_z, i1_z, h1⟩
      · exact absurd h1 g1
      · exact absurd (by rw [hR i_z i0_z i1_z]; exact g2 i_z i0_z i1_z) h1
  · rcases g with ⟨_, g1⟩ | ⟨g1, g2, g3_z⟩
    · rcases g1 with g1 | ⟨i_z, i0_z, i1_z, g1⟩
      · exact absurd g1 h1
      · exact absurd (by rw [← hR i_z i0_z i1_z]; exact h2 i_z i0_z i1_z) g1
    · obtain ⟨L_z, hL⟩ := rwL_ex (R := R) (n := n) n0 h0
      have hL2 : rwL R' n L_z := ⟨hL.1, fun i_z f_z hf => by
        have hi_z := (List.getElem?_eq_some_iff.mp hf).1
        rw [← hR i_z (by omega) (by have := hL.1; omega)]
        exact hL.2 i_z f_z hf⟩
      exact ordA_u (h3 L_z hL) (g3_z L_z hL2)
theorem XRs.r3 {s : cx_Sd 12} {ks : List (Fin 12)} {AX AM : pm_A} (h : XRs s ks AX AM) {i : Int} (hi : inP (AX 1 0) i) : r32 (AX 3 i) := by
  have h7 := h.1.2.2.2.1
  have p7_z := fM_0_7 h.1.2.2.1.1 (r := 0) (by omega) km0
  rw [h.2.2.2.2.2 i hi.1 (by rw [← h7]; exact hi.2)]
  exact eM_10 h.1.2.2.1.1 (r := 10) (by omega) kn10 hi.1 (by omega)
theorem rl_size {s : cx_Sd 12} {ks : List (Fin 12)} {AX AM : pm_A} {i : Int} {q r : pm_R} (h : XRs s ks AX AM) (hq : lkC 0 AX (inP (AX 1 0) i) (AX 3 i) q) (hr : lkC 0 AM (inP (AM 0 7) i) (AM 10 i) r) : q.2 = AX ∧ r.2 = AM ∧ q.1 = r.1 :=
  hq.eq hr (by rw [h.1.2.2.2.1]) (fun hi_z => h.2.2.2.2.2 i hi_z.1 (by rw [← h.1.2.2.2.1]; exact hi_z.2))
