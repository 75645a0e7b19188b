/-! looking at the seed: b, terms, term, least, ones on both sides -/
def RL0 (s : cx_Sd 12) (ks : List (Fin 12)) (AX AM : pm_A) : Prop := StE AX ∧ TrX s ks AX 1 ∧ Tru s ks AM ∧ AX 1 0 = AM 0 7 ∧ AX 1 1 = AM 0 8
theorem RL0.ls {s : cx_Sd 12} {ks : List (Fin 12)} {AX AM : pm_A} (h : RL0 s ks AX AM) {i : Int} (i0 : 0 ≤ i) (i1 : i < AX 1 0) : LSx AX (AX 4 i) = LSm AM i := by
  obtain ⟨hS_z, hX, hM_z, e7_z, e8⟩ := h
  have p6_z := fX_1_0 hS_z.1 (r := 1) (by omega) kk1
  have a5 := hS_z.2.1.1.2.2.2.2.1
  obtain ⟨f_z, hf⟩ : ∃ f_z : Fin 12, i = (f_z.1 : Int) := ⟨⟨i.toNat, by omega⟩, by show i = ((i.toNat : Nat) : Int); omega⟩
  rw [hf] at i1 ⊢
  obtain ⟨l1, l2, l3, l4⟩ := hX.2.2.2.2.2.2.2 f_z i1
  rw [a5] at l1 l2 l4
  obtain ⟨m1_z, m2_z, m3_z⟩ := hM_z.2.2.2.2.2.2 f_z (by omega)
  refine cr_Shr.eq (shrX l1 (fun q_z q0 q1_z => (l2 q_z q0 q1_z).1)) (shr_of m1_z m2_z) (cr_vl_unique (fun x_z => ?_))
  have h1 := l4 x_z
  have h2 := m3_z x_z
  unfold VX at h1
  unfold VS at h2
  rw [← h1, ← h2]
theorem RL0.at {s : cx_Sd 12} {ks : List (Fin 12)} {AX AM : pm_A} (h : RL0 s ks AX AM) {i : Int} (i0 : 0 ≤ i) (i1 : i < AX 1 0) : (AX (AX 4 i) 1 = AM 1 i ∧ AX (AX 4 i) 0 = AM 0 7 + AM 0 8) ∧ ∀ t_z : Int, 0 ≤ t_z → t_z < AM 1 i → AX (AX (AX 4 i) 2) t_z = AM 2 (200 * i + t_z) ∧ ∀ v_z : Int, 0 ≤ v_z → v_z < AM 0 7 + AM 0 8 → AX (AX (AX 4 i) 3) (t_z * (AM 0 7 + AM 0 8) + v_z) = AM 3 (12 * (200 * i + t_z) + v_z) := by
  have hls := h.ls i0 i1
  obtain ⟨hS_z, hX, hM_z, e7_z, e8⟩ := h
  have p6_z := fX_1_0 hS_z.1 (r := 1) (by omega) kk1
  have p8 := fM_0_8 hM_z.1 (r := 0) (by omega) km0
  have a5 := hS_z.2.1.1.2.2.2.2.1
  have el := eX_12 hS_z.1 (r := 4) (by omega) kk4 (j := i) i0 (by omega)
  have lx := fX_2_1 hS_z.1 el.1 el.2
  have m_z := eM_1 hM_z.1 (r := 1) (by omega) kn1 (j := i) i0 (by omega)
  have hw : AX (AX 4 i) 0 = AM 0 7 + AM 0 8 := by
    obtain ⟨f_z, hf⟩ : ∃ f_z : Fin 12, i = (f_z.1 : Int) := ⟨⟨i.toNat, by omega⟩, by show i = ((i.toNat : Nat) : Int); omega⟩
    rw [hf] at i1 ⊢
    have l3 := (hX.2.2.2.2.2.2.2 f_z i1).2.2.1
    rw [a5] at l3
    rw [l3]
    unfold bgW
    rw [e7_z, e8]
  have hlen : AX (AX 4 i) 1 = AM 1 i := by
    have h1 := congrArg List.length hls
    rw [LSx_len, LSm_len] at h1
    omega
  refine ⟨⟨hlen, hw⟩, fun t_z t0_z t1_z => ?_⟩
  have h2 : (LSx AX (AX 4 i))[t_z.toNat]? = (LSm AM i)[t_z.toNat]? := by rw [hls]
  unfold LSx lsf LSm at h2
  rw [List.getElem?_map, List.getElem?_map, List.getElem?_range (by omega), List.getElem?_range (by omega)] at h2
  have h3 : (AX (AX (AX 4 i) 2) ((t_z.toNat : Nat) : Int), xeX AX (AX 4 i) ((t_z.toNat : Nat) : Int)) = (AM 2 (200 * i + ((t_z.toNat : Nat) : Int)), xe AM i ((t_z.toNat : Nat) : Int)) := Option.some.inj h2
  rw [Int.toNat_of_nonneg t0_z] at h3
  refine ⟨congrArg Prod.fst h3, fun v_z v0_z v1_z => ?_⟩
  have h4 := congrFun (congrArg Prod.snd h3) ⟨v_z.toNat, by omega⟩
  have h5 : (if ((v_z.toNat : Nat) : Int) < AX (AX 4 i) 0 then AX (AX (AX 4 i) 3) (t_z * AX (AX 4 i) 0 + ((v_z.toNat : Nat) : Int)) else 0) = AM 3 (12 * (200 * i + t_z) + ((v_z.toNat : Nat) : Int)) := h4
  rw [Int.toNat_of_nonneg v0_z, hw, if_pos v1_z] at h5
  exact h5
theorem RL0.tb {s : cx_Sd 12} {ks : List (Fin 12)} {AX AM : pm_A} (h : RL0 s ks AX AM) {i j : Int} (i0 : 0 ≤ i) (i1 : i < AM 0 7 + AM 0 8) (j0 : 0 ≤ j) (j1 : j < AM 0 7) : AX (AX 1 2) (i * 6 + j) = AM 5 (6 * i + j) := by
  obtain ⟨hS_z, hX, hM_z, e7_z, e8⟩ := h
  have p7_z := fM_0_7 hM_z.1 (r := 0) (by omega) km0
  have p8 := fM_0_8 hM_z.1 (r := 0) (by omega) km0
  obtain ⟨f_z, hf⟩ : ∃ f_z : Fin 12, i = (f_z.1 : Int) := ⟨⟨i.toNat, by omega⟩, by show i = ((i.toNat : Nat) : Int); omega⟩
  obtain ⟨g_z, hg⟩ : ∃ g_z : Fin 12, j = (g_z.1 : Int) := ⟨⟨j.toNat, by omega⟩, by show j = ((j.toNat : Nat) : Int); omega⟩
  rw [hf, hg]
  have h1 := (hX.2.2.2.1 f_z g_z (by omega)).1 (by unfold bgW; omega)
  have h2 := (hM_z.2.2.1 f_z g_z (by omega)).1 (by omega)
  rw [← h1, ← h2]
theorem srt_Xb : pm_srt o_X9_b = true := by decide +kernel
theorem srt_Mb : pm_srt o_X10_b = true := by decide +kernel
theorem srt_isCellz : pm_srt o_X9_isCell = true := by decide +kernel
abbrev okB (p h i j : Int) : Prop := (0 ≤ i ∧ i < p + h) ∧ 0 ≤ j ∧ j < p
theorem cel_ex {A : pm_A} {p h i j : Int} (hp : 0 ≤ p ∧ p ≤ 6) (hh : 0 ≤ h ∧ h ≤ 6) : Cl pmt (an_sh wX) 95 [(0, p), (0, h), (0, i), (0, j)] A (fun r_z => (r_z = (some (0, 1), A) ∧ okB p h i j) ∨ (r_z = (some (0, 0), A) ∧ ¬ okB p h i j)) := by
  refine Cl.of (Nat.le_of_ble_eq_true rfl) ?_
  refine wq_ok (full := o_X9_isCell) srt_isCellz (fr := []) (cuts := []) (J := fun _ _ => False) (fun _ _ h => h.elim) 20 0 _ ?_
  refine ⟨fun h0 => ?_, fun h0 => ?_⟩
  · exact ⟨rfl, Or.inr ⟨rfl, fun q_z => by omega⟩⟩
  · refine ⟨⟨by omega, by omega⟩, ?_⟩
    refine ⟨fun h1 => ?_, fun h1 => ?_⟩
    · exact ⟨rfl, Or.inr ⟨rfl, fun q_z => by omega⟩⟩
    · refine ⟨fun h2 => ?_, fun h2 => ?_⟩
      · exact ⟨rfl, Or.inr ⟨rfl, fun q_z => by omega⟩⟩
      · refine ⟨fun h3 => ?_, fun h3 => ?_⟩
        · exact ⟨rfl, Or.inr ⟨rfl, fun q_z => by omega⟩⟩
        · exact ⟨rfl, Or.inl ⟨rfl, ⟨h0, h1⟩, h2, h3⟩⟩
def bP (A : pm_A) (p h : Int) (v i j : Int) (r : pm_R) : Prop := (r = (some (0, v), A) ∧ okB p h i j) ∨ (r = (some (0, 0), A) ∧ ¬ okB p h i j)
theorem xb_ex {A : pm_A} {i j : Int} (hS : StE A) : Cl pmt (an_sh wX) 85 [(2, 0), (0, i), (0, j)] A (bP A (A 1 0) (A 1 1) (A (A 1 2) (i * 6 + j)) i j) := by
  have a1_z := hS.2.1.1.1
  have p6_z := fX_1_0 hS.1 (r := 1) (by omega) kk1
  have h6 := fX_1_1 hS.1 (r := 1) (by omega) kk1
  have t2_z := fX_1_2 hS.1 (r := 1) (by omega) kk1
  have k1_z : 0 ≤ A 0 0 := by rw [a1_z]; omega
  have k2_z : wX.2 (A 0 0) = 1 := by rw [a1_z]; exact kk1
  refine Cl.of (Nat.le_of_ble_eq_true rfl) ?_
  refine wq_ok (full := o_X9_b) srt_Xb (fr := []) (cuts := [19]) (J := fun pc st_z => pc = 19 ∧ ∃ c_z : Int, ((c_z = 1 ∧ okB (A 1 0) (A 1 1) i j) ∨ (c_z = 0 ∧ ¬ okB (A 1 0) (A 1 1) i j)) ∧ st_z = ([(2, 0), (0, i), (0, j)], [(0, c_z)], A)) ?_ 20 0 _ ?_
  · rintro pc st_z ⟨rfl, c_z, hc_z, rfl⟩
    refine wq_ok srt_Xb (fr := []) (cuts := []) (J := fun _ _ => False) (fun _ _ h_z => h_z.elim) 30 19 _ ?_
    refine ⟨fun h_z => ?_, fun h_z => ?_⟩
    · have hc2 : ¬ okB (A 1 0) (A 1 1) i j := by
        rcases hc_z with hc_z | hc_z
        · omega
        · exact hc_z.2
      exact ⟨rfl, Or.inr ⟨rfl, hc2⟩⟩
    · have hc2 : okB (A 1 0) (A 1 1) i j := by
        rcases hc_z with hc_z | hc_z
        · exact hc_z.2
        · omega
      obtain ⟨⟨o1, o2⟩, o3_z, o4_z⟩ := hc2
      refine ⟨oX_0 z0 kk0 0 rfl, ?_⟩
      refine ⟨oX_1 k1_z k2_z 2 rfl, ?_⟩
      refine ⟨⟨by omega, by omega⟩, ?_⟩
      refine ⟨⟨by omega, by omega⟩, ?_⟩
      refine ⟨aX_10 (by rw [a1_z]; exact t2_z.1) (by rw [a1_z]; exact t2_z.2) (by omega) (by omega), ?_⟩
      refine ⟨rfl, Or.inl ⟨?_, ⟨o1, o2⟩, o3_z, o4_z⟩⟩
      rw [a1_z]
      rfl
  · refine ⟨oX_0 z0 kk0 0 rfl, ?_⟩
    refine ⟨oX_1 k1_z k2_z 0 rfl, ?_⟩
    refine ⟨oX_0 z0 kk0 0 rfl, ?_⟩
    refine ⟨oX_1 k1_z k2_z 1 rfl, ?_⟩
    refine ⟨rfl, ?_⟩
    refine (cel_ex (A := A) (p := A (A 0 0) 0) (h := A (A 0 0) 1) (i := i) (j := j) (by rw [a1_z]; exact p6_z) (by rw [a1_z]; exact h6)).imp ?_
    rintro r_z (⟨rfl, h_z⟩ | ⟨rfl, h_z⟩)
    · rw [a1_z] at h_z
      exact ⟨rfl, 1, Or.inl ⟨rfl, h_z⟩, rfl⟩
    · rw [a1_z] at h_z
      exact ⟨rfl, 0, Or.inr ⟨rfl, h_z⟩, rfl⟩
theorem mb_ex {A : pm_A} {i j : Int} (hg : gH wM A) : Cl pmt (an_sh wM) 127 [(2, 0), (0, i), (0, j)] A (bP A (A 0 7) (A 0 8) (A 5 (6 * i + j)) i j) := by
  have p7_z := fM_0_7 hg (r := 0) (by omega) km0
  have p8 := fM_0_8 hg (r := 0) (by omega) km0
  have c9_z := pM_9 hg
  refine Cl.of (Nat.le_of_ble_eq_true rfl) ?_
  refine wq_ok (full := o_X10_b) srt_Mb (fr := []) (cuts := []) (J := fun _ _ => False) (fun _ _ h_z => h_z.elim) 30 0 _ ?_
  refine ⟨fun h0 => ?_, fun h0 => ?_⟩
  · exact ⟨rfl, Or.inr ⟨rfl, fun q_z => by omega⟩⟩
  · refine ⟨oM_0 (by omega) km0 7 rfl, ?_⟩
    refine ⟨oM_0 (by omega) km0 8 rfl, ?_⟩
    refine ⟨⟨by omega, by omega⟩, ?_⟩
    refine ⟨fun h1 => ?_, fun h1 => ?_⟩
    · exact ⟨rfl, Or.inr ⟨rfl, fun q_z => by omega⟩⟩
    · refine ⟨fun h2 => ?_, fun h2 => ?_⟩
      · exact ⟨rfl, Or.inr ⟨rfl, fun q_z => by omega⟩⟩
      · refine ⟨oM_0 (by omega) km0 7 rfl, ?_⟩
        refine ⟨fun h3 => ?_, fun h3 => ?_⟩
        · refine ⟨oM_0 (by omega) km0 9 rfl, ?_⟩
          refine ⟨⟨by omega, by omega⟩, ?_⟩
          refine ⟨⟨by omega, by omega⟩, ?_⟩
          refine ⟨aM_5 (r := A 0 9) (by rw [c9_z]; omega) (by rw [c9_z]; exact kn5) (by omega) (by omega), ?_⟩
          refine ⟨rfl, Or.inl ⟨?_, ⟨by omega, by omega⟩, by omega, by omega⟩⟩
          rw [c9_z]
          rfl
        · exact ⟨rfl, Or.inr ⟨rfl, fun q_z => by omega⟩⟩
theorem rl_b {s : cx_Sd 12} {ks : List (Fin 12)} {AX AM : pm_A} {i j : Int} {q r : pm_R} (h : RL0 s ks AX AM) (hq : bP AX (AX 1 0) (AX 1 1) (AX (AX 1 2) (i * 6 + j)) i j q) (hr : bP AM (AM 0 7) (AM 0 8) (AM 5 (6 * i + j)) i j r) : q.2 = AX ∧ r.2 = AM ∧ q.1 = r.1 := by
  have e7_z := h.2.2.2.1
  have e8 := h.2.2.2.2
  rw [e7_z, e8] at hq
  rcases hq with ⟨rfl, h1⟩ | ⟨rfl, h1⟩
  · rcases hr with ⟨rfl, h2⟩ | ⟨rfl, h2⟩
    · refine ⟨rfl, rfl, ?_⟩
      show some (0, AX (AX 1 2) (i * 6 + j)) = some (0, AM 5 (6 * i + j))
      rw [h.tb h2.1.1 h2.1.2 h2.2.1 h2.2.2]
    · exact absurd h1 h2
  · rcases hr with ⟨rfl, h2⟩ | ⟨rfl, h2⟩
    · exact absurd h2 h1
    · exact ⟨rfl, rfl, rfl⟩
