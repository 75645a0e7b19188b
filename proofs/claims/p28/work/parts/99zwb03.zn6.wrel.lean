/-! way and goes alike on both sides -/
def WT (AX AM : pm_A) : Prop := AX 417 0 = AM 0 55 ∧ ∀ i_z : Int, 0 ≤ i_z → i_z < AM 0 55 → AX 418 i_z = AM 37 i_z
theorem kmB {c : Int} {l : Nat} (hk : wM.2 c = l) (hs : (an_sh wM c).1 = 1) (j : Int) : kcode wM c j = 10000 + l := by
  rw [kc_1 hs, hk]
theorem WT.k {AX BX AM BM : pm_A} {ms mt : List Nat} (h : WT AX AM) (hX : gFk wY ms AX BX) (hM : gFk wM mt AM BM) (a1 : avoid [800, 10035] ms = true) (a2 : avoid [55, 10037] mt = true) : WT BX BM := by
  have e1 : BX 417 0 = AX 417 0 := hX 417 0 (by omega) (by omega) (by rw [kc_o (a := 0) k417 (by decide) (shX_8 k417)]; exact avoid_n a1 (by decide))
  have e2 : ∀ j_z : Int, 0 ≤ j_z → BX 418 j_z = AX 418 j_z := fun j_z j0 => hX 418 j_z (by omega) j0 (by rw [kc_a k418 (by decide) (shX_35 k418)]; exact avoid_n a1 (by decide))
  have e3 : BM 0 55 = AM 0 55 := hM 0 55 (by omega) (by omega) (by rw [kMd 55]; exact avoid_n a2 (by decide))
  have e4_z : ∀ j_z : Int, 0 ≤ j_z → BM 37 j_z = AM 37 j_z := fun j_z j0 => hM 37 j_z (by omega) j0 (by rw [kmB kn37 (by decide +kernel)]; exact avoid_n a2 (by decide))
  exact ⟨by rw [e1, e3]; exact h.1, fun i_z i0_z i1_z => by rw [e2 i_z i0_z, e4_z i_z i0_z]; exact h.2 i_z i0_z (by rw [← e3]; exact i1_z)⟩
theorem wt_first : WT (wA WX) A0M := by
  have h0 : A0M 0 55 = 0 := by decide +kernel
  refine ⟨by decide +kernel, fun i_z i0_z i1_z => by omega⟩
/-- the class's way, beside the reference's -/
theorem way_two {AX AM : pm_A} {r : pm_R} (hA : gH wX AX) (hK : BK AX) (hG : GD AX) (hR : RR AX AM) (hM : RI AM) (hQ : wvQ AM r) : Cl pmt (an_sh wX) 119 [(2, 0)] AX (fun q_z => q_z.1 = r.1 ∧ (WT AX AM → WT q_z.2 r.2)) := by
  obtain ⟨_, _, r0_z, r1_z⟩ := hR
  have s0_z := hM.2.2 0 (Or.inl rfl)
  have s1_z := hM.2.2 1 (Or.inr rfl)
  rcases hQ with ⟨no_z, rfl⟩ | ⟨yes_z, bm_z, bf, m_z, h1, h2, l, l1, l2, l3, l4⟩
  · refine (xway_ex (bm := fun _ => 0) (bf := fun _ => 0) (m := 0) hA hK hG r0_z s0_z r1_z s1_z (fun a_z b_z c_z => absurd ⟨a_z, b_z, c_z⟩ no_z)).imp ?_
    rintro q_z (⟨_, rfl⟩ | ⟨q1_z, _⟩)
    · exact ⟨rfl, fun h_z => h_z⟩
    · exact absurd q1_z no_z
  · refine (xway_ex (bm := bm_z) (bf := bf) (m := m_z) hA hK hG r0_z s0_z r1_z s1_z (fun _ _ _ => ⟨h1, h2⟩)).imp ?_
    rintro q_z (⟨q1_z, _⟩ | ⟨_, l', d1_z, d2_z, d3_z, d4_z⟩)
    · exact absurd yes_z q1_z
    · have el := wyM_u h1 l' l _ d1_z l1
      subst el
      refine ⟨by rw [d2_z, l2], fun _ => ⟨by rw [d3_z, l3], fun i_z i0_z i1_z => ?_⟩⟩
      rw [l3] at i1_z
      obtain ⟨n_z, rfl⟩ := Int.eq_ofNat_of_zero_le i0_z
      have hlt : n_z < l'.length := by omega
      rw [d4_z n_z _ (List.getElem?_eq_getElem hlt), l4 n_z _ (List.getElem?_eq_getElem hlt)]
def lkW (A : pm_A) (c : Prop) (v : Int) (r : pm_R) : Prop := (r = (some (0, v), A) ∧ c) ∨ (r = (some (0, -1), A) ∧ ¬ c)
theorem sq_Xgoes : pm_srt o_X9_goes = true := by decide +kernel
theorem sq_Mgoes : pm_srt o_X10_goes = true := by decide +kernel
theorem xgoes_ex {A : pm_A} {i : Int} (hA : gH wX A) (hG : GD A) : Cl pmt (an_sh wX) 93 [(2, 0), (0, i)] A (lkW A (0 ≤ i ∧ i < A 417 0) (A 418 i)) := by
  obtain ⟨_, e1, e2, _⟩ := hG
  have p0_z := fX_8_0 hA (r := 417) (by omega) k417
  refine Cl.of (Nat.le_of_ble_eq_true rfl) ?_
  refine wq_ok (full := o_X9_goes) sq_Xgoes (fr := []) (cuts := []) (J := fun _ _ => False) (fun _ _ h_z => h_z.elim) 30 0 _ ?_
  refine ⟨fun h0 => ?_, fun h0 => ?_⟩
  · exact ⟨rfl, Or.inr ⟨rfl, by omega⟩⟩
  · refine ⟨oX_0 z0 kk0 14 rfl, ?_⟩
    refine ⟨oX_8 (by rw [e1]; omega) (by rw [e1]; exact k417) 0 rfl, ?_⟩
    refine ⟨fun h1 => ?_, fun h1 => ?_⟩
    · rw [e1] at h1
      refine ⟨oX_0 z0 kk0 14 rfl, ?_⟩
      refine ⟨oX_8 (by rw [e1]; omega) (by rw [e1]; exact k417) 1 rfl, ?_⟩
      refine ⟨aX_35 (by rw [e1, e2]; omega) (by rw [e1, e2]; exact k418) h0 (by omega), ?_⟩
      rw [e1, e2]
      exact ⟨rfl, Or.inl ⟨rfl, h0, h1⟩⟩
    · rw [e1] at h1
      exact ⟨rfl, Or.inr ⟨rfl, by omega⟩⟩
theorem mgoes_ex {A : pm_A} {i : Int} (hA : gH wM A) : Cl pmt (an_sh wM) 146 [(2, 0), (0, i)] A (lkW A (0 ≤ i ∧ i < A 0 55) (A 37 i)) := by
  have c56_z := pM_56 hA
  have p55_z := fM_0_55 hA (r := 0) (by omega) km0
  refine Cl.of (Nat.le_of_ble_eq_true rfl) ?_
  refine wq_ok (full := o_X10_goes) sq_Mgoes (fr := []) (cuts := []) (J := fun _ _ => False) (fun _ _ h_z => h_z.elim) 30 0 _ ?_
  refine ⟨fun h0 => ?_, fun h0 => ?_⟩
  · exact ⟨rfl, Or.inr ⟨rfl, by omega⟩⟩
  · refine ⟨oM_0 (by omega) km0 55 rfl, ?_⟩
    refine ⟨fun h1 => ?_, fun h1 => ?_⟩
    · refine ⟨oM_0 (by omega) km0 56 rfl, ?_⟩
      refine ⟨aM_37 (by rw [c56_z]; omega) (by rw [c56_z]; exact kn37) h0 (by omega), ?_⟩
      rw [c56_z]
      exact ⟨rfl, Or.inl ⟨rfl, h0, h1⟩⟩
    · exact ⟨rfl, Or.inr ⟨rfl, by omega⟩⟩
theorem rl_goes {AX AM : pm_A} {i : Int} {q r : pm_R} (h : WT AX AM) (hq : lkW AX (0 ≤ i ∧ i < AX 417 0) (AX 418 i) q) (hr : lkW AM (0 ≤ i ∧ i < AM 0 55) (AM 37 i) r) : q.1 = r.1 := by
  rw [h.1] at hq
  rcases hq with ⟨rfl, h1⟩ | ⟨rfl, h1⟩
  · rcases hr with ⟨rfl, _⟩ | ⟨rfl, h2⟩
    · show some (0, _) = some (0, _)
      rw [h.2 i h1.1 h1.2]
    · exact absurd h1 h2
  · rcases hr with ⟨rfl, h2⟩ | ⟨rfl, _⟩
    · exact absurd h2 h1
    · rfl
