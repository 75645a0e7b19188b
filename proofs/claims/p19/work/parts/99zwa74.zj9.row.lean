section
/-! the row of places is alike on both sides -/
theorem kk48 : wX.2 48 = 21 := by decide
def fl12 (A : pm_A) (r : Int) (q : pm_R) : Prop := q.1 = none ∧ gH wX q.2 ∧ (∀ r_z j_z : Int, ¬ r_z = r → q.2 r_z j_z = A r_z j_z) ∧ ∀ j_z : Int, 0 ≤ j_z → j_z < 12 → q.2 r j_z = 0
theorem fl12_5 {A : pm_A} {r : Int} (hr0 : 0 ≤ r) (hrk : wX.2 r = 21) : ∀ (m_z : Nat) (i_z : Int) (B_z : pm_A), (12 - i_z).toNat < m_z → 0 ≤ i_z → i_z ≤ 12 → gH wX B_z → (∀ r_z j_z : Int, ¬ r_z = r → B_z r_z j_z = A r_z j_z) → (∀ j_z : Int, 0 ≤ j_z → j_z < i_z → B_z r j_z = 0) → Tm pmt (an_sh wX) o_J7_fill_53178 5 ([(2, r), (0, 0), (0, i_z), (0, 12)], [], B_z) (fl12 A r) := by
  intro m_z
  induction m_z with
  | zero => intro i_z B_z h_z; omega
  | succ m_z ih_z =>
    intro i_z B_z hm_z hi0_z hi1 hB_z hF hz
    refine wq_ok srt_fill (fr := []) (cuts := [5]) (J := fun pc st_z => pc = 5 ∧ i_z < 12 ∧ st_z = ([(2, r), (0, 0), (0, i_z + 1), (0, 12)], [], pm_upd B_z r i_z 0)) ?_ 20 5 _ ?_
    · rintro pc st_z ⟨rfl, hi_z, rfl⟩
      refine ih_z (i_z + 1) _ (by omega) (by omega) (by omega) (uX_21 hB_z hrk (by omega) (by omega)) (fun r_z j_z hr => by rw [upd_ne hr]; exact hF r_z j_z hr) (fun j_z j0 j1 => ?_)
      by_cases e_z : j_z = i_z
      · rw [e_z, upd_at]
      · rw [upd_n2 e_z]; exact hz j_z j0 (by omega)
    · refine ⟨fun h_z => ⟨rfl, hB_z, hF, fun j_z j0 j1 => hz j_z j0 (by omega)⟩, fun h_z => ?_⟩
      refine ⟨tX_21 hr0 hrk hi0_z (by omega) rfl, ?_⟩
      refine ⟨⟨by omega, by omega⟩, ?_⟩
      exact ⟨rfl, h_z, rfl⟩
theorem fl12_ct {A : pm_A} {r : Int} (hA : gH wX A) (hr0 : 0 ≤ r) (hrk : wX.2 r = 21) : Cl pmt (an_sh wX) 1 [(2, r), (0, 0)] A (fl12 A r) := by
  refine Cl.of (Nat.le_of_ble_eq_true rfl) ?_
  have e_z := shX_21 hrk
  have st0 : pm_step (an_sh wX) (pm_call pmt (an_sh wX) 0) (4, 22, 0, 0, 0, 0, []) ([(2, r), (0, 0), (0, 0), (9, 0)], [(2, r)], A) = some (.inl (4, ([(2, r), (0, 0), (0, 0), (9, 0)], [(0, 12)], A))) := by
    simp only [pm_step, k_r]
    rw [k_if_t ⟨hr0, by rw [e_z], by rw [e_z], by rw [e_z]; simp only; omega⟩, e_z]
  refine wq_ok (full := o_J7_fill_53178) srt_fill (fr := []) (cuts := [3]) (J := fun pc st_z => pc = 3 ∧ st_z = ([(2, r), (0, 0), (0, 0), (9, 0)], [(2, r)], A)) ?_ 10 0 _ ?_
  · rintro pc st_z ⟨rfl, rfl⟩
    refine Tm.step srt_fill (q := (3, 4, 22, 0, 0, 0, 0, [])) rfl st0 ?_
    refine wq_ok srt_fill (fr := []) (cuts := [5]) (J := fun pc st_z => pc = 5 ∧ st_z = ([(2, r), (0, 0), (0, 0), (0, 12)], [], A)) ?_ 10 4 _ ?_
    · rintro pc st_z ⟨rfl, rfl⟩
      exact fl12_5 hr0 hrk _ 0 A (Nat.lt_succ_self _) (by omega) (by omega) hA (fun _ _ _ => rfl) (fun j_z j0 j1 => by omega)
    · exact ⟨rfl, rfl⟩
  · exact ⟨rfl, rfl⟩
def rwQ (A : pm_A) (f c n i k : Int) (r : pm_R) : Prop := (r = (some (0, 0), A) ∧ ¬ okR n i k) ∨ (okR n i k ∧ r.1 = some (0, 1) ∧ r.2 0 f = n ∧ ∀ j_z : Int, 0 ≤ j_z → j_z < 12 → r.2 c j_z = if j_z = i then k else if n = A 0 f then A c j_z else 0)
theorem xrow_53 {A B : pm_A} {n i k : Int} (ho : okR n i k) (hB : gH wX B) (e6 : B 0 6 = 48) (e7 : B 0 7 = n) (h : ∀ j_z : Int, 0 ≤ j_z → j_z < 12 → B 48 j_z = if n = A 0 7 then A 48 j_z else 0) : Tm pmt (an_sh wX) o_X9_row 53 ([(2, 0), (0, n), (0, i), (0, k)], [], B) (rwQ A 7 48 n i k) := by
  have ho2 := ho
  unfold okR at ho2
  refine wq_ok srt_Xrow (fr := []) (cuts := []) (J := fun _ _ => False) (fun _ _ h_z => h_z.elim) 12 53 _ ?_
  refine ⟨oX_0 (by omega) kk0 6 rfl, ?_⟩
  refine ⟨tX_21 (by rw [e6]; omega) (by rw [e6]; exact kk48) (by omega) (by omega) rfl, ?_⟩
  refine ⟨rfl, Or.inr ⟨ho, rfl, ?_, fun j_z j0 j1 => ?_⟩⟩
  · show pm_upd B (B 0 6) i k 0 7 = n
    rw [e6, upd_o (by omega)]; exact e7
  · show pm_upd B (B 0 6) i k 48 j_z = _
    rw [e6]
    by_cases e_z : j_z = i
    · rw [if_pos e_z, e_z, upd_at]
    · rw [if_neg e_z, upd_n2 e_z]; exact h j_z j0 j1
theorem xrow_ex {A : pm_A} {n i k : Int} (hA : gH wX A) (e6 : A 0 6 = 48) : Cl pmt (an_sh wX) 105 [(2, 0), (0, n), (0, i), (0, k)] A (rwQ A 7 48 n i k) := by
  refine Cl.of (Nat.le_of_ble_eq_true rfl) ?_
  refine wq_ok (full := o_X9_row) srt_Xrow (fr := []) (cuts := [53]) (J := fun pc st_z => pc = 53 ∧ okR n i k ∧ ∃ B_z, (gH wX B_z ∧ B_z 0 6 = 48 ∧ B_z 0 7 = n) ∧ (∀ j_z : Int, 0 ≤ j_z → j_z < 12 → B_z 48 j_z = if n = A 0 7 then A 48 j_z else 0) ∧ st_z = ([(2, 0), (0, n), (0, i), (0, k)], [], B_z)) ?_ 40 0 _ ?_
  · rintro pc st_z ⟨rfl, ho, B_z, ⟨hB_z, b6, b7⟩, hb_z, rfl⟩
    exact xrow_53 ho hB_z b6 b7 hb_z
  have no_z : ¬ okR n i k → rwQ A 7 48 n i k (some (0, 0), A) := fun h_z => Or.inl ⟨rfl, h_z⟩
  refine ⟨fun h0 => ?_, fun h0 => ?_⟩
  · exact ⟨rfl, no_z (by unfold okR; omega)⟩
  refine ⟨fun h1 => ?_, fun h1 => ?_⟩
  · exact ⟨rfl, no_z (by unfold okR; omega)⟩
  refine ⟨fun h2 => ?_, fun h2 => ?_⟩
  · exact ⟨rfl, no_z (by unfold okR; omega)⟩
  refine ⟨fun h3 => ?_, fun h3 => ?_⟩
  · exact ⟨rfl, no_z (by unfold okR; omega)⟩
  refine ⟨fun h4 => ?_, fun h4 => ?_⟩
  · exact ⟨rfl, no_z (by unfold okR; omega)⟩
  refine ⟨fun h5 => ?_, fun h5 => ?_⟩
  · have ho : okR n i k := ⟨⟨by omega, by omega⟩, ⟨by omega, by omega⟩, by omega, by omega⟩
    refine ⟨oX_0 (by omega) kk0 7 rfl, ?_⟩
    refine ⟨fun h6 => ?_, fun h6 => ?_⟩
    · exact ⟨rfl, ho, A, ⟨hA, e6, h6.symm⟩, fun j_z _ _ => by rw [if_pos h6], rfl⟩
    · refine ⟨oX_0 (by omega) kk0 7 rfl, ?_⟩
      refine ⟨oX_0 (by omega) kk0 6 rfl, ?_⟩
      refine ⟨rfl, ?_⟩
      have hB_z : gH wX (pm_upd A 0 7 n) := gH_upd hA (k := (0, 9, 15, [(2, 1, 0), (2, 3, 0), (2, 4, 0), (2, 19, 0), (0, 0, 100), (2, 20, 0), (2, 21, 0), (0, 0, 12), (2, 1, 0), (2, 5, 0), (0, (-2147483648), 2147483647), (2, 6, 0), (2, 7, 0), (2, 34, 0), (2, 8, 0)])) (by rw [kk0]; rfl) (fun _ j_z a_z ha_z ej => by
        have : j_z = 7 := by omega
        subst this
        cases ha_z
        exact ⟨rfl, by simp only; omega, by simp only; omega⟩) (fun q_z => by cases q_z)
      have u6 : pm_upd A 0 7 n 0 6 = 48 := by rw [upd_n2 (by omega)]; exact e6
      rw [u6]
      refine (fl12_ct hB_z (by omega) kk48).imp ?_
      rintro ⟨r1_z, C_z⟩ ⟨g1, g2, g3_z, g4⟩
      simp only at g1 g2 g3_z g4
      subst g1
      exact ⟨rfl, ho, C_z, ⟨g2, by rw [g3_z 0 6 (by omega)]; exact u6, by rw [g3_z 0 7 (by omega), upd_at]⟩, fun j_z j0 j1 => by rw [if_neg h6]; exact g4 j_z j0 j1, rfl⟩
  · exact ⟨rfl, no_z (by unfold okR; omega)⟩
theorem mrow_63 {A B : pm_A} {n i k : Int} {w4 : pm_V} (ho : okR n i k) (hB : gH wM B) (h : ∀ j_z : Int, 0 ≤ j_z → j_z < 12 → B 30 j_z = if n = A 0 46 then A 30 j_z else 0) : Tm pmt (an_sh wM) o_X10_row 63 ([(2, 0), (0, n), (0, i), (0, k), w4], [], B) (rwQ A 46 30 n i k) := by
  have ho2 := ho
  unfold okR at ho2
  have u47 : pm_upd B 0 46 n 0 47 = 30 := by rw [upd_n2 (by omega)]; exact pM_47 hB
  refine wq_ok srt_Mrow2 (fr := []) (cuts := []) (J := fun _ _ => False) (fun _ _ h_z => h_z.elim) 20 63 _ ?_
  refine ⟨oM_0 (by omega) km0 46 rfl, ?_⟩
  refine ⟨oM_0 (by omega) km0 47 rfl, ?_⟩
  refine ⟨tM_30 (r := pm_upd B 0 46 n 0 47) (by rw [u47]; omega) (by rw [u47]; exact kn30) (by omega) (by omega) rfl, ?_⟩
  refine ⟨rfl, Or.inr ⟨ho, rfl, ?_, fun j_z j0 j1 => ?_⟩⟩
  · show pm_upd (pm_upd B 0 46 n) (pm_upd B 0 46 n 0 47) i k 0 46 = n
    rw [u47, upd_o (by omega), upd_at]
  · show pm_upd (pm_upd B 0 46 n) (pm_upd B 0 46 n 0 47) i k 30 j_z = _
    rw [u47]
    by_cases e_z : j_z = i
    · rw [if_pos e_z, e_z, upd_at]
    · rw [if_neg e_z, upd_n2 e_z, upd_o (by omega)]; exact h j_z j0 j1
theorem mrow_42 {A : pm_A} {n i k : Int} (ho : okR n i k) (hn : ¬ n = A 0 46) : ∀ (m_z : Nat) (j_z : Int) (B_z : pm_A), (12 - j_z).toNat < m_z → 0 ≤ j_z → j_z ≤ 12 → gH wM B_z → (∀ u_z : Int, 0 ≤ u_z → u_z < j_z → B_z 30 u_z = 0) → Tm pmt (an_sh wM) o_X10_row 42 ([(2, 0), (0, n), (0, i), (0, k), (0, j_z)], [], B_z) (rwQ A 46 30 n i k) := by
  intro m_z
  induction m_z with
  | zero => intro j_z B_z h_z; omega
  | succ m_z ih_z =>
    intro j_z B_z hm_z j0 j1 hB_z hz
    have c47_z := pM_47 hB_z
    refine wq_ok srt_Mrow2 (fr := []) (cuts := [42, 63]) (J := fun pc st_z => (pc = 63 ∧ 12 ≤ j_z ∧ st_z = ([(2, 0), (0, n), (0, i), (0, k), (0, j_z)], [], B_z)) ∨ (pc = 42 ∧ j_z < 12 ∧ st_z = ([(2, 0), (0, n), (0, i), (0, k), (0, j_z + 1)], [], pm_upd B_z (B_z 0 47) j_z 0))) ?_ 20 42 _ ?_
    · rintro pc st_z (⟨rfl, h_z, rfl⟩ | ⟨rfl, h_z, rfl⟩)
      · exact mrow_63 ho hB_z (fun u_z u0_z u1_z => by rw [if_neg hn]; exact hz u_z u0_z (by omega))
      · rw [c47_z]
        refine ih_z (j_z + 1) _ (by omega) (by omega) (by omega) (uM_30 hB_z kn30 (by omega) (by omega)) (fun u_z u0_z u1_z => ?_)
        by_cases e_z : u_z = j_z
        · rw [e_z, upd_at]
        · rw [upd_n2 e_z]; exact hz u_z u0_z (by omega)
    · refine ⟨fun h_z => ?_, fun h_z => ?_⟩
      · exact Or.inl ⟨rfl, h_z, rfl⟩
      · refine ⟨oM_0 (by omega) km0 47 rfl, ?_⟩
        refine ⟨tM_30 (r := B_z 0 47) (by rw [c47_z]; omega) (by rw [c47_z]; exact kn30) (by omega) (by omega) rfl, ?_⟩
        refine ⟨⟨by omega, by omega⟩, ?_⟩
        exact Or.inr ⟨rfl, h_z, rfl⟩
theorem mrow_ex {A : pm_A} {n i k : Int} (hA : gH wM A) : Cl pmt (an_sh wM) 179 [(2, 0), (0, n), (0, i), (0, k)] A (rwQ A 46 30 n i k) := by
  refine Cl.of (Nat.le_of_ble_eq_true rfl) ?_
  refine wq_ok (full := o_X10_row) srt_Mrow2 (fr := []) (cuts := [42, 63]) (J := fun pc st_z => okR n i k ∧ ((pc = 63 ∧ n = A 0 46 ∧ st_z = ([(2, 0), (0, n), (0, i), (0, k), (9, 0)], [], A)) ∨ (pc = 42 ∧ (¬ n = A 0 46) ∧ st_z = ([(2, 0), (0, n), (0, i), (0, k), (0, 0)], [], A)))) ?_ 40 0 _ ?_
  · rintro pc st_z ⟨ho, (⟨rfl, h_z, rfl⟩ | ⟨rfl, h_z, rfl⟩)⟩
    · exact mrow_63 ho hA (fun j_z _ _ => by rw [if_pos h_z])
    · exact mrow_42 ho h_z _ 0 A (Nat.lt_succ_self _) (by omega) (by omega) hA (fun u_z u0_z u1_z => by omega)
  have no_z : ¬ okR n i k → rwQ A 46 30 n i k (some (0, 0), A) := fun h_z => Or.inl ⟨rfl, h_z⟩
  refine ⟨fun h0 => ?_, fun h0 => ?_⟩
  · exact ⟨rfl, no_z (by unfold okR; omega)⟩
  refine ⟨fun h1 => ?_, fun h1 => ?_⟩
  · exact ⟨rfl, no_z (by unfold okR; omega)⟩
  refine ⟨fun h2 => ?_, fun h2 => ?_⟩
  · exact ⟨rfl, no_z (by unfold okR; omega)⟩
  refine ⟨fun h3 => ?_, fun h3 => ?_⟩
  · exact ⟨rfl, no_z (by unfold okR; omega)⟩
  refine ⟨fun h4 => ?_, fun h4 => ?_⟩
  · exact ⟨rfl, no_z (by unfold okR; omega)⟩
  refine ⟨fun h5 => ?_, fun h5 => ?_⟩
  · have ho : okR n i k := ⟨⟨by omega, by omega⟩, ⟨by omega, by omega⟩, by omega, by omega⟩
    refine ⟨oM_0 (by omega) km0 46 rfl, ?_⟩
    refine ⟨fun h6 => ?_, fun h6 => ?_⟩
    · exact ⟨ho, Or.inl ⟨rfl, h6, rfl⟩⟩
    · exact ⟨ho, Or.inr ⟨rfl, h6, rfl⟩⟩
  · exact ⟨rfl, no_z (by unfold okR; omega)⟩
def RW (AX AM : pm_A) : Prop := AX 0 6 = 48 ∧ AX 0 7 = AM 0 46 ∧ ∀ j_z : Int, 0 ≤ j_z → j_z < 12 → AX 48 j_z = AM 30 j_z
theorem RW.k {AX BX AM BM : pm_A} {ms mt : List Nat} (h : RW AX AM) (hX : gFk wY ms AX BX) (hM : gFk wM mt AM BM) (a1 : avoid [6, 7, 10021] ms = true) (a2 : avoid [46, 10030] mt = true) : RW BX BM := by
  have x0_z : ∀ j_z : Int, j_z = 6 ∨ j_z = 7 → BX 0 j_z = AX 0 j_z := fun j_z hj => hX 0 j_z (by omega) (by omega) (by
    rw [kc_o (a := 0) kk0 (by decide) (shX_0 kk0)]
    refine avoid_n a1 ?_
    rcases hj with rfl | rfl <;> decide)
  refine ⟨by rw [x0_z 6 (by omega)]; exact h.1, ?_, fun j_z j0 j1 => ?_⟩
  · rw [x0_z 7 (by omega), hM 0 46 (by omega) (by omega) (by rw [kMd 46]; exact avoid_n a2 (by decide))]
    exact h.2.1
  · rw [hX 48 j_z (by omega) j0 (by rw [kc_a kk48 (by decide) (shX_21 kk48)]; exact avoid_n a1 (by decide)), hM 30 j_z (by omega) j0 (by rw [kmA kn30 (by decide +kernel)]; exact avoid_n a2 (by decide))]
    exact h.2.2 j_z j0 j1
theorem rw_row {AX AM : pm_A} {n i k : Int} {q r : pm_R} {ms : List Nat} (h : RW AX AM) (hX : gFk wY ms AX q.2) (a1 : avoid [6] ms = true) (hq : rwQ AX 7 48 n i k q) (hr : rwQ AM 46 30 n i k r) : RW q.2 r.2 := by
  rcases hq with ⟨rfl, n1_z⟩ | ⟨o1, _, q2_z, q3_z⟩
  · rcases hr with ⟨rfl, _⟩ | ⟨o2, _⟩
    · exact h
    · exact absurd o2 n1_z
  · rcases hr with ⟨_, n1_z⟩ | ⟨_, _, r2_z, r3_z⟩
    · exact absurd o1 n1_z
    · refine ⟨?_, by rw [q2_z, r2_z], fun j_z j0 j1 => ?_⟩
      · rw [hX 0 6 (by omega) (by omega) (by rw [kc_o (a := 0) kk0 (by decide) (shX_0 kk0)]; exact avoid_n a1 (by decide))]
        exact h.1
      · rw [q3_z j_z j0 j1, r3_z j_z j0 j1, h.2.1, h.2.2 j_z j0 j1]
theorem rw_first : RW (wA WX) A0M := ⟨by decide +kernel, by decide +kernel, fun j_z j0 j1 => all_int (P := fun x_z => wA WX 48 x_z = A0M 30 x_z) (n := 12) (by decide +kernel) j0 (by omega)⟩
theorem rl_order {s : cx_Sd 12} {ks : List (Fin 12)} {AX AM : pm_A} {q r : pm_R} (h : XRs s ks AX AM) (hw : RW AX AM) (hq : orP s ks AX q) (hr : moP s ks AM (orZ s ks (AM 30) (AM 0 46) (AM 0 7 + AM 0 8) (AM 0 7)) r) : q.1 = r.1 := by
  obtain ⟨_, z_z, e1, hz⟩ := hq
  obtain ⟨_, y_z, e2, hy⟩ := hr
  have h12 := fX_0_7 h.1.1.1 (r := 0) (by omega) kk0
  have eW : bgW AX 1 = AM 0 7 + AM 0 8 := by unfold bgW; rw [h.1.2.2.2.1, h.1.2.2.2.2]
  rw [hw.1, eW, h.1.2.2.2.1] at hz
  rw [← hw.2.1] at hy
  have hzy : z_z = y_z := orZ_one (fun i_z i0_z i1_z => hw.2.2 i_z i0_z (by omega)) (fun i_z i0_z i1_z => by
    have h5 := eX_21 h.1.1.1 (r := 48) (by omega) kk48 i0_z (show i_z < 12 by omega)
    omega) h12.1 hz hy
  rw [e1, e2, hzy]
end

section
/-! the class's Book, exactly: clear, find, enter -/
theorem and_8191 (y : Int) : pp_bi 3 y 8191 = y % 8192 := by
  show ((Int32.ofInt y).toBitVec &&& (Int32.ofInt 8191).toBitVec).toInt = _
  have e_z : ((Int32.ofInt y).toBitVec &&& (Int32.ofInt 8191).toBitVec).toNat = (y % 8192).toNat := by
    rw [BitVec.toNat_and]
    show (BitVec.ofInt 32 y).toNat &&& (2 ^ 13 - 1) = _
    rw [Nat.and_two_pow_sub_one_eq_mod, BitVec.toNat_ofInt]
    omega
  rw [BitVec.toInt_eq_toNat_of_lt (by rw [e_z]; omega), e_z]
  omega
theorem sq_slotOf : pm_srt o_X1_slotOf = true := by decide +kernel
theorem sq_Bfind : pm_srt o_X1_find = true := by decide +kernel
theorem sq_Benter : pm_srt o_X1_enter = true := by decide +kernel
theorem sq_Bclear : pm_srt o_X1_clear = true := by decide +kernel
/-- where a pair of longs is looked for first -/
def hsM (a c : Int) : Int := pp_lb 0 (pp_lb 2 a (-7046029254386353131)) (pp_lb 2 c (-4417276706812531889))
def hsL (a c : Int) : Int := (o_ls 2 (Int64.ofInt (pp_lb 5 (hsM a c) (o_ls 2 (Int64.ofInt (hsM a c)) (Int32.ofInt 29)).toInt)) (Int32.ofInt 17)).toInt
def hsh (a c : Int) : Int := w32 (hsL a c) % 8192
/-- the book's cells -/
def BK (A : pm_A) : Prop := (A 407 0 = 408 ∧ A 407 1 = 409 ∧ A 407 2 = 410 ∧ A 407 3 = 411 ∧ A 407 4 = 412) ∧ (A 0 11 = 407 ∧ A 0 12 = 413 ∧ A 413 2 = 414 ∧ A 413 3 = 415)
theorem k407 : wX.2 407 = 6 := by decide
theorem k408 : wX.2 408 = 30 := by decide
theorem k409 : wX.2 409 = 30 := by decide
theorem k410 : wX.2 410 = 31 := by decide
theorem k411 : wX.2 411 = 32 := by decide
theorem k412 : wX.2 412 = 33 := by decide
theorem k413 : wX.2 413 = 7 := by decide
theorem k414 : wX.2 414 = 32 := by decide
theorem k415 : wX.2 415 = 10 := by decide
theorem bk_first : BK (wA WX) := by
  refine ⟨⟨?_, ?_, ?_, ?_, ?_⟩, ?_, ?_, ?_, ?_⟩ <;> decide +kernel
def bkC : List Nat := [11, 12, 600, 601, 602, 603, 604, 702, 703]
theorem BK.k {A B : pm_A} {ms : List Nat} (h : BK A) (hF : gFk wY ms A B) (hm : avoid bkC ms = true) : BK B := by
  have f6_z : ∀ j_z : Int, 0 ≤ j_z → j_z < 5 → B 407 j_z = A 407 j_z := fun j_z j0 j1 => hF 407 j_z (by omega) j0 (by
    rw [kc_o (a := 0) k407 (by decide) (shX_6 k407)]
    exact avoid_n hm (codz (l := 6) (n := 5) (by decide) j0 (by omega)))
  have f7_z : ∀ j_z : Int, j_z = 2 ∨ j_z = 3 → B 413 j_z = A 413 j_z := fun j_z hj => hF 413 j_z (by omega) (by omega) (by
    rw [kc_o (a := 0) k413 (by decide) (shX_7 k413)]
    refine avoid_n hm ?_
    rcases hj with rfl | rfl <;> decide)
  have f0_z : ∀ j_z : Int, j_z = 11 ∨ j_z = 12 → B 0 j_z = A 0 j_z := fun j_z hj => hF 0 j_z (by omega) (by omega) (by
    rw [kc_o (a := 0) kk0 (by decide) (shX_0 kk0)]
    refine avoid_n hm ?_
    rcases hj with rfl | rfl <;> decide)
  obtain ⟨⟨a1_z, a2, a3, a4, a5⟩, b1, b2, b3, b4_z⟩ := h
  exact ⟨⟨by rw [f6_z 0 (by omega) (by omega)]; exact a1_z, by rw [f6_z 1 (by omega) (by omega)]; exact a2, by rw [f6_z 2 (by omega) (by omega)]; exact a3, by rw [f6_z 3 (by omega) (by omega)]; exact a4, by rw [f6_z 4 (by omega) (by omega)]; exact a5⟩, by rw [f0_z 11 (by omega)]; exact b1, by rw [f0_z 12 (by omega)]; exact b2, by rw [f7_z 2 (by omega)]; exact b3, by rw [f7_z 3 (by omega)]; exact b4_z⟩
/-- how many slots are taken -/
def czB (S : Int → Int) : Nat → Nat
  | 0 => 0
  | p_z + 1 => czB S p_z + if S (p_z : Int) = 0 then 0 else 1
theorem czB_all {S : Int → Int} : ∀ n_z : Nat, (∀ p_z : Int, 0 ≤ p_z → p_z < n_z → ¬ S p_z = 0) → czB S n_z = n_z
  | 0, _ => rfl
  | n_z + 1, h_z => by
    show czB S n_z + (if S (n_z : Int) = 0 then 0 else 1) = n_z + 1
    rw [czB_all n_z (fun p_z p0_z p1_z => h_z p_z p0_z (by omega)), if_neg (h_z n_z (by omega) (by omega))]
theorem czB_c {S S' : Int → Int} : ∀ n_z : Nat, (∀ p_z : Int, 0 ≤ p_z → p_z < n_z → S' p_z = S p_z) → czB S' n_z = czB S n_z
  | 0, _ => rfl
  | n_z + 1, h_z => by
    show czB S' n_z + (if S' (n_z : Int) = 0 then 0 else 1) = czB S n_z + (if S (n_z : Int) = 0 then 0 else 1)
    rw [czB_c n_z (fun p_z p0_z p1_z => h_z p_z p0_z (by omega)), h_z n_z (by omega) (by omega)]
theorem czB_put {S S' : Int → Int} {p : Int} (hp : S p = 0) (hp' : ¬ S' p = 0) (h : ∀ q_z : Int, ¬ q_z = p → S' q_z = S q_z) (p0 : 0 ≤ p) : ∀ n_z : Nat, p < n_z → czB S' n_z = czB S n_z + 1
  | 0, h_z => by omega
  | n_z + 1, h_z => by
    show czB S' n_z + (if S' (n_z : Int) = 0 then 0 else 1) = czB S n_z + (if S (n_z : Int) = 0 then 0 else 1) + 1
    by_cases e_z : p = (n_z : Int)
    · rw [← e_z, if_neg hp', if_pos hp, czB_c n_z (fun q_z q0_z q1_z => h q_z (by omega))]
    · rw [czB_put hp hp' h p0 n_z (by omega), h (n_z : Int) (by omega)]
      omega
theorem czB_zero {S : Int → Int} : ∀ n_z : Nat, (∀ p_z : Int, 0 ≤ p_z → p_z < n_z → S p_z = 0) → czB S n_z = 0
  | 0, _ => rfl
  | n_z + 1, h_z => by
    show czB S n_z + (if S (n_z : Int) = 0 then 0 else 1) = 0
    rw [czB_zero n_z (fun p_z p0_z p1_z => h_z p_z p0_z (by omega)), if_pos (h_z n_z (by omega) (by omega))]
/-- entry i is the pair a, c -/
def ety (A : pm_A) (i a c : Int) : Prop := A 408 i = a ∧ A 409 i = c
def slI (A : pm_A) (a c d : Int) : Prop := ∀ e_z : Int, 0 ≤ e_z → e_z < d → ¬ A 412 ((hsh a c + e_z) % 8192) = 0 ∧ ¬ ety A (A 412 ((hsh a c + e_z) % 8192) - 1) a c
def soP (A : pm_A) (a c : Int) (r : pm_R) : Prop := ∃ d_z : Int, (0 ≤ d_z ∧ d_z < 8192) ∧ r = (some (0, (hsh a c + d_z) % 8192), A) ∧ slI A a c d_z ∧ (A 412 ((hsh a c + d_z) % 8192) = 0 ∨ ety A (A 412 ((hsh a c + d_z) % 8192) - 1) a c)
theorem so_34 {A : pm_A} {a c : Int} (hA : gH wX A) (hK : BK A) (hz : czB (A 412) 8192 ≤ 3000) {v5 : pm_V} : ∀ (m_z : Nat) (t_z : Int) (w9 : pm_V), (8192 - t_z).toNat < m_z → 0 ≤ t_z → t_z ≤ 8192 → slI A a c t_z → Tm pmt (an_sh wX) o_X1_slotOf 34 ([(2, 407), (1, a), (9, 0), (1, c), (9, 0), v5, (9, 0), (0, (hsh a c + t_z) % 8192), (0, t_z), w9], [], A) (soP A a c) := by
  have h0_z : 0 ≤ hsh a c ∧ hsh a c < 8192 := by unfold hsh; omega
  obtain ⟨⟨b1, b2, _, _, b5⟩, _⟩ := hK
  intro m_z
  induction m_z with
  | zero => intro t_z w9 h_z; omega
  | succ m_z ih_z =>
    intro t_z w9 hm_z t0_z t1_z hI
    have sl0 : ∀ p_z : Int, 0 ≤ p_z → p_z < 8192 → 0 ≤ A 412 p_z ∧ A 412 p_z ≤ 3000 := fun p_z p0_z p1_z => eX_33 hA (r := 412) (by omega) k412 p0_z p1_z
    have hs_z := sl0 ((hsh a c + t_z) % 8192) (by omega) (by omega)
    have hnx : pp_bi 3 ((hsh a c + t_z) % 8192 + 1) 8191 = (hsh a c + (t_z + 1)) % 8192 := by rw [and_8191]; omega
    refine wq_ok sq_slotOf (fr := []) (cuts := [34]) (J := fun pc st_z => pc = 34 ∧ t_z < 8192 ∧ (¬ A 412 ((hsh a c + t_z) % 8192) = 0 ∧ ¬ ety A (A 412 ((hsh a c + t_z) % 8192) - 1) a c) ∧ ∃ w_z, st_z = ([(2, 407), (1, a), (9, 0), (1, c), (9, 0), v5, (9, 0), (0, pp_bi 3 ((hsh a c + t_z) % 8192 + 1) 8191), (0, t_z + 1), w_z], [], A)) ?_ 60 34 _ ?_
    · rintro pc st_z ⟨rfl, h1, h2, w_z, rfl⟩
      rw [hnx]
      refine ih_z (t_z + 1) _ (by omega) (by omega) (by omega) (fun e_z e0_z e1_z => ?_)
      by_cases ee : e_z = t_z
      · rw [ee]; exact h2
      · exact hI e_z e0_z (by omega)
    · refine ⟨fun h_z => ?_, fun h_z => ?_⟩
      · exfalso
        have e_z : t_z = 8192 := by omega
        subst e_z
        have h1 : czB (A 412) 8192 = 8192 := czB_all 8192 (fun p_z p0_z p1_z => by
          have h2 := hI ((p_z - hsh a c) % 8192) (by omega) (by omega)
          have h3 : (hsh a c + (p_z - hsh a c) % 8192) % 8192 = p_z := by omega
          rw [h3] at h2
          exact h2.1)
        omega
      · refine ⟨oX_6 (by omega) k407 4 rfl, ?_⟩
        refine ⟨aX_33 (by rw [b5]; omega) (by rw [b5]; exact k412) (by omega) (by omega), ?_⟩
        rw [b5]
        refine ⟨⟨by omega, by omega⟩, ?_⟩
        have go_z : ∀ (w_z : pm_V), ¬ A 412 ((hsh a c + t_z) % 8192) = 0 → ¬ ety A (A 412 ((hsh a c + t_z) % 8192) - 1) a c → (r32 ((hsh a c + t_z) % 8192 + 1)) ∧ (r32 (t_z + 1)) := fun _ _ _ => ⟨⟨by omega, by omega⟩, ⟨by omega, by omega⟩⟩
        refine ⟨fun h1 => ?_, fun h1 => ?_⟩
        · exact ⟨rfl, t_z, ⟨t0_z, h_z⟩, rfl, hI, Or.inl (by omega)⟩
        · refine ⟨oX_6 (by omega) k407 0 rfl, ?_⟩
          refine ⟨aX_30 (by rw [b1]; omega) (by rw [b1]; exact k408) (by omega) (by omega), ?_⟩
          rw [b1]
          have no1 : ¬ A 408 (A 412 ((hsh a c + t_z) % 8192) - 1) = a → ¬ ety A (A 412 ((hsh a c + t_z) % 8192) - 1) a c := fun q_z hq => q_z hq.1
          have no2 : ¬ A 409 (A 412 ((hsh a c + t_z) % 8192) - 1) = c → ¬ ety A (A 412 ((hsh a c + t_z) % 8192) - 1) a c := fun q_z hq => q_z hq.2
          have nz : ¬ A 412 ((hsh a c + t_z) % 8192) = 0 := by omega
          refine ⟨fun h2 => ?_, fun h2 => ?_, fun h2 => ?_⟩
          · refine ⟨fun _ => ?_, fun hh => absurd hh (by decide)⟩
            refine ⟨⟨by omega, by omega⟩, ?_⟩
            refine ⟨⟨by omega, by omega⟩, ?_⟩
            exact ⟨rfl, h_z, ⟨nz, no1 (by omega)⟩, _, rfl⟩
          · refine ⟨fun hh => absurd rfl hh, fun _ => ?_⟩
            refine ⟨oX_6 (by omega) k407 1 rfl, ?_⟩
            refine ⟨aX_30 (by rw [b2]; omega) (by rw [b2]; exact k409) (by omega) (by omega), ?_⟩
            rw [b2]
            refine ⟨fun h3 => ?_, fun h3 => ?_, fun h3 => ?_⟩
            · refine ⟨fun _ => ?_, fun hh => absurd hh (by decide)⟩
              refine ⟨⟨by omega, by omega⟩, ?_⟩
              refine ⟨⟨by omega, by omega⟩, ?_⟩
              exact ⟨rfl, h_z, ⟨nz, no2 (by omega)⟩, _, rfl⟩
            · refine ⟨fun hh => absurd rfl hh, fun _ => ?_⟩
              exact ⟨rfl, t_z, ⟨t0_z, h_z⟩, rfl, hI, Or.inr ⟨h2, h3⟩⟩
            · refine ⟨fun _ => ?_, fun hh => absurd hh (by decide)⟩
              refine ⟨⟨by omega, by omega⟩, ?_⟩
              refine ⟨⟨by omega, by omega⟩, ?_⟩
              exact ⟨rfl, h_z, ⟨nz, no2 (by omega)⟩, _, rfl⟩
          · refine ⟨fun _ => ?_, fun hh => absurd hh (by decide)⟩
            refine ⟨⟨by omega, by omega⟩, ?_⟩
            refine ⟨⟨by omega, by omega⟩, ?_⟩
            exact ⟨rfl, h_z, ⟨nz, no1 (by omega)⟩, _, rfl⟩
theorem slotOf_ex {A : pm_A} {a c : Int} (hA : gH wX A) (hK : BK A) (hz : czB (A 412) 8192 ≤ 3000) : Cl pmt (an_sh wX) 20 [(2, 407), (1, a), (1, c)] A (soP A a c) := by
  have h0_z : 0 ≤ hsh a c ∧ hsh a c < 8192 := by unfold hsh; omega
  refine Cl.of (Nat.le_of_ble_eq_true rfl) ?_
  refine wq_ok (full := o_X1_slotOf) sq_slotOf (fr := [4, 9, 10]) (cuts := [24]) (J := fun pc st_z => pc = 24 ∧ st_z = ([(2, 407), (1, a), (9, 0), (1, c), (9, 0), (1, hsM a c), (9, 0), (9, 0), (9, 0), (9, 0)], [(1, hsL a c)], A)) ?_ 30 0 _ ?_
  · rintro pc st_z ⟨rfl, rfl⟩
    refine Tm.step sq_slotOf (q := (24, 25, 11, 3, 0, 0, 0, [])) rfl (n0 := 0) (pc' := 25) (s' := ([(2, 407), (1, a), (9, 0), (1, c), (9, 0), (1, hsM a c), (9, 0), (9, 0), (9, 0), (9, 0)], [(0, w32 (hsL a c))], A)) rfl ?_
    refine wq_ok sq_slotOf (fr := []) (cuts := [34]) (J := fun pc st_z => pc = 34 ∧ st_z = ([(2, 407), (1, a), (9, 0), (1, c), (9, 0), (1, hsM a c), (9, 0), (0, pp_bi 3 (w32 (hsL a c)) 8191), (0, 0), (9, 0)], [], A)) ?_ 10 25 _ ?_
    · rintro pc st_z ⟨rfl, rfl⟩
      have e_z : pp_bi 3 (w32 (hsL a c)) 8191 = (hsh a c + 0) % 8192 := by rw [and_8191]; unfold hsh; omega
      rw [e_z]
      exact so_34 hA hK hz _ 0 _ (Nat.lt_succ_self _) (by omega) (by omega) (fun e_z e0_z e1_z => by omega)
    · exact ⟨rfl, rfl⟩
  · exact ⟨rfl, rfl⟩
/-- the book holds n entries, each found -/
def bkS (A : pm_A) (n : Int) : Prop := (0 ≤ n ∧ n ≤ 3000) ∧ (czB (A 412) 8192 : Int) = n ∧ (∀ p_z : Int, 0 ≤ p_z → p_z < 8192 → A 412 p_z ≤ n) ∧ ∀ i_z : Int, 0 ≤ i_z → i_z < n → ∃ d_z : Int, (0 ≤ d_z ∧ d_z < 8192) ∧ A 412 ((hsh (A 408 i_z) (A 409 i_z) + d_z) % 8192) = i_z + 1 ∧ ∀ e_z : Int, 0 ≤ e_z → e_z < d_z → ¬ A 412 ((hsh (A 408 i_z) (A 409 i_z) + e_z) % 8192) = 0
def bfP (A : pm_A) (a c : Int) (r : pm_R) : Prop := ∃ i_z : Int, r = (some (0, i_z), A) ∧ ((i_z = -1 ∧ ∀ j_z : Int, 0 ≤ j_z → j_z < A 407 5 → ¬ ety A j_z a c) ∨ ((0 ≤ i_z ∧ i_z < A 407 5) ∧ ety A i_z a c))
theorem so_no {A : pm_A} {a c d n : Int} (hS : bkS A n) (hd : 0 ≤ d ∧ d < 8192) (hI : slI A a c d) (h0 : A 412 ((hsh a c + d) % 8192) = 0) : ∀ j_z : Int, 0 ≤ j_z → j_z < n → ¬ ety A j_z a c := fun j_z j0 j1 he => by
  obtain ⟨e_z, he_z, h1, h2⟩ := hS.2.2.2 j_z j0 j1
  rw [he.1, he.2] at h1 h2
  rcases Int.lt_trichotomy e_z d with h3 | h3 | h3
  · have h4 := hI e_z he_z.1 h3
    rw [h1] at h4
    refine h4.2 ?_
    rw [show j_z + 1 - 1 = j_z by omega]
    exact he
  · rw [h3] at h1
    omega
  · exact h2 d hd.1 h3 h0
theorem bfind_ex {A : pm_A} {a c : Int} (hA : gH wX A) (hK : BK A) (hS : bkS A (A 407 5)) : Cl pmt (an_sh wX) 18 [(2, 407), (1, a), (1, c)] A (bfP A a c) := by
  have b5 := hK.1.2.2.2.2
  have hn := hS.1
  refine Cl.of (Nat.le_of_ble_eq_true rfl) ?_
  refine wq_ok (full := o_X1_find) sq_Bfind (fr := []) (cuts := [10]) (J := fun pc st_z => pc = 10 ∧ ∃ p_z, soP A a c (some (0, p_z), A) ∧ st_z = ([(2, 407), (1, a), (9, 0), (1, c), (9, 0)], [(0, p_z), (2, A 407 4)], A)) ?_ 20 0 _ ?_
  · rintro pc st_z ⟨rfl, p_z, ⟨d_z, hd_z, e_z, hI, h1⟩, rfl⟩
    have ep : p_z = (hsh a c + d_z) % 8192 := by
      injection e_z with e1 _
      injection e1 with e1
      injection e1
    have sl0 := eX_33 hA (r := 412) (by omega) k412 (j := p_z) (by omega) (by omega)
    refine wq_ok sq_Bfind (fr := []) (cuts := []) (J := fun _ _ => False) (fun _ _ h_z => h_z.elim) 10 10 _ ?_
    refine ⟨aX_33 (by rw [b5]; omega) (by rw [b5]; exact k412) (by omega) (by omega), ?_⟩
    rw [b5]
    refine ⟨⟨by omega, by omega⟩, ?_⟩
    refine ⟨rfl, A 412 p_z - 1, rfl, ?_⟩
    rw [← ep] at h1
    by_cases hz : A 412 p_z = 0
    · refine Or.inl ⟨by omega, ?_⟩
      rw [ep] at hz
      exact so_no hS hd_z hI hz
    · have hp := hS.2.2.1 p_z (by omega) (by omega)
      rcases h1 with h1 | h1
      · exact absurd h1 hz
      · exact Or.inr ⟨⟨by omega, by omega⟩, h1⟩
  · refine ⟨oX_6 (by omega) k407 4 rfl, ?_⟩
    refine ⟨rX_6 (by omega) k407, ?_⟩
    refine (slotOf_ex (a := a) (c := c) hA hK (by have := hS.2.1; omega)).imp ?_
    rintro ⟨r1_z, C_z⟩ hC
    have hC0 := hC
    obtain ⟨d_z, _, e_z, _⟩ := hC0
    have e1 : r1_z = some (0, (hsh a c + d_z) % 8192) := congrArg Prod.fst e_z
    have e2 : C_z = A := congrArg Prod.snd e_z
    subst e1
    subst e2
    exact ⟨rfl, _, hC, rfl⟩
def beF (A B : pm_A) (a c f s : Int) : Prop := gH wX B ∧ (B 407 5 = A 407 5 + 1) ∧ (∀ r_z j_z : Int, ¬ r_z = 412 → ¬ (r_z = 407 ∧ j_z = 5) → ¬ ((r_z = 408 ∨ r_z = 409 ∨ r_z = 410 ∨ r_z = 411) ∧ j_z = A 407 5) → B r_z j_z = A r_z j_z) ∧ (B 408 (A 407 5) = a ∧ B 409 (A 407 5) = c ∧ B 410 (A 407 5) = f ∧ B 411 (A 407 5) = s)
def beP (A : pm_A) (a c f s : Int) (r : pm_R) : Prop := (A 407 5 = 3000 ∧ r = (some (0, 0), A)) ∨ (A 407 5 < 3000 ∧ r.1 = some (0, 1) ∧ beF A r.2 a c f s ∧ BK r.2 ∧ bkS r.2 (A 407 5 + 1))
theorem u6_5 {B : pm_A} {x : Int} (hB : gH wX B) (x0 : 0 ≤ x) (x1 : x ≤ 3000) : gH wX (pm_upd B 407 5 x) := by
  refine gH_upd hB (k := (0, 1, 6, [(2, 30, 0), (2, 30, 0), (2, 31, 0), (2, 32, 0), (2, 33, 0), (0, 0, 3000)])) (by rw [k407]; rfl) (fun _ j_z a_z hj ej => ?_) (fun q_z => by cases q_z)
  have : j_z = 5 := by omega
  subst this
  cases hj
  exact ⟨rfl, x0, x1⟩
theorem BK.upd {A : pm_A} {r j x : Int} (h : BK A) (h1 : ¬ r = 0) (h2 : ¬ (r = 407 ∧ j < 5)) (h3 : ¬ (r = 413 ∧ (j = 2 ∨ j = 3))) : BK (pm_upd A r j x) := by
  obtain ⟨⟨a1_z, a2, a3, a4, a5⟩, b1, b2, b3, b4_z⟩ := h
  refine ⟨⟨?_, ?_, ?_, ?_, ?_⟩, ?_, ?_, ?_, ?_⟩
  all_goals (rw [upd_o (by omega)]; assumption)
theorem benter_ex {A : pm_A} {a c f s : Int} (hA : gH wX A) (hK : BK A) (hS : bkS A (A 407 5)) (ra : r64 a) (rc : r64 c) (rf : -1 ≤ f ∧ f ≤ 2999) (rs : r32 s) (hno : ∀ j_z : Int, 0 ≤ j_z → j_z < A 407 5 → ¬ ety A j_z a c) : Cl pmt (an_sh wX) 17 [(2, 407), (1, a), (1, c), (0, f), (0, s)] A (beP A a c f s) := by
  have hn := hS.1
  obtain ⟨⟨b1, b2, b3, b4_z, b5⟩, b6_z⟩ := hK
  have hK : BK A := ⟨⟨b1, b2, b3, b4_z, b5⟩, b6_z⟩
  refine Cl.of (Nat.le_of_ble_eq_true rfl) ?_
  refine wq_ok (full := o_X1_enter) sq_Benter (fr := []) (cuts := [12]) (J := fun pc st_z => pc = 12 ∧ A 407 5 < 3000 ∧ st_z = ([(2, 407), (1, a), (9, 0), (1, c), (9, 0), (0, f), (0, s)], [], A)) ?_ 20 0 _ ?_
  · rintro pc st_z ⟨rfl, hlt, rfl⟩
    generalize hg1 : A 407 5 = n_z at hlt hn hS hno
    have g1 : gH wX (pm_upd A 408 n_z a) := uX_30 hA k408 ra.1 ra.2
    have g2 : gH wX (pm_upd (pm_upd A 408 n_z a) 409 n_z c) := uX_30 g1 k409 rc.1 rc.2
    have g3_z : gH wX (pm_upd (pm_upd (pm_upd A 408 n_z a) 409 n_z c) 410 n_z f) := uX_31 g2 k410 rf.1 rf.2
    have g4 : gH wX (pm_upd (pm_upd (pm_upd (pm_upd A 408 n_z a) 409 n_z c) 410 n_z f) 411 n_z s) := uX_32 g3_z k411 rs.1 rs.2
    have g5_z : gH wX (pm_upd (pm_upd (pm_upd (pm_upd (pm_upd A 408 n_z a) 409 n_z c) 410 n_z f) 411 n_z s) 407 5 (n_z + 1)) := u6_5 g4 (by omega) (by omega)
    have fr5 : ∀ r_z j_z : Int, ¬ (r_z = 407 ∧ j_z = 5) → ¬ ((r_z = 408 ∨ r_z = 409 ∨ r_z = 410 ∨ r_z = 411) ∧ j_z = n_z) → pm_upd (pm_upd (pm_upd (pm_upd (pm_upd A 408 n_z a) 409 n_z c) 410 n_z f) 411 n_z s) 407 5 (n_z + 1) r_z j_z = A r_z j_z := fun r_z j_z h1 h2 => by
      rw [upd_o (by omega), upd_o (by omega), upd_o (by omega), upd_o (by omega), upd_o (by omega)]
    have v1_z : pm_upd (pm_upd (pm_upd (pm_upd (pm_upd A 408 n_z a) 409 n_z c) 410 n_z f) 411 n_z s) 407 5 (n_z + 1) 407 5 = n_z + 1 := upd_at
    have v2 : pm_upd (pm_upd (pm_upd (pm_upd (pm_upd A 408 n_z a) 409 n_z c) 410 n_z f) 411 n_z s) 407 5 (n_z + 1) 408 n_z = a := by
      rw [upd_o (by omega), upd_o (by omega), upd_o (by omega), upd_o (by omega), upd_at]
    have v3 : pm_upd (pm_upd (pm_upd (pm_upd (pm_upd A 408 n_z a) 409 n_z c) 410 n_z f) 411 n_z s) 407 5 (n_z + 1) 409 n_z = c := by
      rw [upd_o (by omega), upd_o (by omega), upd_o (by omega), upd_at]
    have v4_z : pm_upd (pm_upd (pm_upd (pm_upd (pm_upd A 408 n_z a) 409 n_z c) 410 n_z f) 411 n_z s) 407 5 (n_z + 1) 410 n_z = f := by
      rw [upd_o (by omega), upd_o (by omega), upd_at]
    have v5 : pm_upd (pm_upd (pm_upd (pm_upd (pm_upd A 408 n_z a) 409 n_z c) 410 n_z f) 411 n_z s) 407 5 (n_z + 1) 411 n_z = s := by
      rw [upd_o (by omega), upd_at]
    have hKE : BK (pm_upd (pm_upd (pm_upd (pm_upd (pm_upd A 408 n_z a) 409 n_z c) 410 n_z f) 411 n_z s) 407 5 (n_z + 1)) := ((((hK.upd (by omega) (by omega) (by omega)).upd (by omega) (by omega) (by omega)).upd (by omega) (by omega) (by omega)).upd (by omega) (by omega) (by omega)).upd (by omega) (by omega) (by omega)
    have e2_y : pm_upd A 408 n_z a 407 1 = 409 := by rw [upd_o (by omega)]; exact b2
    have u1_z : pm_upd A 408 n_z a 407 5 = n_z := by rw [upd_o (by omega)]; exact hg1
    have u2_z : pm_upd (pm_upd A 408 n_z a) 409 n_z c 407 2 = 410 := by rw [upd_o (by omega), upd_o (by omega)]; exact b3
    have u3_z : pm_upd (pm_upd A 408 n_z a) 409 n_z c 407 5 = n_z := by rw [upd_o (by omega)]; exact u1_z
    have u4_z : pm_upd (pm_upd (pm_upd A 408 n_z a) 409 n_z c) 410 n_z f 407 3 = 411 := by rw [upd_o (by omega), upd_o (by omega), upd_o (by omega)]; exact b4_z
    have u5 : pm_upd (pm_upd (pm_upd A 408 n_z a) 409 n_z c) 410 n_z f 407 5 = n_z := by rw [upd_o (by omega)]; exact u3_z
    have u6 : pm_upd (pm_upd (pm_upd (pm_upd A 408 n_z a) 409 n_z c) 410 n_z f) 411 n_z s 407 5 = n_z := by rw [upd_o (by omega)]; exact u5
    refine wq_ok sq_Benter (fr := []) (cuts := [64]) (J := fun pc st_z => pc = 64 ∧ st_z = ([(2, 407), (1, a), (9, 0), (1, c), (9, 0), (0, f), (0, s)], [], pm_upd (pm_upd (pm_upd (pm_upd (pm_upd A 408 n_z a) 409 n_z c) 410 n_z f) 411 n_z s) 407 5 (n_z + 1))) ?_ 60 12 _ ?_
    · rintro pc st_z ⟨rfl, rfl⟩
      generalize hE : pm_upd (pm_upd (pm_upd (pm_upd (pm_upd A 408 n_z a) 409 n_z c) 410 n_z f) 411 n_z s) 407 5 (n_z + 1) = E_z at g5_z fr5 v1_z v2 v3 v4_z v5 hKE
      have e412 : ∀ p_z : Int, E_z 412 p_z = A 412 p_z := fun p_z => fr5 412 p_z (by omega) (by omega)
      have ecz : czB (E_z 412) 8192 = czB (A 412) 8192 := czB_c 8192 (fun p_z _ _ => e412 p_z)
      have b5E := hKE.1.2.2.2.2
      have hcz := hS.2.1
      refine wq_ok sq_Benter (fr := []) (cuts := [74]) (J := fun pc st_z => pc = 74 ∧ ∃ p_z, soP E_z a c (some (0, p_z), E_z) ∧ st_z = ([(2, 407), (1, a), (9, 0), (1, c), (9, 0), (0, f), (0, s)], [(0, p_z), (2, E_z 407 4)], E_z)) ?_ 20 64 _ ?_
      · rintro pc st_z ⟨rfl, p_z, ⟨d_z, hd_z, e_z, hI, h1⟩, rfl⟩
        have ep : p_z = (hsh a c + d_z) % 8192 := by
          injection e_z with e1 _
          injection e1 with e1
          injection e1
        have hp0 : 0 ≤ p_z ∧ p_z < 8192 := by omega
        have hz : E_z 412 p_z = 0 := by
          rw [← ep] at h1
          rcases h1 with h1 | h1
          · exact h1
          · by_cases hz : E_z 412 p_z = 0
            · exact hz
            · exfalso
              have s1_z := eX_33 g5_z (r := 412) (by omega) k412 (j := p_z) hp0.1 hp0.2
              have s2_z := hS.2.2.1 p_z hp0.1 hp0.2
              rw [e412 p_z] at h1 s1_z hz
              refine hno (A 412 p_z - 1) (by omega) (by omega) ⟨?_, ?_⟩
              · rw [← fr5 408 _ (by omega) (by omega)]; exact h1.1
              · rw [← fr5 409 _ (by omega) (by omega)]; exact h1.2
        refine wq_ok sq_Benter (fr := []) (cuts := []) (J := fun _ _ => False) (fun _ _ h_z => h_z.elim) 10 74 _ ?_
        refine ⟨oX_6 (by omega) k407 5 rfl, ?_⟩
        refine ⟨tX_33 (by rw [b5E]; omega) (by rw [b5E]; exact k412) hp0.1 hp0.2 rfl, ?_⟩
        rw [b5E, v1_z]
        refine ⟨rfl, Or.inr ⟨by rw [hg1]; exact hlt, rfl, ?_, hKE.upd (by omega) (by omega) (by omega), ?_⟩⟩
        · rw [← hg1] at v1_z v2 v3 v4_z v5 fr5
          show beF A (pm_upd E_z 412 p_z (n_z + 1)) a c f s
          refine ⟨uX_33 g5_z k412 (by omega) (by omega), by rw [upd_o (by omega)]; exact v1_z, fun r_z j_z h2 h3 h4 => by rw [upd_o (by omega)]; exact fr5 r_z j_z h3 h4, ?_⟩
          refine ⟨by rw [upd_o (by omega)]; exact v2, by rw [upd_o (by omega)]; exact v3, by rw [upd_o (by omega)]; exact v4_z, by rw [upd_o (by omega)]; exact v5⟩
        · rw [hg1]
          have o408 : ∀ i_z : Int, ¬ i_z = n_z → E_z 408 i_z = A 408 i_z := fun i_z hi_z => fr5 408 i_z (by omega) (by omega)
          have o409 : ∀ i_z : Int, ¬ i_z = n_z → E_z 409 i_z = A 409 i_z := fun i_z hi_z => fr5 409 i_z (by omega) (by omega)
          show bkS (pm_upd E_z 412 p_z (n_z + 1)) (n_z + 1)
          refine ⟨⟨by omega, by omega⟩, ?_, fun q_z q0_z q1_z => ?_, fun i_z i0_z i1_z => ?_⟩
          · have h2 := czB_put (S := E_z 412) (S' := pm_upd E_z 412 p_z (n_z + 1) 412) (p := p_z) hz (by rw [upd_at]; omega) (fun q_z hq => upd_o (by omega)) hp0.1 8192 (by omega)
            rw [h2, ecz]
            omega
          · by_cases eq_z : q_z = p_z
            · rw [eq_z, upd_at]; omega
            · rw [upd_o (by omega), e412 q_z]
              have := hS.2.2.1 q_z q0_z q1_z
              omega
          · have f1_z : pm_upd E_z 412 p_z (n_z + 1) 408 i_z = E_z 408 i_z := upd_o (by omega)
            have f2_z : pm_upd E_z 412 p_z (n_z + 1) 409 i_z = E_z 409 i_z := upd_o (by omega)
            rw [f1_z, f2_z]
            by_cases ei : i_z = n_z
            · rw [ei, v2, v3]
              refine ⟨d_z, hd_z, by rw [← ep, upd_at], fun e_z e0_z e1_z => ?_⟩
              have h3 := (hI e_z e0_z e1_z).1
              rw [upd_o (fun hq => h3 (by rw [hq.2]; exact hz))]
              exact h3
            · rw [o408 i_z ei, o409 i_z ei]
              obtain ⟨d2_z, hd2, h3, h4⟩ := hS.2.2.2 i_z i0_z (by omega)
              have n1_z : ∀ q_z : Int, ¬ A 412 q_z = 0 → pm_upd E_z 412 p_z (n_z + 1) 412 q_z = A 412 q_z := fun q_z hq => by
                rw [upd_o (fun hh => hq (by rw [hh.2, ← e412 p_z]; exact hz)), e412]
              refine ⟨d2_z, hd2, ?_, fun e_z e0_z e1_z => ?_⟩
              · rw [n1_z _ (by omega)]; exact h3
              · rw [n1_z _ (h4 e_z e0_z e1_z)]; exact h4 e_z e0_z e1_z
      · refine ⟨oX_6 (by omega) k407 4 rfl, ?_⟩
        refine ⟨rX_6 (by omega) k407, ?_⟩
        refine (slotOf_ex (a := a) (c := c) g5_z hKE (by rw [ecz]; omega)).imp ?_
        rintro ⟨r1_z, C_z⟩ hC
        have hC0 := hC
        obtain ⟨d_z, _, e_z, _⟩ := hC0
        have e1 : r1_z = some (0, (hsh a c + d_z) % 8192) := congrArg Prod.fst e_z
        have e2 : C_z = E_z := congrArg Prod.snd e_z
        subst e1
        subst e2
        exact ⟨rfl, _, hC, rfl⟩
    · refine ⟨oX_6 (by omega) k407 0 rfl, ?_⟩
      refine ⟨oX_6 (by omega) k407 5 rfl, ?_⟩
      refine ⟨tX_30 (by rw [b1]; omega) (by rw [b1]; exact k408) (by omega) (by omega) rfl, ?_⟩
      rw [b1, hg1]
      refine ⟨oX_6 (by omega) k407 1 rfl, ?_⟩
      refine ⟨oX_6 (by omega) k407 5 rfl, ?_⟩
      refine ⟨tX_30 (by rw [e2_y]; omega) (by rw [e2_y]; exact k409) (by rw [u1_z]; omega) (by rw [u1_z]; exact hlt) rfl, ?_⟩
      rw [e2_y, u1_z]
      refine ⟨oX_6 (by omega) k407 2 rfl, ?_⟩
      refine ⟨oX_6 (by omega) k407 5 rfl, ?_⟩
      refine ⟨tX_31 (by rw [u2_z]; omega) (by rw [u2_z]; exact k410) (by rw [u3_z]; omega) (by rw [u3_z]; exact hlt) rfl, ?_⟩
      rw [u2_z, u3_z]
      refine ⟨oX_6 (by omega) k407 3 rfl, ?_⟩
      refine ⟨oX_6 (by omega) k407 5 rfl, ?_⟩
      refine ⟨tX_32 (by rw [u4_z]; omega) (by rw [u4_z]; exact k411) (by rw [u5]; omega) (by rw [u5]; exact hlt) rfl, ?_⟩
      rw [u4_z, u5]
      refine ⟨oX_6 (by omega) k407 5 rfl, ?_⟩
      refine ⟨by rw [u6]; exact ⟨by omega, by omega⟩, ?_⟩
      rw [u6]
      refine ⟨oX_6 (by omega) k407 5 rfl, ?_⟩
      exact ⟨rfl, rfl⟩
  · refine ⟨oX_6 (by omega) k407 5 rfl, ?_⟩
    refine ⟨fun h_z => ?_, fun h_z => ?_⟩
    · exact ⟨rfl, h_z, rfl⟩
    · exact ⟨rfl, Or.inl ⟨by omega, rfl⟩⟩
theorem fill33_5 {A : pm_A} {r : Int} (hr0 : 0 ≤ r) (hrk : wX.2 r = 33) : ∀ (m_z : Nat) (i_z : Int) (B_z : pm_A), (8192 - i_z).toNat < m_z → 0 ≤ i_z → i_z ≤ 8192 → gH wX B_z → (∀ c_z j_z : Int, ¬ c_z = r → B_z c_z j_z = A c_z j_z) → (∀ j_z : Int, 0 ≤ j_z → j_z < i_z → B_z r j_z = 0) → Tm pmt (an_sh wX) o_J7_fill_53178 5 ([(2, r), (0, 0), (0, i_z), (0, 8192)], [], B_z) (fun q_z => q_z.1 = none ∧ gH wX q_z.2 ∧ (∀ c_z j_z : Int, ¬ c_z = r → q_z.2 c_z j_z = A c_z j_z) ∧ ∀ j_z : Int, 0 ≤ j_z → j_z < 8192 → q_z.2 r j_z = 0) := by
  intro m_z
  induction m_z with
  | zero => intro i_z B_z h_z; omega
  | succ m_z ih_z =>
    intro i_z B_z hm_z hi0_z hi1 hB_z hF hz
    refine wq_ok srt_fill (fr := []) (cuts := [5]) (J := fun pc st_z => pc = 5 ∧ i_z < 8192 ∧ st_z = ([(2, r), (0, 0), (0, i_z + 1), (0, 8192)], [], pm_upd B_z r i_z 0)) ?_ 20 5 _ ?_
    · rintro pc st_z ⟨rfl, hi_z, rfl⟩
      refine ih_z (i_z + 1) _ (by omega) (by omega) (by omega) (uX_33 hB_z hrk (by omega) (by omega)) (fun c_z j_z hc_z => by rw [upd_ne hc_z]; exact hF c_z j_z hc_z) (fun j_z j0 j1 => ?_)
      by_cases e_z : j_z = i_z
      · rw [e_z, upd_at]
      · rw [upd_n2 e_z]; exact hz j_z j0 (by omega)
    · refine ⟨fun h_z => ⟨rfl, hB_z, hF, fun j_z j0 j1 => hz j_z j0 (by omega)⟩, fun h_z => ?_⟩
      refine ⟨tX_33 hr0 hrk hi0_z (by omega) rfl, ?_⟩
      refine ⟨⟨by omega, by omega⟩, ?_⟩
      exact ⟨rfl, h_z, rfl⟩
theorem fill33_ex {A : pm_A} {r : Int} (hA : gH wX A) (hr0 : 0 ≤ r) (hrk : wX.2 r = 33) : Cl pmt (an_sh wX) 1 [(2, r), (0, 0)] A (fun q_z => q_z.1 = none ∧ gH wX q_z.2 ∧ (∀ c_z j_z : Int, ¬ c_z = r → q_z.2 c_z j_z = A c_z j_z) ∧ ∀ j_z : Int, 0 ≤ j_z → j_z < 8192 → q_z.2 r j_z = 0) := by
  refine Cl.of (Nat.le_of_ble_eq_true rfl) ?_
  have e_z := shX_33 hrk
  have st0 : pm_step (an_sh wX) (pm_call pmt (an_sh wX) 0) (4, 22, 0, 0, 0, 0, []) ([(2, r), (0, 0), (0, 0), (9, 0)], [(2, r)], A) = some (.inl (4, ([(2, r), (0, 0), (0, 0), (9, 0)], [(0, 8192)], A))) := by
    simp only [pm_step, k_r]
    rw [k_if_t ⟨hr0, by rw [e_z], by rw [e_z], by rw [e_z]; simp only; omega⟩, e_z]
  refine wq_ok (full := o_J7_fill_53178) srt_fill (fr := []) (cuts := [3]) (J := fun pc st_z => pc = 3 ∧ st_z = ([(2, r), (0, 0), (0, 0), (9, 0)], [(2, r)], A)) ?_ 10 0 _ ?_
  · rintro pc st_z ⟨rfl, rfl⟩
    refine Tm.step srt_fill (q := (3, 4, 22, 0, 0, 0, 0, [])) rfl st0 ?_
    refine wq_ok srt_fill (fr := []) (cuts := [5]) (J := fun pc st_z => pc = 5 ∧ st_z = ([(2, r), (0, 0), (0, 0), (0, 8192)], [], A)) ?_ 10 4 _ ?_
    · rintro pc st_z ⟨rfl, rfl⟩
      exact fill33_5 hr0 hrk _ 0 A (Nat.lt_succ_self _) (by omega) (by omega) hA (fun _ _ _ => rfl) (fun j_z j0 j1 => by omega)
    · exact ⟨rfl, rfl⟩
  · exact ⟨rfl, rfl⟩
def bcP (A : pm_A) (r : pm_R) : Prop := r.1 = none ∧ gH wX r.2 ∧ BK r.2 ∧ r.2 407 5 = 0 ∧ bkS r.2 0 ∧ ∀ r_z j_z : Int, ¬ r_z = 412 → ¬ (r_z = 407 ∧ j_z = 5) → r.2 r_z j_z = A r_z j_z
theorem bclear_ex {A : pm_A} (hA : gH wX A) (hK : BK A) : Cl pmt (an_sh wX) 16 [(2, 407)] A (bcP A) := by
  have g1 : gH wX (pm_upd A 407 5 0) := u6_5 hA (by omega) (by omega)
  have hK1 : BK (pm_upd A 407 5 0) := hK.upd (by omega) (by omega) (by omega)
  have b5 := hK1.1.2.2.2.2
  have v1_z : pm_upd A 407 5 0 407 5 = 0 := upd_at
  have fr1 : ∀ r_z j_z : Int, ¬ (r_z = 407 ∧ j_z = 5) → pm_upd A 407 5 0 r_z j_z = A r_z j_z := fun r_z j_z h1 => upd_o h1
  refine Cl.of (Nat.le_of_ble_eq_true rfl) ?_
  refine wq_ok (full := o_X1_clear) sq_Bclear (fr := []) (cuts := [5]) (J := fun pc st_z => pc = 5 ∧ st_z = ([(2, 407)], [], pm_upd A 407 5 0)) ?_ 20 0 _ ?_
  · rintro pc st_z ⟨rfl, rfl⟩
    generalize pm_upd A 407 5 0 = E_z at g1 hK1 b5 v1_z fr1
    refine wq_ok sq_Bclear (fr := []) (cuts := []) (J := fun _ _ => False) (fun _ _ h_z => h_z.elim) 10 5 _ ?_
    refine ⟨oX_6 (by omega) k407 4 rfl, ?_⟩
    refine ⟨rfl, ?_⟩
    rw [b5]
    refine (fill33_ex g1 (r := 412) (by omega) k412).imp ?_
    rintro ⟨r1_z, C_z⟩ ⟨q1_z, q2_z, q3_z, q4_z⟩
    simp only at q1_z q2_z q3_z q4_z
    subst q1_z
    have e_z : ∀ r_z j_z : Int, ¬ r_z = 412 → C_z r_z j_z = E_z r_z j_z := fun r_z j_z h1 => q3_z r_z j_z h1
    obtain ⟨⟨a1_z, a2, a3, a4, a5⟩, c1_z, c2_z, c3_z, c4_z⟩ := hK1
    have hfin : gH wX C_z ∧ BK C_z ∧ C_z 407 5 = 0 ∧ bkS C_z 0 ∧ ∀ r_z j_z : Int, ¬ r_z = 412 → ¬ (r_z = 407 ∧ j_z = 5) → C_z r_z j_z = A r_z j_z := by
      refine ⟨q2_z, ⟨⟨by rw [e_z _ _ (by omega)]; exact a1_z, by rw [e_z _ _ (by omega)]; exact a2, by rw [e_z _ _ (by omega)]; exact a3, by rw [e_z _ _ (by omega)]; exact a4, by rw [e_z _ _ (by omega)]; exact a5⟩, by rw [e_z _ _ (by omega)]; exact c1_z, by rw [e_z _ _ (by omega)]; exact c2_z, by rw [e_z _ _ (by omega)]; exact c3_z, by rw [e_z _ _ (by omega)]; exact c4_z⟩, by rw [e_z _ _ (by omega)]; exact v1_z, ⟨⟨by omega, by omega⟩, ?_, fun p_z p0_z p1_z => by rw [q4_z p_z p0_z p1_z]; omega, fun i_z i0_z i1_z => by omega⟩, fun r_z j_z h1 h2 => by rw [e_z r_z j_z h1]; exact fr1 r_z j_z h2⟩
      rw [czB_zero 8192 (fun p_z p0_z p1_z => q4_z p_z p0_z (by omega))]
      rfl
    exact ⟨rfl, hfin⟩
  · refine ⟨oX_6 (by omega) k407 5 rfl, ?_⟩
    exact ⟨rfl, rfl⟩
end

section
/-! the search over tables; the class's isWild, pack, unpack -/
def wdT (s : cx_Sd 12) (n : Int) (l : List (Fin 12)) : Prop := ∃ i_z j_z : Fin 12, ((i_z.1 : Int) < n ∧ (j_z.1 : Int) < n) ∧ cr_bs s.b l i_z j_z * cr_bs s.b l j_z i_z < -3
def lkT (s : cx_Sd 12) (n : Int) (l l' : List (Fin 12)) : Prop := ∀ i_z j_z : Fin 12, (i_z.1 : Int) < n → (j_z.1 : Int) < n → cr_bs s.b l i_z j_z = cr_bs s.b l' i_z j_z
theorem bs_sd : ∀ (l : List (Fin 12)) (s_z : cx_Sd 12), ∃ s' : cx_Sd 12, s'.b = cr_bs s_z.b l
  | [], s_z => ⟨s_z, rfl⟩
  | k_z :: l, s_z => by
    obtain ⟨s', h_z⟩ := bs_sd l (cr_turn s_z k_z)
    exact ⟨s', h_z⟩
theorem sk_3 {a b d e : Int} (d0 : 0 < d) (e0 : 0 < e) (h : d * a = -(e * b)) (hw : ¬ a * b < -3) : -3 ≤ a ∧ a ≤ 3 := by
  rcases Int.lt_trichotomy a 0 with h1 | h1 | h1
  · have hb_z : 1 ≤ b := by
      by_cases hb_z : 1 ≤ b
      · exact hb_z
      · exfalso
        have h2 : d * a < 0 := Int.mul_neg_of_pos_of_neg d0 h1
        have h3 : e * b ≤ 0 := Int.mul_nonpos_of_nonneg_of_nonpos (by omega) (by omega)
        omega
    have h2 : a * b ≤ a * 1 := Int.mul_le_mul_of_nonpos_left (by omega) hb_z
    omega
  · omega
  · have hb_z : b ≤ -1 := by
      by_cases hb_z : b ≤ -1
      · exact hb_z
      · exfalso
        have h2 : 0 < d * a := Int.mul_pos d0 h1
        have h3 : 0 ≤ e * b := Int.mul_nonneg (by omega) (by omega)
        omega
    have h2 : a * b ≤ a * (-1) := Int.mul_le_mul_of_nonneg_left hb_z (by omega)
    omega
theorem nw_3 {s : cx_Sd 12} {n : Int} {l : List (Fin 12)} (h : ¬ wdT s n l) {i j : Fin 12} (hi : (i.1 : Int) < n) (hj : (j.1 : Int) < n) : -3 ≤ cr_bs s.b l i j ∧ cr_bs s.b l i j ≤ 3 := by
  obtain ⟨s', e_z⟩ := bs_sd l s
  have h1 := s'.sk i j
  have d1_z := s'.dpos i
  have d2_z := s'.dpos j
  rw [e_z] at h1
  exact sk_3 (d := (s'.d i : Int)) (e := (s'.d j : Int)) (by omega) (by omega) h1 (fun hw => h ⟨i, j, ⟨hi, hj⟩, hw⟩)
/-- the search: the row of tables (by their ways from the first), the place of the row and of the table, what comes out -/
abbrev fnO : Type := List (List (Fin 12)) × Option (Option (List (Fin 12)))
def fnA (s : cx_Sd 12) (n : Int) (ks : List (Fin 12)) : Nat → List (List (Fin 12)) → Nat → Int → fnO → Prop
  | 0, _, _, _, _ => False
  | m_z + 1, R_z, t_z, k_z, o => (R_z.length ≤ t_z ∧ o = (R_z, some none)) ∨ (t_z < R_z.length ∧ n ≤ k_z ∧ fnA s n ks m_z R_z (t_z + 1) 0 o) ∨ (k_z < n ∧ ∃ (p_z : List (Fin 12)) (f_z : Fin 12), R_z[t_z]? = some p_z ∧ (f_z.1 : Int) = k_z ∧ ((wdT s n (ks ++ (p_z ++ [f_z])) ∧ o = (R_z, some (some (p_z ++ [f_z])))) ∨ (¬ wdT s n (ks ++ (p_z ++ [f_z])) ∧ (((∃ q_z ∈ R_z, lkT s n (ks ++ q_z) (ks ++ (p_z ++ [f_z]))) ∧ fnA s n ks m_z R_z t_z (k_z + 1) o) ∨ ((∀ q_z ∈ R_z, ¬ lkT s n (ks ++ q_z) (ks ++ (p_z ++ [f_z]))) ∧ ((3000 ≤ R_z.length ∧ o = (R_z, none)) ∨ (R_z.length < 3000 ∧ fnA s n ks m_z (R_z ++ [p_z ++ [f_z]]) t_z (k_z + 1) o)))))))
theorem fnA_u {s : cx_Sd 12} {n : Int} {ks : List (Fin 12)} : ∀ (m_z m2_z : Nat) (R_z : List (List (Fin 12))) (t_z : Nat) (k_z : Int) (o o2 : fnO), fnA s n ks m_z R_z t_z k_z o → fnA s n ks m2_z R_z t_z k_z o2 → o = o2
  | 0, _, _, _, _, _, _, h_z, _ => h_z.elim
  | _ + 1, 0, _, _, _, _, _, _, h_z => h_z.elim
  | m_z + 1, m2_z + 1, R_z, t_z, k_z, o, o2, h_z, g_z => by
    rcases h_z with ⟨h1, h2⟩ | ⟨h1, h2, h3⟩ | ⟨h1, p_z, f_z, h2, h3, h4⟩
    · rcases g_z with ⟨_, g2⟩ | ⟨g1, _⟩ | ⟨g1, p2_z, f2_z, g2, g3_z, _⟩
      · rw [h2, g2]
      · omega
      · have := (List.getElem?_eq_some_iff.mp g2).1
        omega
    · rcases g_z with ⟨g1, _⟩ | ⟨_, _, g3_z⟩ | ⟨g1, _⟩
      · omega
      · exact fnA_u m_z m2_z R_z (t_z + 1) 0 o o2 h3 g3_z
      · omega
    · rcases g_z with ⟨g1, _⟩ | ⟨_, g2, _⟩ | ⟨_, p2_z, f2_z, g2, g3_z, g4⟩
      · have := (List.getElem?_eq_some_iff.mp h2).1
        omega
      · omega
      · have ep : p_z = p2_z := Option.some.inj (h2.symm.trans g2)
        have ef : f_z = f2_z := Fin.ext (by omega)
        subst ep
        subst ef
        rcases h4 with ⟨h5, h6⟩ | ⟨h5, h6⟩
        · rcases g4 with ⟨_, g6⟩ | ⟨g5_z, _⟩
          · rw [h6, g6]
          · exact absurd h5 g5_z
        · rcases g4 with ⟨g5_z, _⟩ | ⟨_, g6⟩
          · exact absurd g5_z h5
          · rcases h6 with ⟨⟨q_z, hq, hl⟩, h7⟩ | ⟨h6, h7⟩
            · rcases g6 with ⟨_, g7⟩ | ⟨g6, _⟩
              · exact fnA_u m_z m2_z R_z t_z (k_z + 1) o o2 h7 g7
              · exact absurd hl (g6 q_z hq)
            · rcases g6 with ⟨⟨q_z, hq, hl⟩, _⟩ | ⟨_, g7⟩
              · exact absurd hl (h6 q_z hq)
              · rcases h7 with ⟨h8, h9⟩ | ⟨h8, h9⟩
                · rcases g7 with ⟨_, g9⟩ | ⟨g8, _⟩
                  · rw [h9, g9]
                  · omega
                · rcases g7 with ⟨g8, _⟩ | ⟨_, g9⟩
                  · omega
                  · exact fnA_u m_z m2_z _ t_z (k_z + 1) o o2 h9 g9
/-- what comes out of all: none if the first table is wild itself -/
def finO (s : cx_Sd 12) (n : Int) (ks : List (Fin 12)) (x : Option fnO) : Prop := (wdT s n ks ∧ x = none) ∨ (¬ wdT s n ks ∧ ∃ o_z m_z, fnA s n ks m_z [[]] 0 0 o_z ∧ x = some o_z)
theorem finO_u {s : cx_Sd 12} {n : Int} {ks : List (Fin 12)} {x y : Option fnO} (h : finO s n ks x) (g : finO s n ks y) : x = y := by
  rcases h with ⟨h1, h2⟩ | ⟨h1, o_z, m_z, h2, h3⟩
  · rcases g with ⟨_, g2⟩ | ⟨g1, _⟩
    · rw [h2, g2]
    · exact absurd h1 g1
  · rcases g with ⟨g1, _⟩ | ⟨_, o2_z, m2_z, g2, g3_z⟩
    · exact absurd g1 h1
    · rw [h3, g3_z, fnA_u _ _ _ _ _ _ _ h2 g2]
/-! tables in the class's hand -/
def wdI (T : Int → Int) (n : Int) : Prop := ∃ i_z j_z : Int, (0 ≤ i_z ∧ i_z < n) ∧ (0 ≤ j_z ∧ j_z < i_z) ∧ T (i_z * 6 + j_z) * T (j_z * 6 + i_z) < -3
def tbE (s : cx_Sd 12) (l : List (Fin 12)) (T : Int → Int) (n : Int) : Prop := ∀ i_z j_z : Fin 12, (i_z.1 : Int) < n → (j_z.1 : Int) < n → cr_bs s.b l i_z j_z = T ((i_z.1 : Int) * 6 + (j_z.1 : Int))
theorem fnt_of {i : Int} (i0 : 0 ≤ i) (i1 : i < 12) : ∃ f_z : Fin 12, (f_z.1 : Int) = i := ⟨⟨i.toNat, by omega⟩, by show ((i.toNat : Nat) : Int) = i; omega⟩
theorem wd_iff {s : cx_Sd 12} {l : List (Fin 12)} {T : Int → Int} {n : Int} (h : tbE s l T n) (n6 : n ≤ 6) : wdI T n ↔ wdT s n l := by
  constructor
  · rintro ⟨i_z, j_z, hi_z, hj, hw⟩
    obtain ⟨f_z, rfl⟩ := fnt_of (i := i_z) hi_z.1 (by omega)
    obtain ⟨g_z, rfl⟩ := fnt_of (i := j_z) hj.1 (by omega)
    refine ⟨f_z, g_z, ⟨hi_z.2, by omega⟩, ?_⟩
    rw [h f_z g_z hi_z.2 (by omega), h g_z f_z (by omega) hi_z.2]
    exact hw
  · rintro ⟨i_z, j_z, ⟨hi_z, hj⟩, hw⟩
    rcases Int.lt_trichotomy (i_z.1 : Int) (j_z.1 : Int) with h1 | h1 | h1
    · refine ⟨j_z.1, i_z.1, ⟨by omega, hj⟩, ⟨by omega, h1⟩, ?_⟩
      rw [← h j_z i_z hj hi_z, ← h i_z j_z hi_z hj, Int.mul_comm]
      exact hw
    · exfalso
      have e_z : i_z = j_z := Fin.ext (by omega)
      subst e_z
      rcases Int.le_total 0 (cr_bs s.b l i_z i_z) with h2 | h2
      · have := Int.mul_nonneg h2 h2
        omega
      · have := Int.mul_nonneg_of_nonpos_of_nonpos h2 h2
        omega
    · refine ⟨i_z.1, j_z.1, ⟨by omega, hi_z⟩, ⟨by omega, h1⟩, ?_⟩
      rw [← h j_z i_z hj hi_z, ← h i_z j_z hi_z hj]
      exact hw
theorem tbE.turn {s : cx_Sd 12} {l : List (Fin 12)} {T T' : Int → Int} {n : Int} {k : Fin 12} (h : tbE s l T n) (hk : (k.1 : Int) < n) (hT : ∀ a_z b_z : Int, 0 ≤ a_z → a_z < n → 0 ≤ b_z → b_z < n → T' (a_z * 6 + b_z) = tvT T k.1 a_z b_z) : tbE s (l ++ [k]) T' n := fun i_z j_z hi_z hj => by
  have b1 := h i_z j_z hi_z hj
  have b2 := h i_z k hi_z hk
  have b3 := h k j_z hk hj
  rw [cr_bs_snoc, hT _ _ (by omega) hi_z (by omega) hj]
  unfold cr_turnB tvT teX alg
  by_cases e_z : i_z = k ∨ j_z = k
  · rw [if_pos e_z, if_pos (by rcases e_z with e_z | e_z; exact Or.inl (by rw [e_z]); exact Or.inr (by rw [e_z])), b1]
  · rw [if_neg e_z, if_neg (fun e2 => e_z (by rcases e2 with e2 | e2; exact Or.inl (Fin.ext (by omega)); exact Or.inr (Fin.ext (by omega)))), b1, b2, b3]
    generalize T ((i_z.1 : Int) * 6 + (k.1 : Int)) = a_z
    generalize T ((k.1 : Int) * 6 + (j_z.1 : Int)) = b_z
    generalize T ((i_z.1 : Int) * 6 + (j_z.1 : Int)) = c_z
    unfold cx_pos
    by_cases h1 : 0 < a_z
    · rw [Int.toNat_of_nonneg (by omega)]
      by_cases h2 : 0 < b_z
      · rw [if_pos (Or.inl ⟨h1, h2⟩), show ((a_z.natAbs : Nat) : Int) = a_z by omega, show (-b_z).toNat = 0 by omega]; show c_z + (a_z * b_z + a_z * 0) = c_z + a_z * b_z; omega
      · rw [if_neg (by omega), Int.toNat_of_nonneg (by omega), Int.mul_neg]; omega
    · rw [show a_z.toNat = 0 by omega]
      by_cases h2 : a_z < 0 ∧ b_z < 0
      · rw [if_pos (Or.inr h2), show ((a_z.natAbs : Nat) : Int) = -a_z by omega, Int.toNat_of_nonneg (by omega), Int.neg_mul, Int.mul_neg]; show c_z + (0 * b_z + _) = _; omega
      · rw [if_neg (by omega)]
        by_cases h3 : a_z = 0
        · rw [h3]; show c_z + (0 * b_z + 0 * _) = c_z + 0; omega
        · rw [show (-b_z).toNat = 0 by omega]; show c_z + (0 * b_z + a_z * 0) = c_z + 0; omega
theorem pr_bd {a b : Int} (ha : -9999 ≤ a ∧ a ≤ 9999) (hb : -9999 ≤ b ∧ b ≤ 9999) : -2147483648 ≤ a * b ∧ a * b ≤ 2147483647 := by
  have h1 : a.natAbs ≤ 9999 := by omega
  have h2 : b.natAbs ≤ 9999 := by omega
  have h3 : a.natAbs * b.natAbs ≤ 9999 * 9999 := Nat.mul_le_mul h1 h2
  have h4 : (a * b).natAbs = a.natAbs * b.natAbs := Int.natAbs_mul a b
  omega
theorem sq_Xwild : pm_srt o_X4_isWild = true := by decide +kernel
def xwP (A : pm_A) (n : Int) (r : pm_R) : Prop := r.2 = A ∧ ((r.1 = some (0, 1) ∧ wdI (A 415) n) ∨ (r.1 = some (0, 0) ∧ ¬ wdI (A 415) n))
def xwI (T : Int → Int) (n i j : Int) : Prop := ∀ a_z b_z : Int, 0 ≤ a_z → a_z < n → 0 ≤ b_z → b_z < a_z → a_z < i ∨ (a_z = i ∧ b_z < j) → ¬ T (a_z * 6 + b_z) * T (b_z * 6 + a_z) < -3
theorem xw_9 {A : pm_A} {n i : Int} (hK : BK A) (hB : tbB (A 415) n n) (i0 : 0 ≤ i) (i1 : i < n) (n6 : n ≤ 6) (H : ∀ w3_z, xwI (A 415) n (i + 1) 0 → Tm pmt (an_sh wX) o_X4_isWild 2 ([(2, 413), (0, n), (0, i + 1), w3_z], [], A) (xwP A n)) : ∀ (m_z : Nat) (j_z : Int), (6 - j_z).toNat < m_z → 0 ≤ j_z → j_z ≤ i → xwI (A 415) n i j_z → Tm pmt (an_sh wX) o_X4_isWild 9 ([(2, 413), (0, n), (0, i), (0, j_z)], [], A) (xwP A n) := by
  have b3 := hK.2.2.2.2
  intro m_z
  induction m_z with
  | zero => intro j_z h_z; omega
  | succ m_z ih_z =>
    intro j_z hm_z j0 j1 hI
    refine wq_ok sq_Xwild (fr := []) (cuts := [9, 2]) (J := fun pc st_z => (pc = 2 ∧ i ≤ j_z ∧ st_z = ([(2, 413), (0, n), (0, i + 1), (0, j_z)], [], A)) ∨ (pc = 9 ∧ j_z < i ∧ (¬ A 415 (i * 6 + j_z) * A 415 (j_z * 6 + i) < -3) ∧ st_z = ([(2, 413), (0, n), (0, i), (0, j_z + 1)], [], A))) ?_ 40 9 _ ?_
    · rintro pc st_z (⟨rfl, h1, rfl⟩ | ⟨rfl, h1, h2, rfl⟩)
      · refine H _ (fun a_z b_z a0_z a1_z b0 b1 hab => ?_)
        by_cases e_z : a_z = i
        · exact hI a_z b_z a0_z a1_z b0 b1 (Or.inr ⟨e_z, by omega⟩)
        · exact hI a_z b_z a0_z a1_z b0 b1 (Or.inl (by omega))
      · refine ih_z (j_z + 1) (by omega) (by omega) (by omega) (fun a_z b_z a0_z a1_z b0 b1 hab => ?_)
        by_cases e_z : a_z = i ∧ b_z = j_z
        · rw [e_z.1, e_z.2]; exact h2
        · exact hI a_z b_z a0_z a1_z b0 b1 (by omega)
    · refine ⟨fun h1 => ?_, fun h1 => ?_⟩
      · refine ⟨⟨by omega, by omega⟩, ?_⟩
        exact Or.inl ⟨rfl, h1, rfl⟩
      · have p1_z := pr_bd (hB i j_z i0 i1 j0 (by omega)) (hB j_z i j0 (by omega) i0 i1)
        refine ⟨oX_7 (by omega) k413 3 rfl, ?_⟩
        refine ⟨⟨by omega, by omega⟩, ?_⟩
        refine ⟨⟨by omega, by omega⟩, ?_⟩
        refine ⟨aX_10 (by rw [b3]; omega) (by rw [b3]; exact k415) (by omega) (by omega), ?_⟩
        refine ⟨oX_7 (by omega) k413 3 rfl, ?_⟩
        refine ⟨⟨by omega, by omega⟩, ?_⟩
        refine ⟨⟨by omega, by omega⟩, ?_⟩
        refine ⟨aX_10 (by rw [b3]; omega) (by rw [b3]; exact k415) (by omega) (by omega), ?_⟩
        rw [b3]
        refine ⟨⟨p1_z.1, p1_z.2⟩, ?_⟩
        refine ⟨fun h2 => ?_, fun h2 => ?_⟩
        · refine ⟨⟨by omega, by omega⟩, ?_⟩
          exact Or.inr ⟨rfl, h1, by omega, rfl⟩
        · exact ⟨rfl, rfl, Or.inl ⟨rfl, i, j_z, ⟨i0, i1⟩, ⟨j0, h1⟩, h2⟩⟩
theorem xw_2 {A : pm_A} {n : Int} (hK : BK A) (hB : tbB (A 415) n n) (n0 : 0 ≤ n) (n6 : n ≤ 6) : ∀ (m_z : Nat) (i_z : Int) (w3_z : pm_V), (6 - i_z).toNat < m_z → 0 ≤ i_z → i_z ≤ n → xwI (A 415) n i_z 0 → Tm pmt (an_sh wX) o_X4_isWild 2 ([(2, 413), (0, n), (0, i_z), w3_z], [], A) (xwP A n) := by
  intro m_z
  induction m_z with
  | zero => intro i_z w3_z h_z; omega
  | succ m_z ih_z =>
    intro i_z w3_z hm_z i0_z i1_z hI
    refine wq_ok sq_Xwild (fr := []) (cuts := [9]) (J := fun pc st_z => pc = 9 ∧ i_z < n ∧ st_z = ([(2, 413), (0, n), (0, i_z), (0, 0)], [], A)) ?_ 20 2 _ ?_
    · rintro pc st_z ⟨rfl, h1, rfl⟩
      exact xw_9 hK hB i0_z h1 n6 (fun w3_z hI2 => ih_z (i_z + 1) w3_z (by omega) (by omega) (by omega) hI2) _ 0 (Nat.lt_succ_self _) (by omega) (by omega) hI
    · refine ⟨fun h1 => ?_, fun h1 => ?_⟩
      · refine ⟨rfl, rfl, Or.inr ⟨rfl, ?_⟩⟩
        rintro ⟨a_z, b_z, ha_z, hb_z, hw⟩
        exact hI a_z b_z ha_z.1 ha_z.2 hb_z.1 hb_z.2 (Or.inl (by omega)) hw
      · exact ⟨rfl, h1, rfl⟩
theorem xwild_ex {A : pm_A} {n : Int} (hK : BK A) (hB : tbB (A 415) n n) (n0 : 0 ≤ n) (n6 : n ≤ 6) : Cl pmt (an_sh wX) 34 [(2, 413), (0, n)] A (xwP A n) := by
  refine Cl.of (Nat.le_of_ble_eq_true rfl) ?_
  refine wq_ok (full := o_X4_isWild) sq_Xwild (fr := []) (cuts := [2]) (J := fun pc st_z => pc = 2 ∧ st_z = ([(2, 413), (0, n), (0, 0), (9, 0)], [], A)) ?_ 10 0 _ ?_
  · rintro pc st_z ⟨rfl, rfl⟩
    exact xw_2 hK hB n0 n6 _ 0 _ (Nat.lt_succ_self _) (by omega) (by omega) (fun a_z b_z a0_z a1_z b0 b1 hab => by omega)
  · exact ⟨rfl, rfl⟩
/-! three bits a number -/
def pkR (f : Int → Int) : Nat → Int → Int
  | 0, v_z => v_z
  | m_z + 1, v_z => 8 * pkR f m_z v_z + (f (m_z : Int) + 3)
def pkS (T : Int → Int) (n a : Int) : Nat → Int
  | 0 => 0
  | m_z + 1 => pkR (fun j_z => T ((a + (m_z : Int)) * 6 + j_z)) n.toNat (pkS T n a m_z)
theorem pkR_b {f : Int → Int} {v C : Int} (v0 : 0 ≤ v) (v1 : v < C) : ∀ m_z : Nat, (∀ j_z : Int, 0 ≤ j_z → j_z < m_z → -3 ≤ f j_z ∧ f j_z ≤ 3) → 0 ≤ pkR f m_z v ∧ pkR f m_z v < C * 8 ^ m_z
  | 0, _ => by
    show 0 ≤ v ∧ v < C * 8 ^ 0
    rw [Int.pow_zero, Int.mul_one]
    exact ⟨v0, v1⟩
  | m_z + 1, h_z => by
    have h1 := pkR_b v0 v1 m_z (fun j_z j0 j1 => h_z j_z j0 (by omega))
    have h2 := h_z m_z (by omega) (by omega)
    show 0 ≤ 8 * pkR f m_z v + (f (m_z : Int) + 3) ∧ 8 * pkR f m_z v + (f (m_z : Int) + 3) < C * 8 ^ (m_z + 1)
    rw [Int.pow_succ, ← Int.mul_assoc]
    omega
theorem pkR_i {f g : Int → Int} {v u : Int} : ∀ m_z : Nat, (∀ j_z : Int, 0 ≤ j_z → j_z < m_z → -3 ≤ f j_z ∧ f j_z ≤ 3) → (∀ j_z : Int, 0 ≤ j_z → j_z < m_z → -3 ≤ g j_z ∧ g j_z ≤ 3) → pkR f m_z v = pkR g m_z u → v = u ∧ ∀ j_z : Int, 0 ≤ j_z → j_z < m_z → f j_z = g j_z
  | 0, _, _, h_z => ⟨h_z, fun j_z j0 j1 => by omega⟩
  | m_z + 1, hf, hg, h_z => by
    have h1 := hf m_z (by omega) (by omega)
    have h2 := hg m_z (by omega) (by omega)
    have h3 : 8 * pkR f m_z v + (f (m_z : Int) + 3) = 8 * pkR g m_z u + (g (m_z : Int) + 3) := h_z
    have h4 := pkR_i m_z (fun j_z j0 j1 => hf j_z j0 (by omega)) (fun j_z j0 j1 => hg j_z j0 (by omega)) (show pkR f m_z v = pkR g m_z u by omega)
    refine ⟨h4.1, fun j_z j0 j1 => ?_⟩
    by_cases e_z : j_z = (m_z : Int)
    · rw [e_z]; omega
    · exact h4.2 j_z j0 (by omega)
theorem pkR_c {f g : Int → Int} {v : Int} : ∀ m_z : Nat, (∀ j_z : Int, 0 ≤ j_z → j_z < m_z → f j_z = g j_z) → pkR f m_z v = pkR g m_z v
  | 0, _ => rfl
  | m_z + 1, h_z => by
    show 8 * pkR f m_z v + (f (m_z : Int) + 3) = 8 * pkR g m_z v + (g (m_z : Int) + 3)
    rw [pkR_c m_z (fun j_z j0 j1 => h_z j_z j0 (by omega)), h_z m_z (by omega) (by omega)]
def r3T (T : Int → Int) (n : Int) : Prop := ∀ i_z j_z : Int, 0 ≤ i_z → i_z < n → 0 ≤ j_z → j_z < n → -3 ≤ T (i_z * 6 + j_z) ∧ T (i_z * 6 + j_z) ≤ 3
theorem p8z_le {n m : Nat} (hn : n ≤ 6) : ∀ m_z : Nat, m_z ≤ 3 → (8 : Int) ^ (n * m_z) ≤ 18014398509481984 := fun m_z hm_z => by
  have h1 : n * m_z ≤ 18 := by
    have := Nat.mul_le_mul hn hm_z
    omega
  have h2 : (8 : Nat) ^ (n * m_z) ≤ 8 ^ 18 := Nat.pow_le_pow_right (by omega) h1
  have h3 : (8 : Nat) ^ 18 = 18014398509481984 := by decide
  have h4 : (((8 : Nat) ^ (n * m_z) : Nat) : Int) = (8 : Int) ^ (n * m_z) := by rw [Int.natCast_pow]; rfl
  omega
theorem pkS_b {T : Int → Int} {n a : Int} (hT : r3T T n) (n0 : 0 ≤ n) (n6 : n ≤ 6) (a0 : 0 ≤ a) : ∀ m_z : Nat, a + (m_z : Int) ≤ n → 0 ≤ pkS T n a m_z ∧ pkS T n a m_z < 8 ^ (n.toNat * m_z)
  | 0, _ => by
    show (0 : Int) ≤ 0 ∧ (0 : Int) < 8 ^ (n.toNat * 0)
    rw [Nat.mul_zero, Int.pow_zero]
    omega
  | m_z + 1, h_z => by
    have h1 := pkS_b hT n0 n6 a0 m_z (by omega)
    have h2 := pkR_b (f := fun j_z => T ((a + (m_z : Int)) * 6 + j_z)) h1.1 h1.2 n.toNat (fun j_z j0 j1 => hT (a + m_z) j_z (by omega) (by omega) j0 (by omega))
    show 0 ≤ pkR (fun j_z => T ((a + (m_z : Int)) * 6 + j_z)) n.toNat (pkS T n a m_z) ∧ pkR (fun j_z => T ((a + (m_z : Int)) * 6 + j_z)) n.toNat (pkS T n a m_z) < 8 ^ (n.toNat * (m_z + 1))
    rw [Nat.mul_add, Nat.mul_one, Int.pow_add]
    exact h2
theorem pkS_i {T U : Int → Int} {n a : Int} (hT : r3T T n) (hU : r3T U n) (n0 : 0 ≤ n) (a0 : 0 ≤ a) : ∀ m_z : Nat, a + (m_z : Int) ≤ n → pkS T n a m_z = pkS U n a m_z → ∀ i_z j_z : Int, a ≤ i_z → i_z < a + (m_z : Int) → 0 ≤ j_z → j_z < n → T (i_z * 6 + j_z) = U (i_z * 6 + j_z)
  | 0, _, _ => fun i_z j_z i0_z i1_z => by omega
  | m_z + 1, h_z, e_z => fun i_z j_z i0_z i1_z j0 j1 => by
    have h1 := pkR_i (f := fun j_z => T ((a + (m_z : Int)) * 6 + j_z)) (g := fun j_z => U ((a + (m_z : Int)) * 6 + j_z)) n.toNat (fun j_z j0 j1 => hT (a + m_z) j_z (by omega) (by omega) j0 (by omega)) (fun j_z j0 j1 => hU (a + m_z) j_z (by omega) (by omega) j0 (by omega)) e_z
    by_cases ei : i_z = a + (m_z : Int)
    · rw [ei]; exact h1.2 j_z j0 (by omega)
    · exact pkS_i hT hU n0 a0 m_z (by omega) h1.1 i_z j_z i0_z (by omega) j0 j1
theorem pkS_c {T U : Int → Int} {n a : Int} (n0 : 0 ≤ n) : ∀ m_z : Nat, (∀ i_z j_z : Int, a ≤ i_z → i_z < a + (m_z : Int) → 0 ≤ j_z → j_z < n → T (i_z * 6 + j_z) = U (i_z * 6 + j_z)) → pkS T n a m_z = pkS U n a m_z
  | 0, _ => rfl
  | m_z + 1, h_z => by
    show pkR (fun j_z => T ((a + (m_z : Int)) * 6 + j_z)) n.toNat (pkS T n a m_z) = pkR (fun j_z => U ((a + (m_z : Int)) * 6 + j_z)) n.toNat (pkS U n a m_z)
    rw [pkS_c n0 m_z (fun i_z j_z i0_z i1_z => h_z i_z j_z i0_z (by omega))]
    exact pkR_c n.toNat (fun j_z j0 j1 => h_z (a + m_z) j_z (by omega) (by omega) j0 (by omega))
/-- a table's pair of longs -/
def pk1 (T : Int → Int) (n : Int) : Int := pkS T n 0 (min n 3).toNat
def pk2 (T : Int → Int) (n : Int) : Int := pkS T n 3 (n - 3).toNat
theorem pk_b {T : Int → Int} {n : Int} (hT : r3T T n) (n0 : 0 ≤ n) (n6 : n ≤ 6) : (0 ≤ pk1 T n ∧ pk1 T n < 18014398509481984) ∧ 0 ≤ pk2 T n ∧ pk2 T n < 18014398509481984 := by
  have h1 := pkS_b (a := 0) hT n0 n6 (by omega) (min n 3).toNat (by omega)
  have e1 := p8z_le (n := n.toNat) (m := 0) (by omega) (min n 3).toNat (by omega)
  refine ⟨⟨h1.1, by unfold pk1; omega⟩, ?_⟩
  unfold pk2
  by_cases h3 : n ≤ 3
  · rw [show (n - 3).toNat = 0 by omega]
    show (0 : Int) ≤ 0 ∧ (0 : Int) < _
    omega
  · have h2 := pkS_b (a := 3) hT n0 n6 (by omega) (n - 3).toNat (by omega)
    have e2 := p8z_le (n := n.toNat) (m := 0) (by omega) (n - 3).toNat (by omega)
    exact ⟨h2.1, by omega⟩
theorem pk_i {T U : Int → Int} {n : Int} (hT : r3T T n) (hU : r3T U n) (n0 : 0 ≤ n) (n6 : n ≤ 6) (h1 : pk1 T n = pk1 U n) (h2 : pk2 T n = pk2 U n) : ∀ i_z j_z : Int, 0 ≤ i_z → i_z < n → 0 ≤ j_z → j_z < n → T (i_z * 6 + j_z) = U (i_z * 6 + j_z) := fun i_z j_z i0_z i1_z j0 j1 => by
  by_cases h3 : i_z < 3
  · exact pkS_i hT hU n0 (by omega) (min n 3).toNat (by omega) h1 i_z j_z i0_z (by omega) j0 j1
  · exact pkS_i hT hU n0 (by omega) (n - 3).toNat (by omega) h2 i_z j_z (by omega) (by omega) j0 j1
theorem pk_c {T U : Int → Int} {n : Int} (n0 : 0 ≤ n) (h : ∀ i_z j_z : Int, 0 ≤ i_z → i_z < n → 0 ≤ j_z → j_z < n → T (i_z * 6 + j_z) = U (i_z * 6 + j_z)) : pk1 T n = pk1 U n ∧ pk2 T n = pk2 U n := ⟨pkS_c n0 _ (fun i_z j_z i0_z i1_z j0 j1 => h i_z j_z i0_z (by omega) j0 j1), pkS_c n0 _ (fun i_z j_z i0_z i1_z j0 j1 => h i_z j_z (by omega) (by omega) j0 j1)⟩
theorem nl_shl3 {V : Nat} (hV : V < 1000000000000000000) : shV 0 (V : Int) 3 = ((8 * V : Nat) : Int) := by
  show ((Int64.ofInt (V : Int)).toBitVec <<< (((Int32.ofInt 3).toInt64 &&& 63).toBitVec.smod 64).toNat).toInt = _
  have ha_z : (((Int32.ofInt 3).toInt64 &&& 63).toBitVec.smod 64).toNat = 3 := by decide
  rw [ha_z, bv_n]
  have e_z : (BitVec.ofNat 64 V <<< 3).toNat = 8 * V := by
    rw [BitVec.toNat_shiftLeft, nt_n (by omega), Nat.shiftLeft_eq]
    show V * 8 % 18446744073709551616 = 8 * V
    omega
  rw [bv_i (by rw [e_z]; omega), e_z]
theorem pk_put {v d : Int} (v0 : 0 ≤ v) (v1 : v < 1000000000000000000) (d0 : 0 ≤ d) (d1 : d < 8) : pp_lb 4 (shV 0 v 3) d = 8 * v + d := by
  obtain ⟨V, rfl⟩ := Int.eq_ofNat_of_zero_le v0
  obtain ⟨D_z, rfl⟩ := Int.eq_ofNat_of_zero_le d0
  rw [nl_shl3 (by omega), nl_or (by omega) (by omega)]
  have h1 : 8 * V ||| D_z = 8 * V + D_z := (Nat.two_pow_add_eq_or_of_lt (i := 3) (show D_z < 2 ^ 3 by omega) V).symm
  rw [h1]
  omega
theorem pk_get {v d : Int} (v0 : 0 ≤ v) (v1 : v < 1000000000000000000) (d0 : 0 ≤ d) (d1 : d < 8) : pp_lb 3 (8 * v + d) 7 = d ∧ shV 2 (8 * v + d) 3 = v := by
  obtain ⟨V, rfl⟩ := Int.eq_ofNat_of_zero_le v0
  obtain ⟨D_z, rfl⟩ := Int.eq_ofNat_of_zero_le d0
  have e1 : (8 * (V : Int) + (D_z : Int)) = ((8 * V + D_z : Nat) : Int) := by omega
  rw [e1]
  refine ⟨?_, ?_⟩
  · have h1 := nl_and (V := 8 * V + D_z) (U := 7) (by omega) (by omega)
    have h2 : (8 * V + D_z) &&& 7 = D_z := by
      rw [show (7 : Nat) = 2 ^ 3 - 1 by rfl, Nat.and_two_pow_sub_one_eq_mod]
      omega
    rw [h2] at h1
    exact h1
  · rw [nl_ush (by omega) (by omega) (by omega)]
    have : (8 * V + D_z) / 2 ^ (3 : Int).toNat = V := by
      show (8 * V + D_z) / 8 = V
      omega
    rw [this]
end

section
/-! the class's pack and unpack, exactly -/
theorem sq_pack : pm_srt o_X4_pack = true := by decide +kernel
theorem sq_unpack : pm_srt o_X4_unpack = true := by decide +kernel
def vv1 (T : Int → Int) (n : Int) (i j : Nat) : Int := if i < 3 then pkR (fun x_z => T ((0 + (i : Int)) * 6 + x_z)) j (pkS T n 0 i) else pkS T n 0 3
def vv2 (T : Int → Int) (n : Int) (i j : Nat) : Int := if i < 3 then 0 else pkR (fun x_z => T ((3 + ((i - 3 : Nat) : Int)) * 6 + x_z)) j (pkS T n 3 (i - 3))
theorem vv_nx {T : Int → Int} {n : Int} (i : Nat) : vv1 T n i n.toNat = vv1 T n (i + 1) 0 ∧ vv2 T n i n.toNat = vv2 T n (i + 1) 0 := by
  unfold vv1 vv2
  by_cases h1 : i < 3
  · rw [if_pos h1, if_pos h1]
    by_cases h2 : i + 1 < 3
    · rw [if_pos h2, if_pos h2]
      exact ⟨rfl, rfl⟩
    · rw [if_neg h2, if_neg h2]
      have e_z : i = 2 := by omega
      subst e_z
      exact ⟨rfl, rfl⟩
  · rw [if_neg h1, if_neg h1, if_neg (by omega), if_neg (by omega)]
    refine ⟨rfl, ?_⟩
    have e_z : i + 1 - 3 = (i - 3) + 1 := by omega
    rw [e_z]
    rfl
theorem vv_end {T : Int → Int} {n : Int} (n0 : 0 ≤ n) (n6 : n ≤ 6) : vv1 T n n.toNat 0 = pk1 T n ∧ vv2 T n n.toNat 0 = pk2 T n := by
  unfold vv1 vv2 pk1 pk2
  by_cases h1 : n.toNat < 3
  · rw [if_pos h1, if_pos h1, show (min n 3).toNat = n.toNat by omega, show (n - 3).toNat = 0 by omega]
    exact ⟨rfl, rfl⟩
  · rw [if_neg h1, if_neg h1, show (min n 3).toNat = 3 by omega, show (n - 3).toNat = n.toNat - 3 by omega]
    exact ⟨rfl, rfl⟩
theorem vv_st {T : Int → Int} {n : Int} {i j : Nat} : (i < 3 → vv1 T n i (j + 1) = 8 * vv1 T n i j + (T ((i : Int) * 6 + (j : Int)) + 3) ∧ vv2 T n i (j + 1) = vv2 T n i j) ∧ (¬ i < 3 → vv2 T n i (j + 1) = 8 * vv2 T n i j + (T ((i : Int) * 6 + (j : Int)) + 3) ∧ vv1 T n i (j + 1) = vv1 T n i j) := by
  unfold vv1 vv2
  refine ⟨fun h1 => ?_, fun h1 => ?_⟩
  · rw [if_pos h1, if_pos h1, if_pos h1, if_pos h1]
    refine ⟨?_, rfl⟩
    show 8 * pkR _ j _ + (T ((0 + (i : Int)) * 6 + (j : Int)) + 3) = _
    rw [Int.zero_add]
  · rw [if_neg h1, if_neg h1, if_neg h1, if_neg h1]
    refine ⟨?_, rfl⟩
    show 8 * pkR _ j _ + (T ((3 + ((i - 3 : Nat) : Int)) * 6 + (j : Int)) + 3) = _
    rw [show (3 + ((i - 3 : Nat) : Int)) = (i : Int) by omega]
theorem vv_b {T : Int → Int} {n : Int} (hT : r3T T n) (n0 : 0 ≤ n) (n6 : n ≤ 6) {i j : Nat} (hi : (i : Int) < n) (hj : (j : Int) ≤ n) : (0 ≤ vv1 T n i j ∧ vv1 T n i j < 18014398509481985) ∧ 0 ≤ vv2 T n i j ∧ vv2 T n i j < 18014398509481985 := by
  have key_z : ∀ (a_z : Int) (m_z : Nat), 0 ≤ a_z → m_z ≤ 2 → a_z + (m_z : Int) < n → 0 ≤ pkR (fun x_z => T ((a_z + (m_z : Int)) * 6 + x_z)) j (pkS T n a_z m_z) ∧ pkR (fun x_z => T ((a_z + (m_z : Int)) * 6 + x_z)) j (pkS T n a_z m_z) < 18014398509481985 := fun a_z m_z a0_z hm_z ha_z => by
    have h1 := pkS_b (a := a_z) hT n0 n6 a0_z m_z (by omega)
    have h2 := pkR_b (f := fun x_z => T ((a_z + (m_z : Int)) * 6 + x_z)) h1.1 h1.2 j (fun x_z x0_z x1_z => hT (a_z + m_z) x_z (by omega) (by omega) x0_z (by omega))
    have h3 := p8z_le (n := n.toNat) (m := 0) (by omega) 3 (by omega)
    have h4 : (8 : Int) ^ (n.toNat * m_z) * 8 ^ j ≤ (8 : Int) ^ (n.toNat * 3) := by
      rw [← Int.pow_add]
      have h5 : n.toNat * m_z + j ≤ n.toNat * 3 := by
        have h6 : n.toNat * m_z ≤ n.toNat * 2 := Nat.mul_le_mul_left _ hm_z
        omega
      have h7 : (8 : Nat) ^ (n.toNat * m_z + j) ≤ 8 ^ (n.toNat * 3) := Nat.pow_le_pow_right (by omega) h5
      have h8 : (((8 : Nat) ^ (n.toNat * m_z + j) : Nat) : Int) = (8 : Int) ^ (n.toNat * m_z + j) := by rw [Int.natCast_pow]; rfl
      have h9 : (((8 : Nat) ^ (n.toNat * 3) : Nat) : Int) = (8 : Int) ^ (n.toNat * 3) := by rw [Int.natCast_pow]; rfl
      omega
    exact ⟨h2.1, by omega⟩
  unfold vv1 vv2
  by_cases h1 : i < 3
  · rw [if_pos h1, if_pos h1]
    have h2 := key_z 0 i (by omega) (by omega) (by omega)
    exact ⟨h2, by omega, by omega⟩
  · rw [if_neg h1, if_neg h1]
    have h2 := key_z 3 (i - 3) (by omega) (by omega) (by omega)
    have h3 := pkS_b (a := 0) hT n0 n6 (by omega) 3 (by omega)
    have h4 := p8z_le (n := n.toNat) (m := 0) (by omega) 3 (by omega)
    exact ⟨⟨h3.1, by omega⟩, h2⟩
theorem u7_4 {B : pm_A} {x : Int} (hB : gH wX B) (hx : r64 x) : gH wX (pm_upd B 413 4 x) := by
  refine gH_upd hB (k := (0, 4, 6, [(0, 0, 3000), (0, (-2147483648), 2147483647), (2, 32, 0), (2, 10, 0), (1, (-9223372036854775808), 9223372036854775807), (1, (-9223372036854775808), 9223372036854775807)])) (by rw [k413]; rfl) (fun _ j_z a_z hj ej => ?_) (fun q_z => by cases q_z)
  have : j_z = 4 := by omega
  subst this
  cases hj
  exact ⟨rfl, hx.1, hx.2⟩
theorem u7_5 {B : pm_A} {x : Int} (hB : gH wX B) (hx : r64 x) : gH wX (pm_upd B 413 5 x) := by
  refine gH_upd hB (k := (0, 4, 6, [(0, 0, 3000), (0, (-2147483648), 2147483647), (2, 32, 0), (2, 10, 0), (1, (-9223372036854775808), 9223372036854775807), (1, (-9223372036854775808), 9223372036854775807)])) (by rw [k413]; rfl) (fun _ j_z a_z hj ej => ?_) (fun q_z => by cases q_z)
  have : j_z = 5 := by omega
  subst this
  cases hj
  exact ⟨rfl, hx.1, hx.2⟩
def paI (A B : pm_A) (n : Int) (i j : Nat) : Prop := gH wX B ∧ (∀ r_z j_z : Int, ¬ (r_z = 413 ∧ (j_z = 4 ∨ j_z = 5)) → B r_z j_z = A r_z j_z) ∧ B 413 4 = vv1 (A 415) n i j ∧ B 413 5 = vv2 (A 415) n i j
def paP (A : pm_A) (n : Int) (r : pm_R) : Prop := r.1 = none ∧ gH wX r.2 ∧ (∀ r_z j_z : Int, ¬ (r_z = 413 ∧ (j_z = 4 ∨ j_z = 5)) → r.2 r_z j_z = A r_z j_z) ∧ r.2 413 4 = pk1 (A 415) n ∧ r.2 413 5 = pk2 (A 415) n
theorem pa_19 {A : pm_A} {n : Int} {i : Nat} (hK : BK A) (hT : r3T (A 415) n) (n0 : 0 ≤ n) (n6 : n ≤ 6) (hi : (i : Int) < n) (H : ∀ B_z w3_z w4_z, paI A B_z n (i + 1) 0 → Tm pmt (an_sh wX) o_X4_pack 12 ([(2, 413), (0, n), (0, ((i + 1 : Nat) : Int)), w3_z, w4_z], [], B_z) (paP A n)) : ∀ (m_z j_z : Nat) (B_z : pm_A) (w4_z : pm_V), 6 - j_z < m_z → (j_z : Int) ≤ n → paI A B_z n i j_z → Tm pmt (an_sh wX) o_X4_pack 19 ([(2, 413), (0, n), (0, (i : Int)), (0, (j_z : Int)), w4_z], [], B_z) (paP A n) := by
  intro m_z
  induction m_z with
  | zero => intro j_z B_z w4_z h_z; omega
  | succ m_z ih_z =>
    intro j_z B_z w4_z hm_z hj hI
    obtain ⟨hB_z, hF, e4_z, e5⟩ := hI
    have b3 : B_z 413 3 = 415 := by rw [hF 413 3 (by omega)]; exact hK.2.2.2.2
    have vb := vv_b hT n0 n6 hi hj
    have st_z := vv_st (T := A 415) (n := n) (i := i) (j := j_z)
    refine wq_ok sq_pack (fr := []) (cuts := [12, 19]) (J := fun pc st_z => (pc = 12 ∧ n ≤ (j_z : Int) ∧ ∃ w_z, st_z = ([(2, 413), (0, n), (0, (i : Int) + 1), (0, (j_z : Int)), w_z], [], B_z)) ∨ (pc = 19 ∧ (j_z : Int) < n ∧ i < 3 ∧ ∃ w_z, st_z = ([(2, 413), (0, n), (0, (i : Int)), (0, (j_z : Int) + 1), w_z], [], pm_upd B_z 413 4 (pp_lb 4 (shV 0 (B_z 413 4) 3) (A 415 ((i : Int) * 6 + (j_z : Int)) + 3)))) ∨ (pc = 19 ∧ (j_z : Int) < n ∧ ¬ i < 3 ∧ ∃ w_z, st_z = ([(2, 413), (0, n), (0, (i : Int)), (0, (j_z : Int) + 1), w_z], [], pm_upd B_z 413 5 (pp_lb 4 (shV 0 (B_z 413 5) 3) (A 415 ((i : Int) * 6 + (j_z : Int)) + 3))))) ?_ 60 19 _ ?_
    · rintro pc st_z (⟨rfl, h1, w_z, rfl⟩ | ⟨rfl, h1, h2, w_z, rfl⟩ | ⟨rfl, h1, h2, w_z, rfl⟩)
      · rw [show (i : Int) + 1 = ((i + 1 : Nat) : Int) by omega]
        have ej : j_z = n.toNat := by omega
        rw [ej, (vv_nx i).1] at e4_z
        rw [ej, (vv_nx i).2] at e5
        exact H B_z _ _ ⟨hB_z, hF, e4_z, e5⟩
      · have r_z := hT (i : Int) (j_z : Int) (by omega) hi (by omega) h1
        have e_z := pk_put (v := B_z 413 4) (d := A 415 ((i : Int) * 6 + (j_z : Int)) + 3) (by rw [e4_z]; exact vb.1.1) (by rw [e4_z]; omega) (by omega) (by omega)
        rw [e_z, show (j_z : Int) + 1 = ((j_z + 1 : Nat) : Int) by omega]
        refine ih_z (j_z + 1) _ _ (by omega) (by omega) ⟨u7_4 hB_z (by unfold r64; rw [e4_z]; omega), fun r_z j_z hr => by rw [upd_o (by omega)]; exact hF r_z j_z hr, ?_, ?_⟩
        · rw [upd_at, e4_z, (st_z.1 h2).1]
        · rw [upd_o (by omega), e5, (st_z.1 h2).2]
      · have r_z := hT (i : Int) (j_z : Int) (by omega) hi (by omega) h1
        have e_z := pk_put (v := B_z 413 5) (d := A 415 ((i : Int) * 6 + (j_z : Int)) + 3) (by rw [e5]; exact vb.2.1) (by rw [e5]; omega) (by omega) (by omega)
        rw [e_z, show (j_z : Int) + 1 = ((j_z + 1 : Nat) : Int) by omega]
        refine ih_z (j_z + 1) _ _ (by omega) (by omega) ⟨u7_5 hB_z (by unfold r64; rw [e5]; omega), fun r_z j_z hr => by rw [upd_o (by omega)]; exact hF r_z j_z hr, ?_, ?_⟩
        · rw [upd_o (by omega), e4_z, (st_z.2 h2).2]
        · rw [upd_at, e5, (st_z.2 h2).1]
    · refine ⟨fun h1 => ?_, fun h1 => ?_⟩
      · refine ⟨⟨by omega, by omega⟩, ?_⟩
        exact Or.inl ⟨rfl, h1, _, rfl⟩
      · have r_z := hT (i : Int) (j_z : Int) (by omega) hi (by omega) h1
        have eT : B_z 415 ((i : Int) * 6 + (j_z : Int)) = A 415 ((i : Int) * 6 + (j_z : Int)) := hF _ _ (by omega)
        refine ⟨oX_7 (by omega) k413 3 rfl, ?_⟩
        refine ⟨⟨by omega, by omega⟩, ?_⟩
        refine ⟨⟨by omega, by omega⟩, ?_⟩
        refine ⟨aX_10 (by rw [b3]; omega) (by rw [b3]; exact k415) (by omega) (by omega), ?_⟩
        rw [b3, eT]
        refine ⟨⟨by omega, by omega⟩, ?_⟩
        refine ⟨fun h2 => ?_, fun h2 => ?_⟩
        · refine ⟨oX_7 (by omega) k413 5 rfl, ?_⟩
          refine ⟨oX_7 (by omega) k413 5 rfl, ?_⟩
          refine ⟨⟨by omega, by omega⟩, ?_⟩
          exact Or.inr (Or.inr ⟨rfl, h1, by omega, _, rfl⟩)
        · refine ⟨oX_7 (by omega) k413 4 rfl, ?_⟩
          refine ⟨oX_7 (by omega) k413 4 rfl, ?_⟩
          refine ⟨⟨by omega, by omega⟩, ?_⟩
          exact Or.inr (Or.inl ⟨rfl, h1, by omega, _, rfl⟩)
theorem pa_12 {A : pm_A} {n : Int} (hK : BK A) (hT : r3T (A 415) n) (n0 : 0 ≤ n) (n6 : n ≤ 6) : ∀ (m_z i_z : Nat) (B_z : pm_A) (w3_z w4_z : pm_V), 6 - i_z < m_z → (i_z : Int) ≤ n → paI A B_z n i_z 0 → Tm pmt (an_sh wX) o_X4_pack 12 ([(2, 413), (0, n), (0, (i_z : Int)), w3_z, w4_z], [], B_z) (paP A n) := by
  intro m_z
  induction m_z with
  | zero => intro i_z B_z w3_z w4_z h_z; omega
  | succ m_z ih_z =>
    intro i_z B_z w3_z w4_z hm_z hi_z hI
    refine wq_ok sq_pack (fr := []) (cuts := [19]) (J := fun pc st_z => pc = 19 ∧ (i_z : Int) < n ∧ st_z = ([(2, 413), (0, n), (0, (i_z : Int)), (0, 0), w4_z], [], B_z)) ?_ 20 12 _ ?_
    · rintro pc st_z ⟨rfl, h1, rfl⟩
      exact pa_19 hK hT n0 n6 h1 (fun C_z w3_z w4_z hC => ih_z (i_z + 1) C_z w3_z w4_z (by omega) (by omega) hC) _ 0 B_z _ (Nat.lt_succ_self _) (by omega) hI
    · refine ⟨fun h1 => ?_, fun h1 => ?_⟩
      · have ei : i_z = n.toNat := by omega
        obtain ⟨hB_z, hF, e4_z, e5⟩ := hI
        rw [ei, (vv_end n0 n6).1] at e4_z
        rw [ei, (vv_end n0 n6).2] at e5
        exact ⟨rfl, hB_z, hF, e4_z, e5⟩
      · exact ⟨rfl, h1, rfl⟩
theorem pack_ex {A : pm_A} {n : Int} (hA : gH wX A) (hK : BK A) (hT : r3T (A 415) n) (n0 : 0 ≤ n) (n6 : n ≤ 6) : Cl pmt (an_sh wX) 36 [(2, 413), (0, n)] A (paP A n) := by
  refine Cl.of (Nat.le_of_ble_eq_true rfl) ?_
  refine wq_ok (full := o_X4_pack) sq_pack (fr := []) (cuts := [12]) (J := fun pc st_z => pc = 12 ∧ st_z = ([(2, 413), (0, n), (0, 0), (9, 0), (9, 0)], [], pm_upd (pm_upd A 413 4 0) 413 5 0)) ?_ 20 0 _ ?_
  · rintro pc st_z ⟨rfl, rfl⟩
    refine pa_12 hK hT n0 n6 _ 0 _ _ _ (Nat.lt_succ_self _) (by omega) ⟨u7_5 (u7_4 hA ⟨by omega, by omega⟩) ⟨by omega, by omega⟩, fun r_z j_z hr => by rw [upd_o (by omega), upd_o (by omega)], ?_, ?_⟩
    · rw [upd_o (by omega), upd_at]; rfl
    · rw [upd_at]; rfl
  · refine ⟨oX_7 (by omega) k413 4 rfl, ?_⟩
    refine ⟨oX_7 (by omega) k413 5 rfl, ?_⟩
    exact ⟨rfl, rfl⟩
/-- unpack: what stands above (i, j) is told -/
def upI (A B : pm_A) (T : Int → Int) (n i j : Int) : Prop := gH wX B ∧ (∀ r_z j_z : Int, ¬ r_z = 415 → B r_z j_z = A r_z j_z) ∧ ∀ a_z b_z : Int, 0 ≤ a_z → a_z < n → 0 ≤ b_z → b_z < n → i < a_z ∨ (a_z = i ∧ j < b_z) → B 415 (a_z * 6 + b_z) = T (a_z * 6 + b_z)
def upP (A : pm_A) (T : Int → Int) (n : Int) (r : pm_R) : Prop := r.1 = none ∧ gH wX r.2 ∧ (∀ r_z j_z : Int, ¬ r_z = 415 → r.2 r_z j_z = A r_z j_z) ∧ ∀ a_z b_z : Int, 0 ≤ a_z → a_z < n → 0 ≤ b_z → b_z < n → r.2 415 (a_z * 6 + b_z) = T (a_z * 6 + b_z)
theorem up_31 {A : pm_A} {T : Int → Int} {n : Int} {i : Nat} {w2 : pm_V} (hK : BK A) (hT : r3T T n) (n0 : 0 ≤ n) (n6 : n ≤ 6) (hi : (i : Int) < n) (H : ∀ B_z w9_z, upI A B_z T n ((i : Int) - 1) n → Tm pmt (an_sh wX) o_X4_unpack 21 ([(2, 413), (2, 407), w2, (0, n), (1, vv1 T n i 0), (9, 0), (1, vv2 T n i 0), (9, 0), (0, (i : Int) - 1), w9_z], [], B_z) (upP A T n)) : ∀ (j_z : Nat) (B_z : pm_A), (j_z : Int) ≤ n → upI A B_z T n (i : Int) ((j_z : Int) - 1) → Tm pmt (an_sh wX) o_X4_unpack 31 ([(2, 413), (2, 407), w2, (0, n), (1, vv1 T n i j_z), (9, 0), (1, vv2 T n i j_z), (9, 0), (0, (i : Int)), (0, (j_z : Int) - 1)], [], B_z) (upP A T n) := by
  intro j_z
  induction j_z with
  | zero =>
    intro B_z hj hI
    refine wq_ok sq_unpack (fr := []) (cuts := [21]) (J := fun pc st_z => pc = 21 ∧ st_z = ([(2, 413), (2, 407), w2, (0, n), (1, vv1 T n i 0), (9, 0), (1, vv2 T n i 0), (9, 0), (0, (i : Int) + (-1)), (0, ((0 : Nat) : Int) - 1)], [], B_z)) ?_ 20 31 _ ?_
    · rintro pc st_z ⟨rfl, rfl⟩
      rw [show (i : Int) + (-1) = (i : Int) - 1 by omega]
      exact H B_z _ ⟨hI.1, hI.2.1, fun a_z b_z a0_z a1_z b0 b1 hab => hI.2.2 a_z b_z a0_z a1_z b0 b1 (by omega)⟩
    · refine ⟨fun h1 => ?_, fun h1 => absurd h1 (by omega)⟩
      refine ⟨⟨by omega, by omega⟩, ?_⟩
      exact ⟨rfl, rfl⟩
  | succ j_z ih_z =>
    intro B_z hj hI
    have b3 : B_z 413 3 = 415 := by rw [hI.2.1 413 3 (by omega)]; exact hK.2.2.2.2
    have vb := vv_b hT n0 n6 (i := i) (j := j_z) hi (by omega)
    have st_z := vv_st (T := T) (n := n) (i := i) (j := j_z)
    have r_z := hT (i : Int) (j_z : Int) (by omega) hi (by omega) (by omega)
    have ejj : ((j_z + 1 : Nat) : Int) - 1 = (j_z : Int) := by omega
    rw [ejj] at hI ⊢
    have go_z : ∀ x_z : Int, x_z = T ((i : Int) * 6 + (j_z : Int)) → upI A (pm_upd B_z 415 ((i : Int) * 6 + (j_z : Int)) x_z) T n (i : Int) ((j_z : Int) - 1) := fun x_z hx => by
      refine ⟨uX_10 hI.1 k415 (by omega) (by omega), fun a_z b_z ha_z => by rw [upd_o (by omega)]; exact hI.2.1 a_z b_z ha_z, fun a_z b_z a0_z a1_z b0 b1 hab => ?_⟩
      by_cases e_z : a_z = (i : Int) ∧ b_z = (j_z : Int)
      · rw [e_z.1, e_z.2, upd_at]; exact hx
      · rw [upd_o (by omega)]
        exact hI.2.2 a_z b_z a0_z a1_z b0 b1 (by omega)
    by_cases h3 : i < 3
    · have s1_z := st_z.1 h3
      have g_z := pk_get (v := vv1 T n i j_z) (d := T ((i : Int) * 6 + (j_z : Int)) + 3) vb.1.1 (by omega) (by omega) (by omega)
      rw [← s1_z.1] at g_z
      refine wq_ok sq_unpack (fr := []) (cuts := [31]) (J := fun pc st_z => pc = 31 ∧ st_z = ([(2, 413), (2, 407), w2, (0, n), (1, shV 2 (vv1 T n i (j_z + 1)) 3), (9, 0), (1, vv2 T n i (j_z + 1)), (9, 0), (0, (i : Int)), (0, (j_z : Int) + (-1))], [], pm_upd B_z 415 ((i : Int) * 6 + (j_z : Int)) (pp_lb 3 (vv1 T n i (j_z + 1)) 7 - 3))) ?_ 60 31 _ ?_
      · rintro pc st_z ⟨rfl, rfl⟩
        rw [g_z.1, g_z.2, s1_z.2, show (j_z : Int) + (-1) = (j_z : Int) - 1 by omega]
        exact ih_z _ (by omega) (go_z _ (by omega))
      · refine ⟨fun h1 => absurd h1 (by omega), fun h1 => ?_⟩
        refine ⟨fun h2 => absurd h2 (by omega), fun h2 => ?_⟩
        refine ⟨oX_7 (by omega) k413 3 rfl, ?_⟩
        refine ⟨⟨by omega, by omega⟩, ?_⟩
        refine ⟨⟨by omega, by omega⟩, ?_⟩
        refine ⟨by rw [g_z.1]; exact ⟨by omega, by omega⟩, ?_⟩
        refine ⟨by rw [g_z.1]; exact ⟨by omega, by omega⟩, ?_⟩
        rw [b3]
        refine ⟨tX_10 (by omega) k415 (by omega) (by omega) rfl, ?_⟩
        refine ⟨⟨by omega, by omega⟩, ?_⟩
        exact ⟨rfl, rfl⟩
    · have s1_z := st_z.2 h3
      have g_z := pk_get (v := vv2 T n i j_z) (d := T ((i : Int) * 6 + (j_z : Int)) + 3) vb.2.1 (by omega) (by omega) (by omega)
      rw [← s1_z.1] at g_z
      refine wq_ok sq_unpack (fr := []) (cuts := [31]) (J := fun pc st_z => pc = 31 ∧ st_z = ([(2, 413), (2, 407), w2, (0, n), (1, vv1 T n i (j_z + 1)), (9, 0), (1, shV 2 (vv2 T n i (j_z + 1)) 3), (9, 0), (0, (i : Int)), (0, (j_z : Int) + (-1))], [], pm_upd B_z 415 ((i : Int) * 6 + (j_z : Int)) (pp_lb 3 (vv2 T n i (j_z + 1)) 7 - 3))) ?_ 60 31 _ ?_
      · rintro pc st_z ⟨rfl, rfl⟩
        rw [g_z.1, g_z.2, s1_z.2, show (j_z : Int) + (-1) = (j_z : Int) - 1 by omega]
        exact ih_z _ (by omega) (go_z _ (by omega))
      · refine ⟨fun h1 => absurd h1 (by omega), fun h1 => ?_⟩
        refine ⟨fun h2 => ?_, fun h2 => absurd h2 (by omega)⟩
        refine ⟨oX_7 (by omega) k413 3 rfl, ?_⟩
        refine ⟨⟨by omega, by omega⟩, ?_⟩
        refine ⟨⟨by omega, by omega⟩, ?_⟩
        refine ⟨by rw [g_z.1]; exact ⟨by omega, by omega⟩, ?_⟩
        refine ⟨by rw [g_z.1]; exact ⟨by omega, by omega⟩, ?_⟩
        rw [b3]
        refine ⟨tX_10 (by omega) k415 (by omega) (by omega) rfl, ?_⟩
        refine ⟨⟨by omega, by omega⟩, ?_⟩
        exact ⟨rfl, rfl⟩
theorem up_21 {A : pm_A} {T : Int → Int} {n : Int} {w2 : pm_V} (hK : BK A) (hT : r3T T n) (n0 : 0 ≤ n) (n6 : n ≤ 6) : ∀ (i_z : Nat) (B_z : pm_A) (w9_z : pm_V), (i_z : Int) ≤ n → upI A B_z T n ((i_z : Int) - 1) n → Tm pmt (an_sh wX) o_X4_unpack 21 ([(2, 413), (2, 407), w2, (0, n), (1, vv1 T n i_z 0), (9, 0), (1, vv2 T n i_z 0), (9, 0), (0, (i_z : Int) - 1), w9_z], [], B_z) (upP A T n) := by
  intro i_z
  induction i_z with
  | zero =>
    intro B_z w9_z hi_z hI
    refine wq_ok sq_unpack (fr := []) (cuts := []) (J := fun _ _ => False) (fun _ _ h_z => h_z.elim) 10 21 _ ?_
    refine ⟨fun h1 => ?_, fun h1 => absurd h1 (by omega)⟩
    exact ⟨rfl, hI.1, hI.2.1, fun a_z b_z a0_z a1_z b0 b1 => hI.2.2 a_z b_z a0_z a1_z b0 b1 (by omega)⟩
  | succ i_z ih_z =>
    intro B_z w9_z hi_z hI
    have eii : ((i_z + 1 : Nat) : Int) - 1 = (i_z : Int) := by omega
    rw [eii] at hI ⊢
    rw [← (vv_nx i_z).1, ← (vv_nx i_z).2]
    refine wq_ok sq_unpack (fr := []) (cuts := [31]) (J := fun pc st_z => pc = 31 ∧ st_z = ([(2, 413), (2, 407), w2, (0, n), (1, vv1 T n i_z n.toNat), (9, 0), (1, vv2 T n i_z n.toNat), (9, 0), (0, (i_z : Int)), (0, n - 1)], [], B_z)) ?_ 20 21 _ ?_
    · rintro pc st_z ⟨rfl, rfl⟩
      have h1 := up_31 (w2 := w2) hK hT n0 n6 (i := i_z) (by omega) (fun C_z w_z hC => ih_z C_z w_z (by omega) hC) n.toNat B_z (by omega) ⟨hI.1, hI.2.1, fun a_z b_z a0_z a1_z b0 b1 hab => hI.2.2 a_z b_z a0_z a1_z b0 b1 (by omega)⟩
      rw [show ((n.toNat : Nat) : Int) - 1 = n - 1 by omega] at h1
      exact h1
    · refine ⟨fun h1 => absurd h1 (by omega), fun h1 => ?_⟩
      refine ⟨⟨by omega, by omega⟩, ?_⟩
      exact ⟨rfl, rfl⟩
theorem unpack_ex {A : pm_A} {T : Int → Int} {n t : Int} (hA : gH wX A) (hK : BK A) (hT : r3T T n) (n0 : 0 ≤ n) (n6 : n ≤ 6) (t0 : 0 ≤ t) (t1 : t < 3000) (e1 : A 408 t = pk1 T n) (e2 : A 409 t = pk2 T n) : Cl pmt (an_sh wX) 38 [(2, 413), (2, 407), (0, t), (0, n)] A (upP A T n) := by
  obtain ⟨⟨b1, b2, _⟩, _⟩ := id hK
  refine Cl.of (Nat.le_of_ble_eq_true rfl) ?_
  refine wq_ok (full := o_X4_unpack) sq_unpack (fr := []) (cuts := [21]) (J := fun pc st_z => pc = 21 ∧ st_z = ([(2, 413), (2, 407), (0, t), (0, n), (1, A 408 t), (9, 0), (1, A 409 t), (9, 0), (0, n - 1), (9, 0)], [], A)) ?_ 30 0 _ ?_
  · rintro pc st_z ⟨rfl, rfl⟩
    rw [e1, e2, ← (vv_end n0 n6).1, ← (vv_end n0 n6).2]
    have h1 := up_21 (w2 := (0, t)) hK hT n0 n6 n.toNat A (9, 0) (by omega) ⟨hA, fun _ _ _ => rfl, fun a_z b_z a0_z a1_z b0 b1 hab => by omega⟩
    rw [show ((n.toNat : Nat) : Int) - 1 = n - 1 by omega] at h1
    exact h1
  · refine ⟨oX_6 (by omega) k407 0 rfl, ?_⟩
    refine ⟨aX_30 (by rw [b1]; omega) (by rw [b1]; exact k408) t0 t1, ?_⟩
    refine ⟨oX_6 (by omega) k407 1 rfl, ?_⟩
    refine ⟨aX_30 (by rw [b2]; omega) (by rw [b2]; exact k409) t0 t1, ?_⟩
    rw [b1, b2]
    refine ⟨⟨by omega, by omega⟩, ?_⟩
    exact ⟨rfl, rfl⟩
end

section
/-! the class's tracePath, judge, finite, exactly -/
theorem sq_trace : pm_srt o_X4_tracePath = true := by decide +kernel
theorem sq_judge : pm_srt o_X4_judge = true := by decide +kernel
theorem sq_Xfin : pm_srt o_X9_finite = true := by decide +kernel
theorem u7_0 {B : pm_A} {x : Int} (hB : gH wX B) (h0 : 0 ≤ x) (h1 : x ≤ 3000) : gH wX (pm_upd B 413 0 x) := by
  refine gH_upd hB (k := (0, 4, 6, [(0, 0, 3000), (0, (-2147483648), 2147483647), (2, 32, 0), (2, 10, 0), (1, (-9223372036854775808), 9223372036854775807), (1, (-9223372036854775808), 9223372036854775807)])) (by rw [k413]; rfl) (fun _ j_z a_z hj ej => ?_) (fun q_z => by cases q_z)
  have : j_z = 0 := by omega
  subst this
  cases hj
  exact ⟨rfl, h0, h1⟩
theorem u7_1 {B : pm_A} {x : Int} (hB : gH wX B) (hx : r32 x) : gH wX (pm_upd B 413 1 x) := by
  refine gH_upd hB (k := (0, 4, 6, [(0, 0, 3000), (0, (-2147483648), 2147483647), (2, 32, 0), (2, 10, 0), (1, (-9223372036854775808), 9223372036854775807), (1, (-9223372036854775808), 9223372036854775807)])) (by rw [k413]; rfl) (fun _ j_z a_z hj ej => ?_) (fun q_z => by cases q_z)
  have : j_z = 1 := by omega
  subst this
  cases hj
  exact ⟨rfl, hx.1, hx.2⟩
/-- the notes of an entry tell its way -/
def ntE (R : List (List (Fin 12))) (F N : Int → Int) (e : Nat) (p : List (Fin 12)) : Prop := (p = [] ∧ F (e : Int) = -1) ∨ ∃ (q_z : List (Fin 12)) (f_z : Fin 12) (d_z : Nat), p = q_z ++ [f_z] ∧ d_z < e ∧ R[d_z]? = some q_z ∧ F (e : Int) = (d_z : Int) ∧ N (e : Int) = (f_z.1 : Int)
theorem tk_s {p q : List (Fin 12)} {f : Fin 12} {m : Nat} (hm : m < p.length) (h : p.take (m + 1) = q ++ [f]) : q = p.take m ∧ p[m]? = some f := by
  have h1 : p.take (m + 1) = p.take m ++ [p[m]] := by rw [List.take_succ, List.getElem?_eq_getElem hm]; rfl
  rw [h1] at h
  have h2 := List.append_inj' h rfl
  have h3 : p[m] = f := by
    have := h2.2
    injection this
  exact ⟨h2.1.symm, by rw [List.getElem?_eq_getElem hm, h3]⟩
theorem nt_s {R : List (List (Fin 12))} {F N : Int → Int} {e m : Nat} {p : List (Fin 12)} (hm : m < p.length) (h : ntE R F N e (p.take (m + 1))) : ∃ (f_z : Fin 12) (d_z : Nat), p[m]? = some f_z ∧ d_z < e ∧ R[d_z]? = some (p.take m) ∧ F (e : Int) = (d_z : Int) ∧ N (e : Int) = (f_z.1 : Int) := by
  rcases h with ⟨h1, _⟩ | ⟨q_z, f_z, d_z, h1, h2, h3, h4, h5⟩
  · exfalso
    have h2 := congrArg List.length h1
    rw [List.length_take] at h2
    have h3 : min (m + 1) p.length = 0 := h2
    omega
  · have h6 := tk_s hm h1
    rw [h6.1] at h3
    exact ⟨f_z, d_z, h6.2, h2, h3, h4, h5⟩
theorem nt_0 {R : List (List (Fin 12))} {F N : Int → Int} {e : Nat} {p : List (Fin 12)} (h : ntE R F N e (p.take 0)) : F (e : Int) = -1 := by
  rcases h with ⟨_, h1⟩ | ⟨q_z, f_z, d_z, h1, _⟩
  · exact h1
  · exfalso
    have h2 := congrArg List.length h1
    rw [List.take_zero, List.length_append] at h2
    have h3 : 0 = q_z.length + 1 := h2
    omega
def tpF (A B : pm_A) : Prop := gH wX B ∧ ∀ r_z j_z : Int, ¬ (r_z = 413 ∧ j_z = 0) → ¬ r_z = 414 → B r_z j_z = A r_z j_z
def tpP (A : pm_A) (q : List (Fin 12)) (r : pm_R) : Prop := r.1 = none ∧ tpF A r.2 ∧ r.2 413 0 = (q.length : Int) ∧ ∀ (i_z : Nat) (f_z : Fin 12), q[i_z]? = some f_z → r.2 414 (i_z : Int) = (f_z.1 : Int)
def tpR (R : List (List (Fin 12))) (A : pm_A) : Prop := (R.length ≤ 3000) ∧ ∀ (e_z : Nat) (p_z : List (Fin 12)), R[e_z]? = some p_z → p_z.length ≤ e_z ∧ ntE R (A 410) (A 411) e_z p_z
theorem tqh_74 {A : pm_A} {R : List (List (Fin 12))} {p : List (Fin 12)} {f : Fin 12} {w2 : pm_V} {x3 : Int} (hK : BK A) (hR : tpR R A) (hp : p.length ≤ 2999) : ∀ (m_z e_z : Nat) (B_z : pm_A), m_z ≤ p.length → R[e_z]? = some (p.take m_z) → tpF A B_z → B_z 413 0 = (p.length : Int) + 1 → (∀ (i_z : Nat) (g_z : Fin 12), m_z ≤ i_z → (p ++ [f])[i_z]? = some g_z → B_z 414 (i_z : Int) = (g_z.1 : Int)) → Tm pmt (an_sh wX) o_X4_tracePath 74 ([(2, 413), (2, 407), w2, (0, x3), (0, (e_z : Int)), (0, (m_z : Int) - 1)], [], B_z) (tpP A (p ++ [f])) := by
  obtain ⟨⟨_, _, b3, b4_z, _⟩, _, _, b7_z, _⟩ := id hK
  intro m_z
  induction m_z with
  | zero =>
    intro e_z B_z hm_z he hF h0 hq
    refine wq_ok sq_trace (fr := []) (cuts := []) (J := fun _ _ => False) (fun _ _ h_z => h_z.elim) 10 74 _ ?_
    refine ⟨fun h1 => ?_, fun h1 => absurd h1 (by omega)⟩
    refine ⟨rfl, hF, ?_, fun i_z g_z hg => hq i_z g_z (by omega) hg⟩
    show B_z 413 0 = _
    rw [h0, List.length_append]
    rfl
  | succ m_z ih_z =>
    intro e_z B_z hm_z he hF h0 hq
    have hlt := (List.getElem?_eq_some_iff.mp he).1
    have hl3 := hR.1
    obtain ⟨g_z, d_z, n1_z, n2_z, n3_z, n4_z, n5_z⟩ := nt_s (by omega) (hR.2 e_z _ he).2
    have o410 : B_z 410 (e_z : Int) = A 410 (e_z : Int) := hF.2 _ _ (by omega) (by omega)
    have o411 : B_z 411 (e_z : Int) = A 411 (e_z : Int) := hF.2 _ _ (by omega) (by omega)
    have c2_z : B_z 413 2 = 414 := by rw [hF.2 _ _ (by omega) (by omega)]; exact b7_z
    have c3_z : B_z 407 3 = 411 := by rw [hF.2 _ _ (by omega) (by omega)]; exact b4_z
    have ejj : ((m_z + 1 : Nat) : Int) - 1 = (m_z : Int) := by omega
    rw [ejj]
    have hC : gH wX (pm_upd B_z 414 (m_z : Int) (g_z.1 : Int)) := uX_32 hF.1 k414 (by omega) (by omega)
    have c4_z : pm_upd B_z 414 (m_z : Int) (g_z.1 : Int) 407 2 = 410 := by rw [upd_o (by omega), hF.2 _ _ (by omega) (by omega)]; exact b3
    have c5_z : pm_upd B_z 414 (m_z : Int) (g_z.1 : Int) 410 (e_z : Int) = (d_z : Int) := by rw [upd_o (by omega), o410]; exact n4_z
    refine wq_ok sq_trace (fr := []) (cuts := [74]) (J := fun pc st_z => pc = 74 ∧ st_z = ([(2, 413), (2, 407), w2, (0, x3), (0, (d_z : Int)), (0, (m_z : Int) + (-1))], [], pm_upd B_z 414 (m_z : Int) (g_z.1 : Int))) ?_ 40 74 _ ?_
    · rintro pc st_z ⟨rfl, rfl⟩
      rw [show (m_z : Int) + (-1) = (m_z : Int) - 1 by omega]
      refine ih_z d_z _ (by omega) n3_z ⟨hC, fun r_z j_z h1 h2 => by rw [upd_o (by omega)]; exact hF.2 r_z j_z h1 h2⟩ (by rw [upd_o (by omega)]; exact h0) (fun i_z u_z hi_z hu => ?_)
      by_cases ei : i_z = m_z
      · rw [ei, List.getElem?_append_left (by omega), n1_z] at hu
        rw [ei, upd_at]
        have := Option.some.inj hu
        rw [this]
      · rw [upd_o (by omega)]
        exact hq i_z u_z (by omega) hu
    · refine ⟨fun h1 => absurd h1 (by omega), fun h1 => ?_⟩
      refine ⟨oX_7 (by omega) k413 2 rfl, ?_⟩
      refine ⟨oX_6 (by omega) k407 3 rfl, ?_⟩
      refine ⟨aX_32 (by rw [c3_z]; omega) (by rw [c3_z]; exact k411) (by omega) (by omega), ?_⟩
      rw [c2_z, c3_z, o411, n5_z]
      refine ⟨tX_32 (by omega) k414 (by omega) (by omega) rfl, ?_⟩
      refine ⟨oX_6 (by omega) k407 2 rfl, ?_⟩
      refine ⟨aX_31 (by rw [c4_z]; omega) (by rw [c4_z]; exact k410) (by omega) (by omega), ?_⟩
      rw [c4_z, c5_z]
      refine ⟨⟨by omega, by omega⟩, ?_⟩
      exact ⟨rfl, rfl⟩
theorem tqh_51 {A B : pm_A} {R : List (List (Fin 12))} {p : List (Fin 12)} {f : Fin 12} {t : Nat} {w4 w5 : pm_V} (hK : BK A) (hR : tpR R A) (ht : R[t]? = some p) (hF : tpF A B) (h0 : B 413 0 = (p.length : Int) + 1) : Tm pmt (an_sh wX) o_X4_tracePath 51 ([(2, 413), (2, 407), (0, (t : Int)), (0, (f.1 : Int)), w4, w5], [], B) (tpP A (p ++ [f])) := by
  have hlt := (List.getElem?_eq_some_iff.mp ht).1
  have hl3 := hR.1
  have hp := (hR.2 t p ht).1
  have c2_z : B 413 2 = 414 := by rw [hF.2 _ _ (by omega) (by omega)]; exact hK.2.2.2.1
  have hC : gH wX (pm_upd B 414 (p.length : Int) (f.1 : Int)) := uX_32 hF.1 k414 (by omega) (by omega)
  have c0_z : pm_upd B 414 (p.length : Int) (f.1 : Int) 413 0 = (p.length : Int) + 1 := by rw [upd_o (by omega)]; exact h0
  refine wq_ok sq_trace (fr := []) (cuts := [74]) (J := fun pc st_z => pc = 74 ∧ st_z = ([(2, 413), (2, 407), (0, (t : Int)), (0, (f.1 : Int)), (0, (t : Int)), (0, (p.length : Int) - 1)], [], pm_upd B 414 (p.length : Int) (f.1 : Int))) ?_ 40 51 _ ?_
  · rintro pc st_z ⟨rfl, rfl⟩
    refine tqh_74 (w2 := (0, (t : Int))) (x3 := (f.1 : Int)) hK hR (by omega) p.length t _ (Nat.le_refl _) (by rw [List.take_length]; exact ht) ⟨hC, fun r_z j_z h1 h2 => by rw [upd_o (by omega)]; exact hF.2 r_z j_z h1 h2⟩ c0_z (fun i_z g_z hi_z hg => ?_)
    have hil := (List.getElem?_eq_some_iff.mp hg).1
    rw [List.length_append] at hil
    have hil : i_z < p.length + 1 := hil
    have ei : i_z = p.length := by omega
    rw [ei, List.getElem?_append_right (Nat.le_refl _), Nat.sub_self] at hg
    have e_z : f = g_z := Option.some.inj hg
    rw [ei, upd_at, e_z]
  · refine ⟨oX_7 (by omega) k413 2 rfl, ?_⟩
    refine ⟨oX_7 (by omega) k413 0 rfl, ?_⟩
    refine ⟨by rw [h0]; exact ⟨by omega, by omega⟩, ?_⟩
    rw [c2_z, h0, show (p.length : Int) + 1 - 1 = (p.length : Int) by omega]
    refine ⟨tX_32 (by omega) k414 (by omega) (by omega) rfl, ?_⟩
    refine ⟨oX_7 (by omega) k413 0 rfl, ?_⟩
    refine ⟨by rw [c0_z]; exact ⟨by omega, by omega⟩, ?_⟩
    rw [c0_z, show (p.length : Int) + 1 - 2 = (p.length : Int) - 1 by omega]
    exact ⟨rfl, rfl⟩
theorem tqh_8 {A : pm_A} {R : List (List (Fin 12))} {p : List (Fin 12)} {f : Fin 12} {t : Nat} {w5 : pm_V} (hK : BK A) (hR : tpR R A) (ht : R[t]? = some p) : ∀ (m_z e_z : Nat) (B_z : pm_A), m_z ≤ p.length → R[e_z]? = some (p.take m_z) → tpF A B_z → B_z 413 0 = (p.length : Int) - (m_z : Int) + 1 → Tm pmt (an_sh wX) o_X4_tracePath 8 ([(2, 413), (2, 407), (0, (t : Int)), (0, (f.1 : Int)), (0, (e_z : Int)), w5], [], B_z) (tpP A (p ++ [f])) := by
  have hltt := (List.getElem?_eq_some_iff.mp ht).1
  have hl3 := hR.1
  have hp := (hR.2 t p ht).1
  intro m_z
  induction m_z with
  | zero =>
    intro e_z B_z hm_z he hF h0
    have hlt := (List.getElem?_eq_some_iff.mp he).1
    have n1_z := nt_0 (hR.2 e_z _ he).2
    have c3_z : B_z 407 2 = 410 := by rw [hF.2 _ _ (by omega) (by omega)]; exact hK.1.2.2.1
    have o410 : B_z 410 (e_z : Int) = -1 := by rw [hF.2 _ _ (by omega) (by omega)]; exact n1_z
    refine wq_ok sq_trace (fr := []) (cuts := [51]) (J := fun pc st_z => pc = 51 ∧ st_z = ([(2, 413), (2, 407), (0, (t : Int)), (0, (f.1 : Int)), (0, (e_z : Int)), w5], [], B_z)) ?_ 30 8 _ ?_
    · rintro pc st_z ⟨rfl, rfl⟩
      exact tqh_51 hK hR ht hF (by rw [h0]; show (p.length : Int) - ((0 : Nat) : Int) + 1 = _; omega)
    · refine ⟨oX_6 (by omega) k407 2 rfl, ?_⟩
      refine ⟨aX_31 (by rw [c3_z]; omega) (by rw [c3_z]; exact k410) (by omega) (by omega), ?_⟩
      rw [c3_z, o410]
      refine ⟨fun _ => ?_, fun hh => absurd rfl hh⟩
      exact ⟨rfl, rfl⟩
  | succ m_z ih_z =>
    intro e_z B_z hm_z he hF h0
    have hlt := (List.getElem?_eq_some_iff.mp he).1
    obtain ⟨g_z, d_z, n1_z, n2_z, n3_z, n4_z, n5_z⟩ := nt_s (by omega) (hR.2 e_z _ he).2
    have c3_z : B_z 407 2 = 410 := by rw [hF.2 _ _ (by omega) (by omega)]; exact hK.1.2.2.1
    have o410 : B_z 410 (e_z : Int) = (d_z : Int) := by rw [hF.2 _ _ (by omega) (by omega)]; exact n4_z
    have hC : gH wX (pm_upd B_z 413 0 (B_z 413 0 + 1)) := u7_0 hF.1 (by omega) (by omega)
    have c4_z : pm_upd B_z 413 0 (B_z 413 0 + 1) 407 2 = 410 := by rw [upd_o (by omega)]; exact c3_z
    have c5_z : pm_upd B_z 413 0 (B_z 413 0 + 1) 410 (e_z : Int) = (d_z : Int) := by rw [upd_o (by omega)]; exact o410
    refine wq_ok sq_trace (fr := []) (cuts := [8]) (J := fun pc st_z => pc = 8 ∧ st_z = ([(2, 413), (2, 407), (0, (t : Int)), (0, (f.1 : Int)), (0, (d_z : Int)), w5], [], pm_upd B_z 413 0 (B_z 413 0 + 1))) ?_ 30 8 _ ?_
    · rintro pc st_z ⟨rfl, rfl⟩
      refine ih_z d_z _ (by omega) n3_z ⟨hC, fun r_z j_z h1 h2 => by rw [upd_o (by omega)]; exact hF.2 r_z j_z h1 h2⟩ ?_
      rw [upd_at, h0]
      omega
    · refine ⟨oX_6 (by omega) k407 2 rfl, ?_⟩
      refine ⟨aX_31 (by rw [c3_z]; omega) (by rw [c3_z]; exact k410) (by omega) (by omega), ?_⟩
      rw [c3_z, o410]
      refine ⟨fun hh => absurd hh (by omega), fun _ => ?_⟩
      refine ⟨oX_7 (by omega) k413 0 rfl, ?_⟩
      refine ⟨fun hh => absurd hh (by omega), fun _ => ?_⟩
      refine ⟨oX_7 (by omega) k413 0 rfl, ?_⟩
      refine ⟨⟨by omega, by omega⟩, ?_⟩
      refine ⟨oX_7 (by omega) k413 0 rfl, ?_⟩
      refine ⟨oX_6 (by omega) k407 2 rfl, ?_⟩
      refine ⟨aX_31 (by rw [c4_z]; omega) (by rw [c4_z]; exact k410) (by omega) (by omega), ?_⟩
      rw [c4_z, c5_z]
      exact ⟨rfl, rfl⟩
theorem trace_ex {A : pm_A} {R : List (List (Fin 12))} {p : List (Fin 12)} {f : Fin 12} {t : Nat} (hA : gH wX A) (hK : BK A) (hR : tpR R A) (ht : R[t]? = some p) : Cl pmt (an_sh wX) 37 [(2, 413), (2, 407), (0, (t : Int)), (0, (f.1 : Int))] A (tpP A (p ++ [f])) := by
  refine Cl.of (Nat.le_of_ble_eq_true rfl) ?_
  refine wq_ok (full := o_X4_tracePath) sq_trace (fr := []) (cuts := [8]) (J := fun pc st_z => pc = 8 ∧ st_z = ([(2, 413), (2, 407), (0, (t : Int)), (0, (f.1 : Int)), (0, (t : Int)), (9, 0)], [], pm_upd A 413 0 1)) ?_ 20 0 _ ?_
  · rintro pc st_z ⟨rfl, rfl⟩
    exact tqh_8 hK hR ht p.length t _ (Nat.le_refl _) (by rw [List.take_length]; exact ht) ⟨u7_0 hA (by omega) (by omega), fun r_z j_z h1 h2 => upd_o h1⟩ (by rw [upd_at]; omega)
  · refine ⟨oX_7 (by omega) k413 0 rfl, ?_⟩
    exact ⟨rfl, rfl⟩
/-- what finite, step, tables tell -/
def fzO (x : Option fnO) (a st sn : Int) (pth : Int → Int) : Prop := (x = none ∧ a = 0 ∧ st = 0 ∧ sn = 1) ∨ (∃ R_z, x = some (R_z, some none) ∧ a = 1 ∧ st = 0 ∧ sn = (R_z.length : Int)) ∨ (∃ R_z, x = some (R_z, none) ∧ a = -2 ∧ st = 0 ∧ sn = (R_z.length : Int)) ∨ ∃ R_z q_z, x = some (R_z, some (some q_z)) ∧ a = 0 ∧ st = (q_z.length : Int) ∧ sn = (R_z.length : Int) + 1 ∧ ∀ (i_z : Nat) (f_z : Fin 12), q_z[i_z]? = some f_z → pth (i_z : Int) = (f_z.1 : Int)
def jgP (s : cx_Sd 12) (n : Int) (ks : List (Fin 12)) (r : pm_R) : Prop := ∃ (x_z : Option fnO) (a_z : Int), finO s n ks x_z ∧ r.1 = some (0, a_z) ∧ fzO x_z a_z (r.2 413 0) (r.2 413 1) (r.2 414)
/-- the book holds the row of tables -/
def fnX2 (s : cx_Sd 12) (n : Int) (ks : List (Fin 12)) (R : List (List (Fin 12))) (A : pm_A) : Prop := (gH wX A ∧ BK A ∧ bkS A (A 407 5) ∧ A 407 5 = (R.length : Int) ∧ A 413 0 = 0) ∧ ∀ (e_z : Nat) (p_z : List (Fin 12)), R[e_z]? = some p_z → (p_z.length ≤ e_z ∧ ntE R (A 410) (A 411) e_z p_z) ∧ ∃ T_z : Int → Int, tbE s (ks ++ p_z) T_z n ∧ r3T T_z n ∧ A 408 (e_z : Int) = pk1 T_z n ∧ A 409 (e_z : Int) = pk2 T_z n
theorem fnX2.tp {s : cx_Sd 12} {n : Int} {ks : List (Fin 12)} {R : List (List (Fin 12))} {A : pm_A} (h : fnX2 s n ks R A) : tpR R A := by
  have h1 := fX_6_5 h.1.1 (r := 407) (by omega) k407
  exact ⟨by have := h.1.2.2.2.1; omega, fun e_z p_z he => (h.2 e_z p_z he).1⟩
theorem tb_r3 {s : cx_Sd 12} {n : Int} {l : List (Fin 12)} {T : Int → Int} (h : tbE s l T n) (hw : ¬ wdT s n l) (n6 : n ≤ 6) : r3T T n := fun i_z j_z i0_z i1_z j0 j1 => by
  obtain ⟨f_z, rfl⟩ := fnt_of (i := i_z) i0_z (by omega)
  obtain ⟨g_z, rfl⟩ := fnt_of (i := j_z) j0 (by omega)
  rw [← h f_z g_z i1_z j1]
  exact nw_3 hw i1_z j1
theorem lk_iff {s : cx_Sd 12} {n : Int} {l l' : List (Fin 12)} {T U : Int → Int} (h : tbE s l T n) (g : tbE s l' U n) (n6 : n ≤ 6) : lkT s n l l' ↔ ∀ i_z j_z : Int, 0 ≤ i_z → i_z < n → 0 ≤ j_z → j_z < n → T (i_z * 6 + j_z) = U (i_z * 6 + j_z) := by
  constructor
  · intro hl i_z j_z i0_z i1_z j0 j1
    obtain ⟨f_z, rfl⟩ := fnt_of (i := i_z) i0_z (by omega)
    obtain ⟨g_z, rfl⟩ := fnt_of (i := j_z) j0 (by omega)
    rw [← h f_z g_z i1_z j1, ← g f_z g_z i1_z j1]
    exact hl f_z g_z i1_z j1
  · intro hl i_z j_z hi_z hj
    rw [h i_z j_z hi_z hj, g i_z j_z hi_z hj]
    exact hl _ _ (by omega) hi_z (by omega) hj
/-- the states by the way leave the book's picture -/
theorem fnX2.of {s : cx_Sd 12} {n : Int} {ks : List (Fin 12)} {R : List (List (Fin 12))} {A B : pm_A} (h : fnX2 s n ks R A) (hB : gH wX B) (e : ∀ r_z j_z : Int, ¬ r_z = 415 → ¬ (r_z = 413 ∧ (j_z = 4 ∨ j_z = 5)) → B r_z j_z = A r_z j_z) : fnX2 s n ks R B := by
  obtain ⟨⟨h1, h2, h3, h4, h5⟩, h6⟩ := h
  have e5 : B 407 5 = A 407 5 := e _ _ (by omega) (by omega)
  have ef : ∀ r_z : Int, (408 ≤ r_z ∧ r_z ≤ 412) → B r_z = A r_z := fun r_z hr => funext fun j_z => e r_z j_z (by omega) (by omega)
  refine ⟨⟨hB, ?_, ?_, by rw [e5]; exact h4, by rw [e _ _ (by omega) (by omega)]; exact h5⟩, fun e_z p_z he => ?_⟩
  · obtain ⟨⟨a1_z, a2, a3, a4, a5⟩, b1, b2, b3, b4_z⟩ := h2
    refine ⟨⟨?_, ?_, ?_, ?_, ?_⟩, ?_, ?_, ?_, ?_⟩
    all_goals (rw [e _ _ (by omega) (by omega)]; assumption)
  · unfold bkS
    rw [e5, ef 408 (by omega), ef 409 (by omega), ef 412 (by omega)]
    exact h3
  · rw [ef 408 (by omega), ef 409 (by omega), ef 410 (by omega), ef 411 (by omega)]
    exact h6 e_z p_z he
theorem fp_find {s : cx_Sd 12} {n : Int} {ks : List (Fin 12)} {R : List (List (Fin 12))} {A : pm_A} {l : List (Fin 12)} {i : Int} (h : fnX2 s n ks R A) (n0 : 0 ≤ n) (n6 : n ≤ 6) (hl : tbE s l (A 415) n) (h3 : r3T (A 415) n) (hi : (i = -1 ∧ ∀ j_z : Int, 0 ≤ j_z → j_z < A 407 5 → ¬ ety A j_z (pk1 (A 415) n) (pk2 (A 415) n)) ∨ ((0 ≤ i ∧ i < A 407 5) ∧ ety A i (pk1 (A 415) n) (pk2 (A 415) n))) : (i = -1 ∧ ∀ q_z ∈ R, ¬ lkT s n (ks ++ q_z) l) ∨ (¬ i = -1 ∧ ∃ q_z ∈ R, lkT s n (ks ++ q_z) l) := by
  have hlen := h.1.2.2.2.1
  rcases hi with ⟨h1, h2⟩ | ⟨h1, h2⟩
  · refine Or.inl ⟨h1, fun q_z hq hk => ?_⟩
    obtain ⟨e_z, he⟩ := List.getElem?_of_mem hq
    have hlt := (List.getElem?_eq_some_iff.mp he).1
    obtain ⟨_, T_z, t1_z, t2_z, t3_z, t4_z⟩ := h.2 e_z q_z he
    have h5 := pk_c n0 ((lk_iff t1_z hl n6).1 hk)
    exact h2 (e_z : Int) (by omega) (by omega) ⟨by rw [t3_z]; exact h5.1, by rw [t4_z]; exact h5.2⟩
  · obtain ⟨e_z, rfl⟩ := Int.eq_ofNat_of_zero_le h1.1
    have hlt : e_z < R.length := by omega
    have he : R[e_z]? = some R[e_z] := List.getElem?_eq_getElem hlt
    obtain ⟨_, T_z, t1_z, t2_z, t3_z, t4_z⟩ := h.2 e_z _ he
    refine Or.inr ⟨by omega, R[e_z], List.getElem_mem hlt, (lk_iff t1_z hl n6).2 ?_⟩
    exact pk_i t2_z h3 n0 n6 (by rw [← t3_z]; exact h2.1) (by rw [← t4_z]; exact h2.2)
theorem fp_put {s : cx_Sd 12} {n : Int} {ks : List (Fin 12)} {R : List (List (Fin 12))} {A B : pm_A} {p : List (Fin 12)} {f s' : Int} (h : fnX2 s n ks R A) (hl : tbE s (ks ++ p) (A 415) n) (h3 : r3T (A 415) n) (hB : beF A B (pk1 (A 415) n) (pk2 (A 415) n) f s') (hK : BK B) (hS : bkS B (A 407 5 + 1)) (hp : p.length ≤ R.length) (hn : (p = [] ∧ f = -1) ∨ ∃ (q_z : List (Fin 12)) (g_z : Fin 12) (d_z : Nat), p = q_z ++ [g_z] ∧ d_z < R.length ∧ R[d_z]? = some q_z ∧ f = (d_z : Int) ∧ s' = (g_z.1 : Int)) : fnX2 s n ks (R ++ [p]) B := by
  have hlen := h.1.2.2.2.1
  obtain ⟨b1, b2, b3, b4_z, b5, b6_z, b7_z⟩ := hB
  rw [hlen] at b4_z b5 b6_z b7_z
  refine ⟨⟨b1, hK, by rw [b2]; exact hS, by rw [b2, hlen, List.length_append]; rfl, by rw [b3 413 0 (by omega) (by omega) (by omega)]; exact h.1.2.2.2.2⟩, fun e_z p_z he => ?_⟩
  have hlt := (List.getElem?_eq_some_iff.mp he).1
  rw [List.length_append] at hlt
  have hlt : e_z < R.length + 1 := hlt
  by_cases ee : e_z < R.length
  · rw [List.getElem?_append_left ee] at he
    obtain ⟨⟨g1, g2⟩, T_z, t1_z, t2_z, t3_z, t4_z⟩ := h.2 e_z p_z he
    have o_z : ∀ r_z : Int, r_z = 408 ∨ r_z = 409 ∨ r_z = 410 ∨ r_z = 411 → B r_z (e_z : Int) = A r_z (e_z : Int) := fun r_z hr => b3 r_z _ (by omega) (by omega) (by rw [hlen]; omega)
    refine ⟨⟨g1, ?_⟩, T_z, t1_z, t2_z, by rw [o_z 408 (by omega)]; exact t3_z, by rw [o_z 409 (by omega)]; exact t4_z⟩
    rcases g2 with ⟨g2, g3_z⟩ | ⟨q_z, f_z, d_z, g2, g3_z, g4, g5_z, g6⟩
    · exact Or.inl ⟨g2, by rw [o_z 410 (by omega)]; exact g3_z⟩
    · exact Or.inr ⟨q_z, f_z, d_z, g2, g3_z, by rw [List.getElem?_append_left (by omega)]; exact g4, by rw [o_z 410 (by omega)]; exact g5_z, by rw [o_z 411 (by omega)]; exact g6⟩
  · have ee2 : e_z = R.length := by omega
    subst ee2
    rw [List.getElem?_append_right (Nat.le_refl _), Nat.sub_self] at he
    have ep : p = p_z := Option.some.inj he
    subst ep
    refine ⟨⟨hp, ?_⟩, A 415, hl, h3, b4_z, b5⟩
    rcases hn with ⟨g1, g2⟩ | ⟨q_z, g_z, d_z, g1, g2, g3_z, g4, g5_z⟩
    · exact Or.inl ⟨g1, by rw [b6_z]; exact g2⟩
    · exact Or.inr ⟨q_z, g_z, d_z, g1, g2, by rw [List.getElem?_append_left g2]; exact g3_z, by rw [b6_z]; exact g4, by rw [b7_z]; exact g5_z⟩
/-! judge -/
def jI (s : cx_Sd 12) (n : Int) (ks : List (Fin 12)) (R : List (List (Fin 12))) (t : Nat) (k : Int) : Prop := (∀ (o_z : fnO) (m_z : Nat), fnA s n ks m_z R t k o_z → ∃ m2_z, fnA s n ks m2_z [[]] 0 0 o_z) ∧ ¬ wdT s n ks
theorem jg_out {s : cx_Sd 12} {n : Int} {ks : List (Fin 12)} {R : List (List (Fin 12))} {t : Nat} {k : Int} {o : fnO} (h : jI s n ks R t k) (ho : fnA s n ks 1 R t k o) : finO s n ks (some o) := by
  obtain ⟨m_z, hm_z⟩ := h.1 o 1 ho
  exact Or.inr ⟨h.2, o, m_z, hm_z, rfl⟩
theorem tb_bd {T : Int → Int} {n : Int} (h : r3T T n) : tbB T n n := fun i_z j_z i0_z i1_z j0 j1 => by have := h i_z j_z i0_z i1_z j0 j1; omega
theorem te_3 {T : Int → Int} {n k : Int} (h : r3T T n) (k0 : 0 ≤ k) (k1 : k < n) : ∀ a_z b_z : Int, 0 ≤ a_z → a_z < n → 0 ≤ b_z → b_z < n → -9999 ≤ tvT T k a_z b_z ∧ tvT T k a_z b_z ≤ 9999 := fun a_z b_z a0_z a1_z b0 b1 => by
  have h1 := h a_z b_z a0_z a1_z b0 b1
  have h2 := h a_z k a0_z a1_z k0 k1
  have h3 := h k b_z k0 k1 b0 b1
  unfold tvT teX
  by_cases e1 : a_z = k ∨ b_z = k
  · rw [if_pos e1]; omega
  · rw [if_neg e1]
    by_cases e2 : alg T a_z b_z k
    · rw [if_pos e2]
      have h4 : (((T (a_z * 6 + k)).natAbs : Int) * T (k * 6 + b_z)).natAbs ≤ 9 := by
        rw [Int.natAbs_mul]
        have h5 : ((T (a_z * 6 + k)).natAbs : Int).natAbs ≤ 3 := by omega
        have h6 : (T (k * 6 + b_z)).natAbs ≤ 3 := by omega
        exact Nat.mul_le_mul h5 h6
      omega
    · rw [if_neg e2]; omega
theorem jg_133 {s : cx_Sd 12} {n : Int} {ks : List (Fin 12)} {R : List (List (Fin 12))} {t : Nat} {p : List (Fin 12)} {f : Fin 12} {B : pm_A} {w1 : pm_V} (n0 : 0 ≤ n) (n6 : n ≤ 6) (hf : (f.1 : Int) < n) (hp : R[t]? = some p) (hI : jI s n ks R t (f.1 : Int)) (hB : fnX2 s n ks R B) (hl : tbE s (ks ++ (p ++ [f])) (B 415) n) (hw : ¬ wdT s n (ks ++ (p ++ [f]))) (H : ∀ C_z R_z, fnX2 s n ks R_z C_z → R_z[t]? = some p → jI s n ks R_z t ((f.1 : Int) + 1) → Tm pmt (an_sh wX) o_X4_judge 79 ([(2, 413), w1, (0, n), (2, 407), (0, (t : Int)), (0, (f.1 : Int) + 1)], [], C_z) (jgP s n ks)) : Tm pmt (an_sh wX) o_X4_judge 133 ([(2, 413), w1, (0, n), (2, 407), (0, (t : Int)), (0, (f.1 : Int))], [], B) (jgP s n ks) := by
  have hlt := (List.getElem?_eq_some_iff.mp hp).1
  have hlen := hB.1.2.2.2.1
  have hl3 := hB.tp.1
  have h3 := tb_r3 hl hw n6
  have hplen := (hB.2 t p hp).1.1
  have h184 : ∀ C_z R_z, fnX2 s n ks R_z C_z → R_z[t]? = some p → jI s n ks R_z t ((f.1 : Int) + 1) → Tm pmt (an_sh wX) o_X4_judge 184 ([(2, 413), w1, (0, n), (2, 407), (0, (t : Int)), (0, (f.1 : Int))], [], C_z) (jgP s n ks) := fun C_z R_z h1 h2 h3 => by
    refine wq_ok sq_judge (fr := []) (cuts := [79]) (J := fun pc st_z => pc = 79 ∧ st_z = ([(2, 413), w1, (0, n), (2, 407), (0, (t : Int)), (0, (f.1 : Int) + 1)], [], C_z)) ?_ 10 184 _ ?_
    · rintro pc st_z ⟨rfl, rfl⟩
      exact H C_z R_z h1 h2 h3
    · refine ⟨⟨by omega, by omega⟩, ?_⟩
      exact ⟨rfl, rfl⟩
  refine wq_ok sq_judge (fr := []) (cuts := [138]) (J := fun pc st_z => pc = 138 ∧ ∃ C_z, paP B n (none, C_z) ∧ st_z = ([(2, 413), w1, (0, n), (2, 407), (0, (t : Int)), (0, (f.1 : Int))], [], C_z)) ?_ 20 133 _ ?_
  · rintro pc st_z ⟨rfl, C_z, ⟨_, c1_z, c2_z, c3_z, c4_z⟩, rfl⟩
    simp only at c1_z c2_z c3_z c4_z
    have hC : fnX2 s n ks R C_z := hB.of c1_z (fun r_z j_z _ h2 => c2_z r_z j_z h2)
    have e415 : C_z 415 = B 415 := funext fun j_z => c2_z 415 j_z (by omega)
    rw [← e415] at c3_z c4_z hl h3
    have pb_z := pk_b h3 n0 n6
    obtain ⟨hgC, hKC, hSC, hlC, h0C⟩ := hC.1
    refine wq_ok sq_judge (fr := []) (cuts := [150]) (J := fun pc st_z => pc = 150 ∧ ∃ i_z : Int, ((i_z = -1 ∧ ∀ q_z ∈ R, ¬ lkT s n (ks ++ q_z) (ks ++ (p ++ [f]))) ∨ (¬ i_z = -1 ∧ ∃ q_z ∈ R, lkT s n (ks ++ q_z) (ks ++ (p ++ [f])))) ∧ (i_z = -1 → ∀ j_z : Int, 0 ≤ j_z → j_z < C_z 407 5 → ¬ ety C_z j_z (pk1 (C_z 415) n) (pk2 (C_z 415) n)) ∧ st_z = ([(2, 413), w1, (0, n), (2, 407), (0, (t : Int)), (0, (f.1 : Int))], [(0, i_z)], C_z)) ?_ 20 138 _ ?_
    · rintro pc st_z ⟨rfl, i_z, hi_z, hno, rfl⟩
      refine wq_ok sq_judge (fr := []) (cuts := [184, 154]) (J := fun pc st_z => (pc = 184 ∧ ¬ i_z = -1 ∧ st_z = ([(2, 413), w1, (0, n), (2, 407), (0, (t : Int)), (0, (f.1 : Int))], [], C_z)) ∨ (pc = 154 ∧ i_z = -1 ∧ st_z = ([(2, 413), w1, (0, n), (2, 407), (0, (t : Int)), (0, (f.1 : Int))], [], C_z))) ?_ 10 150 _ ?_
      · rintro pc st_z (⟨rfl, h1, rfl⟩ | ⟨rfl, h1, rfl⟩)
        · rcases hi_z with ⟨h2, _⟩ | ⟨_, h2⟩
          · exact absurd h2 h1
          · exact h184 C_z R hC hp ⟨fun o_z m_z hm_z => hI.1 o_z (m_z + 1) (Or.inr (Or.inr ⟨hf, p, f, hp, rfl, Or.inr ⟨hw, Or.inl ⟨h2, hm_z⟩⟩⟩)), hI.2⟩
        · have hall : ∀ q_z ∈ R, ¬ lkT s n (ks ++ q_z) (ks ++ (p ++ [f])) := by
            rcases hi_z with ⟨_, h2⟩ | ⟨h2, _⟩
            · exact h2
            · exact absurd h1 h2
          refine wq_ok sq_judge (fr := []) (cuts := [170]) (J := fun pc st_z => pc = 170 ∧ ∃ (D_z : pm_A) (y_z : Int), beP C_z (pk1 (C_z 415) n) (pk2 (C_z 415) n) (t : Int) (f.1 : Int) (some (0, y_z), D_z) ∧ st_z = ([(2, 413), w1, (0, n), (2, 407), (0, (t : Int)), (0, (f.1 : Int))], [(0, y_z)], D_z)) ?_ 20 154 _ ?_
          · rintro pc st_z ⟨rfl, D_z, y_z, hD, rfl⟩
            rcases hD with ⟨d1_z, d2_z⟩ | ⟨d1_z, d2_z, d3_z, d4_z, d5_z⟩
            · have ey : y_z = 0 := by
                have := congrArg Prod.fst d2_z
                simp only at this
                cases this
                rfl
              have eD : D_z = C_z := congrArg Prod.snd d2_z
              subst ey
              subst eD
              refine wq_ok sq_judge (fr := []) (cuts := []) (J := fun _ _ => False) (fun _ _ h_z => h_z.elim) 20 170 _ ?_
              refine ⟨fun hh => absurd rfl hh, fun _ => ?_⟩
              refine ⟨oX_6 (by omega) k407 5 rfl, ?_⟩
              refine ⟨oX_7 (by omega) k413 1 rfl, ?_⟩
              refine ⟨rfl, some (R, none), -2, jg_out hI (Or.inr (Or.inr ⟨hf, p, f, hp, rfl, Or.inr ⟨hw, Or.inr ⟨hall, Or.inl ⟨by omega, rfl⟩⟩⟩⟩)), rfl, Or.inr (Or.inr (Or.inl ⟨R, rfl, rfl, ?_, ?_⟩))⟩
              · show pm_upd D_z 413 1 (D_z 407 5) 413 0 = 0
                rw [upd_o (by omega)]; exact h0C
              · show pm_upd D_z 413 1 (D_z 407 5) 413 1 = _
                rw [upd_at]; exact hlC
            · have ey : y_z = 1 := by
                simp only at d2_z
                cases d2_z
                rfl
              subst ey
              simp only at d3_z d4_z d5_z
              refine wq_ok sq_judge (fr := []) (cuts := [184]) (J := fun pc st_z => pc = 184 ∧ st_z = ([(2, 413), w1, (0, n), (2, 407), (0, (t : Int)), (0, (f.1 : Int))], [], D_z)) ?_ 10 170 _ ?_
              · rintro pc st_z ⟨rfl, rfl⟩
                have hD2 := fp_put hC hl h3 d3_z d4_z d5_z (p := p ++ [f]) (by rw [List.length_append]; show p.length + 1 ≤ R.length; omega) (Or.inr ⟨p, f, t, rfl, hlt, hp, rfl, rfl⟩)
                exact h184 D_z (R ++ [p ++ [f]]) hD2 (by rw [List.getElem?_append_left hlt]; exact hp) ⟨fun o_z m_z hm_z => hI.1 o_z (m_z + 1) (Or.inr (Or.inr ⟨hf, p, f, hp, rfl, Or.inr ⟨hw, Or.inr ⟨hall, Or.inr ⟨by omega, hm_z⟩⟩⟩⟩)), hI.2⟩
              · refine ⟨fun _ => ?_, fun hh => absurd hh (by decide)⟩
                exact ⟨rfl, rfl⟩
          · refine ⟨oX_7 (by omega) k413 4 rfl, ?_⟩
            refine ⟨oX_7 (by omega) k413 5 rfl, ?_⟩
            refine ⟨rX_6 (by omega) k407, ?_⟩
            rw [c3_z, c4_z]
            refine (benter_ex (a := pk1 (C_z 415) n) (c := pk2 (C_z 415) n) (f := (t : Int)) (s := (f.1 : Int)) hgC hKC hSC (by unfold r64; omega) (by unfold r64; omega) ⟨by omega, by omega⟩ ⟨by omega, by omega⟩ (hno h1)).imp ?_
            rintro ⟨r1_z, D_z⟩ hD
            have hr1 : ∃ y_z : Int, r1_z = some (0, y_z) := by
              rcases hD with ⟨_, d2_z⟩ | ⟨_, d2_z, _⟩
              · exact ⟨0, congrArg Prod.fst d2_z⟩
              · exact ⟨1, d2_z⟩
            obtain ⟨y_z, rfl⟩ := hr1
            exact ⟨rfl, D_z, y_z, hD, rfl⟩
      · refine ⟨fun h1 => ?_, fun h1 => ?_⟩
        · exact Or.inl ⟨rfl, h1, rfl⟩
        · exact Or.inr ⟨rfl, h1, rfl⟩
    · refine ⟨oX_7 (by omega) k413 4 rfl, ?_⟩
      refine ⟨oX_7 (by omega) k413 5 rfl, ?_⟩
      refine ⟨rX_6 (by omega) k407, ?_⟩
      rw [c3_z, c4_z]
      refine (bfind_ex (a := pk1 (C_z 415) n) (c := pk2 (C_z 415) n) hgC hKC hSC).imp ?_
      rintro ⟨r1_z, D_z⟩ ⟨i_z, e_z, hi_z⟩
      have e1 : r1_z = some (0, i_z) := congrArg Prod.fst e_z
      have e2 : D_z = C_z := congrArg Prod.snd e_z
      subst e1
      subst e2
      refine ⟨rfl, i_z, fp_find hC n0 n6 hl h3 hi_z, fun h1 => ?_, rfl⟩
      rcases hi_z with ⟨_, h2⟩ | ⟨h2, _⟩
      · exact h2
      · omega
  · refine ⟨rX_7 (by omega) k413, ?_⟩
    refine (pack_ex hB.1.1 hB.1.2.1 h3 n0 n6).imp ?_
    rintro ⟨r1_z, C_z⟩ hC
    have hr1 : r1_z = none := hC.1
    subst hr1
    exact ⟨rfl, C_z, hC, rfl⟩
theorem jg_85 {s : cx_Sd 12} {n : Int} {ks : List (Fin 12)} {R : List (List (Fin 12))} {t : Nat} {p : List (Fin 12)} {f : Fin 12} {A : pm_A} {w1 : pm_V} (n0 : 0 ≤ n) (n6 : n ≤ 6) (hf : (f.1 : Int) < n) (hp : R[t]? = some p) (hI : jI s n ks R t (f.1 : Int)) (hA : fnX2 s n ks R A) (H : ∀ C_z R_z, fnX2 s n ks R_z C_z → R_z[t]? = some p → jI s n ks R_z t ((f.1 : Int) + 1) → Tm pmt (an_sh wX) o_X4_judge 79 ([(2, 413), w1, (0, n), (2, 407), (0, (t : Int)), (0, (f.1 : Int) + 1)], [], C_z) (jgP s n ks)) : Tm pmt (an_sh wX) o_X4_judge 85 ([(2, 413), w1, (0, n), (2, 407), (0, (t : Int)), (0, (f.1 : Int))], [], A) (jgP s n ks) := by
  have hlt := (List.getElem?_eq_some_iff.mp hp).1
  have hl3 := hA.tp.1
  have hlen := hA.1.2.2.2.1
  obtain ⟨⟨hplen, _⟩, T_z, t1_z, t2_z, t3_z, t4_z⟩ := hA.2 t p hp
  refine wq_ok sq_judge (fr := []) (cuts := [93]) (J := fun pc st_z => pc = 93 ∧ ∃ B_z, upP A T_z n (none, B_z) ∧ st_z = ([(2, 413), w1, (0, n), (2, 407), (0, (t : Int)), (0, (f.1 : Int))], [], B_z)) ?_ 20 85 _ ?_
  · rintro pc st_z ⟨rfl, B_z, ⟨_, u1_z, u2_z, u3_z⟩, rfl⟩
    simp only at u1_z u2_z u3_z
    have hB_z : fnX2 s n ks R B_z := hA.of u1_z (fun r_z j_z h1 _ => u2_z r_z j_z h1)
    have r3B : r3T (B_z 415) n := fun i_z j_z i0_z i1_z j0 j1 => by rw [u3_z i_z j_z i0_z i1_z j0 j1]; exact t2_z i_z j_z i0_z i1_z j0 j1
    have tB_z : tbE s (ks ++ p) (B_z 415) n := fun i_z j_z hi_z hj => by rw [u3_z _ _ (by omega) hi_z (by omega) hj]; exact t1_z i_z j_z hi_z hj
    have b3 := hB_z.1.2.1.2.2.2.2
    refine wq_ok sq_judge (fr := []) (cuts := [104]) (J := fun pc st_z => pc = 104 ∧ ∃ C_z, ttP B_z 415 n n (f.1 : Int) (none, C_z) ∧ st_z = ([(2, 413), w1, (0, n), (2, 407), (0, (t : Int)), (0, (f.1 : Int))], [], C_z)) ?_ 20 93 _ ?_
    · rintro pc st_z ⟨rfl, C_z, ⟨_, ⟨c1_z, c2_z⟩, c3_z⟩, rfl⟩
      simp only at c1_z c2_z c3_z
      have hC : fnX2 s n ks R C_z := hB_z.of c1_z (fun r_z j_z h1 _ => c2_z r_z j_z h1)
      have tC0 := tB_z.turn hf c3_z
      have tC : tbE s (ks ++ (p ++ [f])) (C_z 415) n := by rw [← List.append_assoc]; exact tC0
      have bC : tbB (C_z 415) n n := fun i_z j_z i0_z i1_z j0 j1 => by rw [c3_z i_z j_z i0_z i1_z j0 j1]; exact te_3 r3B (by omega) hf i_z j_z i0_z i1_z j0 j1
      have hKC := hC.1.2.1
      refine wq_ok sq_judge (fr := []) (cuts := [109]) (J := fun pc st_z => pc = 109 ∧ ∃ y_z : Int, ((y_z = 1 ∧ wdI (C_z 415) n) ∨ (y_z = 0 ∧ ¬ wdI (C_z 415) n)) ∧ st_z = ([(2, 413), w1, (0, n), (2, 407), (0, (t : Int)), (0, (f.1 : Int))], [(0, y_z)], C_z)) ?_ 20 104 _ ?_
      · rintro pc st_z ⟨rfl, y_z, hy, rfl⟩
        rcases hy with ⟨rfl, hw⟩ | ⟨rfl, hw⟩
        · have hwd := (wd_iff tC n6).1 hw
          have p5_z := fX_6_5 hC.1.1 (r := 407) (by omega) k407
          have hlC := hC.1.2.2.2.1
          have eE : gH wX (pm_upd C_z 413 1 (C_z 407 5 + 1)) := u7_1 hC.1.1 ⟨by omega, by omega⟩
          have hKE : BK (pm_upd C_z 413 1 (C_z 407 5 + 1)) := hKC.upd (by omega) (by omega) (by omega)
          have hRE : tpR R (pm_upd C_z 413 1 (C_z 407 5 + 1)) := by
            have h1 := hC.tp
            have e0_z : pm_upd C_z 413 1 (C_z 407 5 + 1) 410 = C_z 410 := funext fun j_z => upd_o (by omega)
            have e1_z : pm_upd C_z 413 1 (C_z 407 5 + 1) 411 = C_z 411 := funext fun j_z => upd_o (by omega)
            unfold tpR
            rw [e0_z, e1_z]
            exact h1
          have eS : pm_upd C_z 413 1 (C_z 407 5 + 1) 413 1 = (R.length : Int) + 1 := by rw [upd_at, hlC]
          refine wq_ok sq_judge (fr := []) (cuts := [122]) (J := fun pc st_z => pc = 122 ∧ st_z = ([(2, 413), w1, (0, n), (2, 407), (0, (t : Int)), (0, (f.1 : Int))], [], pm_upd C_z 413 1 (C_z 407 5 + 1))) ?_ 20 109 _ ?_
          · rintro pc st_z ⟨rfl, rfl⟩
            generalize pm_upd C_z 413 1 (C_z 407 5 + 1) = E_z at eE hKE hRE eS
            refine wq_ok sq_judge (fr := []) (cuts := [131]) (J := fun pc st_z => pc = 131 ∧ ∃ D_z, tpP E_z (p ++ [f]) (none, D_z) ∧ st_z = ([(2, 413), w1, (0, n), (2, 407), (0, (t : Int)), (0, (f.1 : Int))], [], D_z)) ?_ 20 122 _ ?_
            · rintro pc st_z ⟨rfl, D_z, ⟨_, d1_z, d2_z, d3_z⟩, rfl⟩
              simp only at d1_z d2_z d3_z
              refine wq_ok sq_judge (fr := []) (cuts := []) (J := fun _ _ => False) (fun _ _ h_z => h_z.elim) 10 131 _ ?_
              refine ⟨rfl, some (R, some (some (p ++ [f]))), 0, jg_out hI (Or.inr (Or.inr ⟨hf, p, f, hp, rfl, Or.inl ⟨hwd, rfl⟩⟩)), rfl, Or.inr (Or.inr (Or.inr ⟨R, p ++ [f], rfl, rfl, d2_z, ?_, d3_z⟩))⟩
              show D_z 413 1 = _
              rw [d1_z.2 413 1 (by omega) (by omega)]
              exact eS
            · refine ⟨rX_7 (by omega) k413, ?_⟩
              refine (trace_ex (f := f) eE hKE hRE hp).imp ?_
              rintro ⟨r1_z, D_z⟩ hD
              have hr1 : r1_z = none := hD.1
              subst hr1
              exact ⟨rfl, D_z, hD, rfl⟩
          · refine ⟨fun hh => absurd hh (by decide), fun _ => ?_⟩
            refine ⟨oX_6 (by omega) k407 5 rfl, ?_⟩
            refine ⟨⟨by omega, by omega⟩, ?_⟩
            refine ⟨oX_7 (by omega) k413 1 rfl, ?_⟩
            exact ⟨rfl, rfl⟩
        · have hnw : ¬ wdT s n (ks ++ (p ++ [f])) := fun hw2 => hw ((wd_iff tC n6).2 hw2)
          refine wq_ok sq_judge (fr := []) (cuts := [133]) (J := fun pc st_z => pc = 133 ∧ st_z = ([(2, 413), w1, (0, n), (2, 407), (0, (t : Int)), (0, (f.1 : Int))], [], C_z)) ?_ 10 109 _ ?_
          · rintro pc st_z ⟨rfl, rfl⟩
            exact jg_133 n0 n6 hf hp hI hC tC hnw H
          · refine ⟨fun _ => ?_, fun hh => absurd rfl hh⟩
            exact ⟨rfl, rfl⟩
      · refine ⟨rX_7 (by omega) k413, ?_⟩
        refine (xwild_ex hKC bC n0 n6).imp ?_
        rintro ⟨r1_z, D_z⟩ ⟨e_z, hy⟩
        simp only at e_z hy
        subst e_z
        rcases hy with ⟨e1, hy⟩ | ⟨e1, hy⟩
        · subst e1
          exact ⟨rfl, 1, Or.inl ⟨rfl, hy⟩, rfl⟩
        · subst e1
          exact ⟨rfl, 0, Or.inr ⟨rfl, hy⟩, rfl⟩
    · refine ⟨oX_7 (by omega) k413 3 rfl, ?_⟩
      refine ⟨rfl, ?_⟩
      rw [b3]
      refine (turnTable_ex u1_z (t := 415) (R := n) (P := n) (k := (f.1 : Int)) ⟨⟨by omega, k415⟩, tb_bd r3B, ⟨by omega, hf⟩, by omega, by omega, n6⟩).imp ?_
      rintro ⟨r1_z, C_z⟩ hC
      have hr1 : r1_z = none := hC.1
      subst hr1
      exact ⟨rfl, C_z, hC, rfl⟩
  · refine ⟨rX_7 (by omega) k413, ?_⟩
    refine (unpack_ex hA.1.1 hA.1.2.1 t2_z n0 n6 (t := (t : Int)) (by omega) (by omega) t3_z t4_z).imp ?_
    rintro ⟨r1_z, B_z⟩ hB_z
    have hr1 : r1_z = none := hB_z.1
    subst hr1
    exact ⟨rfl, B_z, hB_z, rfl⟩
theorem jg_79 {s : cx_Sd 12} {n : Int} {ks : List (Fin 12)} {t : Nat} {p : List (Fin 12)} {w1 : pm_V} (n0 : 0 ≤ n) (n6 : n ≤ 6) (H : ∀ C_z R_z w_z, fnX2 s n ks R_z C_z → t < R_z.length → jI s n ks R_z (t + 1) 0 → Tm pmt (an_sh wX) o_X4_judge 59 ([(2, 413), w1, (0, n), (2, 407), (0, ((t + 1 : Nat) : Int)), w_z], [], C_z) (jgP s n ks)) : ∀ (m_z k_z : Nat) (A_z : pm_A) (R_z : List (List (Fin 12))), 6 - k_z < m_z → (k_z : Int) ≤ n → fnX2 s n ks R_z A_z → R_z[t]? = some p → jI s n ks R_z t (k_z : Int) → Tm pmt (an_sh wX) o_X4_judge 79 ([(2, 413), w1, (0, n), (2, 407), (0, (t : Int)), (0, (k_z : Int))], [], A_z) (jgP s n ks) := by
  intro m_z
  induction m_z with
  | zero => intro k_z A_z R_z h_z; omega
  | succ m_z ih_z =>
    intro k_z A_z R_z hm_z hk hA hp hI
    have hlt := (List.getElem?_eq_some_iff.mp hp).1
    have hl3 := hA.tp.1
    refine wq_ok sq_judge (fr := []) (cuts := [59, 85]) (J := fun pc st_z => (pc = 59 ∧ n ≤ (k_z : Int) ∧ st_z = ([(2, 413), w1, (0, n), (2, 407), (0, (t : Int) + 1), (0, (k_z : Int))], [], A_z)) ∨ (pc = 85 ∧ (k_z : Int) < n ∧ st_z = ([(2, 413), w1, (0, n), (2, 407), (0, (t : Int)), (0, (k_z : Int))], [], A_z))) ?_ 20 79 _ ?_
    · rintro pc st_z (⟨rfl, h1, rfl⟩ | ⟨rfl, h1, rfl⟩)
      · rw [show (t : Int) + 1 = ((t + 1 : Nat) : Int) by omega]
        exact H A_z R_z _ hA hlt ⟨fun o_z m_z hm_z => hI.1 o_z (m_z + 1) (Or.inr (Or.inl ⟨hlt, h1, hm_z⟩)), hI.2⟩
      · have hf : k_z < 12 := by omega
        have h2 := jg_85 (f := ⟨k_z, hf⟩) (w1 := w1) n0 n6 h1 hp hI hA (fun C_z R_z g1 g2 g3_z => by
          have g4 := ih_z (k_z + 1) C_z R_z (by omega) (by omega) g1 g2 (by rw [show ((k_z + 1 : Nat) : Int) = (k_z : Int) + 1 by omega]; exact g3_z)
          rw [show ((k_z + 1 : Nat) : Int) = (k_z : Int) + 1 by omega] at g4
          exact g4)
        exact h2
    · refine ⟨fun h1 => ?_, fun h1 => ?_⟩
      · refine ⟨⟨by omega, by omega⟩, ?_⟩
        exact Or.inl ⟨rfl, h1, rfl⟩
      · exact Or.inr ⟨rfl, h1, rfl⟩
theorem jg_59 {s : cx_Sd 12} {n : Int} {ks : List (Fin 12)} {w1 : pm_V} (n0 : 0 ≤ n) (n6 : n ≤ 6) : ∀ (m_z t_z : Nat) (A_z : pm_A) (R_z : List (List (Fin 12))) (w5 : pm_V), 3001 - t_z < m_z → t_z ≤ R_z.length → fnX2 s n ks R_z A_z → jI s n ks R_z t_z 0 → Tm pmt (an_sh wX) o_X4_judge 59 ([(2, 413), w1, (0, n), (2, 407), (0, (t_z : Int)), w5], [], A_z) (jgP s n ks) := by
  intro m_z
  induction m_z with
  | zero => intro t_z A_z R_z w5 h_z ht hA; have := hA.tp.1; omega
  | succ m_z ih_z =>
    intro t_z A_z R_z w5 hm_z ht hA hI
    have hl3 := hA.tp.1
    have hlen := hA.1.2.2.2.1
    refine wq_ok sq_judge (fr := []) (cuts := [79, 196]) (J := fun pc st_z => (pc = 196 ∧ R_z.length ≤ t_z ∧ st_z = ([(2, 413), w1, (0, n), (2, 407), (0, (t_z : Int)), w5], [], A_z)) ∨ (pc = 79 ∧ t_z < R_z.length ∧ st_z = ([(2, 413), w1, (0, n), (2, 407), (0, (t_z : Int)), (0, 0)], [], A_z))) ?_ 20 59 _ ?_
    · rintro pc st_z (⟨rfl, h1, rfl⟩ | ⟨rfl, h1, rfl⟩)
      · refine wq_ok sq_judge (fr := []) (cuts := []) (J := fun _ _ => False) (fun _ _ h_z => h_z.elim) 20 196 _ ?_
        refine ⟨oX_6 (by omega) k407 5 rfl, ?_⟩
        refine ⟨oX_7 (by omega) k413 1 rfl, ?_⟩
        refine ⟨rfl, some (R_z, some none), 1, jg_out hI (Or.inl ⟨h1, rfl⟩), rfl, Or.inr (Or.inl ⟨R_z, rfl, rfl, ?_, ?_⟩)⟩
        · show pm_upd A_z 413 1 (A_z 407 5) 413 0 = 0
          rw [upd_o (by omega)]; exact hA.1.2.2.2.2
        · show pm_upd A_z 413 1 (A_z 407 5) 413 1 = _
          rw [upd_at]; exact hlen
      · exact jg_79 (w1 := w1) n0 n6 (fun C_z R_z w_z g1 g2 g3_z => ih_z (t_z + 1) C_z R_z w_z (by omega) (by omega) g1 g3_z) _ 0 A_z R_z (Nat.lt_succ_self _) (by omega) hA (List.getElem?_eq_getElem h1) hI
    · refine ⟨oX_6 (by omega) k407 5 rfl, ?_⟩
      refine ⟨fun h1 => ?_, fun h1 => ?_⟩
      · exact Or.inl ⟨rfl, by omega, rfl⟩
      · refine ⟨fun h2 => absurd h2 (by omega), fun h2 => ?_⟩
        exact Or.inr ⟨rfl, by omega, rfl⟩
theorem judge_ex {s : cx_Sd 12} {n : Int} {ks : List (Fin 12)} {A : pm_A} (hA : gH wX A) (hK : BK A) (n0 : 0 ≤ n) (n6 : n ≤ 6) (hT : tbE s ks (A 2) n) (hb : tbB (A 2) n n) : Cl pmt (an_sh wX) 35 [(2, 413), (2, 2), (0, n), (2, 407)] A (jgP s n ks) := by
  have k2_z : wX.2 2 = 10 := by decide
  have s10_z := shX_10 k2_z
  have s15_z := shX_10 k415
  have b3 := hK.2.2.2.2
  have cg : gH wX (pm_cpy A 2 0 415 0 72) := gH_cpy hA (ka := (1, 0, 72, [(0, -2147483648, 2147483647)])) (kb := (1, 0, 72, [(0, -2147483648, 2147483647)])) (by omega) (by rw [k2_z]; rfl) (by rw [k415]; rfl) rfl rfl rfl rfl rfl rfl (by omega) (by omega) (by simp only; omega)
  have cin : ∀ j_z : Int, 0 ≤ j_z → j_z < 72 → pm_cpy A 2 0 415 0 72 415 j_z = A 2 j_z := fun j_z j0 j1 => by
    rw [cpy_in ⟨by omega, by omega⟩, show (0 : Int) + (j_z - 0) = j_z by omega]
  have cout : ∀ r_z j_z : Int, ¬ r_z = 415 → pm_cpy A 2 0 415 0 72 r_z j_z = A r_z j_z := fun r_z j_z hr => cpy_out (fun e_z => hr e_z.1)
  refine Cl.of (Nat.le_of_ble_eq_true rfl) ?_
  refine wq_ok (full := o_X4_judge) sq_judge (fr := []) (cuts := [12]) (J := fun pc st_z => pc = 12 ∧ st_z = ([(2, 413), (2, 2), (0, n), (2, 407), (9, 0), (9, 0)], [], pm_cpy A 2 0 415 0 72)) ?_ 20 0 _ ?_
  · rintro pc st_z ⟨rfl, rfl⟩
    generalize pm_cpy A 2 0 415 0 72 = B_z at cg cin cout
    have gE : gH wX (pm_upd (pm_upd B_z 413 0 0) 413 1 1) := u7_1 (u7_0 cg (by omega) (by omega)) ⟨by omega, by omega⟩
    have eE : ∀ r_z j_z : Int, ¬ r_z = 415 → ¬ (r_z = 413 ∧ (j_z = 0 ∨ j_z = 1)) → pm_upd (pm_upd B_z 413 0 0) 413 1 1 r_z j_z = A r_z j_z := fun r_z j_z h1 h2 => by rw [upd_o (by omega), upd_o (by omega)]; exact cout r_z j_z h1
    have e0_z : pm_upd (pm_upd B_z 413 0 0) 413 1 1 413 0 = 0 := by rw [upd_o (by omega), upd_at]
    have e1_z : pm_upd (pm_upd B_z 413 0 0) 413 1 1 413 1 = 1 := upd_at
    have e2_z : ∀ j_z : Int, 0 ≤ j_z → j_z < 72 → pm_upd (pm_upd B_z 413 0 0) 413 1 1 415 j_z = A 2 j_z := fun j_z j0 j1 => by rw [upd_o (by omega), upd_o (by omega)]; exact cin j_z j0 j1
    refine wq_ok sq_judge (fr := []) (cuts := [22]) (J := fun pc st_z => pc = 22 ∧ st_z = ([(2, 413), (2, 2), (0, n), (2, 407), (9, 0), (9, 0)], [], pm_upd (pm_upd B_z 413 0 0) 413 1 1)) ?_ 20 12 _ ?_
    · rintro pc st_z ⟨rfl, rfl⟩
      generalize pm_upd (pm_upd B_z 413 0 0) 413 1 1 = E_z at gE eE e0_z e1_z e2_z
      have hKE : BK E_z := by
        obtain ⟨⟨a1_z, a2, a3, a4, a5⟩, b1, b2, b3, b4_z⟩ := hK
        refine ⟨⟨?_, ?_, ?_, ?_, ?_⟩, ?_, ?_, ?_, ?_⟩
        all_goals (rw [eE _ _ (by omega) (by omega)]; assumption)
      have tE_z : tbE s ks (E_z 415) n := fun i_z j_z hi_z hj => by rw [e2_z _ (by omega) (by omega)]; exact hT i_z j_z hi_z hj
      have bE : tbB (E_z 415) n n := fun i_z j_z i0_z i1_z j0 j1 => by rw [e2_z _ (by omega) (by omega)]; exact hb i_z j_z i0_z i1_z j0 j1
      refine wq_ok sq_judge (fr := []) (cuts := [27]) (J := fun pc st_z => pc = 27 ∧ ∃ y_z : Int, ((y_z = 1 ∧ wdI (E_z 415) n) ∨ (y_z = 0 ∧ ¬ wdI (E_z 415) n)) ∧ st_z = ([(2, 413), (2, 2), (0, n), (2, 407), (9, 0), (9, 0)], [(0, y_z)], E_z)) ?_ 20 22 _ ?_
      · rintro pc st_z ⟨rfl, y_z, hy, rfl⟩
        rcases hy with ⟨rfl, hw⟩ | ⟨rfl, hw⟩
        · refine wq_ok sq_judge (fr := []) (cuts := []) (J := fun _ _ => False) (fun _ _ h_z => h_z.elim) 10 27 _ ?_
          refine ⟨fun hh => absurd hh (by decide), fun _ => ?_⟩
          exact ⟨rfl, none, 0, Or.inl ⟨(wd_iff tE_z n6).1 hw, rfl⟩, rfl, Or.inl ⟨rfl, rfl, e0_z, e1_z⟩⟩
        · have hnw : ¬ wdT s n ks := fun hw2 => hw ((wd_iff tE_z n6).2 hw2)
          refine wq_ok sq_judge (fr := []) (cuts := [36]) (J := fun pc st_z => pc = 36 ∧ ∃ C_z, bcP E_z (none, C_z) ∧ st_z = ([(2, 413), (2, 2), (0, n), (2, 407), (9, 0), (9, 0)], [], C_z)) ?_ 20 27 _ ?_
          · rintro pc st_z ⟨rfl, C_z, ⟨_, c1_z, c2_z, c3_z, c4_z, c5_z⟩, rfl⟩
            simp only at c1_z c2_z c3_z c4_z c5_z
            have e415 : C_z 415 = E_z 415 := funext fun j_z => c5_z 415 j_z (by omega) (by omega)
            have tC : tbE s ks (C_z 415) n := by rw [e415]; exact tE_z
            have h3 := tb_r3 tC hnw n6
            refine wq_ok sq_judge (fr := []) (cuts := [41]) (J := fun pc st_z => pc = 41 ∧ ∃ D_z, paP C_z n (none, D_z) ∧ st_z = ([(2, 413), (2, 2), (0, n), (2, 407), (9, 0), (9, 0)], [], D_z)) ?_ 20 36 _ ?_
            · rintro pc st_z ⟨rfl, D_z, ⟨_, d1_z, d2_z, d3_z, d4_z⟩, rfl⟩
              simp only at d1_z d2_z d3_z d4_z
              have f415 : D_z 415 = C_z 415 := funext fun j_z => d2_z 415 j_z (by omega)
              have f5_z : D_z 407 5 = 0 := by rw [d2_z 407 5 (by omega)]; exact c3_z
              have hKD : BK D_z := by
                obtain ⟨⟨a1_z, a2, a3, a4, a5⟩, b1, b2, b3, b4_z⟩ := c2_z
                refine ⟨⟨?_, ?_, ?_, ?_, ?_⟩, ?_, ?_, ?_, ?_⟩
                all_goals (rw [d2_z _ _ (by omega)]; assumption)
              have hSD : bkS D_z (D_z 407 5) := by
                have g8 : D_z 408 = C_z 408 := funext fun j_z => d2_z 408 j_z (by omega)
                have g9 : D_z 409 = C_z 409 := funext fun j_z => d2_z 409 j_z (by omega)
                have g12 : D_z 412 = C_z 412 := funext fun j_z => d2_z 412 j_z (by omega)
                unfold bkS
                rw [f5_z, g8, g9, g12]
                exact c4_z
              have f0_z : D_z 413 0 = 0 := by rw [d2_z 413 0 (by omega), c5_z 413 0 (by omega) (by omega)]; exact e0_z
              rw [← f415] at d3_z d4_z h3 tC
              have hfp : fnX2 s n ks [] D_z := ⟨⟨d1_z, hKD, hSD, by rw [f5_z]; rfl, f0_z⟩, fun e_z p_z he => by simp at he⟩
              have pb_z := pk_b h3 n0 n6
              refine wq_ok sq_judge (fr := []) (cuts := [55]) (J := fun pc st_z => pc = 55 ∧ ∃ (F_z : pm_A) (y_z : Int), beP D_z (pk1 (D_z 415) n) (pk2 (D_z 415) n) (-1) (-1) (some (0, y_z), F_z) ∧ st_z = ([(2, 413), (2, 2), (0, n), (2, 407), (9, 0), (9, 0)], [(0, y_z)], F_z)) ?_ 20 41 _ ?_
              · rintro pc st_z ⟨rfl, F_z, y_z, hF, rfl⟩
                rcases hF with ⟨g1, _⟩ | ⟨_, _, g3_z, g4, g5_z⟩
                · rw [f5_z] at g1
                  omega
                · simp only at g3_z g4 g5_z
                  have hF2 := fp_put (p := []) hfp (by rw [List.append_nil]; exact tC) h3 g3_z g4 g5_z (Nat.zero_le _) (Or.inl ⟨rfl, rfl⟩)
                  refine wq_ok sq_judge (fr := []) (cuts := [59]) (J := fun pc st_z => pc = 59 ∧ st_z = ([(2, 413), (2, 2), (0, n), (2, 407), (0, 0), (9, 0)], [], F_z)) ?_ 20 55 _ ?_
                  · rintro pc st_z ⟨rfl, rfl⟩
                    exact jg_59 n0 n6 _ 0 F_z [[]] _ (Nat.lt_succ_self _) (Nat.zero_le _) hF2 ⟨fun o_z m_z hm_z => ⟨m_z, hm_z⟩, hnw⟩
                  · exact ⟨rfl, rfl⟩
              · refine ⟨oX_7 (by omega) k413 4 rfl, ?_⟩
                refine ⟨oX_7 (by omega) k413 5 rfl, ?_⟩
                refine ⟨rX_6 (by omega) k407, ?_⟩
                rw [d3_z, d4_z]
                refine (benter_ex (a := pk1 (D_z 415) n) (c := pk2 (D_z 415) n) (f := -1) (s := -1) d1_z hKD hSD (by unfold r64; omega) (by unfold r64; omega) ⟨by omega, by omega⟩ ⟨by omega, by omega⟩ (fun j_z j0 j1 => by rw [f5_z] at j1; omega)).imp ?_
                rintro ⟨r1_z, F_z⟩ hF
                have hr1 : ∃ y_z : Int, r1_z = some (0, y_z) := by
                  rcases hF with ⟨_, g2⟩ | ⟨_, g2, _⟩
                  · exact ⟨0, congrArg Prod.fst g2⟩
                  · exact ⟨1, g2⟩
                obtain ⟨y_z, rfl⟩ := hr1
                exact ⟨rfl, F_z, y_z, hF, rfl⟩
            · refine ⟨rX_7 (by omega) k413, ?_⟩
              refine (pack_ex c1_z c2_z h3 n0 n6).imp ?_
              rintro ⟨r1_z, D_z⟩ hD
              have hr1 : r1_z = none := hD.1
              subst hr1
              exact ⟨rfl, D_z, hD, rfl⟩
          · refine ⟨fun _ => ?_, fun hh => absurd rfl hh⟩
            refine ⟨rX_6 (by omega) k407, ?_⟩
            refine (bclear_ex gE hKE).imp ?_
            rintro ⟨r1_z, C_z⟩ hC
            have hr1 : r1_z = none := hC.1
            subst hr1
            exact ⟨rfl, C_z, hC, rfl⟩
      · refine ⟨rX_7 (by omega) k413, ?_⟩
        refine (xwild_ex hKE bE n0 n6).imp ?_
        rintro ⟨r1_z, D_z⟩ ⟨e_z, hy⟩
        simp only at e_z hy
        subst e_z
        rcases hy with ⟨e1, hy⟩ | ⟨e1, hy⟩
        · subst e1
          exact ⟨rfl, 1, Or.inl ⟨rfl, hy⟩, rfl⟩
        · subst e1
          exact ⟨rfl, 0, Or.inr ⟨rfl, hy⟩, rfl⟩
    · refine ⟨oX_7 (by omega) k413 0 rfl, ?_⟩
      refine ⟨oX_7 (by omega) k413 1 rfl, ?_⟩
      exact ⟨rfl, rfl⟩
  · refine ⟨oX_7 (by omega) k413 3 rfl, ?_⟩
    refine ⟨⟨by omega, by rw [b3]; omega, by rw [s10_z], by rw [s10_z], by rw [b3, s15_z], by rw [b3, s15_z], by omega, by omega, by omega, by rw [s10_z]; simp only; omega, by rw [b3, s15_z]; simp only; omega⟩, ?_⟩
    rw [b3]
    exact ⟨rfl, rfl⟩
theorem xfinite_ex {s : cx_Sd 12} {ks : List (Fin 12)} {A : pm_A} (hS : StE A) (hT : TrX s ks A 1) (hK : BK A) : Cl pmt (an_sh wX) 90 [(2, 0)] A (jgP s (A 1 0) ks) := by
  have hA := hS.1
  have a1_z := hS.2.1.1.1
  have m8_z := hS.2.2.2.2.2.1 1 (by omega) kk1
  have p6_z := fX_1_0 hA (r := 1) (by omega) kk1
  have q6_z := fX_1_1 hA (r := 1) (by omega) kk1
  obtain ⟨_, c1_z, c2_z, _⟩ := id hK.2
  have e12_z : A 1 2 = 2 := m8_z.1
  refine Cl.of (Nat.le_of_ble_eq_true rfl) ?_
  refine wq_ok (full := o_X9_finite) sq_Xfin (fr := []) (cuts := []) (J := fun _ _ => False) (fun _ _ h_z => h_z.elim) 30 0 _ ?_
  refine ⟨oX_0 z0 kk0 12 rfl, ?_⟩
  refine ⟨oX_0 z0 kk0 0 rfl, ?_⟩
  refine ⟨oX_1 (by rw [a1_z]; omega) (by rw [a1_z]; exact kk1) 2 rfl, ?_⟩
  refine ⟨oX_0 z0 kk0 0 rfl, ?_⟩
  refine ⟨oX_1 (by rw [a1_z]; omega) (by rw [a1_z]; exact kk1) 0 rfl, ?_⟩
  refine ⟨oX_0 z0 kk0 11 rfl, ?_⟩
  refine ⟨rX_7 (by rw [hK.2.2.1]; omega) (by rw [hK.2.2.1]; exact k413), ?_⟩
  rw [a1_z, hK.2.1, hK.2.2.1, e12_z]
  refine (judge_ex hA hK p6_z.1 p6_z.2 (s := s) (ks := ks) (fun i_z j_z hi_z hj => ?_) (fun i_z j_z i0_z i1_z j0 j1 => ?_)).imp ?_
  · have h1 := (hT.2.2.2.1 i_z j_z hj).1 (by unfold bgW; omega)
    rw [e12_z] at h1
    exact h1
  · have h1 := hT.2.2.2.2.2.2.1 i_z j_z i0_z (by unfold bgW; omega) j0 j1
    rw [e12_z] at h1
    exact h1
  · rintro ⟨r1_z, C_z⟩ hC
    have hC0 := hC
    obtain ⟨x_z, a_z, h1, h2, h3⟩ := hC0
    simp only at h2
    subst h2
    exact ⟨rfl, hC⟩
end

section
/-! the reference's tableHash, isTable, isWild, tells, exactly -/
theorem and_4095 (y : Int) : pp_bi 3 y 4095 = y % 4096 := by
  show ((Int32.ofInt y).toBitVec &&& (Int32.ofInt 4095).toBitVec).toInt = _
  have e_z : ((Int32.ofInt y).toBitVec &&& (Int32.ofInt 4095).toBitVec).toNat = (y % 4096).toNat := by
    rw [BitVec.toNat_and]
    show (BitVec.ofInt 32 y).toNat &&& (2 ^ 12 - 1) = _
    rw [Nat.and_two_pow_sub_one_eq_mod, BitVec.toNat_ofInt]
    omega
  rw [BitVec.toInt_eq_toNat_of_lt (by rw [e_z]; omega), e_z]
  omega
theorem sq_hash : pm_srt o_X10_tableHash = true := by decide +kernel
theorem sq_isTab : pm_srt o_X10_isTable = true := by decide +kernel
theorem sq_Mwild : pm_srt o_X10_isWild = true := by decide +kernel
/-- the part of a table that counts -/
def tRM (n : Int) (T : Int → Int) (x : Int) : Int := if x / 6 < n ∧ x % 6 < n then T x else 0
theorem tR_1 {n x : Int} {T : Int → Int} (h : n ≤ x / 6) : tRM n T x = 0 := by unfold tRM; rw [if_neg (by omega)]
theorem tR_2 {n x : Int} {T : Int → Int} (h : n ≤ x % 6) : tRM n T x = 0 := by unfold tRM; rw [if_neg (by omega)]
theorem tR_3 {n x : Int} {T : Int → Int} (h : x / 6 < n) (g : x % 6 < n) : tRM n T x = T x := by unfold tRM; rw [if_pos ⟨h, g⟩]
def hsT (T : Int → Int) : Nat → Int
  | 0 => 7
  | m_z + 1 => pp_bi 0 (pp_bi 2 31 (hsT T m_z)) (T (m_z : Int))
def hsE (T : Int → Int) : Int := pp_bi 5 (hsT T 36) (pp_bi 8 (hsT T 36) 12) % 4096
theorem hsT_c {T U : Int → Int} : ∀ m_z : Nat, (∀ x_z : Int, 0 ≤ x_z → x_z < m_z → T x_z = U x_z) → hsT T m_z = hsT U m_z
  | 0, _ => rfl
  | m_z + 1, h_z => by
    show pp_bi 0 (pp_bi 2 31 (hsT T m_z)) (T (m_z : Int)) = pp_bi 0 (pp_bi 2 31 (hsT U m_z)) (U (m_z : Int))
    rw [hsT_c m_z (fun x_z x0_z x1_z => h_z x_z x0_z (by omega)), h_z m_z (by omega) (by omega)]
theorem hsE_c {T U : Int → Int} (h : ∀ x_z : Int, 0 ≤ x_z → x_z < 36 → T x_z = U x_z) : hsE T = hsE U := by
  unfold hsE
  rw [hsT_c 36 (fun x_z x0_z x1_z => h x_z x0_z (by omega))]
theorem hsE_b {T : Int → Int} : 0 ≤ hsE T ∧ hsE T ≤ 4095 := by unfold hsE; omega
theorem mh_5 {A : pm_A} (hA : gH wM A) : ∀ (m_z i_z : Nat), 36 - i_z < m_z → i_z ≤ 36 → Tm pmt (an_sh wM) o_X10_tableHash 5 ([(2, 0), (0, hsT (tRM (A 0 7) (A 5)) i_z), (0, (i_z : Int))], [], A) (fun r_z => r_z = (some (0, hsE (tRM (A 0 7) (A 5))), A)) := by
  have c9_z := pM_9 hA
  intro m_z
  induction m_z with
  | zero => intro i_z h_z; omega
  | succ m_z ih_z =>
    intro i_z hm_z hi_z
    refine wq_ok sq_hash (fr := [14, 47]) (cuts := [5]) (J := fun pc st_z => pc = 5 ∧ i_z < 36 ∧ st_z = ([(2, 0), (0, pp_bi 0 (pp_bi 2 31 (hsT (tRM (A 0 7) (A 5)) i_z)) (tRM (A 0 7) (A 5) (i_z : Int))), (0, (i_z : Int) + 1)], [], A)) ?_ 60 5 _ ?_
    · rintro pc st_z ⟨rfl, h1, rfl⟩
      rw [show (i_z : Int) + 1 = ((i_z + 1 : Nat) : Int) by omega]
      exact ih_z (i_z + 1) (by omega) (by omega)
    · refine ⟨fun h1 => ?_, fun h1 => ?_⟩
      · have ei : i_z = 36 := by omega
        subst ei
        refine ⟨rfl, ?_⟩
        rw [and_4095]
        rfl
      · refine ⟨⟨by omega, by omega, by omega, by omega⟩, ?_⟩
        refine ⟨oM_0 (by omega) km0 7 rfl, ?_⟩
        refine ⟨fun h2 => ?_, fun h2 => ?_⟩
        · refine ⟨⟨by omega, by omega⟩, ?_⟩
          refine ⟨rfl, by omega, ?_⟩
          rw [tR_1 h2]
          rfl
        · refine ⟨⟨by omega, by omega, by omega, by omega⟩, ?_⟩
          refine ⟨oM_0 (by omega) km0 7 rfl, ?_⟩
          refine ⟨fun h3 => ?_, fun h3 => ?_⟩
          · refine ⟨⟨by omega, by omega⟩, ?_⟩
            refine ⟨rfl, by omega, ?_⟩
            rw [tR_2 h3]
            rfl
          · refine ⟨oM_0 (by omega) km0 9 rfl, ?_⟩
            refine ⟨aM_5 (r := A 0 9) (by rw [c9_z]; omega) (by rw [c9_z]; exact kn5) (by omega) (by omega), ?_⟩
            refine ⟨⟨by omega, by omega⟩, ?_⟩
            refine ⟨rfl, by omega, ?_⟩
            rw [tR_3 h2 h3, c9_z]
            rfl
theorem mhash_ex {A : pm_A} (hA : gH wM A) : Cl pmt (an_sh wM) 188 [(2, 0)] A (fun r_z => r_z = (some (0, hsE (tRM (A 0 7) (A 5))), A)) := by
  refine Cl.of (Nat.le_of_ble_eq_true rfl) ?_
  refine wq_ok (full := o_X10_tableHash) sq_hash (fr := []) (cuts := [5]) (J := fun pc st_z => pc = 5 ∧ st_z = ([(2, 0), (0, 7), (0, 0)], [], A)) ?_ 10 0 _ ?_
  · rintro pc st_z ⟨rfl, rfl⟩
    exact mh_5 hA _ 0 (Nat.lt_succ_self _) (by omega)
  · exact ⟨rfl, rfl⟩
def mtbE (A : pm_A) (t : Int) : Prop := ∀ x_z : Int, 0 ≤ x_z → x_z < 36 → A 24 (36 * t + x_z) = tRM (A 0 7) (A 5) x_z
def mtP2 (A : pm_A) (t : Int) (r : pm_R) : Prop := r.2 = A ∧ ((r.1 = some (0, 1) ∧ mtbE A t) ∨ (r.1 = some (0, 0) ∧ ¬ mtbE A t))
theorem mt_2 {A : pm_A} {t : Int} (hA : gH wM A) (t0 : 0 ≤ t) (t1 : t < 3000) : ∀ (m_z i_z : Nat), 36 - i_z < m_z → i_z ≤ 36 → (∀ x_z : Int, 0 ≤ x_z → x_z < i_z → A 24 (36 * t + x_z) = tRM (A 0 7) (A 5) x_z) → Tm pmt (an_sh wM) o_X10_isTable 2 ([(2, 0), (0, t), (0, (i_z : Int))], [], A) (mtP2 A t) := by
  have c9_z := pM_9 hA
  have c37_z := pM_37 hA
  intro m_z
  induction m_z with
  | zero => intro i_z h_z; omega
  | succ m_z ih_z =>
    intro i_z hm_z hi_z hI
    have go_z : i_z < 36 → ∀ y_z : Int, y_z = tRM (A 0 7) (A 5) (i_z : Int) → (A 24 (36 * t + (i_z : Int)) = y_z → Tm pmt (an_sh wM) o_X10_isTable 56 ([(2, 0), (0, t), (0, (i_z : Int))], [], A) (mtP2 A t)) ∧ (¬ A 24 (36 * t + (i_z : Int)) = y_z → mtP2 A t (some (0, 0), A)) := fun h1 y_z hy => by
      refine ⟨fun h2 => ?_, fun h2 => ?_⟩
      · refine wq_ok sq_isTab (fr := []) (cuts := [2]) (J := fun pc st_z => pc = 2 ∧ st_z = ([(2, 0), (0, t), (0, (i_z : Int) + 1)], [], A)) ?_ 10 56 _ ?_
        · rintro pc st_z ⟨rfl, rfl⟩
          rw [show (i_z : Int) + 1 = ((i_z + 1 : Nat) : Int) by omega]
          refine ih_z (i_z + 1) (by omega) (by omega) (fun x_z x0_z x1_z => ?_)
          by_cases ex_z : x_z = (i_z : Int)
          · rw [ex_z, h2, hy]
          · exact hI x_z x0_z (by omega)
        · refine ⟨⟨by omega, by omega⟩, ?_⟩
          exact ⟨rfl, rfl⟩
      · exact ⟨rfl, Or.inr ⟨rfl, fun hq => h2 (by rw [hy]; exact hq (i_z : Int) (by omega) (by omega))⟩⟩
    refine wq_ok sq_isTab (fr := []) (cuts := [56]) (J := fun pc st_z => pc = 56 ∧ i_z < 36 ∧ A 24 (36 * t + (i_z : Int)) = tRM (A 0 7) (A 5) (i_z : Int) ∧ st_z = ([(2, 0), (0, t), (0, (i_z : Int))], [], A)) ?_ 60 2 _ ?_
    · rintro pc st_z ⟨rfl, h1, h2, rfl⟩
      exact (go_z h1 _ rfl).1 h2
    · refine ⟨fun h1 => ?_, fun h1 => ?_⟩
      · exact ⟨rfl, rfl, Or.inl ⟨rfl, fun x_z x0_z x1_z => hI x_z x0_z (by omega)⟩⟩
      · refine ⟨oM_0 (by omega) km0 37 rfl, ?_⟩
        refine ⟨⟨by omega, by omega⟩, ?_⟩
        refine ⟨⟨by omega, by omega⟩, ?_⟩
        refine ⟨aM_24 (r := A 0 37) (by rw [c37_z]; omega) (by rw [c37_z]; exact kn24) (by omega) (by omega), ?_⟩
        rw [c37_z]
        refine ⟨⟨by omega, by omega, by omega, by omega⟩, ?_⟩
        refine ⟨oM_0 (by omega) km0 7 rfl, ?_⟩
        refine ⟨fun h2 => ?_, fun h2 => ?_⟩
        · refine ⟨fun h4 => ?_, fun h4 => ?_⟩
          · exact ⟨rfl, by omega, by rw [tR_1 h2]; exact h4, rfl⟩
          · exact ⟨rfl, (go_z (by omega) 0 (tR_1 h2).symm).2 h4⟩
        · refine ⟨⟨by omega, by omega, by omega, by omega⟩, ?_⟩
          refine ⟨oM_0 (by omega) km0 7 rfl, ?_⟩
          refine ⟨fun h3 => ?_, fun h3 => ?_⟩
          · refine ⟨fun h4 => ?_, fun h4 => ?_⟩
            · exact ⟨rfl, by omega, by rw [tR_2 h3]; exact h4, rfl⟩
            · exact ⟨rfl, (go_z (by omega) 0 (tR_2 h3).symm).2 h4⟩
          · refine ⟨oM_0 (by omega) km0 9 rfl, ?_⟩
            refine ⟨aM_5 (r := A 0 9) (by rw [c9_z]; omega) (by rw [c9_z]; exact kn5) (by omega) (by omega), ?_⟩
            rw [c9_z]
            refine ⟨fun h4 => ?_, fun h4 => ?_⟩
            · exact ⟨rfl, by omega, by rw [tR_3 h2 h3]; exact h4, rfl⟩
            · exact ⟨rfl, (go_z (by omega) _ (tR_3 h2 h3).symm).2 h4⟩
theorem misTab_ex {A : pm_A} {t : Int} (hA : gH wM A) (t0 : 0 ≤ t) (t1 : t < 3000) : Cl pmt (an_sh wM) 157 [(2, 0), (0, t)] A (mtP2 A t) := by
  refine Cl.of (Nat.le_of_ble_eq_true rfl) ?_
  refine wq_ok (full := o_X10_isTable) sq_isTab (fr := []) (cuts := [2]) (J := fun pc st_z => pc = 2 ∧ st_z = ([(2, 0), (0, t), (0, 0)], [], A)) ?_ 10 0 _ ?_
  · rintro pc st_z ⟨rfl, rfl⟩
    exact mt_2 hA t0 t1 _ 0 (Nat.lt_succ_self _) (by omega) (fun x_z x0_z x1_z => by omega)
  · exact ⟨rfl, rfl⟩
def wdM (T : Int → Int) (n : Int) : Prop := ∃ i_z j_z : Int, (0 ≤ i_z ∧ i_z < n) ∧ (0 ≤ j_z ∧ j_z < n) ∧ T (6 * i_z + j_z) * T (6 * j_z + i_z) < -3
theorem wdM_iff {s : cx_Sd 12} {l : List (Fin 12)} {T : Int → Int} {n : Int} (h : tbE s l T n) (n6 : n ≤ 6) : wdM T n ↔ wdT s n l := by
  constructor
  · rintro ⟨i_z, j_z, hi_z, hj, hw⟩
    obtain ⟨f_z, rfl⟩ := fnt_of (i := i_z) hi_z.1 (by omega)
    obtain ⟨g_z, rfl⟩ := fnt_of (i := j_z) hj.1 (by omega)
    refine ⟨f_z, g_z, ⟨hi_z.2, hj.2⟩, ?_⟩
    rw [h f_z g_z hi_z.2 hj.2, h g_z f_z hj.2 hi_z.2, Int.mul_comm (f_z.1 : Int) 6, Int.mul_comm (g_z.1 : Int) 6]
    exact hw
  · rintro ⟨i_z, j_z, ⟨hi_z, hj⟩, hw⟩
    refine ⟨i_z.1, j_z.1, ⟨by omega, hi_z⟩, ⟨by omega, hj⟩, ?_⟩
    rw [h i_z j_z hi_z hj, h j_z i_z hj hi_z, Int.mul_comm (i_z.1 : Int) 6, Int.mul_comm (j_z.1 : Int) 6] at hw
    exact hw
def mwP (A : pm_A) (r : pm_R) : Prop := r.2 = A ∧ ((r.1 = some (0, 1) ∧ wdM (A 5) (A 0 7)) ∨ (r.1 = some (0, 0) ∧ ¬ wdM (A 5) (A 0 7)))
def mwB (A : pm_A) : Prop := ∀ i_z j_z : Int, 0 ≤ i_z → i_z < A 0 7 → 0 ≤ j_z → j_z < A 0 7 → -9999 ≤ A 5 (6 * i_z + j_z) ∧ A 5 (6 * i_z + j_z) ≤ 9999
def mwI (T : Int → Int) (n i j : Int) : Prop := ∀ a_z b_z : Int, 0 ≤ a_z → a_z < n → 0 ≤ b_z → b_z < n → a_z < i ∨ (a_z = i ∧ b_z < j) → ¬ T (6 * a_z + b_z) * T (6 * b_z + a_z) < -3
theorem mw_12 {A : pm_A} {i : Int} (hA : gH wM A) (hB : mwB A) (i0 : 0 ≤ i) (i1 : i < A 0 7) (H : ∀ w2_z, mwI (A 5) (A 0 7) (i + 1) 0 → Tm pmt (an_sh wM) o_X10_isWild 2 ([(2, 0), (0, i + 1), w2_z], [], A) (mwP A)) : ∀ (m_z : Nat) (j_z : Int), (6 - j_z).toNat < m_z → 0 ≤ j_z → j_z ≤ A 0 7 → mwI (A 5) (A 0 7) i j_z → Tm pmt (an_sh wM) o_X10_isWild 12 ([(2, 0), (0, i), (0, j_z)], [], A) (mwP A) := by
  have c9_z := pM_9 hA
  have p7_z := fM_0_7 hA (r := 0) (by omega) km0
  intro m_z
  induction m_z with
  | zero => intro j_z h_z; omega
  | succ m_z ih_z =>
    intro j_z hm_z j0 j1 hI
    refine wq_ok sq_Mwild (fr := []) (cuts := [2, 12]) (J := fun pc st_z => (pc = 2 ∧ A 0 7 ≤ j_z ∧ st_z = ([(2, 0), (0, i + 1), (0, j_z)], [], A)) ∨ (pc = 12 ∧ j_z < A 0 7 ∧ (¬ A 5 (6 * i + j_z) * A 5 (6 * j_z + i) < -3) ∧ st_z = ([(2, 0), (0, i), (0, j_z + 1)], [], A))) ?_ 40 12 _ ?_
    · rintro pc st_z (⟨rfl, h1, rfl⟩ | ⟨rfl, h1, h2, rfl⟩)
      · refine H _ (fun a_z b_z a0_z a1_z b0 b1 hab => ?_)
        by_cases e_z : a_z = i
        · exact hI a_z b_z a0_z a1_z b0 b1 (Or.inr ⟨e_z, by omega⟩)
        · exact hI a_z b_z a0_z a1_z b0 b1 (Or.inl (by omega))
      · refine ih_z (j_z + 1) (by omega) (by omega) (by omega) (fun a_z b_z a0_z a1_z b0 b1 hab => ?_)
        by_cases e_z : a_z = i ∧ b_z = j_z
        · rw [e_z.1, e_z.2]; exact h2
        · exact hI a_z b_z a0_z a1_z b0 b1 (by omega)
    · refine ⟨oM_0 (by omega) km0 7 rfl, ?_⟩
      refine ⟨fun h1 => ?_, fun h1 => ?_⟩
      · refine ⟨⟨by omega, by omega⟩, ?_⟩
        exact Or.inl ⟨rfl, h1, rfl⟩
      · have p1_z := pr_bd (hB i j_z i0 i1 j0 h1) (hB j_z i j0 h1 i0 i1)
        refine ⟨oM_0 (by omega) km0 9 rfl, ?_⟩
        refine ⟨⟨by omega, by omega⟩, ?_⟩
        refine ⟨⟨by omega, by omega⟩, ?_⟩
        refine ⟨aM_5 (r := A 0 9) (by rw [c9_z]; omega) (by rw [c9_z]; exact kn5) (by omega) (by omega), ?_⟩
        refine ⟨oM_0 (by omega) km0 9 rfl, ?_⟩
        refine ⟨⟨by omega, by omega⟩, ?_⟩
        refine ⟨⟨by omega, by omega⟩, ?_⟩
        refine ⟨aM_5 (r := A 0 9) (by rw [c9_z]; omega) (by rw [c9_z]; exact kn5) (by omega) (by omega), ?_⟩
        rw [c9_z]
        refine ⟨⟨p1_z.1, p1_z.2⟩, ?_⟩
        refine ⟨fun h2 => ?_, fun h2 => ?_⟩
        · refine ⟨⟨by omega, by omega⟩, ?_⟩
          exact Or.inr ⟨rfl, h1, by omega, rfl⟩
        · exact ⟨rfl, rfl, Or.inl ⟨rfl, i, j_z, ⟨i0, i1⟩, ⟨j0, h1⟩, h2⟩⟩
theorem mw_2 {A : pm_A} (hA : gH wM A) (hB : mwB A) : ∀ (m_z : Nat) (i_z : Int) (w2_z : pm_V), (6 - i_z).toNat < m_z → 0 ≤ i_z → i_z ≤ A 0 7 → mwI (A 5) (A 0 7) i_z 0 → Tm pmt (an_sh wM) o_X10_isWild 2 ([(2, 0), (0, i_z), w2_z], [], A) (mwP A) := by
  have p7_z := fM_0_7 hA (r := 0) (by omega) km0
  intro m_z
  induction m_z with
  | zero => intro i_z w2_z h_z; omega
  | succ m_z ih_z =>
    intro i_z w2_z hm_z i0_z i1_z hI
    refine wq_ok sq_Mwild (fr := []) (cuts := [12]) (J := fun pc st_z => pc = 12 ∧ i_z < A 0 7 ∧ st_z = ([(2, 0), (0, i_z), (0, 0)], [], A)) ?_ 20 2 _ ?_
    · rintro pc st_z ⟨rfl, h1, rfl⟩
      exact mw_12 hA hB i0_z h1 (fun w2_z hI2 => ih_z (i_z + 1) w2_z (by omega) (by omega) (by omega) hI2) _ 0 (Nat.lt_succ_self _) (by omega) (by omega) hI
    · refine ⟨oM_0 (by omega) km0 7 rfl, ?_⟩
      refine ⟨fun h1 => ?_, fun h1 => ?_⟩
      · refine ⟨rfl, rfl, Or.inr ⟨rfl, ?_⟩⟩
        rintro ⟨a_z, b_z, ha_z, hb_z, hw⟩
        exact hI a_z b_z ha_z.1 ha_z.2 hb_z.1 hb_z.2 (Or.inl (by omega)) hw
      · exact ⟨rfl, h1, rfl⟩
theorem mwild_ex {A : pm_A} (hA : gH wM A) (hB : mwB A) : Cl pmt (an_sh wM) 159 [(2, 0)] A (mwP A) := by
  have p7_z := fM_0_7 hA (r := 0) (by omega) km0
  refine Cl.of (Nat.le_of_ble_eq_true rfl) ?_
  refine wq_ok (full := o_X10_isWild) sq_Mwild (fr := []) (cuts := [2]) (J := fun pc st_z => pc = 2 ∧ st_z = ([(2, 0), (0, 0), (9, 0)], [], A)) ?_ 10 0 _ ?_
  · rintro pc st_z ⟨rfl, rfl⟩
    exact mw_2 hA hB _ 0 _ (Nat.lt_succ_self _) (by omega) (by omega) (fun a_z b_z a0_z a1_z b0 b1 hab => by omega)
  · exact ⟨rfl, rfl⟩
/-! tells -/
def HS (A : pm_A) (t : Int) : Int := hsE (fun x_z => A 24 (36 * t + x_z))
def PB (A : pm_A) (x y h : Int) : Prop := (-1 ≤ y ∧ y < x) ∧ (0 ≤ y → HS A y = h) ∧ ∀ e_z : Int, y < e_z → e_z < x → ¬ HS A e_z = h
def HL (A : pm_A) : Prop := (∀ h_z : Int, 0 ≤ h_z → h_z < 4096 → PB A (A 0 40) (A 28 h_z) h_z) ∧ ∀ t_z : Int, 0 ≤ t_z → t_z < A 0 40 → PB A t_z (A 29 t_z) (HS A t_z)
def te1 (A B : pm_A) (h fr bb : Int) : Prop := gH wM B ∧ B 0 40 = A 0 40 + 1 ∧ (∀ r_z j_z : Int, ¬ (r_z = 24 ∧ 36 * A 0 40 ≤ j_z ∧ j_z < 36 * A 0 40 + 36) → ¬ ((r_z = 25 ∨ r_z = 26 ∨ r_z = 29) ∧ j_z = A 0 40) → ¬ (r_z = 28 ∧ j_z = h) → ¬ (r_z = 0 ∧ j_z = 40) → B r_z j_z = A r_z j_z) ∧ (∀ x_z : Int, 0 ≤ x_z → x_z < 36 → B 24 (36 * A 0 40 + x_z) = tRM (A 0 7) (A 5) x_z) ∧ (B 25 (A 0 40) = fr ∧ B 26 (A 0 40) = bb ∧ B 29 (A 0 40) = A 28 h ∧ B 28 h = A 0 40)
def teQ (A : pm_A) (fr bb : Int) (r : pm_R) : Prop := (r = (some (0, 0), A) ∧ ∃ t_z : Int, (0 ≤ t_z ∧ t_z < A 0 40) ∧ mtbE A t_z) ∨ ((∀ t_z : Int, 0 ≤ t_z → t_z < A 0 40 → ¬ mtbE A t_z) ∧ ((r = (some (0, 2), A) ∧ wdM (A 5) (A 0 7)) ∨ ((¬ wdM (A 5) (A 0 7)) ∧ ((r = (some (0, 3), A) ∧ A 0 40 = 3000) ∨ (A 0 40 < 3000 ∧ r.1 = some (0, 1) ∧ te1 A r.2 (hsE (tRM (A 0 7) (A 5))) fr bb)))))
def tn9 (A C : pm_A) (i : Int) : Prop := gH wM C ∧ (∀ r_z j_z : Int, ¬ (r_z = 24 ∧ 36 * A 0 40 ≤ j_z ∧ j_z < 36 * A 0 40 + 36) → C r_z j_z = A r_z j_z) ∧ ∀ x_z : Int, 0 ≤ x_z → x_z < i → C 24 (36 * A 0 40 + x_z) = tRM (A 0 7) (A 5) x_z
theorem tq_129 {A C : pm_A} {h fr bb : Int} {w4 : pm_V} (hA : gH wM A) (hL : HL A) (h40 : A 0 40 < 3000) (h0 : 0 ≤ h) (h1 : h ≤ 4095) (hfr : -1 ≤ fr ∧ fr ≤ 2999) (hbb : r32 bb) (hI : tn9 A C 36) {z : pm_R → Prop} (H : ∀ B_z, te1 A B_z h fr bb → z (some (0, 1), B_z)) : Tm pmt (an_sh wM) o_X10_tells 129 ([(2, 0), (0, fr), (0, bb), (0, h), w4], [], C) z := by
  have p40 := fM_0_40 hA (r := 0) (by omega) km0
  obtain ⟨hC, hF, hrow⟩ := hI
  have e40 : C 0 40 = A 0 40 := hF _ _ (by omega)
  have c38_z := pM_38 hC
  have b28 := eM_28 hA (r := 28) (by omega) kn28 h0 (show h < 4096 by omega)
  have hh := (hL.1 h h0 (by omega)).1
  generalize hm_z : A 0 40 = m_z at *
  have g1 : gH wM (pm_upd C 25 m_z fr) := uM_25 hC kn25 hfr.1 hfr.2
  have c39_z : pm_upd C 25 m_z fr 0 39 = 26 := pM_39 g1
  have f40 : pm_upd C 25 m_z fr 0 40 = m_z := by rw [upd_o (by omega)]; exact e40
  have g2 : gH wM (pm_upd (pm_upd C 25 m_z fr) 26 m_z bb) := uM_26 g1 kn26 hbb.1 hbb.2
  refine wq_ok srt_tells (fr := []) (cuts := [149]) (J := fun pc st_z => pc = 149 ∧ st_z = ([(2, 0), (0, fr), (0, bb), (0, h), w4], [], pm_upd (pm_upd C 25 m_z fr) 26 m_z bb)) ?_ 17 129 _ ?_
  · rintro pc st_z ⟨rfl, rfl⟩
    have o_z : ∀ r_z j_z : Int, ¬ (r_z = 24 ∧ 36 * m_z ≤ j_z ∧ j_z < 36 * m_z + 36) → ¬ ((r_z = 25 ∨ r_z = 26 ∨ r_z = 29) ∧ j_z = m_z) → pm_upd (pm_upd C 25 m_z fr) 26 m_z bb r_z j_z = A r_z j_z := fun r_z j_z q1_z q2_z => by rw [upd_o (by omega), upd_o (by omega)]; exact hF r_z j_z q1_z
    have v24 : ∀ x_z : Int, 0 ≤ x_z → x_z < 36 → pm_upd (pm_upd C 25 m_z fr) 26 m_z bb 24 (36 * m_z + x_z) = tRM (A 0 7) (A 5) x_z := fun x_z x0_z x1_z => by rw [upd_o (by omega), upd_o (by omega)]; exact hrow x_z x0_z x1_z
    have v25 : pm_upd (pm_upd C 25 m_z fr) 26 m_z bb 25 m_z = fr := by rw [upd_o (by omega), upd_at]
    have v26 : pm_upd (pm_upd C 25 m_z fr) 26 m_z bb 26 m_z = bb := upd_at
    generalize pm_upd (pm_upd C 25 m_z fr) 26 m_z bb = D_z at g2 o_z v24 v25 v26
    have d40_z : D_z 0 40 = m_z := by rw [o_z 0 40 (by omega) (by omega)]; exact hm_z
    have d28_z : D_z 28 h = A 28 h := o_z 28 h (by omega) (by omega)
    have c44_z := pM_44 g2
    have c45_z := pM_45 g2
    have g3_z : gH wM (pm_upd D_z 29 m_z (A 28 h)) := uM_29 g2 kn29 (by omega) (by omega)
    refine wq_ok srt_tells (fr := []) (cuts := [164]) (J := fun pc st_z => pc = 164 ∧ st_z = ([(2, 0), (0, fr), (0, bb), (0, h), w4], [], pm_upd D_z 29 m_z (A 28 h))) ?_ 14 149 _ ?_
    · rintro pc st_z ⟨rfl, rfl⟩
      have o2_z : ∀ r_z j_z : Int, ¬ (r_z = 29 ∧ j_z = m_z) → pm_upd D_z 29 m_z (A 28 h) r_z j_z = D_z r_z j_z := fun r_z j_z q_z => upd_o q_z
      have v29 : pm_upd D_z 29 m_z (A 28 h) 29 m_z = A 28 h := upd_at
      generalize pm_upd D_z 29 m_z (A 28 h) = E_z at g3_z o2_z v29
      have f40 : E_z 0 40 = m_z := by rw [o2_z 0 40 (by omega)]; exact d40_z
      have c44_z := pM_44 g3_z
      have g4 : gH wM (pm_upd E_z 28 h m_z) := uM_28 g3_z kn28 (by omega) (by omega)
      refine wq_ok srt_tells (fr := []) (cuts := [174]) (J := fun pc st_z => pc = 174 ∧ st_z = ([(2, 0), (0, fr), (0, bb), (0, h), w4], [], pm_upd E_z 28 h m_z)) ?_ 11 164 _ ?_
      · rintro pc st_z ⟨rfl, rfl⟩
        have o3_z : ∀ r_z j_z : Int, ¬ (r_z = 28 ∧ j_z = h) → pm_upd E_z 28 h m_z r_z j_z = E_z r_z j_z := fun r_z j_z q_z => upd_o q_z
        have v28 : pm_upd E_z 28 h m_z 28 h = m_z := upd_at
        generalize pm_upd E_z 28 h m_z = F_z at g4 o3_z v28
        have h40_z : F_z 0 40 = m_z := by rw [o3_z 0 40 (by omega)]; exact f40
        refine wq_ok srt_tells (fr := []) (cuts := []) (J := fun _ _ => False) (fun _ _ h_z => h_z.elim) 12 174 _ ?_
        refine ⟨oM_0 (by omega) km0 40 rfl, ?_⟩
        refine ⟨by rw [h40_z]; exact ⟨by omega, by omega⟩, ?_⟩
        rw [h40_z]
        refine ⟨oM_0 (by omega) km0 40 rfl, ?_⟩
        refine ⟨rfl, H _ ?_⟩
        rw [← hm_z] at *
        refine ⟨uM_0_40 g4 (by omega) (by omega), upd_at, fun r_z j_z q1_z q2_z q3_z q4_z => ?_, fun x_z x0_z x1_z => ?_, ?_, ?_, ?_, ?_⟩
        · rw [upd_o (by omega), o3_z r_z j_z q3_z, o2_z r_z j_z (by omega)]; exact o_z r_z j_z q1_z q2_z
        · rw [upd_o (by omega), o3_z _ _ (by omega), o2_z _ _ (by omega)]; exact v24 x_z x0_z x1_z
        · rw [upd_o (by omega), o3_z _ _ (by omega), o2_z _ _ (by omega)]; exact v25
        · rw [upd_o (by omega), o3_z _ _ (by omega), o2_z _ _ (by omega)]; exact v26
        · rw [upd_o (by omega), o3_z _ _ (by omega)]; exact v29
        · rw [upd_o (by omega)]; exact v28
      · refine ⟨oM_0 (by omega) km0 44 rfl, ?_⟩
        refine ⟨oM_0 (by omega) km0 40 rfl, ?_⟩
        refine ⟨tM_28 (by rw [c44_z]; omega) (by rw [c44_z]; exact kn28) (by omega) (by omega) rfl, ?_⟩
        rw [c44_z, f40]
        exact ⟨rfl, rfl⟩
    · refine ⟨oM_0 (by omega) km0 45 rfl, ?_⟩
      refine ⟨oM_0 (by omega) km0 40 rfl, ?_⟩
      refine ⟨oM_0 (by omega) km0 44 rfl, ?_⟩
      refine ⟨aM_28 (by rw [c44_z]; omega) (by rw [c44_z]; exact kn28) (by omega) (by omega), ?_⟩
      rw [c45_z, c44_z, d40_z, d28_z]
      refine ⟨tM_29 (by omega) kn29 (by omega) (by omega) rfl, ?_⟩
      exact ⟨rfl, rfl⟩
  · refine ⟨oM_0 (by omega) km0 38 rfl, ?_⟩
    refine ⟨oM_0 (by omega) km0 40 rfl, ?_⟩
    refine ⟨tM_25 (by rw [c38_z]; omega) (by rw [c38_z]; exact kn25) (by omega) (by omega) rfl, ?_⟩
    rw [c38_z, e40]
    refine ⟨oM_0 (by omega) km0 39 rfl, ?_⟩
    refine ⟨oM_0 (by omega) km0 40 rfl, ?_⟩
    refine ⟨tM_26 (by rw [c39_z]; omega) (by rw [c39_z]; exact kn26) (by rw [f40]; omega) (by rw [f40]; omega) rfl, ?_⟩
    rw [c39_z, f40]
    exact ⟨rfl, rfl⟩
theorem tq_66 {A : pm_A} {h fr bb : Int} (hA : gH wM A) (hL : HL A) (h40 : A 0 40 < 3000) (g0 : 0 ≤ h) (g1 : h ≤ 4095) (hfr : -1 ≤ fr ∧ fr ≤ 2999) (hbb : r32 bb) {z : pm_R → Prop} (H : ∀ B_z, te1 A B_z h fr bb → z (some (0, 1), B_z)) : ∀ (m_z : Nat) (i_z : Int) (C_z : pm_A), (36 - i_z).toNat < m_z → 0 ≤ i_z → i_z ≤ 36 → tn9 A C_z i_z → Tm pmt (an_sh wM) o_X10_tells 66 ([(2, 0), (0, fr), (0, bb), (0, h), (0, i_z)], [], C_z) z := by
  have p40 := fM_0_40 hA (r := 0) (by omega) km0
  intro m_z
  induction m_z with
  | zero => intro i_z C_z h_z; omega
  | succ m_z ih_z =>
    intro i_z C_z hm_z i0_z i1_z hI
    have hI0 := hI
    obtain ⟨hC, hF, hrow⟩ := hI
    have c37_z := pM_37 hC
    have c9_z := pM_9 hC
    have e40 : C_z 0 40 = A 0 40 := hF _ _ (by omega)
    have e7_z : C_z 0 7 = A 0 7 := hF _ _ (by omega)
    have e5 : C_z 5 i_z = A 5 i_z := hF _ _ (by omega)
    have b5 : i_z < 36 → -2147483648 ≤ A 5 i_z ∧ A 5 i_z ≤ 2147483647 := fun h_z => eM_5 hA (r := 5) (by omega) kn5 i0_z (by omega)
    have hstep_z : ∀ x_z, x_z = tRM (A 0 7) (A 5) i_z → i_z < 36 → Tm pmt (an_sh wM) o_X10_tells 66 ([(2, 0), (0, fr), (0, bb), (0, h), (0, i_z + 1)], [], pm_upd C_z 24 (36 * A 0 40 + i_z) x_z) z := fun x_z hx hi_z => by
      have bx : -2147483648 ≤ x_z ∧ x_z ≤ 2147483647 := by
        rw [hx]
        unfold tRM
        by_cases hq : i_z / 6 < A 0 7 ∧ i_z % 6 < A 0 7
        · rw [if_pos hq]; exact b5 hi_z
        · rw [if_neg hq]; omega
      refine ih_z (i_z + 1) _ (by omega) (by omega) (by omega) ⟨uM_24 hC kn24 bx.1 bx.2, fun r_z j_z hr => by rw [upd_o (by omega)]; exact hF r_z j_z hr, fun y_z y0 y1 => ?_⟩
      by_cases ey : y_z = i_z
      · rw [ey, upd_at]; exact hx
      · rw [upd_o (by omega)]; exact hrow y_z y0 (by omega)
    refine wq_ok srt_tells (fr := []) (cuts := [66, 129]) (J := fun pc st_z => (pc = 129 ∧ 36 ≤ i_z ∧ st_z = ([(2, 0), (0, fr), (0, bb), (0, h), (0, i_z)], [], C_z)) ∨ (pc = 66 ∧ i_z < 36 ∧ ∃ x_z, x_z = tRM (A 0 7) (A 5) i_z ∧ st_z = ([(2, 0), (0, fr), (0, bb), (0, h), (0, i_z + 1)], [], pm_upd C_z 24 (36 * A 0 40 + i_z) x_z))) ?_ 36 66 _ ?_
    · rintro pc st_z (⟨rfl, h0, rfl⟩ | ⟨rfl, h0, x_z, hx, rfl⟩)
      · have ei : i_z = 36 := by omega
        subst ei
        exact tq_129 hA hL h40 g0 g1 hfr hbb hI0 H
      · exact hstep_z x_z hx h0
    · refine ⟨fun h0 => ?_, fun h0 => ?_⟩
      · exact Or.inl (⟨rfl, h0, rfl⟩)
      · refine ⟨oM_0 (by omega) km0 37 rfl, ?_⟩
        refine ⟨oM_0 (by omega) km0 40 rfl, ?_⟩
        refine ⟨⟨by omega, by omega⟩, ?_⟩
        refine ⟨⟨by omega, by omega⟩, ?_⟩
        rw [c37_z, e40]
        refine ⟨⟨by omega, by omega, by omega, by omega⟩, ?_⟩
        refine ⟨oM_0 (by omega) km0 7 rfl, ?_⟩
        refine ⟨fun h1 => ?_, fun h1 => ?_⟩
        · rw [e7_z] at h1
          refine ⟨tM_24 (by omega) kn24 (by omega) (by omega) rfl, ?_⟩
          refine ⟨⟨by omega, by omega⟩, ?_⟩
          exact Or.inr ⟨rfl, h0, 0, (tR_1 h1).symm, rfl⟩
        · rw [e7_z] at h1
          refine ⟨⟨by omega, by omega, by omega, by omega⟩, ?_⟩
          refine ⟨oM_0 (by omega) km0 7 rfl, ?_⟩
          refine ⟨fun h2 => ?_, fun h2 => ?_⟩
          · rw [e7_z] at h2
            refine ⟨tM_24 (by omega) kn24 (by omega) (by omega) rfl, ?_⟩
            refine ⟨⟨by omega, by omega⟩, ?_⟩
            exact Or.inr ⟨rfl, h0, 0, (tR_2 h2).symm, rfl⟩
          · rw [e7_z] at h2
            refine ⟨oM_0 (by omega) km0 9 rfl, ?_⟩
            refine ⟨aM_5 (by rw [c9_z]; omega) (by rw [c9_z]; exact kn5) (by omega) (by omega), ?_⟩
            rw [c9_z, e5]
            refine ⟨tM_24 (by omega) kn24 (by omega) (by omega) rfl, ?_⟩
            refine ⟨⟨by omega, by omega⟩, ?_⟩
            exact Or.inr ⟨rfl, h0, _, (tR_3 h1 h2).symm, rfl⟩
theorem tq_42 {A : pm_A} {fr bb : Int} {w4 : pm_V} (hA : gH wM A) (hB : mwB A) (hL : HL A) (hfr : -1 ≤ fr ∧ fr ≤ 2999) (hbb : r32 bb) (hno : ∀ t_z : Int, 0 ≤ t_z → t_z < A 0 40 → ¬ mtbE A t_z) : Tm pmt (an_sh wM) o_X10_tells 42 ([(2, 0), (0, fr), (0, bb), (0, hsE (tRM (A 0 7) (A 5))), w4], [], A) (teQ A fr bb) := by
  have p40 := fM_0_40 hA (r := 0) (by omega) km0
  have hb_z := hsE_b (T := tRM (A 0 7) (A 5))
  refine wq_ok srt_tells (fr := []) (cuts := [46]) (J := fun pc st_z => pc = 46 ∧ ∃ y_z : Int, ((y_z = 1 ∧ wdM (A 5) (A 0 7)) ∨ (y_z = 0 ∧ ¬ wdM (A 5) (A 0 7))) ∧ st_z = ([(2, 0), (0, fr), (0, bb), (0, hsE (tRM (A 0 7) (A 5))), w4], [(0, y_z)], A)) ?_ 6 42 _ ?_
  · rintro pc st_z ⟨rfl, y_z, hy, rfl⟩
    refine wq_ok srt_tells (fr := []) (cuts := [66]) (J := fun pc st_z => pc = 66 ∧ y_z = 0 ∧ ¬ A 0 40 = 3000 ∧ st_z = ([(2, 0), (0, fr), (0, bb), (0, hsE (tRM (A 0 7) (A 5))), (0, 0)], [], A)) ?_ 12 46 _ ?_
    · rintro pc st_z ⟨rfl, h0, h1, rfl⟩
      have hnw : ¬ wdM (A 5) (A 0 7) := by
        rcases hy with ⟨h2, _⟩ | ⟨_, h2⟩
        · omega
        · exact h2
      exact tq_66 hA hL (by omega) hb_z.1 hb_z.2 hfr hbb (fun B_z hB2 => Or.inr ⟨hno, Or.inr ⟨hnw, Or.inr ⟨by omega, rfl, hB2⟩⟩⟩) _ 0 A (Nat.lt_succ_self _) (by omega) (by omega) ⟨hA, fun _ _ _ => rfl, fun x_z x0_z x1_z => by omega⟩
    · refine ⟨fun h0 => ?_, fun h0 => ?_⟩
      · refine ⟨oM_0 (by omega) km0 40 rfl, ?_⟩
        refine ⟨fun h1 => ?_, fun h1 => ?_⟩
        · exact ⟨rfl, h0, h1, rfl⟩
        · have hnw : ¬ wdM (A 5) (A 0 7) := by
            rcases hy with ⟨h2, _⟩ | ⟨_, h2⟩
            · omega
            · exact h2
          exact ⟨rfl, Or.inr ⟨hno, Or.inr ⟨hnw, Or.inl ⟨rfl, h1⟩⟩⟩⟩
      · have hw : wdM (A 5) (A 0 7) := by
          rcases hy with ⟨_, h2⟩ | ⟨h2, _⟩
          · exact h2
          · exact absurd h2 h0
        exact ⟨rfl, Or.inr ⟨hno, Or.inl ⟨rfl, hw⟩⟩⟩
  · refine ⟨rM_0 (by omega) km0, ?_⟩
    refine (mwild_ex hA hB).imp ?_
    rintro ⟨r1_z, C_z⟩ ⟨e_z, hy⟩
    simp only at e_z hy
    subst e_z
    rcases hy with ⟨e1, hy⟩ | ⟨e1, hy⟩
    · subst e1
      exact ⟨rfl, 1, Or.inl ⟨rfl, hy⟩, rfl⟩
    · subst e1
      exact ⟨rfl, 0, Or.inr ⟨rfl, hy⟩, rfl⟩
theorem tq_13 {A : pm_A} {fr bb : Int} (hA : gH wM A) (hB : mwB A) (hL : HL A) (hfr : -1 ≤ fr ∧ fr ≤ 2999) (hbb : r32 bb) : ∀ (m_z : Nat) (t_z : Int), (t_z + 1).toNat < m_z → -1 ≤ t_z → t_z < A 0 40 → (0 ≤ t_z → HS A t_z = hsE (tRM (A 0 7) (A 5))) → (∀ e_z : Int, t_z < e_z → e_z < A 0 40 → ¬ mtbE A e_z) → Tm pmt (an_sh wM) o_X10_tells 13 ([(2, 0), (0, fr), (0, bb), (0, hsE (tRM (A 0 7) (A 5))), (0, t_z)], [], A) (teQ A fr bb) := by
  have p40 := fM_0_40 hA (r := 0) (by omega) km0
  have c45_z := pM_45 hA
  intro m_z
  induction m_z with
  | zero => intro t_z h_z; omega
  | succ m_z ih_z =>
    intro t_z hm_z t0_z t1_z hh hno
    refine wq_ok srt_tells (fr := []) (cuts := [25, 42]) (J := fun pc st_z => (pc = 42 ∧ t_z = -1 ∧ st_z = ([(2, 0), (0, fr), (0, bb), (0, hsE (tRM (A 0 7) (A 5))), (0, t_z)], [], A)) ∨ (pc = 25 ∧ ¬ t_z = -1 ∧ ∃ y_z : Int, ((y_z = 1 ∧ mtbE A t_z) ∨ (y_z = 0 ∧ ¬ mtbE A t_z)) ∧ st_z = ([(2, 0), (0, fr), (0, bb), (0, hsE (tRM (A 0 7) (A 5))), (0, t_z)], [(0, y_z)], A))) ?_ 10 13 _ ?_
    · rintro pc st_z (⟨rfl, h0, rfl⟩ | ⟨rfl, h0, y_z, hy, rfl⟩)
      · exact tq_42 hA hB hL hfr hbb (fun e_z e0_z e1_z => hno e_z (by omega) e1_z)
      · have hl := hL.2 t_z (by omega) t1_z
        have b29 := eM_29 hA (r := 29) (by omega) kn29 (j := t_z) (by omega) (by omega)
        refine wq_ok srt_tells (fr := []) (cuts := [13]) (J := fun pc st_z => pc = 13 ∧ y_z = 0 ∧ st_z = ([(2, 0), (0, fr), (0, bb), (0, hsE (tRM (A 0 7) (A 5))), (0, A 29 t_z)], [], A)) ?_ 12 25 _ ?_
        · rintro pc st_z ⟨rfl, h1, rfl⟩
          have hnt : ¬ mtbE A t_z := by
            rcases hy with ⟨h2, _⟩ | ⟨_, h2⟩
            · omega
            · exact h2
          rw [hh (by omega)] at hl
          refine ih_z (A 29 t_z) (by have := hl.1; omega) hl.1.1 (by have := hl.1; omega) hl.2.1 (fun e_z e0_z e1_z hq => ?_)
          rcases Int.lt_trichotomy e_z t_z with h3 | h3 | h3
          · refine hl.2.2 e_z e0_z h3 ?_
            exact hsE_c (fun x_z x0_z x1_z => hq x_z x0_z x1_z)
          · rw [h3] at hq
            exact hnt hq
          · exact hno e_z h3 e1_z hq
        · refine ⟨fun h1 => ?_, fun h1 => ?_⟩
          · refine ⟨oM_0 (by omega) km0 45 rfl, ?_⟩
            refine ⟨aM_29 (by rw [c45_z]; omega) (by rw [c45_z]; exact kn29) (by omega) (by omega), ?_⟩
            rw [c45_z]
            exact ⟨rfl, h1, rfl⟩
          · have ht : mtbE A t_z := by
              rcases hy with ⟨_, h2⟩ | ⟨h2, _⟩
              · exact h2
              · exact absurd h2 h1
            exact ⟨rfl, Or.inl ⟨rfl, t_z, ⟨by omega, t1_z⟩, ht⟩⟩
    · refine ⟨fun h0 => ?_, fun h0 => ?_⟩
      · exact Or.inl ⟨rfl, h0, rfl⟩
      · refine ⟨rM_0 (by omega) km0, ?_⟩
        refine (misTab_ex hA (t := t_z) (by omega) (by omega)).imp ?_
        rintro ⟨r1_z, C_z⟩ ⟨e_z, hy⟩
        simp only at e_z hy
        subst e_z
        rcases hy with ⟨e1, hy⟩ | ⟨e1, hy⟩
        · subst e1
          exact Or.inr ⟨rfl, h0, 1, Or.inl ⟨rfl, hy⟩, rfl⟩
        · subst e1
          exact Or.inr ⟨rfl, h0, 0, Or.inr ⟨rfl, hy⟩, rfl⟩
theorem tells_exq {A : pm_A} {fr bb : Int} (hA : gH wM A) (hB : mwB A) (hL : HL A) (hfr : -1 ≤ fr ∧ fr ≤ 2999) (hbb : r32 bb) : Cl pmt (an_sh wM) 192 [(2, 0), (0, fr), (0, bb)] A (teQ A fr bb) := by
  have p40 := fM_0_40 hA (r := 0) (by omega) km0
  have c44_z := pM_44 hA
  have hb_z := hsE_b (T := tRM (A 0 7) (A 5))
  have hh := hL.1 (hsE (tRM (A 0 7) (A 5))) hb_z.1 (by omega)
  refine Cl.of (Nat.le_of_ble_eq_true rfl) ?_
  refine wq_ok (full := o_X10_tells) srt_tells (fr := []) (cuts := [4]) (J := fun pc st_z => pc = 4 ∧ st_z = ([(2, 0), (0, fr), (0, bb), (9, 0), (9, 0)], [(0, hsE (tRM (A 0 7) (A 5)))], A)) ?_ 6 0 _ ?_
  · rintro pc st_z ⟨rfl, rfl⟩
    refine wq_ok srt_tells (fr := []) (cuts := [13]) (J := fun pc st_z => pc = 13 ∧ st_z = ([(2, 0), (0, fr), (0, bb), (0, hsE (tRM (A 0 7) (A 5))), (0, A 28 (hsE (tRM (A 0 7) (A 5))))], [], A)) ?_ 11 4 _ ?_
    · rintro pc st_z ⟨rfl, rfl⟩
      refine tq_13 hA hB hL hfr hbb _ _ (Nat.lt_succ_self _) hh.1.1 hh.1.2 hh.2.1 (fun e_z e0_z e1_z hq => ?_)
      exact hh.2.2 e_z e0_z e1_z (hsE_c (fun x_z x0_z x1_z => hq x_z x0_z x1_z))
    · refine ⟨oM_0 (by omega) km0 44 rfl, ?_⟩
      refine ⟨aM_28 (by rw [c44_z]; omega) (by rw [c44_z]; exact kn28) hb_z.1 (by omega), ?_⟩
      rw [c44_z]
      exact ⟨rfl, rfl⟩
  · refine ⟨rM_0 (by omega) km0, ?_⟩
    refine (mhash_ex hA).imp ?_
    rintro r_z rfl
    exact ⟨rfl, rfl⟩
theorem te1.hl {A B : pm_A} {fr bb : Int} (hA : gH wM A) (hL : HL A) (h : te1 A B (hsE (tRM (A 0 7) (A 5))) fr bb) : HL B := by
  have hb_z := hsE_b (T := tRM (A 0 7) (A 5))
  have p40 := fM_0_40 hA (r := 0) (by omega) km0
  obtain ⟨h1, h2, h3, h4, h5, h6, h7, h8⟩ := h
  have hs_z : ∀ e_z : Int, ¬ e_z = A 0 40 → HS B e_z = HS A e_z := fun e_z he => hsE_c (fun x_z x0_z x1_z => h3 24 _ (by omega) (by omega) (by omega) (by omega))
  have hm_z : HS B (A 0 40) = hsE (tRM (A 0 7) (A 5)) := hsE_c (fun x_z x0_z x1_z => h4 x_z x0_z x1_z)
  have pb_z : ∀ x_z y_z u_z : Int, x_z ≤ A 0 40 → PB A x_z y_z u_z → PB B x_z y_z u_z := fun x_z y_z u_z hx hp => ⟨hp.1, fun y0 => by rw [hs_z y_z (by have := hp.1; omega)]; exact hp.2.1 y0, fun e_z e0_z e1_z => by rw [hs_z e_z (by omega)]; exact hp.2.2 e_z e0_z e1_z⟩
  refine ⟨fun u_z u0_z u1_z => ?_, fun t_z t0_z t1_z => ?_⟩
  · rw [h2]
    have hp := hL.1 u_z u0_z u1_z
    by_cases eu : u_z = hsE (tRM (A 0 7) (A 5))
    · rw [eu, h8]
      exact ⟨⟨by omega, by omega⟩, fun _ => hm_z, fun e_z e0_z e1_z => by omega⟩
    · rw [h3 28 u_z (by omega) (by omega) (by omega) (by omega)]
      have hp2 := pb_z _ _ _ (Int.le_refl _) hp
      refine ⟨⟨hp2.1.1, by have := hp2.1; omega⟩, hp2.2.1, fun e_z e0_z e1_z => ?_⟩
      by_cases ee : e_z = A 0 40
      · rw [ee, hm_z]; exact fun q_z => eu q_z.symm
      · exact hp2.2.2 e_z e0_z (by omega)
  · rw [h2] at t1_z
    by_cases et : t_z = A 0 40
    · rw [et, h7, hm_z]
      exact pb_z _ _ _ (Int.le_refl _) (hL.1 _ hb_z.1 (by omega))
    · rw [h3 29 t_z (by omega) (by omega) (by omega) (by omega), hs_z t_z et]
      exact pb_z _ _ _ (by omega) (hL.2 t_z t0_z (by omega))
end

section
/-! the reference's searches and finite, exactly -/
def arU (A : pm_A) : Prop := ∀ i_z j_z : Int, 6 ≤ i_z → i_z < A 0 7 + A 0 8 → 0 ≤ j_z → j_z < A 0 7 → -9999 ≤ A 5 (6 * i_z + j_z) ∧ A 5 (6 * i_z + j_z) ≤ 9999
def fnM (s : cx_Sd 12) (n : Int) (ks : List (Fin 12)) (R : List (List (Fin 12))) (A : pm_A) : Prop := (gH wM A ∧ A 0 7 = n ∧ A 0 40 = (R.length : Int) ∧ A 0 42 = 0 ∧ HL A ∧ arU A) ∧ ∀ (e_z : Nat) (p_z : List (Fin 12)), R[e_z]? = some p_z → (p_z.length ≤ e_z ∧ ntE R (A 25) (A 26) e_z p_z) ∧ ∃ T_z : Int → Int, tbE s (ks ++ p_z) T_z n ∧ (¬ wdT s n (ks ++ p_z)) ∧ ∀ x_z : Int, 0 ≤ x_z → x_z < 36 → A 24 (36 * (e_z : Int) + x_z) = tRM n T_z x_z
theorem fnM.len {s : cx_Sd 12} {n : Int} {ks : List (Fin 12)} {R : List (List (Fin 12))} {A : pm_A} (h : fnM s n ks R A) : R.length ≤ 3000 := by
  have h1 := fM_0_40 h.1.1 (r := 0) (by omega) km0
  have := h.1.2.2.1
  omega
theorem fnM.of {s : cx_Sd 12} {n : Int} {ks : List (Fin 12)} {R : List (List (Fin 12))} {A B : pm_A} (h : fnM s n ks R A) (hB : gH wM B) (e : ∀ r_z j_z : Int, ¬ (r_z = 5 ∧ j_z < 36) → ¬ r_z = 12 → B r_z j_z = A r_z j_z) : fnM s n ks R B := by
  obtain ⟨⟨h1, h2, h3, h4, h5, h6⟩, h7⟩ := h
  have ef : ∀ r_z : Int, (13 ≤ r_z) → B r_z = A r_z := fun r_z hr => funext fun j_z => e r_z j_z (by omega) (by omega)
  have e0_z : ∀ j_z : Int, B 0 j_z = A 0 j_z := fun j_z => e 0 j_z (by omega) (by omega)
  refine ⟨⟨hB, by rw [e0_z]; exact h2, by rw [e0_z]; exact h3, by rw [e0_z]; exact h4, ?_, fun i_z j_z i0_z i1_z j0 j1 => ?_⟩, fun e_z p_z he => ?_⟩
  · unfold HL PB HS
    rw [e0_z, ef 24 (by omega), ef 28 (by omega), ef 29 (by omega)]
    exact h5
  · rw [e0_z, e0_z] at i1_z
    rw [e0_z] at j1
    rw [e 5 _ (by omega) (by omega)]
    exact h6 i_z j_z i0_z i1_z j0 j1
  · rw [ef 24 (by omega), ef 25 (by omega), ef 26 (by omega)]
    exact h7 e_z p_z he
theorem mt_lk {s : cx_Sd 12} {n : Int} {l l' : List (Fin 12)} {T : Int → Int} {A : pm_A} {e : Int} (n6 : n ≤ 6) (h7 : A 0 7 = n) (hT : tbE s l' T n) (hr : ∀ x_z : Int, 0 ≤ x_z → x_z < 36 → A 24 (36 * e + x_z) = tRM n T x_z) (hl : tbE s l (A 5) n) : mtbE A e ↔ lkT s n l' l := by
  rw [lk_iff hT hl n6]
  constructor
  · intro h_z i_z j_z i0_z i1_z j0 j1
    have h1 := h_z (i_z * 6 + j_z) (by omega) (by omega)
    rw [hr _ (by omega) (by omega), h7, tR_3 (by omega) (by omega), tR_3 (by omega) (by omega)] at h1
    exact h1
  · intro h_z x_z x0_z x1_z
    rw [hr x_z x0_z x1_z, h7]
    unfold tRM
    by_cases hq : x_z / 6 < n ∧ x_z % 6 < n
    · rw [if_pos hq, if_pos hq]
      have h1 := h_z (x_z / 6) (x_z % 6) (by omega) hq.1 (by omega) hq.2
      rw [show x_z / 6 * 6 + x_z % 6 = x_z by omega] at h1
      exact h1
    · rw [if_neg hq, if_neg hq]
theorem te_lk {s : cx_Sd 12} {n : Int} {ks l : List (Fin 12)} {R : List (List (Fin 12))} {A : pm_A} {fr bb : Int} {r : pm_R} (n6 : n ≤ 6) (h : fnM s n ks R A) (hl : tbE s l (A 5) n) (hr : teQ A fr bb r) : (r = (some (0, 0), A) ∧ ∃ q_z ∈ R, lkT s n (ks ++ q_z) l) ∨ ((∀ q_z ∈ R, ¬ lkT s n (ks ++ q_z) l) ∧ ((r = (some (0, 2), A) ∧ wdT s n l) ∨ ((¬ wdT s n l) ∧ ((r = (some (0, 3), A) ∧ 3000 ≤ R.length) ∨ (R.length < 3000 ∧ r.1 = some (0, 1) ∧ te1 A r.2 (hsE (tRM (A 0 7) (A 5))) fr bb))))) := by
  have hlen := h.1.2.2.1
  have h7 := h.1.2.1
  have hw := wdM_iff hl n6
  rcases hr with ⟨h1, t_z, ht, h2⟩ | ⟨h1, h2⟩
  · refine Or.inl ⟨h1, ?_⟩
    obtain ⟨e_z, rfl⟩ := Int.eq_ofNat_of_zero_le ht.1
    have hlt : e_z < R.length := by omega
    obtain ⟨_, T_z, t1_z, _, t3_z⟩ := h.2 e_z _ (List.getElem?_eq_getElem hlt)
    exact ⟨R[e_z], List.getElem_mem hlt, (mt_lk n6 h7 t1_z t3_z hl).1 h2⟩
  · refine Or.inr ⟨fun q_z hq hk => ?_, ?_⟩
    · obtain ⟨e_z, he⟩ := List.getElem?_of_mem hq
      have hlt := (List.getElem?_eq_some_iff.mp he).1
      obtain ⟨_, T_z, t1_z, _, t3_z⟩ := h.2 e_z q_z he
      exact h1 (e_z : Int) (by omega) (by omega) ((mt_lk n6 h7 t1_z t3_z hl).2 hk)
    · rw [h7] at h2
      rcases h2 with ⟨h3, h4⟩ | ⟨h3, h4⟩
      · exact Or.inl ⟨h3, hw.1 h4⟩
      · refine Or.inr ⟨fun q_z => h3 (hw.2 q_z), ?_⟩
        rcases h4 with ⟨h4, h5⟩ | ⟨h4, h5, h6⟩
        · exact Or.inl ⟨h4, by omega⟩
        · exact Or.inr ⟨by omega, h5, by rw [h7]; exact h6⟩
theorem fnM.put {s : cx_Sd 12} {n : Int} {ks : List (Fin 12)} {R : List (List (Fin 12))} {A B : pm_A} {p : List (Fin 12)} {fr bb : Int} (h : fnM s n ks R A) (hl : tbE s (ks ++ p) (A 5) n) (h3 : ¬ wdT s n (ks ++ p)) (hB : te1 A B (hsE (tRM (A 0 7) (A 5))) fr bb) (hp : p.length ≤ R.length) (hn : (p = [] ∧ fr = -1) ∨ ∃ (q_z : List (Fin 12)) (g_z : Fin 12) (d_z : Nat), p = q_z ++ [g_z] ∧ d_z < R.length ∧ R[d_z]? = some q_z ∧ fr = (d_z : Int) ∧ bb = (g_z.1 : Int)) : fnM s n ks (R ++ [p]) B := by
  have hHL := te1.hl h.1.1 h.1.2.2.2.2.1 hB
  obtain ⟨⟨g1, g2, g3_z, g4, g5_z, g6⟩, g7⟩ := h
  obtain ⟨b1, b2, b3, b4_z, b5, b6_z, _, _⟩ := hB
  have hb_z := hsE_b (T := tRM (A 0 7) (A 5))
  rw [g3_z] at b3 b4_z b5 b6_z
  rw [g2] at b4_z
  have e0_z : ∀ j_z : Int, ¬ j_z = 40 → B 0 j_z = A 0 j_z := fun j_z hj => b3 0 j_z (by omega) (by omega) (by omega) (by omega)
  have e5 : ∀ j_z : Int, B 5 j_z = A 5 j_z := fun j_z => b3 5 j_z (by omega) (by omega) (by omega) (by omega)
  refine ⟨⟨b1, by rw [e0_z 7 (by omega)]; exact g2, by rw [b2, g3_z, List.length_append]; rfl, by rw [e0_z 42 (by omega)]; exact g4, hHL, fun i_z j_z i0_z i1_z j0 j1 => ?_⟩, fun e_z p_z he => ?_⟩
  · rw [e0_z 7 (by omega), e0_z 8 (by omega)] at i1_z
    rw [e0_z 7 (by omega)] at j1
    rw [e5]
    exact g6 i_z j_z i0_z i1_z j0 j1
  · have hlt := (List.getElem?_eq_some_iff.mp he).1
    rw [List.length_append] at hlt
    have hlt : e_z < R.length + 1 := hlt
    by_cases ee : e_z < R.length
    · rw [List.getElem?_append_left ee] at he
      obtain ⟨⟨q1_z, q2_z⟩, T_z, t1_z, t2_z, t3_z⟩ := g7 e_z p_z he
      have o25 : B 25 (e_z : Int) = A 25 (e_z : Int) := b3 25 _ (by omega) (by omega) (by omega) (by omega)
      have o26 : B 26 (e_z : Int) = A 26 (e_z : Int) := b3 26 _ (by omega) (by omega) (by omega) (by omega)
      refine ⟨⟨q1_z, ?_⟩, T_z, t1_z, t2_z, fun x_z x0_z x1_z => by rw [b3 24 _ (by omega) (by omega) (by omega) (by omega)]; exact t3_z x_z x0_z x1_z⟩
      rcases q2_z with ⟨q2_z, q3_z⟩ | ⟨q_z, f_z, d_z, q2_z, q3_z, q4_z, q5_z, q6_z⟩
      · exact Or.inl ⟨q2_z, by rw [o25]; exact q3_z⟩
      · exact Or.inr ⟨q_z, f_z, d_z, q2_z, q3_z, by rw [List.getElem?_append_left (by omega)]; exact q4_z, by rw [o25]; exact q5_z, by rw [o26]; exact q6_z⟩
    · have ee2 : e_z = R.length := by omega
      subst ee2
      rw [List.getElem?_append_right (Nat.le_refl _), Nat.sub_self] at he
      have ep : p = p_z := Option.some.inj he
      subst ep
      refine ⟨⟨hp, ?_⟩, A 5, hl, h3, b4_z⟩
      rcases hn with ⟨q1_z, q2_z⟩ | ⟨q_z, g_z, d_z, q1_z, q2_z, q3_z, q4_z, q5_z⟩
      · exact Or.inl ⟨q1_z, by rw [b5]; exact q2_z⟩
      · exact Or.inr ⟨q_z, g_z, d_z, q1_z, q2_z, by rw [List.getElem?_append_left q2_z]; exact q3_z, by rw [b5]; exact q4_z, by rw [b6_z]; exact q5_z⟩
theorem tbE.turnM {s : cx_Sd 12} {l : List (Fin 12)} {A : pm_A} {T' : Int → Int} {n : Int} {k : Fin 12} (h : tbE s l (A 5) n) (hk : (k.1 : Int) < n) (hT : ∀ a_z b_z : Int, 0 ≤ a_z → a_z < n → 0 ≤ b_z → b_z < n → T' (a_z * 6 + b_z) = tv A k.1 a_z b_z) : tbE s (l ++ [k]) T' n := fun i_z j_z hi_z hj => by
  have b1 := h i_z j_z hi_z hj
  have b2 := h i_z k hi_z hk
  have b3 := h k j_z hk hj
  rw [cr_bs_snoc, hT _ _ (by omega) hi_z (by omega) hj]
  unfold cr_turnB tv
  rw [Int.mul_comm (i_z.1 : Int) 6] at b1 b2
  rw [Int.mul_comm (k.1 : Int) 6] at b3
  by_cases e_z : i_z = k ∨ j_z = k
  · rw [if_pos e_z, if_pos (by rcases e_z with e_z | e_z; exact Or.inl (by rw [e_z]); exact Or.inr (by rw [e_z])), b1]
  · rw [if_neg e_z, if_neg (fun e2 => e_z (by rcases e2 with e2 | e2; exact Or.inl (Fin.ext (by omega)); exact Or.inr (Fin.ext (by omega)))), b1, b2, b3]
    generalize A 5 (6 * (i_z.1 : Int) + (k.1 : Int)) = a_z
    generalize A 5 (6 * (k.1 : Int) + (j_z.1 : Int)) = b_z
    generalize A 5 (6 * (i_z.1 : Int) + (j_z.1 : Int)) = c_z
    unfold cx_pos
    by_cases h1 : 0 < a_z
    · rw [Int.toNat_of_nonneg (by omega)]
      by_cases h2 : 0 < b_z
      · rw [if_pos (Or.inl ⟨h1, h2⟩), if_neg (by omega), show (-b_z).toNat = 0 by omega]; show c_z + (a_z * b_z + a_z * 0) = c_z + a_z * b_z; omega
      · rw [if_neg (by omega), Int.toNat_of_nonneg (by omega), Int.mul_neg]; omega
    · rw [show a_z.toNat = 0 by omega]
      by_cases h2 : a_z < 0 ∧ b_z < 0
      · rw [if_pos (Or.inr h2), if_pos h2.1, Int.toNat_of_nonneg (by omega), Int.neg_mul, Int.mul_neg]; show c_z + (0 * b_z + _) = _; omega
      · rw [if_neg (by omega)]
        by_cases h3 : a_z = 0
        · rw [h3]; show c_z + (0 * b_z + 0 * _) = c_z; omega
        · rw [show (-b_z).toNat = 0 by omega]; show c_z + (0 * b_z + a_z * 0) = c_z; omega
theorem tv_3 {A : pm_A} {n k : Int} (h : r3T (A 5) n) (k0 : 0 ≤ k) (k1 : k < n) : ∀ a_z b_z : Int, 0 ≤ a_z → a_z < n → 0 ≤ b_z → b_z < n → -9999 ≤ tv A k a_z b_z ∧ tv A k a_z b_z ≤ 9999 := fun a_z b_z a0_z a1_z b0 b1 => by
  have h1 := h a_z b_z a0_z a1_z b0 b1
  have h2 := h a_z k a0_z a1_z k0 k1
  have h3 := h k b_z k0 k1 b0 b1
  rw [Int.mul_comm a_z 6] at h1 h2
  rw [Int.mul_comm k 6] at h3
  unfold tv
  by_cases e1 : a_z = k ∨ b_z = k
  · rw [if_pos e1]; omega
  · rw [if_neg e1]
    by_cases e2 : (0 < A 5 (6 * a_z + k) ∧ 0 < A 5 (6 * k + b_z)) ∨ (A 5 (6 * a_z + k) < 0 ∧ A 5 (6 * k + b_z) < 0)
    · rw [if_pos e2]
      have h4 : ((if A 5 (6 * a_z + k) < 0 then - A 5 (6 * a_z + k) else A 5 (6 * a_z + k)) * A 5 (6 * k + b_z)).natAbs ≤ 9 := by
        rw [Int.natAbs_mul]
        have h5 : (if A 5 (6 * a_z + k) < 0 then - A 5 (6 * a_z + k) else A 5 (6 * a_z + k)).natAbs ≤ 3 := by
          by_cases h6 : A 5 (6 * a_z + k) < 0
          · rw [if_pos h6]; omega
          · rw [if_neg h6]; omega
        have h6 : (A 5 (6 * k + b_z)).natAbs ≤ 3 := by omega
        exact Nat.mul_le_mul h5 h6
      omega
    · rw [if_neg e2]; omega
/-! the way back from a wild table -/
def schP (s : cx_Sd 12) (n : Int) (ks : List (Fin 12)) (r : pm_R) : Prop := gH wM r.2 ∧ ∃ (x_z : Option fnO) (a_z : Int), finO s n ks x_z ∧ r.1 = some (0, a_z) ∧ fzO x_z a_z (r.2 0 42) (r.2 0 41) (r.2 27)
def stQm (B : pm_A) (q : List (Fin 12)) (r : pm_R) : Prop := r.1 = some (0, 0) ∧ gH wM r.2 ∧ (r.2 0 42 = (q.length : Int) ∧ r.2 0 41 = B 0 41) ∧ ∀ (i_z : Nat) (f_z : Fin 12), q[i_z]? = some f_z → r.2 27 (i_z : Int) = (f_z.1 : Int)
def tpM (R : List (List (Fin 12))) (A : pm_A) : Prop := (R.length ≤ 3000) ∧ ∀ (e_z : Nat) (p_z : List (Fin 12)), R[e_z]? = some p_z → p_z.length ≤ e_z ∧ ntE R (A 25) (A 26) e_z p_z
theorem sq_302 {A : pm_A} {R : List (List (Fin 12))} {p : List (Fin 12)} {f : Fin 12} {w1 w2 w3 : pm_V} {x4 : Int} (hR : tpM R A) (hp : p.length ≤ 2999) : ∀ (m_z e_z : Nat) (g_z : Fin 12) (B_z : pm_A), m_z ≤ p.length → R[e_z]? = some (p.take m_z) → (p ++ [f])[m_z]? = some g_z → gH wM B_z → (∀ r_z j_z : Int, ¬ r_z = 27 → B_z r_z j_z = A r_z j_z) → (∀ (i_z : Nat) (u_z : Fin 12), m_z < i_z → (p ++ [f])[i_z]? = some u_z → B_z 27 (i_z : Int) = (u_z.1 : Int)) → A 0 42 = (p.length : Int) + 1 → Tm pmt (an_sh wM) o_X10_searches 302 ([(2, 0), w1, w2, w3, (0, x4), (0, (m_z : Int) + 1), (0, (g_z.1 : Int)), (0, (e_z : Int))], [], B_z) (stQm A (p ++ [f])) := by
  have hl3 := hR.1
  intro m_z
  induction m_z with
  | zero =>
    intro e_z g_z B_z hm_z he hg hB_z hF hq h42
    have hlt := (List.getElem?_eq_some_iff.mp he).1
    have n1_z := nt_0 (hR.2 e_z _ he).2
    have c43_z := pM_43 hB_z
    have hC : gH wM (pm_upd B_z 27 0 (g_z.1 : Int)) := uM_27 hB_z kn27 (by omega) (by omega)
    have c39_z : pm_upd B_z 27 0 (g_z.1 : Int) 0 39 = 26 := pM_39 hC
    have c38_z : pm_upd B_z 27 0 (g_z.1 : Int) 0 38 = 25 := pM_38 hC
    have o25 : pm_upd B_z 27 0 (g_z.1 : Int) 25 (e_z : Int) = -1 := by rw [upd_o (by omega), hF _ _ (by omega)]; exact n1_z
    have b26 := eM_26 hC (r := 26) (by omega) kn26 (j := (e_z : Int)) (by omega) (by omega)
    refine wq_ok srt_searches (fr := []) (cuts := [341]) (J := fun pc st_z => pc = 341 ∧ ∃ w5_z w6_z w7_z, st_z = ([(2, 0), w1, w2, w3, (0, x4), w5_z, w6_z, w7_z], [], pm_upd B_z 27 0 (g_z.1 : Int))) ?_ 60 302 _ ?_
    · rintro pc st_z ⟨rfl, w5_z, w6_z, w7_z, rfl⟩
      refine wq_ok srt_searches (fr := []) (cuts := []) (J := fun _ _ => False) (fun _ _ h_z => h_z.elim) 10 341 _ ?_
      refine ⟨rfl, rfl, hC, ⟨?_, ?_⟩, fun i_z u_z hu => ?_⟩
      · show pm_upd B_z 27 0 (g_z.1 : Int) 0 42 = _
        rw [upd_o (by omega), hF _ _ (by omega), h42, List.length_append]
        rfl
      · show pm_upd B_z 27 0 (g_z.1 : Int) 0 41 = _
        rw [upd_o (by omega), hF _ _ (by omega)]
      · show pm_upd B_z 27 0 (g_z.1 : Int) 27 (i_z : Int) = _
        by_cases ei : i_z = 0
        · subst ei
          rw [hg] at hu
          have := Option.some.inj hu
          rw [← this]
          show pm_upd B_z 27 0 (g_z.1 : Int) 27 0 = _
          rw [upd_at]
        · rw [upd_o (by omega)]
          exact hq i_z u_z (by omega) hu
    · refine ⟨fun hh => absurd hh (by omega), fun _ => ?_⟩
      refine ⟨⟨by omega, by omega⟩, ?_⟩
      refine ⟨oM_0 (by omega) km0 43 rfl, ?_⟩
      refine ⟨tM_27 (by rw [c43_z]; omega) (by rw [c43_z]; exact kn27) (by omega) (by omega) rfl, ?_⟩
      rw [c43_z, show ((0 : Nat) : Int) + 1 + (-1) = 0 by omega]
      refine ⟨oM_0 (by omega) km0 39 rfl, ?_⟩
      refine ⟨aM_26 (by rw [c39_z]; omega) (by rw [c39_z]; exact kn26) (by omega) (by omega), ?_⟩
      refine ⟨oM_0 (by omega) km0 38 rfl, ?_⟩
      refine ⟨aM_25 (by rw [c38_z]; omega) (by rw [c38_z]; exact kn25) (by omega) (by omega), ?_⟩
      rw [c38_z, o25]
      refine ⟨fun _ => ?_, fun hh => absurd rfl hh⟩
      exact ⟨rfl, _, _, _, rfl⟩
  | succ m_z ih_z =>
    intro e_z g_z B_z hm_z he hg hB_z hF hq h42
    have hlt := (List.getElem?_eq_some_iff.mp he).1
    obtain ⟨u_z, d_z, n1_z, n2_z, n3_z, n4_z, n5_z⟩ := nt_s (by omega) (hR.2 e_z _ he).2
    have c43_z := pM_43 hB_z
    have hC : gH wM (pm_upd B_z 27 ((m_z : Int) + 1) (g_z.1 : Int)) := uM_27 hB_z kn27 (by omega) (by omega)
    have c39_z : pm_upd B_z 27 ((m_z : Int) + 1) (g_z.1 : Int) 0 39 = 26 := pM_39 hC
    have c38_z : pm_upd B_z 27 ((m_z : Int) + 1) (g_z.1 : Int) 0 38 = 25 := pM_38 hC
    have o25 : pm_upd B_z 27 ((m_z : Int) + 1) (g_z.1 : Int) 25 (e_z : Int) = (d_z : Int) := by rw [upd_o (by omega), hF _ _ (by omega)]; exact n4_z
    have o26 : pm_upd B_z 27 ((m_z : Int) + 1) (g_z.1 : Int) 26 (e_z : Int) = (u_z.1 : Int) := by rw [upd_o (by omega), hF _ _ (by omega)]; exact n5_z
    refine wq_ok srt_searches (fr := []) (cuts := [302]) (J := fun pc st_z => pc = 302 ∧ st_z = ([(2, 0), w1, w2, w3, (0, x4), (0, (m_z : Int) + 1), (0, (u_z.1 : Int)), (0, (d_z : Int))], [], pm_upd B_z 27 ((m_z : Int) + 1) (g_z.1 : Int))) ?_ 60 302 _ ?_
    · rintro pc st_z ⟨rfl, rfl⟩
      refine ih_z d_z u_z _ (by omega) n3_z (by rw [List.getElem?_append_left (by omega)]; exact n1_z) hC (fun r_z j_z hr => by rw [upd_o (by omega)]; exact hF r_z j_z hr) (fun i_z v_z hi_z hv => ?_) h42
      by_cases ei : i_z = m_z + 1
      · subst ei
        rw [hg] at hv
        have := Option.some.inj hv
        rw [← this, show ((m_z + 1 : Nat) : Int) = (m_z : Int) + 1 by omega, upd_at]
      · rw [upd_o (by omega)]
        exact hq i_z v_z (by omega) hv
    · refine ⟨fun hh => absurd hh (by omega), fun _ => ?_⟩
      refine ⟨⟨by omega, by omega⟩, ?_⟩
      refine ⟨oM_0 (by omega) km0 43 rfl, ?_⟩
      refine ⟨tM_27 (by rw [c43_z]; omega) (by rw [c43_z]; exact kn27) (by omega) (by omega) rfl, ?_⟩
      rw [c43_z, show ((m_z + 1 : Nat) : Int) + 1 + (-1) = (m_z : Int) + 1 by omega]
      refine ⟨oM_0 (by omega) km0 39 rfl, ?_⟩
      refine ⟨aM_26 (by rw [c39_z]; omega) (by rw [c39_z]; exact kn26) (by omega) (by omega), ?_⟩
      refine ⟨oM_0 (by omega) km0 38 rfl, ?_⟩
      refine ⟨aM_25 (by rw [c38_z]; omega) (by rw [c38_z]; exact kn25) (by omega) (by omega), ?_⟩
      rw [c38_z, c39_z, o25, o26]
      exact ⟨rfl, rfl⟩
theorem sq_275 {A : pm_A} {R : List (List (Fin 12))} {p : List (Fin 12)} {f : Fin 12} {t : Nat} {x1 : Int} {w5 w6 w7 : pm_V} (hA : gH wM A) (hR : tpM R A) (ht : R[t]? = some p) : Tm pmt (an_sh wM) o_X10_searches 275 ([(2, 0), (0, x1), (0, (t : Int)), (0, (f.1 : Int)), (0, (p.length : Int) + 1), w5, w6, w7], [], A) (stQm A (p ++ [f])) := by
  have hlt := (List.getElem?_eq_some_iff.mp ht).1
  have hl3 := hR.1
  have hp := (hR.2 t p ht).1
  have hC : gH wM (pm_upd A 0 42 ((p.length : Int) + 1)) := uM_0_42 hA (by omega) (by omega)
  have e42_z : pm_upd A 0 42 ((p.length : Int) + 1) 0 42 = (p.length : Int) + 1 := upd_at
  have hRC : tpM R (pm_upd A 0 42 ((p.length : Int) + 1)) := by
    have e0_z : pm_upd A 0 42 ((p.length : Int) + 1) 25 = A 25 := funext fun j_z => upd_o (by omega)
    have e1_z : pm_upd A 0 42 ((p.length : Int) + 1) 26 = A 26 := funext fun j_z => upd_o (by omega)
    unfold tpM
    rw [e0_z, e1_z]
    exact hR
  have e41_z : pm_upd A 0 42 ((p.length : Int) + 1) 0 41 = A 0 41 := upd_o (by omega)
  refine wq_ok srt_searches (fr := []) (cuts := [290]) (J := fun pc st_z => pc = 290 ∧ st_z = ([(2, 0), (0, x1), (0, (t : Int)), (0, (f.1 : Int)), (0, (p.length : Int) + 1), w5, w6, w7], [], pm_upd A 0 42 ((p.length : Int) + 1))) ?_ 20 275 _ ?_
  · rintro pc st_z ⟨rfl, rfl⟩
    generalize pm_upd A 0 42 ((p.length : Int) + 1) = C_z at hC e42_z hRC e41_z
    refine wq_ok srt_searches (fr := []) (cuts := [302]) (J := fun pc st_z => pc = 302 ∧ st_z = ([(2, 0), (0, x1), (0, (t : Int)), (0, (f.1 : Int)), (0, (p.length : Int) + 1), (0, C_z 0 42), (0, (f.1 : Int)), (0, (t : Int))], [], C_z)) ?_ 20 290 _ ?_
    · rintro pc st_z ⟨rfl, rfl⟩
      rw [e42_z]
      have h1 := sq_302 (w1 := (0, x1)) (w2 := (0, (t : Int))) (w3 := (0, (f.1 : Int))) (x4 := (p.length : Int) + 1) (f := f) hRC (by omega) p.length t f C_z (Nat.le_refl _) (by rw [List.take_length]; exact ht) (by rw [List.getElem?_append_right (Nat.le_refl _), Nat.sub_self]; rfl) hC (fun _ _ _ => rfl) (fun i_z u_z hi_z hu => by
        have hil := (List.getElem?_eq_some_iff.mp hu).1
        rw [List.length_append] at hil
        have hil : i_z < p.length + 1 := hil
        omega) e42_z
      obtain ⟨n_z, r_z, c1_z, q1_z, q2_z, q3_z, q4_z⟩ := h1
      exact ⟨n_z, r_z, c1_z, q1_z, q2_z, ⟨q3_z.1, by rw [q3_z.2]; exact e41_z⟩, q4_z⟩
    · refine ⟨oM_0 (by omega) km0 42 rfl, ?_⟩
      exact ⟨rfl, rfl⟩
  · refine ⟨fun _ => ?_, fun hh => absurd hh (by omega)⟩
    refine ⟨oM_0 (by omega) km0 42 rfl, ?_⟩
    exact ⟨rfl, rfl⟩
theorem sq_249 {A : pm_A} {R : List (List (Fin 12))} {p : List (Fin 12)} {f : Fin 12} {t : Nat} {x1 : Int} {w6 w7 : pm_V} (hA : gH wM A) (hR : tpM R A) (ht : R[t]? = some p) : ∀ (m_z e_z : Nat), m_z ≤ p.length → R[e_z]? = some (p.take m_z) → Tm pmt (an_sh wM) o_X10_searches 249 ([(2, 0), (0, x1), (0, (t : Int)), (0, (f.1 : Int)), (0, (p.length : Int) - (m_z : Int)), (0, (e_z : Int)), w6, w7], [], A) (stQm A (p ++ [f])) := by
  have hltt := (List.getElem?_eq_some_iff.mp ht).1
  have hl3 := hR.1
  have hp := (hR.2 t p ht).1
  have c38_z := pM_38 hA
  intro m_z
  induction m_z with
  | zero =>
    intro e_z hm_z he
    have hlt := (List.getElem?_eq_some_iff.mp he).1
    have n1_z := nt_0 (hR.2 e_z _ he).2
    refine wq_ok srt_searches (fr := []) (cuts := [275]) (J := fun pc st_z => pc = 275 ∧ ∃ w5_z, st_z = ([(2, 0), (0, x1), (0, (t : Int)), (0, (f.1 : Int)), (0, (p.length : Int) + 1), w5_z, w6, w7], [], A)) ?_ 40 249 _ ?_
    · rintro pc st_z ⟨rfl, w5_z, rfl⟩
      exact sq_275 hA hR ht
    · refine ⟨fun hh => absurd hh (by omega), fun _ => ?_⟩
      refine ⟨fun hh => absurd hh (by omega), fun _ => ?_⟩
      refine ⟨⟨by omega, by omega⟩, ?_⟩
      refine ⟨oM_0 (by omega) km0 38 rfl, ?_⟩
      refine ⟨aM_25 (by rw [c38_z]; omega) (by rw [c38_z]; exact kn25) (by omega) (by omega), ?_⟩
      rw [c38_z, n1_z, show (p.length : Int) - ((0 : Nat) : Int) + 1 = (p.length : Int) + 1 by omega]
      refine ⟨fun _ => ?_, fun hh => absurd rfl hh⟩
      exact ⟨rfl, _, rfl⟩
  | succ m_z ih_z =>
    intro e_z hm_z he
    have hlt := (List.getElem?_eq_some_iff.mp he).1
    obtain ⟨u_z, d_z, n1_z, n2_z, n3_z, n4_z, n5_z⟩ := nt_s (by omega) (hR.2 e_z _ he).2
    refine wq_ok srt_searches (fr := []) (cuts := [249]) (J := fun pc st_z => pc = 249 ∧ st_z = ([(2, 0), (0, x1), (0, (t : Int)), (0, (f.1 : Int)), (0, (p.length : Int) - (m_z : Int)), (0, (d_z : Int)), w6, w7], [], A)) ?_ 40 249 _ ?_
    · rintro pc st_z ⟨rfl, rfl⟩
      exact ih_z d_z (by omega) n3_z
    · refine ⟨fun hh => absurd hh (by omega), fun _ => ?_⟩
      refine ⟨fun hh => absurd hh (by omega), fun _ => ?_⟩
      refine ⟨⟨by omega, by omega⟩, ?_⟩
      refine ⟨oM_0 (by omega) km0 38 rfl, ?_⟩
      refine ⟨aM_25 (by rw [c38_z]; omega) (by rw [c38_z]; exact kn25) (by omega) (by omega), ?_⟩
      rw [c38_z, n4_z, show (p.length : Int) - ((m_z + 1 : Nat) : Int) + 1 = (p.length : Int) - (m_z : Int) by omega]
      exact ⟨rfl, rfl⟩
/-- the search has come to its end -/
def scE (s : cx_Sd 12) (n : Int) (ks : List (Fin 12)) (B : pm_A) (how fr bb : Int) : Prop := (how < 2 ∧ ∃ R_z, fnM s n ks R_z B ∧ finO s n ks (some (R_z, some none))) ∨ (how = 3 ∧ ∃ R_z, fnM s n ks R_z B ∧ finO s n ks (some (R_z, none))) ∨ (how = 2 ∧ ((fr = -1 ∧ (gH wM B ∧ B 0 40 = 0 ∧ B 0 42 = 0) ∧ finO s n ks none) ∨ ∃ (R_z : List (List (Fin 12))) (p_z : List (Fin 12)) (f_z : Fin 12) (t_z : Nat), fnM s n ks R_z B ∧ R_z[t_z]? = some p_z ∧ fr = (t_z : Int) ∧ bb = (f_z.1 : Int) ∧ finO s n ks (some (R_z, some (some (p_z ++ [f_z]))))))
theorem sq_206 {s : cx_Sd 12} {n : Int} {ks : List (Fin 12)} {B : pm_A} {how fr bb x4 : Int} {w5 w6 w7 : pm_V} (h : scE s n ks B how fr bb) : Tm pmt (an_sh wM) o_X10_searches 206 ([(2, 0), (0, how), (0, fr), (0, bb), (0, x4), w5, w6, w7], [], B) (schP s n ks) := by
  have hg : gH wM B := by
    rcases h with ⟨_, R_z, h1, _⟩ | ⟨_, R_z, h1, _⟩ | ⟨_, ⟨_, h1, _⟩ | ⟨R_z, p_z, f_z, t_z, h1, _⟩⟩
    · exact h1.1.1
    · exact h1.1.1
    · exact h1.1
    · exact h1.1.1
  have p40 := fM_0_40 hg (r := 0) (by omega) km0
  refine wq_ok srt_searches (fr := []) (cuts := [228]) (J := fun pc st_z => pc = 228 ∧ ∃ x_z : Int, ((¬ how = 2 ∧ x_z = B 0 40) ∨ (how = 2 ∧ x_z = B 0 40 + 1)) ∧ st_z = ([(2, 0), (0, how), (0, fr), (0, bb), (0, x4), w5, w6, w7], [], pm_upd B 0 41 x_z)) ?_ 15 206 _ ?_
  · rintro pc st_z ⟨rfl, x_z, hx, rfl⟩
    have gC : gH wM (pm_upd B 0 41 x_z) := uM_0_41 hg (by omega) (by omega)
    have e41_z : pm_upd B 0 41 x_z 0 41 = x_z := upd_at
    have o_z : ∀ r_z j_z : Int, ¬ (r_z = 0 ∧ j_z = 41) → pm_upd B 0 41 x_z r_z j_z = B r_z j_z := fun r_z j_z hr => upd_o hr
    generalize pm_upd B 0 41 x_z = C_z at gC e41_z o_z
    have e42_z : C_z 0 42 = B 0 42 := o_z _ _ (by omega)
    have tpC : ∀ R_z, fnM s n ks R_z B → tpM R_z C_z := fun R_z hR => by
      have q1_z : C_z 25 = B 25 := funext fun j_z => o_z _ _ (by omega)
      have q2_z : C_z 26 = B 26 := funext fun j_z => o_z _ _ (by omega)
      refine ⟨hR.len, fun e_z p_z he => ?_⟩
      rw [q1_z, q2_z]
      exact (hR.2 e_z p_z he).1
    refine wq_ok srt_searches (fr := []) (cuts := [249]) (J := fun pc st_z => pc = 249 ∧ ¬ how = 3 ∧ 2 ≤ how ∧ st_z = ([(2, 0), (0, how), (0, fr), (0, bb), (0, 0), (0, fr), w6, w7], [], C_z)) ?_ 15 228 _ ?_
    · rintro pc st_z ⟨rfl, h0, h1, rfl⟩
      have hx1 : x_z = B 0 40 + 1 := by
        rcases hx with ⟨h2, _⟩ | ⟨_, h2⟩
        · exfalso
          rcases h with ⟨h3, _⟩ | ⟨h3, _⟩ | ⟨h3, _⟩ <;> omega
        · exact h2
      rcases h with ⟨h2, _⟩ | ⟨h2, _⟩ | ⟨h2, h3⟩
      · omega
      · omega
      · rcases h3 with ⟨h3, h4, h5⟩ | ⟨R_z, p_z, f_z, t_z, h3, h4, h5, h6, h7⟩
        · subst h3
          refine wq_ok srt_searches (fr := []) (cuts := []) (J := fun _ _ => False) (fun _ _ h_z => h_z.elim) 60 249 _ ?_
          refine ⟨fun _ => ?_, fun hh => absurd rfl hh⟩
          refine ⟨fun hh => absurd rfl hh, fun _ => ?_⟩
          refine ⟨oM_0 (by omega) km0 42 rfl, ?_⟩
          refine ⟨oM_0 (by omega) km0 42 rfl, ?_⟩
          refine ⟨fun _ => ?_, fun hh => absurd rfl hh⟩
          refine ⟨rfl, uM_0_42 gC (by omega) (by omega), none, 0, h5, rfl, Or.inl ⟨rfl, rfl, ?_, ?_⟩⟩
          · show pm_upd C_z 0 42 0 0 42 = 0
            exact upd_at
          · show pm_upd C_z 0 42 0 0 41 = 1
            rw [upd_o (by omega), e41_z, hx1, h4.2.1]
            rfl
        · subst h5
          subst h6
          have hlt := (List.getElem?_eq_some_iff.mp h4).1
          have h8 := sq_249 (f := f_z) (x1 := how) (w6 := w6) (w7 := w7) gC (tpC R_z h3) h4 p_z.length t_z (Nat.le_refl _) (by rw [List.take_length]; exact h4)
          rw [show (p_z.length : Int) - (p_z.length : Int) = 0 by omega] at h8
          obtain ⟨n_z, r_z, c1_z, q1_z, q2_z, q3_z, q4_z⟩ := h8
          refine ⟨n_z, r_z, c1_z, q2_z, some (R_z, some (some (p_z ++ [f_z]))), 0, h7, q1_z, Or.inr (Or.inr (Or.inr ⟨R_z, p_z ++ [f_z], rfl, rfl, q3_z.1, ?_, q4_z⟩))⟩
          rw [q3_z.2, e41_z, hx1, h3.1.2.2.1]
    · refine ⟨fun h0 => ?_, fun h0 => ?_⟩
      · refine ⟨fun h1 => ?_, fun h1 => ?_⟩
        · exact ⟨rfl, h0, h1, rfl⟩
        · rcases h with ⟨h2, R_z, h3, h4⟩ | ⟨h2, _⟩ | ⟨h2, _⟩
          · refine ⟨rfl, gC, some (R_z, some none), 1, h4, rfl, Or.inr (Or.inl ⟨R_z, rfl, rfl, ?_, ?_⟩)⟩
            · show C_z 0 42 = 0
              rw [e42_z]; exact h3.1.2.2.2.1
            · show C_z 0 41 = _
              rw [e41_z]
              rcases hx with ⟨_, h5⟩ | ⟨h5, _⟩
              · rw [h5]; exact h3.1.2.2.1
              · omega
          · omega
          · omega
      · rcases h with ⟨h2, _⟩ | ⟨h2, R_z, h3, h4⟩ | ⟨h2, _⟩
        · omega
        · refine ⟨rfl, gC, some (R_z, none), -2, h4, rfl, Or.inr (Or.inr (Or.inl ⟨R_z, rfl, rfl, ?_, ?_⟩))⟩
          · show C_z 0 42 = 0
            rw [e42_z]; exact h3.1.2.2.2.1
          · show C_z 0 41 = _
            rw [e41_z]
            rcases hx with ⟨_, h5⟩ | ⟨h5, _⟩
            · rw [h5]; exact h3.1.2.2.1
            · omega
        · omega
  · refine ⟨fun h0 => ?_, fun h0 => ?_⟩
    · refine ⟨oM_0 (by omega) km0 40 rfl, ?_⟩
      refine ⟨oM_0 (by omega) km0 41 rfl, ?_⟩
      exact ⟨rfl, _, Or.inl ⟨h0, rfl⟩, rfl⟩
    · refine ⟨oM_0 (by omega) km0 40 rfl, ?_⟩
      refine ⟨⟨by omega, by omega⟩, ?_⟩
      refine ⟨oM_0 (by omega) km0 41 rfl, ?_⟩
      exact ⟨rfl, _, Or.inr ⟨h0, rfl⟩, rfl⟩
/-- the search goes on, or has come to its end -/
def scG (s : cx_Sd 12) (n : Int) (ks : List (Fin 12)) (B : pm_A) (t : Nat) (p : List (Fin 12)) (k how fr bb : Int) : Prop := (how < 2 ∧ ∃ R_z, fnM s n ks R_z B ∧ R_z[t]? = some p ∧ jI s n ks R_z t k) ∨ (2 ≤ how ∧ scE s n ks B how fr bb)
theorem scE.g {s : cx_Sd 12} {n : Int} {ks : List (Fin 12)} {B : pm_A} {how fr bb : Int} (h : scE s n ks B how fr bb) : gH wM B := by
  rcases h with ⟨_, R_z, h1, _⟩ | ⟨_, R_z, h1, _⟩ | ⟨_, ⟨_, h1, _⟩ | ⟨R_z, p_z, f_z, t_z, h1, _⟩⟩
  · exact h1.1.1
  · exact h1.1.1
  · exact h1.1
  · exact h1.1.1
def c5I (A C : pm_A) (U : Int → Int) (i : Int) : Prop := gH wM C ∧ (∀ r_z j_z : Int, ¬ (r_z = 5 ∧ j_z < 36) → C r_z j_z = A r_z j_z) ∧ ∀ x_z : Int, 0 ≤ x_z → x_z < i → C 5 x_z = U x_z
theorem sq_124 {s : cx_Sd 12} {n : Int} {ks : List (Fin 12)} {R : List (List (Fin 12))} {t : Nat} {p : List (Fin 12)} {f : Fin 12} {A D : pm_A} {hw x6 : Int} {w2 w3 : pm_V} (n0 : 1 ≤ n) (n6 : n ≤ 6) (hf : (f.1 : Int) < n) (hA : fnM s n ks R A) (hp : R[t]? = some p) (hI : jI s n ks R t (f.1 : Int)) (hD : gH wM D) (eD : ∀ r_z j_z : Int, ¬ (r_z = 5 ∧ j_z < 36) → ¬ r_z = 12 → D r_z j_z = A r_z j_z) (tD : tbE s (ks ++ (p ++ [f])) (D 12) n) (bD : ∀ a_z b_z : Int, 0 ≤ a_z → a_z < n → 0 ≤ b_z → b_z < n → -9999 ≤ D 12 (a_z * 6 + b_z) ∧ D 12 (a_z * 6 + b_z) ≤ 9999) (H : ∀ how_z w6_z w7_z C_z, scG s n ks C_z t p ((f.1 : Int) + 1) how_z (t : Int) (f.1 : Int) → Tm pmt (an_sh wM) o_X10_searches 63 ([(2, 0), (0, how_z), (0, (t : Int)), (0, (f.1 : Int)), (0, (t : Int)), (0, (f.1 : Int) + 1), w6_z, w7_z], [], C_z) (schP s n ks)) : ∀ (m_z : Nat) (i_z : Int) (B_z : pm_A), (36 - i_z).toNat < m_z → 0 ≤ i_z → i_z ≤ 36 → c5I D B_z (tRM n (D 12)) i_z → Tm pmt (an_sh wM) o_X10_searches 124 ([(2, 0), (0, hw), w2, w3, (0, (t : Int)), (0, (f.1 : Int)), (0, x6), (0, i_z)], [], B_z) (schP s n ks) := by
  have hlt := (List.getElem?_eq_some_iff.mp hp).1
  have hl3 := hA.len
  intro m_z
  induction m_z with
  | zero => intro i_z B_z h_z; omega
  | succ m_z ih_z =>
    intro i_z B_z hm_z i0_z i1_z hJ
    have hJ0 := hJ
    obtain ⟨hB_z, hF, hrow⟩ := hJ
    have c9_z := pM_9 hB_z
    have c19_z := pM_19 hB_z
    have e7_z : B_z 0 7 = n := by rw [hF 0 7 (by omega), eD 0 7 (by omega) (by omega)]; exact hA.1.2.1
    have e12_z : B_z 12 i_z = D 12 i_z := hF 12 i_z (by omega)
    have b12 : i_z < 36 → -2147483648 ≤ D 12 i_z ∧ D 12 i_z ≤ 2147483647 := fun h_z => eM_12 hD (r := 12) (by omega) kn12 i0_z (by omega)
    have hstep_z : ∀ x_z, x_z = tRM n (D 12) i_z → i_z < 36 → Tm pmt (an_sh wM) o_X10_searches 124 ([(2, 0), (0, hw), w2, w3, (0, (t : Int)), (0, (f.1 : Int)), (0, x6), (0, i_z + 1)], [], pm_upd B_z 5 i_z x_z) (schP s n ks) := fun x_z hx hi_z => by
      have bx : -2147483648 ≤ x_z ∧ x_z ≤ 2147483647 := by
        rw [hx]
        unfold tRM
        by_cases hq : i_z / 6 < n ∧ i_z % 6 < n
        · rw [if_pos hq]; exact b12 hi_z
        · rw [if_neg hq]; omega
      refine ih_z (i_z + 1) _ (by omega) (by omega) (by omega) ⟨uM_5 hB_z kn5 bx.1 bx.2, fun r_z j_z hr => by rw [upd_o (by omega)]; exact hF r_z j_z hr, fun y_z y0 y1 => ?_⟩
      by_cases ey : y_z = i_z
      · rw [ey, upd_at]; exact hx
      · rw [upd_o (by omega)]; exact hrow y_z y0 (by omega)
    refine wq_ok srt_searches (fr := []) (cuts := [124, 179]) (J := fun pc st_z => (pc = 179 ∧ 36 ≤ i_z ∧ st_z = ([(2, 0), (0, hw), w2, w3, (0, (t : Int)), (0, (f.1 : Int)), (0, x6), (0, i_z)], [], B_z)) ∨ (pc = 124 ∧ i_z < 36 ∧ ∃ x_z, x_z = tRM n (D 12) i_z ∧ st_z = ([(2, 0), (0, hw), w2, w3, (0, (t : Int)), (0, (f.1 : Int)), (0, x6), (0, i_z + 1)], [], pm_upd B_z 5 i_z x_z))) ?_ 31 124 _ ?_
    · rintro pc st_z (⟨rfl, h0, rfl⟩ | ⟨rfl, h0, x_z, hx, rfl⟩)
      · have hB2 : fnM s n ks R B_z := hA.of hB_z (fun r_z j_z h1 h2 => by rw [hF r_z j_z h1]; exact eD r_z j_z h1 h2)
        have tB_z : tbE s (ks ++ (p ++ [f])) (B_z 5) n := fun a_z b_z ha_z hb_z => by
          rw [hrow _ (by omega) (by omega), tR_3 (by omega) (by omega)]
          exact tD a_z b_z ha_z hb_z
        have wB : mwB B_z := fun a_z b_z a0_z a1_z b0 b1 => by
          rw [e7_z] at a1_z b1
          rw [hrow _ (by omega) (by omega), tR_3 (by omega) (by omega), Int.mul_comm 6 a_z]
          exact bD a_z b_z a0_z a1_z b0 b1
        refine wq_ok srt_searches (fr := []) (cuts := [193]) (J := fun pc st_z => pc = 193 ∧ ∃ (C_z : pm_A) (y_z : Int), teQ B_z (t : Int) (f.1 : Int) (some (0, y_z), C_z) ∧ st_z = ([(2, 0), (0, hw), (0, (t : Int)), (0, (f.1 : Int)), (0, (t : Int)), (0, (f.1 : Int)), (0, x6), (0, i_z)], [(0, y_z)], C_z)) ?_ 20 179 _ ?_
        · rintro pc st_z ⟨rfl, C_z, y_z, hq, rfl⟩
          have hte := te_lk n6 hB2 tB_z hq
          have hG : scG s n ks C_z t p ((f.1 : Int) + 1) y_z (t : Int) (f.1 : Int) := by
            rcases hte with ⟨h1, h2⟩ | ⟨h1, h2⟩
            · have ey : y_z = 0 := by
                have := congrArg Prod.fst h1
                simp only at this
                cases this
                rfl
              have eC_z : C_z = B_z := congrArg Prod.snd h1
              subst ey
              subst eC_z
              by_cases hwd : wdT s n (ks ++ (p ++ [f]))
              · exfalso
                obtain ⟨q_z, hq_z, hk⟩ := h2
                obtain ⟨e_z, he⟩ := List.getElem?_of_mem hq_z
                obtain ⟨_, T_z, t1_z, t2_z, _⟩ := hB2.2 e_z q_z he
                obtain ⟨a_z, b_z, ⟨ha_z, hb_z⟩, hw_z⟩ := hwd
                exact t2_z ⟨a_z, b_z, ⟨ha_z, hb_z⟩, by rw [hk a_z b_z ha_z hb_z, hk b_z a_z hb_z ha_z]; exact hw_z⟩
              · exact Or.inl ⟨by omega, R, hB2, hp, fun o_z m_z hm_z => hI.1 o_z (m_z + 1) (Or.inr (Or.inr ⟨hf, p, f, hp, rfl, Or.inr ⟨hwd, Or.inl ⟨h2, hm_z⟩⟩⟩)), hI.2⟩
            · rcases h2 with ⟨h3, h4⟩ | ⟨h3, h4⟩
              · have ey : y_z = 2 := by
                  have := congrArg Prod.fst h3
                  simp only at this
                  cases this
                  rfl
                have eC_z : C_z = B_z := congrArg Prod.snd h3
                subst ey
                subst eC_z
                exact Or.inr ⟨by omega, Or.inr (Or.inr ⟨rfl, Or.inr ⟨R, p, f, t, hB2, hp, rfl, rfl, jg_out hI (Or.inr (Or.inr ⟨hf, p, f, hp, rfl, Or.inl ⟨h4, rfl⟩⟩))⟩⟩)⟩
              · rcases h4 with ⟨h4, h5⟩ | ⟨h4, h5, h6⟩
                · have ey : y_z = 3 := by
                    have := congrArg Prod.fst h4
                    simp only at this
                    cases this
                    rfl
                  have eC_z : C_z = B_z := congrArg Prod.snd h4
                  subst ey
                  subst eC_z
                  exact Or.inr ⟨by omega, Or.inr (Or.inl ⟨rfl, R, hB2, jg_out hI (Or.inr (Or.inr ⟨hf, p, f, hp, rfl, Or.inr ⟨h3, Or.inr ⟨h1, Or.inl ⟨h5, rfl⟩⟩⟩⟩))⟩)⟩
                · have ey : y_z = 1 := by
                    simp only at h5
                    cases h5
                    rfl
                  subst ey
                  simp only at h6
                  have hpl := (hA.2 t p hp).1.1
                  have hC := hB2.put tB_z h3 h6 (p := p ++ [f]) (by rw [List.length_append]; show p.length + 1 ≤ R.length; omega) (Or.inr ⟨p, f, t, rfl, hlt, hp, rfl, rfl⟩)
                  exact Or.inl ⟨by omega, R ++ [p ++ [f]], hC, by rw [List.getElem?_append_left hlt]; exact hp, fun o_z m_z hm_z => hI.1 o_z (m_z + 1) (Or.inr (Or.inr ⟨hf, p, f, hp, rfl, Or.inr ⟨h3, Or.inr ⟨h1, Or.inr ⟨h4, hm_z⟩⟩⟩⟩)), hI.2⟩
          refine wq_ok srt_searches (fr := []) (cuts := [63]) (J := fun pc st_z => pc = 63 ∧ st_z = ([(2, 0), (0, y_z), (0, (t : Int)), (0, (f.1 : Int)), (0, (t : Int)), (0, (f.1 : Int) + 1), (0, x6), (0, i_z)], [], C_z)) ?_ 8 193 _ ?_
          · rintro pc st_z ⟨rfl, rfl⟩
            exact H y_z _ _ C_z hG
          · refine ⟨⟨by omega, by omega⟩, ?_⟩
            exact ⟨rfl, rfl⟩
        · refine ⟨rM_0 (by omega) km0, ?_⟩
          refine (tells_exq (fr := (t : Int)) (bb := (f.1 : Int)) hB_z wB hB2.1.2.2.2.2.1 ⟨by omega, by omega⟩ ⟨by omega, by omega⟩).imp ?_
          rintro ⟨r1_z, C_z⟩ hq
          have hr1 : ∃ y_z : Int, r1_z = some (0, y_z) := by
            rcases hq with ⟨h1, _⟩ | ⟨_, h1⟩
            · exact ⟨0, congrArg Prod.fst h1⟩
            · rcases h1 with ⟨h1, _⟩ | ⟨_, h1⟩
              · exact ⟨2, congrArg Prod.fst h1⟩
              · rcases h1 with ⟨h1, _⟩ | ⟨_, h1, _⟩
                · exact ⟨3, congrArg Prod.fst h1⟩
                · exact ⟨1, h1⟩
          obtain ⟨y_z, rfl⟩ := hr1
          exact ⟨rfl, C_z, y_z, hq, rfl⟩
      · exact hstep_z x_z hx h0
    · refine ⟨fun h0 => ?_, fun h0 => ?_⟩
      · exact Or.inl ⟨rfl, h0, rfl⟩
      · refine ⟨oM_0 (by omega) km0 9 rfl, ?_⟩
        refine ⟨⟨by omega, by omega, by omega, by omega⟩, ?_⟩
        refine ⟨oM_0 (by omega) km0 7 rfl, ?_⟩
        refine ⟨fun h1 => ?_, fun h1 => ?_⟩
        · rw [e7_z] at h1
          refine ⟨tM_5 (by rw [c9_z]; omega) (by rw [c9_z]; exact kn5) (by omega) (by omega) rfl, ?_⟩
          rw [c9_z]
          refine ⟨⟨by omega, by omega⟩, ?_⟩
          exact Or.inr ⟨rfl, h0, 0, (tR_1 h1).symm, rfl⟩
        · rw [e7_z] at h1
          refine ⟨⟨by omega, by omega, by omega, by omega⟩, ?_⟩
          refine ⟨oM_0 (by omega) km0 7 rfl, ?_⟩
          refine ⟨fun h2 => ?_, fun h2 => ?_⟩
          · rw [e7_z] at h2
            refine ⟨tM_5 (by rw [c9_z]; omega) (by rw [c9_z]; exact kn5) (by omega) (by omega) rfl, ?_⟩
            rw [c9_z]
            refine ⟨⟨by omega, by omega⟩, ?_⟩
            exact Or.inr ⟨rfl, h0, 0, (tR_2 h2).symm, rfl⟩
          · rw [e7_z] at h2
            refine ⟨oM_0 (by omega) km0 19 rfl, ?_⟩
            refine ⟨aM_12 (by rw [c19_z]; omega) (by rw [c19_z]; exact kn12) (by omega) (by omega), ?_⟩
            refine ⟨tM_5 (by rw [c9_z]; omega) (by rw [c9_z]; exact kn5) (by omega) (by omega) rfl, ?_⟩
            rw [c9_z, c19_z, e12_z]
            refine ⟨⟨by omega, by omega⟩, ?_⟩
            exact Or.inr ⟨rfl, h0, _, (tR_3 h1 h2).symm, rfl⟩
theorem sq_80 {s : cx_Sd 12} {n : Int} {ks : List (Fin 12)} {R : List (List (Fin 12))} {t : Nat} {p : List (Fin 12)} {f : Fin 12} {A : pm_A} {hw : Int} {x2 x3 : Int} {w7 : pm_V} (n0 : 1 ≤ n) (n6 : n ≤ 6) (hf : (f.1 : Int) < n) (hA : fnM s n ks R A) (hp : R[t]? = some p) (hI : jI s n ks R t (f.1 : Int)) (H : ∀ how_z w6_z w7_z C_z, scG s n ks C_z t p ((f.1 : Int) + 1) how_z (t : Int) (f.1 : Int) → Tm pmt (an_sh wM) o_X10_searches 63 ([(2, 0), (0, how_z), (0, (t : Int)), (0, (f.1 : Int)), (0, (t : Int)), (0, (f.1 : Int) + 1), w6_z, w7_z], [], C_z) (schP s n ks)) : ∀ (m_z : Nat) (i_z : Int) (B_z : pm_A), (36 - i_z).toNat < m_z → 0 ≤ i_z → i_z ≤ 36 → c5I A B_z (fun x_z => A 24 (36 * (t : Int) + x_z)) i_z → Tm pmt (an_sh wM) o_X10_searches 80 ([(2, 0), (0, hw), (0, x2), (0, x3), (0, (t : Int)), (0, (f.1 : Int)), (0, i_z), w7], [], B_z) (schP s n ks) := by
  have hlt := (List.getElem?_eq_some_iff.mp hp).1
  have hl3 := hA.len
  obtain ⟨_, T_z, t1_z, t2_z, t3_z⟩ := hA.2 t p hp
  have r3 := tb_r3 t1_z t2_z n6
  intro m_z
  induction m_z with
  | zero => intro i_z B_z h_z; omega
  | succ m_z ih_z =>
    intro i_z B_z hm_z i0_z i1_z hJ
    have hJ0 := hJ
    obtain ⟨hB_z, hF, hrow⟩ := hJ
    have c9_z := pM_9 hB_z
    have c37_z := pM_37 hB_z
    have e7_z : B_z 0 7 = n := by rw [hF 0 7 (by omega)]; exact hA.1.2.1
    have e24_z : B_z 24 (36 * (t : Int) + i_z) = A 24 (36 * (t : Int) + i_z) := hF _ _ (by omega)
    have b24_z : i_z < 36 → -2147483648 ≤ A 24 (36 * (t : Int) + i_z) ∧ A 24 (36 * (t : Int) + i_z) ≤ 2147483647 := fun h_z => eM_24 hA.1.1 (r := 24) (by omega) kn24 (by omega) (by omega)
    refine wq_ok srt_searches (fr := []) (cuts := [80, 113]) (J := fun pc st_z => (pc = 113 ∧ 36 ≤ i_z ∧ st_z = ([(2, 0), (0, hw), (0, x2), (0, x3), (0, (t : Int)), (0, (f.1 : Int)), (0, i_z), w7], [], B_z)) ∨ (pc = 80 ∧ i_z < 36 ∧ st_z = ([(2, 0), (0, hw), (0, x2), (0, x3), (0, (t : Int)), (0, (f.1 : Int)), (0, i_z + 1), w7], [], pm_upd B_z 5 i_z (A 24 (36 * (t : Int) + i_z))))) ?_ 30 80 _ ?_
    · rintro pc st_z (⟨rfl, h0, rfl⟩ | ⟨rfl, h0, rfl⟩)
      · have v5 : ∀ x_z : Int, 0 ≤ x_z → x_z < 36 → B_z 5 x_z = tRM n T_z x_z := fun x_z x0_z x1_z => by rw [hrow x_z x0_z (by omega)]; exact t3_z x_z x0_z x1_z
        have tB_z : tbE s (ks ++ p) (B_z 5) n := fun a_z b_z ha_z hb_z => by
          rw [v5 _ (by omega) (by omega), tR_3 (by omega) (by omega)]
          exact t1_z a_z b_z ha_z hb_z
        have r3B := tb_r3 tB_z t2_z n6
        have e8_z : B_z 0 8 = A 0 8 := hF 0 8 (by omega)
        have aB : arB B_z := fun a_z b_z a0_z a1_z b0 b1 => by
          rw [e7_z] at a1_z b1
          by_cases h6 : a_z < 6
          · rw [v5 _ (by omega) (by omega)]
            unfold tRM
            by_cases hq : (6 * a_z + b_z) / 6 < n ∧ (6 * a_z + b_z) % 6 < n
            · rw [if_pos hq, Int.mul_comm 6 a_z]
              have := r3 a_z b_z a0_z (by omega) b0 b1
              omega
            · rw [if_neg hq]; omega
          · rw [hF 5 _ (by omega)]
            exact hA.1.2.2.2.2.2 a_z b_z (by omega) (by rw [hA.1.2.1, ← e8_z]; exact a1_z) b0 (by rw [hA.1.2.1]; exact b1)
        refine wq_ok srt_searches (fr := []) (cuts := [119]) (J := fun pc st_z => pc = 119 ∧ ∃ (D_z : pm_A) (g_z : Int), mtq_post B_z (f.1 : Int) (some (0, g_z), D_z) ∧ st_z = ([(2, 0), (0, hw), (0, x2), (0, x3), (0, (t : Int)), (0, (f.1 : Int)), (0, i_z), w7], [(0, g_z)], D_z)) ?_ 20 113 _ ?_
        · rintro pc st_z ⟨rfl, D_z, g_z, ⟨hD1, _, _, _, hD2⟩, rfl⟩
          simp only at hD1 hD2
          have p8_z := fM_0_8 hB_z (r := 0) (by omega) km0
          have vD : ∀ a_z b_z : Int, 0 ≤ a_z → a_z < n → 0 ≤ b_z → b_z < n → D_z 12 (a_z * 6 + b_z) = tv B_z (f.1 : Int) a_z b_z := fun a_z b_z a0_z a1_z b0 b1 => by
            rw [Int.mul_comm a_z 6]
            exact hD2 a_z b_z a0_z (by omega) b0 (by omega)
          have tD0 := tB_z.turnM hf vD
          rw [List.append_assoc] at tD0
          refine wq_ok srt_searches (fr := []) (cuts := [124]) (J := fun pc st_z => pc = 124 ∧ st_z = ([(2, 0), (0, hw), (0, x2), (0, x3), (0, (t : Int)), (0, (f.1 : Int)), (0, g_z), (0, 0)], [], D_z)) ?_ 8 119 _ ?_
          · rintro pc st_z ⟨rfl, rfl⟩
            exact sq_124 n0 n6 hf hA hp hI hD1.1 (fun r_z j_z h1 h2 => by rw [hD1.2 r_z j_z h2]; exact hF r_z j_z h1) tD0 (fun a_z b_z a0_z a1_z b0 b1 => by rw [vD a_z b_z a0_z a1_z b0 b1]; exact tv_3 r3B (by omega) hf a_z b_z a0_z a1_z b0 b1) H _ 0 D_z (Nat.lt_succ_self _) (by omega) (by omega) ⟨hD1.1, fun _ _ _ => rfl, fun x_z x0_z x1_z => by omega⟩
          · exact ⟨rfl, rfl⟩
        · refine ⟨rM_0 (by omega) km0, ?_⟩
          refine (turnsArrows_exq hB_z aB (k := (f.1 : Int)) (by omega) (by rw [e7_z]; exact hf)).imp ?_
          rintro ⟨r1_z, D_z⟩ hq
          have hr1 : ∃ g_z : Int, r1_z = some (0, g_z) := by
            obtain ⟨_, g_z, h1, _⟩ := hq
            exact ⟨g_z, h1⟩
          obtain ⟨g_z, rfl⟩ := hr1
          exact ⟨rfl, D_z, g_z, hq, rfl⟩
      · have b_z := b24_z h0
        refine ih_z (i_z + 1) _ (by omega) (by omega) (by omega) ⟨uM_5 hB_z kn5 b_z.1 b_z.2, fun r_z j_z hr => by rw [upd_o (by omega)]; exact hF r_z j_z hr, fun y_z y0 y1 => ?_⟩
        by_cases ey : y_z = i_z
        · rw [ey, upd_at]
        · rw [upd_o (by omega)]; exact hrow y_z y0 (by omega)
    · refine ⟨fun h0 => ?_, fun h0 => ?_⟩
      · exact Or.inl ⟨rfl, h0, rfl⟩
      · refine ⟨oM_0 (by omega) km0 9 rfl, ?_⟩
        refine ⟨oM_0 (by omega) km0 37 rfl, ?_⟩
        refine ⟨⟨by omega, by omega⟩, ?_⟩
        refine ⟨⟨by omega, by omega⟩, ?_⟩
        refine ⟨aM_24 (by rw [c37_z]; omega) (by rw [c37_z]; exact kn24) (by omega) (by omega), ?_⟩
        refine ⟨tM_5 (by rw [c9_z]; omega) (by rw [c9_z]; exact kn5) (by omega) (by omega) rfl, ?_⟩
        rw [c9_z, c37_z, e24_z]
        refine ⟨⟨by omega, by omega⟩, ?_⟩
        exact Or.inr ⟨rfl, h0, rfl⟩
def scH2 (s : cx_Sd 12) (n : Int) (ks : List (Fin 12)) (B : pm_A) (t : Nat) (how fr bb : Int) : Prop := (how < 2 ∧ ∃ R_z, fnM s n ks R_z B ∧ t ≤ R_z.length ∧ jI s n ks R_z t 0) ∨ (2 ≤ how ∧ scE s n ks B how fr bb)
theorem sq_63 {s : cx_Sd 12} {n : Int} {ks : List (Fin 12)} {t : Nat} {p : List (Fin 12)} (n0 : 1 ≤ n) (n6 : n ≤ 6) (t3 : t ≤ 3000) (H : ∀ how_z fr_z bb_z w5_z w6_z w7_z C_z, scH2 s n ks C_z (t + 1) how_z fr_z bb_z → Tm pmt (an_sh wM) o_X10_searches 46 ([(2, 0), (0, how_z), (0, fr_z), (0, bb_z), (0, ((t + 1 : Nat) : Int)), w5_z, w6_z, w7_z], [], C_z) (schP s n ks)) : ∀ (m_z k_z : Nat) (how_z fr_z bb_z : Int) (w6_z w7_z : pm_V) (B_z : pm_A), 6 - k_z < m_z → k_z ≤ 6 → scG s n ks B_z t p (k_z : Int) how_z fr_z bb_z → Tm pmt (an_sh wM) o_X10_searches 63 ([(2, 0), (0, how_z), (0, fr_z), (0, bb_z), (0, (t : Int)), (0, (k_z : Int)), w6_z, w7_z], [], B_z) (schP s n ks) := by
  intro m_z
  induction m_z with
  | zero => intro k_z how_z fr_z bb_z w6_z w7_z B_z h_z; omega
  | succ m_z ih_z =>
    intro k_z how_z fr_z bb_z w6_z w7_z B_z hm_z hk hG
    have hgB : gH wM B_z := by
      rcases hG with ⟨_, R_z, h1, _⟩ | ⟨_, h1⟩
      · exact h1.1.1
      · exact h1.g
    have p7_z := fM_0_7 hgB (r := 0) (by omega) km0
    have h200 : scH2 s n ks B_z (t + 1) how_z fr_z bb_z → Tm pmt (an_sh wM) o_X10_searches 200 ([(2, 0), (0, how_z), (0, fr_z), (0, bb_z), (0, (t : Int)), (0, (k_z : Int)), w6_z, w7_z], [], B_z) (schP s n ks) := fun h1 => by
      refine wq_ok srt_searches (fr := []) (cuts := [46]) (J := fun pc st_z => pc = 46 ∧ st_z = ([(2, 0), (0, how_z), (0, fr_z), (0, bb_z), (0, (t : Int) + 1), (0, (k_z : Int)), w6_z, w7_z], [], B_z)) ?_ 7 200 _ ?_
      · rintro pc st_z ⟨rfl, rfl⟩
        rw [show (t : Int) + 1 = ((t + 1 : Nat) : Int) by omega]
        exact H _ _ _ _ _ _ B_z h1
      · refine ⟨⟨by omega, by omega⟩, ?_⟩
        exact ⟨rfl, rfl⟩
    refine wq_ok srt_searches (fr := []) (cuts := [80, 200]) (J := fun pc st_z => (pc = 200 ∧ (B_z 0 7 ≤ (k_z : Int) ∨ 2 ≤ how_z) ∧ st_z = ([(2, 0), (0, how_z), (0, fr_z), (0, bb_z), (0, (t : Int)), (0, (k_z : Int)), w6_z, w7_z], [], B_z)) ∨ (pc = 80 ∧ (k_z : Int) < B_z 0 7 ∧ how_z < 2 ∧ st_z = ([(2, 0), (0, how_z), (0, fr_z), (0, bb_z), (0, (t : Int)), (0, (k_z : Int)), (0, 0), w7_z], [], B_z))) ?_ 14 63 _ ?_
    · rintro pc st_z (⟨rfl, h0, rfl⟩ | ⟨rfl, h0, h1, rfl⟩)
      · refine h200 ?_
        rcases hG with ⟨g1, R_z, g2, g3_z, g4⟩ | ⟨g1, g2⟩
        · have hlt := (List.getElem?_eq_some_iff.mp g3_z).1
          have h7 := g2.1.2.1
          refine Or.inl ⟨g1, R_z, g2, hlt, fun o_z m_z hm_z => g4.1 o_z (m_z + 1) (Or.inr (Or.inl ⟨hlt, by omega, hm_z⟩)), g4.2⟩
        · exact Or.inr ⟨g1, g2⟩
      · rcases hG with ⟨g1, R_z, g2, g3_z, g4⟩ | ⟨g1, _⟩
        · have h7 := g2.1.2.1
          have hf : k_z < 12 := by omega
          have h2 := sq_80 (f := ⟨k_z, hf⟩) (hw := how_z) (x2 := fr_z) (x3 := bb_z) (w7 := w7_z) n0 n6 (show ((k_z : Nat) : Int) < n by omega) g2 g3_z g4 (fun how2 w6' w7' C_z hC => by
            have h5 := ih_z (k_z + 1) how2 (t : Int) (k_z : Int) w6' w7' C_z (by omega) (by omega) (by rw [show ((k_z + 1 : Nat) : Int) = (k_z : Int) + 1 by omega]; exact hC)
            rw [show ((k_z + 1 : Nat) : Int) = (k_z : Int) + 1 by omega] at h5
            exact h5) _ 0 B_z (Nat.lt_succ_self _) (by omega) (by omega) ⟨g2.1.1, fun _ _ _ => rfl, fun x_z x0_z x1_z => by omega⟩
          exact h2
        · omega
    · refine ⟨oM_0 (by omega) km0 7 rfl, ?_⟩
      refine ⟨fun h0 => ?_, fun h0 => ?_⟩
      · exact Or.inl ⟨rfl, Or.inl h0, rfl⟩
      · refine ⟨fun h1 => ?_, fun h1 => ?_⟩
        · exact Or.inl ⟨rfl, Or.inr h1, rfl⟩
        · exact Or.inr ⟨rfl, h0, h1, rfl⟩
theorem sq_46 {s : cx_Sd 12} {n : Int} {ks : List (Fin 12)} (n0 : 1 ≤ n) (n6 : n ≤ 6) : ∀ (m_z t_z : Nat) (how_z fr_z bb_z : Int) (w5_z w6_z w7_z : pm_V) (B_z : pm_A), 3002 - t_z < m_z → t_z ≤ 3001 → scH2 s n ks B_z t_z how_z fr_z bb_z → Tm pmt (an_sh wM) o_X10_searches 46 ([(2, 0), (0, how_z), (0, fr_z), (0, bb_z), (0, (t_z : Int)), w5_z, w6_z, w7_z], [], B_z) (schP s n ks) := by
  intro m_z
  induction m_z with
  | zero => intro t_z how_z fr_z bb_z w5_z w6_z w7_z B_z h_z; omega
  | succ m_z ih_z =>
    intro t_z how_z fr_z bb_z w5_z w6_z w7_z B_z hm_z ht hH
    have hgB : gH wM B_z := by
      rcases hH with ⟨_, R_z, h1, _⟩ | ⟨_, h1⟩
      · exact h1.1.1
      · exact h1.g
    have p40 := fM_0_40 hgB (r := 0) (by omega) km0
    refine wq_ok srt_searches (fr := []) (cuts := [63, 206]) (J := fun pc st_z => (pc = 206 ∧ (B_z 0 40 ≤ (t_z : Int) ∨ 2 ≤ how_z) ∧ st_z = ([(2, 0), (0, how_z), (0, fr_z), (0, bb_z), (0, (t_z : Int)), w5_z, w6_z, w7_z], [], B_z)) ∨ (pc = 63 ∧ (t_z : Int) < B_z 0 40 ∧ how_z < 2 ∧ st_z = ([(2, 0), (0, how_z), (0, fr_z), (0, bb_z), (0, (t_z : Int)), (0, 0), w6_z, w7_z], [], B_z))) ?_ 14 46 _ ?_
    · rintro pc st_z (⟨rfl, h0, rfl⟩ | ⟨rfl, h0, h1, rfl⟩)
      · refine sq_206 ?_
        rcases hH with ⟨g1, R_z, g2, g3_z, g4⟩ | ⟨_, g2⟩
        · have hlen := g2.1.2.2.1
          exact Or.inl ⟨g1, R_z, g2, jg_out g4 (Or.inl ⟨by omega, rfl⟩)⟩
        · exact g2
      · rcases hH with ⟨g1, R_z, g2, g3_z, g4⟩ | ⟨g1, _⟩
        · have hlen := g2.1.2.2.1
          have hlt : t_z < R_z.length := by omega
          exact sq_63 (p := R_z[t_z]) n0 n6 (by omega) (fun how2 fr2 bb2 w5' w6' w7' C_z hC => ih_z (t_z + 1) how2 fr2 bb2 w5' w6' w7' C_z (by omega) (by omega) hC) _ 0 how_z fr_z bb_z _ _ B_z (Nat.lt_succ_self _) (by omega) (Or.inl ⟨g1, R_z, g2, List.getElem?_eq_getElem hlt, g4⟩)
        · omega
    · refine ⟨oM_0 (by omega) km0 40 rfl, ?_⟩
      refine ⟨fun h0 => ?_, fun h0 => ?_⟩
      · exact Or.inl ⟨rfl, Or.inl h0, rfl⟩
      · refine ⟨fun h1 => ?_, fun h1 => ?_⟩
        · exact Or.inl ⟨rfl, Or.inr h1, rfl⟩
        · exact Or.inr ⟨rfl, h0, h1, rfl⟩
theorem sq_12 {s : cx_Sd 12} {n : Int} {ks : List (Fin 12)} {A : pm_A} (n0 : 1 ≤ n) (n6 : n ≤ 6) (h7 : A 0 7 = n) (hT : tbE s ks (A 5) n) (hB : arB A) : ∀ (m_z : Nat) (i_z : Int) (w2_z w3_z w4_z w5 w6_z w7_z : pm_V) (B_z : pm_A), (4096 - i_z).toNat < m_z → 0 ≤ i_z → i_z ≤ 4096 → gH wM B_z → (∀ r_z j_z : Int, ¬ r_z = 28 → ¬ (r_z = 0 ∧ (j_z = 40 ∨ j_z = 42)) → B_z r_z j_z = A r_z j_z) → B_z 0 40 = 0 → B_z 0 42 = 0 → (∀ h_z : Int, 0 ≤ h_z → h_z < i_z → B_z 28 h_z = -1) → Tm pmt (an_sh wM) o_X10_searches 12 ([(2, 0), (0, i_z), w2_z, w3_z, w4_z, w5, w6_z, w7_z], [], B_z) (schP s n ks) := by
  intro m_z
  induction m_z with
  | zero => intro i_z w2_z w3_z w4_z w5 w6_z w7_z B_z h_z; omega
  | succ m_z ih_z =>
    intro i_z w2_z w3_z w4_z w5 w6_z w7_z B_z hm_z i0_z i1_z hgB hF h40 h42 hh
    have c44_z := pM_44 hgB
    have e7_z : B_z 0 7 = n := by rw [hF 0 7 (by omega) (by omega)]; exact h7
    have e8_z : B_z 0 8 = A 0 8 := hF 0 8 (by omega) (by omega)
    have e5 : B_z 5 = A 5 := funext fun j_z => hF 5 j_z (by omega) (by omega)
    refine wq_ok srt_searches (fr := []) (cuts := [12, 32]) (J := fun pc st_z => (pc = 32 ∧ 4096 ≤ i_z ∧ st_z = ([(2, 0), (0, i_z), w2_z, w3_z, w4_z, w5, w6_z, w7_z], [], B_z)) ∨ (pc = 12 ∧ i_z < 4096 ∧ st_z = ([(2, 0), (0, i_z + 1), w2_z, w3_z, w4_z, w5, w6_z, w7_z], [], pm_upd B_z 28 i_z (-1)))) ?_ 15 12 _ ?_
    · rintro pc st_z (⟨rfl, h0, rfl⟩ | ⟨rfl, h0, rfl⟩)
      · have hHL : HL B_z := by
          refine ⟨fun u_z u0_z u1_z => ?_, fun t_z t0_z t1_z => by rw [h40] at t1_z; omega⟩
          rw [hh u_z u0_z (by omega), h40]
          exact ⟨⟨by omega, by omega⟩, fun q_z => absurd q_z (by omega), fun e_z e0_z e1_z => by omega⟩
        have hU : arU B_z := fun a_z b_z a0_z a1_z b0 b1 => by
          rw [e7_z, e8_z] at a1_z
          rw [e7_z] at b1
          rw [e5]
          exact hB a_z b_z (by omega) (by omega) b0 (by omega)
        have wB : mwB B_z := fun a_z b_z a0_z a1_z b0 b1 => by
          rw [e7_z] at a1_z b1
          have p8_z := fM_0_8 hgB (r := 0) (by omega) km0
          rw [e5]
          exact hB a_z b_z a0_z (by omega) b0 (by omega)
        have hfn : fnM s n ks [] B_z := ⟨⟨hgB, e7_z, by rw [h40]; rfl, h42, hHL, hU⟩, fun e_z p_z he => by simp at he⟩
        have tB_z : tbE s ks (B_z 5) n := by rw [e5]; exact hT
        refine wq_ok srt_searches (fr := []) (cuts := [38]) (J := fun pc st_z => pc = 38 ∧ ∃ (C_z : pm_A) (y_z : Int), teQ B_z (-1) (-1) (some (0, y_z), C_z) ∧ st_z = ([(2, 0), (0, i_z), w2_z, w3_z, w4_z, w5, w6_z, w7_z], [(0, y_z)], C_z)) ?_ 20 32 _ ?_
        · rintro pc st_z ⟨rfl, C_z, y_z, hq, rfl⟩
          have hte := te_lk n6 hfn tB_z hq
          have hH : scH2 s n ks C_z 0 y_z (-1) (-1) := by
            rcases hte with ⟨_, q_z, hq_z, _⟩ | ⟨_, h2⟩
            · simp at hq_z
            · rcases h2 with ⟨h3, h4⟩ | ⟨h3, h4⟩
              · have ey : y_z = 2 := by
                  have := congrArg Prod.fst h3
                  simp only at this
                  cases this
                  rfl
                have eC_z : C_z = B_z := congrArg Prod.snd h3
                subst ey
                subst eC_z
                exact Or.inr ⟨by omega, Or.inr (Or.inr ⟨rfl, Or.inl ⟨rfl, ⟨hgB, h40, h42⟩, Or.inl ⟨h4, rfl⟩⟩⟩)⟩
              · rcases h4 with ⟨_, h5⟩ | ⟨h4, h5, h6⟩
                · exact absurd h5 (by show ¬ 3000 ≤ 0; omega)
                · have ey : y_z = 1 := by
                    simp only at h5
                    cases h5
                    rfl
                  subst ey
                  simp only at h6
                  have hC := hfn.put (p := []) (by rw [List.append_nil]; exact tB_z) (by rw [List.append_nil]; exact h3) h6 (Nat.zero_le _) (Or.inl ⟨rfl, rfl⟩)
                  exact Or.inl ⟨by omega, [[]], hC, Nat.zero_le _, fun o_z m_z hm_z => ⟨m_z, hm_z⟩, h3⟩
          refine wq_ok srt_searches (fr := []) (cuts := [46]) (J := fun pc st_z => pc = 46 ∧ st_z = ([(2, 0), (0, y_z), (0, -1), (0, -1), (0, 0), w5, w6_z, w7_z], [], C_z)) ?_ 12 38 _ ?_
          · rintro pc st_z ⟨rfl, rfl⟩
            exact sq_46 n0 n6 _ 0 y_z (-1) (-1) _ _ _ C_z (Nat.lt_succ_self _) (by omega) hH
          · exact ⟨rfl, rfl⟩
        · refine ⟨rM_0 (by omega) km0, ?_⟩
          refine (tells_exq (fr := -1) (bb := -1) hgB wB hHL ⟨by omega, by omega⟩ ⟨by omega, by omega⟩).imp ?_
          rintro ⟨r1_z, C_z⟩ hq
          have hr1 : ∃ y_z : Int, r1_z = some (0, y_z) := by
            rcases hq with ⟨h1, _⟩ | ⟨_, h1⟩
            · exact ⟨0, congrArg Prod.fst h1⟩
            · rcases h1 with ⟨h1, _⟩ | ⟨_, h1⟩
              · exact ⟨2, congrArg Prod.fst h1⟩
              · rcases h1 with ⟨h1, _⟩ | ⟨_, h1, _⟩
                · exact ⟨3, congrArg Prod.fst h1⟩
                · exact ⟨1, h1⟩
          obtain ⟨y_z, rfl⟩ := hr1
          exact ⟨rfl, C_z, y_z, hq, rfl⟩
      · refine ih_z (i_z + 1) _ _ _ _ _ _ _ (by omega) (by omega) (by omega) (uM_28 hgB kn28 (by omega) (by omega)) (fun r_z j_z h1 h2 => by rw [upd_o (by omega)]; exact hF r_z j_z h1 h2) (by rw [upd_o (by omega)]; exact h40) (by rw [upd_o (by omega)]; exact h42) (fun u_z u0_z u1_z => ?_)
        by_cases e_z : u_z = i_z
        · rw [e_z, upd_at]
        · rw [upd_o (by omega)]; exact hh u_z u0_z (by omega)
    · refine ⟨fun h0 => ?_, fun h0 => ?_⟩
      · exact Or.inl ⟨rfl, h0, rfl⟩
      · refine ⟨oM_0 (by omega) km0 44 rfl, ?_⟩
        refine ⟨tM_28 (by rw [c44_z]; omega) (by rw [c44_z]; exact kn28) (by omega) (by omega) rfl, ?_⟩
        rw [c44_z]
        refine ⟨⟨by omega, by omega⟩, ?_⟩
        exact Or.inr ⟨rfl, h0, rfl⟩
theorem searches_exq {s : cx_Sd 12} {n : Int} {ks : List (Fin 12)} {A : pm_A} (hA : gH wM A) (n0 : 1 ≤ n) (n6 : n ≤ 6) (h7 : A 0 7 = n) (hT : tbE s ks (A 5) n) (hB : arB A) : Cl pmt (an_sh wM) 182 [(2, 0)] A (schP s n ks) := by
  refine Cl.of (Nat.le_of_ble_eq_true rfl) ?_
  refine wq_ok (full := o_X10_searches) srt_searches (fr := []) (cuts := [12]) (J := fun pc st_z => (pc = 12 ∧ st_z = ([(2, 0), (0, 0), (9, 0), (9, 0), (9, 0), (9, 0), (9, 0), (9, 0)], [], pm_upd (pm_upd A 0 40 0) 0 42 0))) ?_ 13 0 _ ?_
  · rintro pc st_z ⟨rfl, rfl⟩
    exact sq_12 n0 n6 h7 hT hB _ 0 _ _ _ _ _ _ _ (Nat.lt_succ_self _) (by omega) (by omega) (uM_0_42 (uM_0_40 hA (by omega) (by omega)) (by omega) (by omega)) (fun r_z j_z h1 h2 => by rw [upd_o (by omega), upd_o (by omega)]) (by rw [upd_o (by omega), upd_at]) upd_at (fun u_z u0_z u1_z => by omega)
  · refine ⟨oM_0 (by omega) km0 40 rfl, ?_⟩
    refine ⟨oM_0 (by omega) km0 42 rfl, ?_⟩
    exact ⟨rfl, rfl⟩
def mfP (s : cx_Sd 12) (n : Int) (ks : List (Fin 12)) (r : pm_R) : Prop := ∃ (x_z : Option fnO) (a_z : Int), finO s n ks x_z ∧ r.1 = some (0, a_z) ∧ fzO x_z a_z (r.2 0 42) (r.2 0 41) (r.2 27)
theorem mfinite_exq {s : cx_Sd 12} {ks : List (Fin 12)} {A : pm_A} (h : Tru s ks A) : Cl pmt (an_sh wM) 141 [(2, 0)] A (mfP s (A 0 7) ks) := by
  have hg := h.1
  have p7_z := fM_0_7 hg (r := 0) (by omega) km0
  have p8_z := fM_0_8 hg (r := 0) (by omega) km0
  refine Cl.of (Nat.le_of_ble_eq_true rfl) ?_
  refine wq_ok (full := o_X10_finite) srt_Mfinite (fr := []) (cuts := [6]) (J := fun pc st_z => (pc = 6 ∧ ∃ C_z, savesJ A C_z 30 72 ∧ st_z = ([(2, 0), (9, 0)], [], C_z))) ?_ 7 0 _ ?_
  · rintro pc st_z ⟨rfl, C_z, hC, rfl⟩
    have oC : ∀ r_z j_z : Int, r_z = 0 ∨ r_z = 5 → C_z r_z j_z = A r_z j_z := fun r_z j_z hr => hC.2.1 r_z j_z (fun t_z t0_z t1_z ht => by unfold inS at ht; omega) (by omega)
    have e7_z : C_z 0 7 = A 0 7 := oC 0 7 (by omega)
    have e8_z : C_z 0 8 = A 0 8 := oC 0 8 (by omega)
    have e5 : C_z 5 = A 5 := funext fun j_z => oC 5 j_z (by omega)
    have tC : tbE s ks (C_z 5) (A 0 7) := fun i_z j_z hi_z hj => by
      rw [e5, Int.mul_comm (i_z.1 : Int) 6]
      exact (h.2.2.1 i_z j_z hj).1 (by omega)
    have aC : arB C_z := fun i_z j_z i0_z i1_z j0 j1 => by
      rw [e7_z, e8_z] at i1_z
      rw [e7_z] at j1
      rw [e5]
      exact h.2.2.2.2.2.1 i_z j_z i0_z i1_z j0 j1
    refine wq_ok srt_Mfinite (fr := []) (cuts := [10]) (J := fun pc st_z => (pc = 10 ∧ ∃ B_z a_z, schP s (A 0 7) ks (some (0, a_z), B_z) ∧ st_z = ([(2, 0), (9, 0)], [(0, a_z)], B_z))) ?_ 6 6 _ ?_
    · rintro pc st_z ⟨rfl, B_z, a_z, ⟨hB_z, x_z, b_z, h1, h2, h3⟩, rfl⟩
      simp only at hB_z h2 h3
      have eb : b_z = a_z := by
        injection h2 with h2
        injection h2 with _ h2
        exact h2.symm
      subst eb
      refine wq_ok srt_Mfinite (fr := []) (cuts := [17]) (J := fun pc st_z => (pc = 17 ∧ ∃ D_z, restoresJ B_z D_z 30 72 ∧ st_z = ([(2, 0), (0, b_z)], [], D_z))) ?_ 8 10 _ ?_
      · rintro pc st_z ⟨rfl, D_z, hD, rfl⟩
        have oD_z : ∀ r_z j_z : Int, r_z = 0 ∨ r_z = 27 → D_z r_z j_z = B_z r_z j_z := fun r_z j_z hr => hD.2.1 r_z j_z (fun t_z t0_z t1_z ht => by unfold inS at ht; omega) (by omega)
        refine wq_ok srt_Mfinite (fr := []) (cuts := []) (J := fun _ _ => False) (fun _ _ h_z => h_z.elim) 6 17 _ ?_
        refine ⟨rfl, x_z, b_z, h1, rfl, ?_⟩
        show fzO x_z b_z (D_z 0 42) (D_z 0 41) (D_z 27)
        rw [oD_z 0 42 (by omega), oD_z 0 41 (by omega), show D_z 27 = B_z 27 from funext fun j_z => oD_z 27 j_z (by omega)]
        exact h3
      · refine ⟨rM_0 (by omega) km0, ?_⟩
        refine (restores_ex (p := 30) hB_z (by omega) (by omega)).imp ?_
        rintro ⟨r1_z, D_z⟩ ⟨q1_z, q2_z⟩
        simp only at q1_z q2_z
        subst q1_z
        exact ⟨rfl, D_z, q2_z, rfl⟩
    · refine ⟨rM_0 (by omega) km0, ?_⟩
      refine (searches_exq hC.1 h.2.1 p7_z.2 e7_z tC aC).imp ?_
      rintro ⟨r1_z, B_z⟩ hB_z
      have hB0 := hB_z
      obtain ⟨_, x_z, a_z, _, h2, _⟩ := hB0
      simp only at h2
      subst h2
      exact ⟨rfl, B_z, a_z, hB_z, rfl⟩
  · refine ⟨rM_0 (by omega) km0, ?_⟩
    refine (saves_ex (p := 30) hg (by omega) (by omega)).imp ?_
    rintro ⟨r1_z, C_z⟩ ⟨q1_z, q2_z⟩
    simp only at q1_z q2_z
    subst q1_z
    exact ⟨rfl, C_z, q2_z, rfl⟩
end

section
/-! what way writes of the class: the path of finite is a kind of its own -/
def wP : an_W := ((KX.set 7 (0, 4, 6, [(0, 0, 3000), (0, (-2147483648), 2147483647), (2, 36, 0), (2, 10, 0), (1, (-9223372036854775808), 9223372036854775807), (1, (-9223372036854775808), 9223372036854775807)]) ++ [(1, 0, 3000, [(0, (-2147483648), 2147483647)])]), fun r_z => if r_z = 414 then 36 else wX.2 r_z)
theorem shP : an_sh wP = an_sh wX := by
  funext r_z
  unfold an_sh
  show (match (KX.set 7 (0, 4, 6, [(0, 0, 3000), (0, (-2147483648), 2147483647), (2, 36, 0), (2, 10, 0), (1, (-9223372036854775808), 9223372036854775807), (1, (-9223372036854775808), 9223372036854775807)]) ++ [(1, 0, 3000, [(0, (-2147483648), 2147483647)])])[if r_z = 414 then 36 else wX.2 r_z]? with
    | some k_z => (k_z.1, k_z.2.1, k_z.2.2.1)
    | none => (2, 0, 0)) = match KX[wX.2 r_z]? with
    | some k_z => (k_z.1, k_z.2.1, k_z.2.2.1)
    | none => (2, 0, 0)
  by_cases e_z : r_z = 414
  · subst e_z
    decide
  · rw [if_neg e_z]
    have key_z : ∀ i_z : Nat, i_z < 36 → (match (KX.set 7 (0, 4, 6, [(0, 0, 3000), (0, (-2147483648), 2147483647), (2, 36, 0), (2, 10, 0), (1, (-9223372036854775808), 9223372036854775807), (1, (-9223372036854775808), 9223372036854775807)]) ++ [(1, 0, 3000, [(0, (-2147483648), 2147483647)])])[i_z]? with
      | some k_z => (k_z.1, k_z.2.1, k_z.2.2.1)
      | none => (2, 0, 0)) = match KX[i_z]? with
      | some k_z => (k_z.1, k_z.2.1, k_z.2.2.1)
      | none => (2, 0, 0) := by
      intro i_z hi_z
      have : ∀ j_z : Fin 36, (match (KX.set 7 (0, 4, 6, [(0, 0, 3000), (0, (-2147483648), 2147483647), (2, 36, 0), (2, 10, 0), (1, (-9223372036854775808), 9223372036854775807), (1, (-9223372036854775808), 9223372036854775807)]) ++ [(1, 0, 3000, [(0, (-2147483648), 2147483647)])])[j_z.1]? with
        | some k_z => (k_z.1, k_z.2.1, k_z.2.2.1)
        | none => ((2, 0, 0) : Nat × Nat × Int)) = match KX[j_z.1]? with
        | some k_z => (k_z.1, k_z.2.1, k_z.2.2.1)
        | none => (2, 0, 0) := by decide +kernel
      exact this ⟨i_z, hi_z⟩
    by_cases l : wX.2 r_z < 36
    · exact key_z _ l
    · have hw : wX.2 r_z = 9999 := by
        show (if r_z < 0 then 9999 else kdXl.getD r_z.toNat 9999) = 9999
        have l : ¬ (if r_z < 0 then 9999 else kdXl.getD r_z.toNat 9999) < 36 := l
        by_cases r0 : r_z < 0
        · rw [if_pos r0]
        · rw [if_neg r0] at l ⊢
          by_cases lr : r_z.toNat < kdXl.length
          · have hall : kdXl.all (fun x_z => decide (x_z < 36)) = true := by decide +kernel
            have hm_z := List.all_eq_true.mp hall (kdXl[r_z.toNat]) (List.getElem_mem lr)
            rw [List.getD_eq_getElem?_getD, List.getElem?_eq_getElem lr] at l
            exact absurd (of_decide_eq_true hm_z) l
          · exact getD_ge (by omega)
      rw [hw]
      rfl
def ctPl : List (Nat × ks_Q) := [(3, ([2], 2, [])), (53, ([12], 2, [])), (59, ([12], 2, [])), (1, ([36, 1], 0, [10033])), (16, ([9], 0, [605, 10033])), (20, ([9, 2, 2], 2, [])), (17, ([9, 2, 2, 1, 1], 2, [605, 10030, 10031, 10032, 10033])), (18, ([9, 2, 2], 2, [])), (51, ([1, 1], 3, [])), (55, ([12, 1, 1], 2, [])), (52, ([12, 1], 2, [])), (50, ([12, 1, 1], 2, [])), (49, ([12, 1, 1], 2, [])), (60, ([12, 1, 1], 2, [])), (28, ([11, 1], 3, [])), (32, ([11, 12, 12, 9], 0, [605, 900, 901, 10030, 10031, 10032, 10033])), (29, ([11, 1, 9], 2, [901])), (31, ([11, 12, 9], 2, [800, 901, 10035])), (119, ([3], 2, [605, 800, 900, 901, 10030, 10031, 10032, 10033, 10035]))]
def ctP (mid : Nat) : List ks_Q := (ctPl.filter (fun x_z => Nat.beq x_z.1 mid)).map (fun x_z => x_z.2)
def rwP0 : List (Nat × ks_Q × ks_C) := [(3, ([2], 2, []), [(0, [2, 1], []), (1, [2, 1], [2]), (2, [2, 1], [2, 2]), (3, [2, 1], [1, 2, 2]), (4, [2, 1], [2, 2]), (7, [2, 1], [2, 2, 2]), (8, [2, 1], [2, 2]), (9, [2, 1], [2]), (10, [2, 1], []), (11, [2, 1], [2]), (14, [2, 1], [2, 2]), (15, [2, 1], [2]), (16, [2, 1], [2, 2]), (17, [2, 1], [1, 2, 2]), (18, [2, 1], [2, 2]), (21, [2, 1], [2, 2, 2]), (22, [2, 1], [2, 2]), (23, [2, 1], [2]), (24, [2, 1], []), (25, [2, 1], [2]), (26, [2, 1], [2, 2]), (27, [2, 1], [1, 2, 2]), (28, [2, 1], [2, 2]), (29, [2, 1], [2]), (32, [2, 1], [2, 2]), (33, [2, 1], [2]), (34, [2, 1], []), (35, [2, 1], [2]), (36, [2, 1], [2, 2]), (38, [2, 1], [1, 2, 2]), (39, [2, 1], [2, 2]), (40, [2, 1], [2]), (41, [2, 1], []), (42, [2, 1], [2]), (43, [2, 1], [2, 2]), (45, [2, 1], [1, 2, 2]), (46, [2, 1], [2, 2]), (47, [2, 1], [2]), (48, [2, 1], []), (49, [2, 1], [2]), (50, [2, 1], [2, 2]), (52, [2, 1], [1, 2, 2]), (53, [2, 1], [2, 2]), (54, [2, 1], [2]), (55, [2, 1], []), (56, [2, 1], [2]), (57, [2, 1], [1]), (59, [2, 1], [1, 1]), (60, [2, 1], [1])]), (53, ([12], 2, []), [(0, [12], []), (1, [12], [12]), (4, [12], [2]), (7, [12], [1])]), (59, ([12], 2, []), [(0, [12], []), (1, [12], [12]), (4, [12], [1]), (5, [12], [12, 1]), (8, [12], [1, 1]), (9, [12], [1, 1, 1]), (10, [12], [1, 1]), (13, [12], []), (14, [12], [1]), (17, [12], []), (18, [12], [1])]), (1, ([36, 1], 0, [10033]), [(0, [36, 1, 1, 1], []), (1, [36, 1, 1, 1], [1]), (2, [36, 1, 1, 1], []), (3, [36, 1, 1, 1], [36]), (4, [36, 1, 1, 1], [1]), (5, [36, 1, 1, 1], []), (6, [36, 1, 1, 1], [1]), (7, [36, 1, 1, 1], [1, 1]), (10, [36, 1, 1, 1], []), (11, [36, 1, 1, 1], [36]), (12, [36, 1, 1, 1], [1, 36]), (13, [36, 1, 1, 1], [1, 1, 36]), (14, [36, 1, 1, 1], []), (17, [36, 1, 1, 1], []), (20, [36, 1, 1, 1], [])]), (16, ([9], 0, [605, 10033]), [(0, [9], []), (1, [9], [9]), (2, [9], [1, 9]), (5, [9], []), (6, [9], [9]), (9, [9], [36]), (10, [9], [1, 36]), (13, [9], [])]), (20, ([9, 2, 2], 2, []), [(0, [9, 2, 1, 2, 1, 1, 1, 1, 1, 1], []), (1, [9, 2, 1, 2, 1, 1, 1, 1, 1, 1], [2]), (4, [9, 2, 1, 2, 1, 1, 1, 1, 1, 1], [2, 2]), (5, [9, 2, 1, 2, 1, 1, 1, 1, 1, 1], [2]), (6, [9, 2, 1, 2, 1, 1, 1, 1, 1, 1], [2, 2]), (9, [9, 2, 1, 2, 1, 1, 1, 1, 1, 1], [2, 2, 2]), (10, [9, 2, 1, 2, 1, 1, 1, 1, 1, 1], [2, 2]), (11, [9, 2, 1, 2, 1, 1, 1, 1, 1, 1], [2]), (13, [9, 2, 1, 2, 1, 2, 1, 1, 1, 1], []), (15, [9, 2, 1, 2, 1, 2, 1, 1, 1, 1], [2]), (17, [9, 2, 1, 2, 1, 2, 1, 1, 1, 1], [2, 2]), (19, [9, 2, 1, 2, 1, 2, 1, 1, 1, 1], [1, 2, 2]), (20, [9, 2, 1, 2, 1, 2, 1, 1, 1, 1], [2, 2]), (21, [9, 2, 1, 2, 1, 2, 1, 1, 1, 1], [2]), (23, [9, 2, 1, 2, 1, 2, 1, 1, 1, 1], [1, 2]), (24, [9, 2, 1, 2, 1, 2, 1, 1, 1, 1], [2]), (25, [9, 2, 1, 2, 1, 2, 1, 1, 1, 1], [1]), (28, [9, 2, 1, 2, 1, 2, 1, 1, 1, 1], [1, 1]), (29, [9, 2, 1, 2, 1, 2, 1, 1, 1, 1], [1]), (31, [9, 2, 1, 2, 1, 2, 1, 1, 1, 1], []), (32, [9, 2, 1, 2, 1, 2, 1, 1, 1, 1], [1]), (34, [9, 2, 1, 2, 1, 2, 1, 1, 1, 1], []), (36, [9, 2, 1, 2, 1, 2, 1, 1, 1, 1], [1]), (39, [9, 2, 1, 2, 1, 2, 1, 1, 1, 1], [1, 1]), (42, [9, 2, 1, 2, 1, 2, 1, 1, 1, 1], []), (43, [9, 2, 1, 2, 1, 2, 1, 1, 1, 1], [9]), (46, [9, 2, 1, 2, 1, 2, 1, 1, 1, 1], [36]), (48, [9, 2, 1, 2, 1, 2, 1, 1, 1, 1], [1, 36]), (49, [9, 2, 1, 2, 1, 2, 1, 1, 1, 1], [1]), (50, [9, 2, 1, 2, 1, 2, 1, 1, 1, 1], [1, 1]), (51, [9, 2, 1, 2, 1, 2, 1, 1, 1, 1], [1]), (53, [9, 2, 1, 2, 1, 2, 1, 1, 1, 1], []), (55, [9, 2, 1, 2, 1, 2, 1, 1, 1, 1], [1]), (58, [9, 2, 1, 2, 1, 2, 1, 1, 1, 1], []), (59, [9, 2, 1, 2, 1, 2, 1, 1, 1, 1], [9]), (62, [9, 2, 1, 2, 1, 2, 1, 1, 1, 1], [33]), (64, [9, 2, 1, 2, 1, 2, 1, 1, 1, 1], [1, 33]), (65, [9, 2, 1, 2, 1, 2, 1, 1, 1, 1], [2]), (66, [9, 2, 1, 2, 1, 2, 1, 1, 1, 1], [2, 2]), (67, [9, 2, 1, 2, 1, 2, 1, 1, 1, 1], [1]), (70, [9, 2, 1, 2, 1, 2, 1, 1, 1, 1], []), (71, [9, 2, 1, 2, 1, 2, 1, 1, 1, 1], [9]), (74, [9, 2, 1, 2, 1, 2, 1, 1, 1, 1], [33]), (76, [9, 2, 1, 2, 1, 2, 1, 1, 1, 1], [1, 33]), (77, [9, 2, 1, 2, 1, 2, 1, 1, 1, 1], [2]), (78, [9, 2, 1, 2, 1, 2, 1, 1, 1, 1], [2, 2]), (79, [9, 2, 1, 2, 1, 2, 1, 1, 1, 1], [1]), (82, [9, 2, 1, 2, 1, 2, 1, 1, 1, 1], []), (85, [9, 2, 1, 2, 1, 2, 1, 1, 1, 1], []), (87, [9, 2, 1, 2, 1, 2, 1, 1, 1, 1], [1]), (88, [9, 2, 1, 2, 1, 2, 1, 1, 1, 1], [1, 1]), (89, [9, 2, 1, 2, 1, 2, 1, 1, 1, 1], [1]), (92, [9, 2, 1, 2, 1, 2, 1, 1, 1, 1], [1, 1]), (93, [9, 2, 1, 2, 1, 2, 1, 1, 1, 1], [1]), (95, [9, 2, 1, 2, 1, 2, 1, 1, 1, 1], []), (98, [9, 2, 1, 2, 1, 2, 1, 1, 1, 1], []), (101, [9, 2, 1, 2, 1, 2, 1, 1, 1, 1], []), (103, [9, 2, 1, 2, 1, 2, 1, 1, 1, 1], [1])]), (17, ([9, 2, 2, 1, 1], 2, [605, 10030, 10031, 10032, 10033]), [(0, [9, 2, 1, 2, 1, 1, 1], []), (1, [9, 2, 1, 2, 1, 1, 1], [9]), (4, [9, 2, 1, 2, 1, 1, 1], [1]), (7, [9, 2, 1, 2, 1, 1, 1], [1, 1]), (10, [9, 2, 1, 2, 1, 1, 1], []), (11, [9, 2, 1, 2, 1, 1, 1], [1]), (12, [9, 2, 1, 2, 1, 1, 1], []), (13, [9, 2, 1, 2, 1, 1, 1], [9]), (16, [9, 2, 1, 2, 1, 1, 1], [33]), (17, [9, 2, 1, 2, 1, 1, 1], [9, 33]), (20, [9, 2, 1, 2, 1, 1, 1], [1, 33]), (21, [9, 2, 1, 2, 1, 1, 1], [2, 1, 33]), (22, [9, 2, 1, 2, 1, 1, 1], []), (23, [9, 2, 1, 2, 1, 1, 1], [9]), (26, [9, 2, 1, 2, 1, 1, 1], [33]), (27, [9, 2, 1, 2, 1, 1, 1], [9, 33]), (30, [9, 2, 1, 2, 1, 1, 1], [1, 33]), (31, [9, 2, 1, 2, 1, 1, 1], [2, 1, 33]), (32, [9, 2, 1, 2, 1, 1, 1], []), (33, [9, 2, 1, 2, 1, 1, 1], [9]), (36, [9, 2, 1, 2, 1, 1, 1], [34]), (37, [9, 2, 1, 2, 1, 1, 1], [9, 34]), (40, [9, 2, 1, 2, 1, 1, 1], [1, 34]), (42, [9, 2, 1, 2, 1, 1, 1], [1, 1, 34]), (43, [9, 2, 1, 2, 1, 1, 1], []), (44, [9, 2, 1, 2, 1, 1, 1], [9]), (47, [9, 2, 1, 2, 1, 1, 1], [35]), (48, [9, 2, 1, 2, 1, 1, 1], [9, 35]), (51, [9, 2, 1, 2, 1, 1, 1], [1, 35]), (53, [9, 2, 1, 2, 1, 1, 1], [1, 1, 35]), (54, [9, 2, 1, 2, 1, 1, 1], []), (55, [9, 2, 1, 2, 1, 1, 1], [9]), (56, [9, 2, 1, 2, 1, 1, 1], [9, 9]), (59, [9, 2, 1, 2, 1, 1, 1], [1, 9]), (60, [9, 2, 1, 2, 1, 1, 1], [1, 1, 9]), (61, [9, 2, 1, 2, 1, 1, 1], [1, 9]), (64, [9, 2, 1, 2, 1, 1, 1], []), (65, [9, 2, 1, 2, 1, 1, 1], [9]), (68, [9, 2, 1, 2, 1, 1, 1], [36]), (69, [9, 2, 1, 2, 1, 1, 1], [9, 36]), (70, [9, 2, 1, 2, 1, 1, 1], [2, 9, 36]), (71, [9, 2, 1, 2, 1, 1, 1], [2, 2, 9, 36]), (74, [9, 2, 1, 2, 1, 1, 1], [1, 36]), (75, [9, 2, 1, 2, 1, 1, 1], [9, 1, 36]), (78, [9, 2, 1, 2, 1, 1, 1], [1, 1, 36]), (79, [9, 2, 1, 2, 1, 1, 1], []), (80, [9, 2, 1, 2, 1, 1, 1], [1])]), (18, ([9, 2, 2], 2, []), [(0, [9, 2, 1, 2, 1], []), (1, [9, 2, 1, 2, 1], [9]), (4, [9, 2, 1, 2, 1], [36]), (5, [9, 2, 1, 2, 1], [9, 36]), (6, [9, 2, 1, 2, 1], [2, 9, 36]), (7, [9, 2, 1, 2, 1], [2, 2, 9, 36]), (10, [9, 2, 1, 2, 1], [1, 36]), (11, [9, 2, 1, 2, 1], [1]), (12, [9, 2, 1, 2, 1], [1, 1]), (13, [9, 2, 1, 2, 1], [1])]), (51, ([1, 1], 3, []), [(0, [1, 1, 1, 1], []), (1, [1, 1, 1, 1], [1]), (2, [1, 1, 1, 1], [1, 1]), (5, [1, 1, 1, 1], []), (6, [1, 1, 1, 1], [1]), (9, [1, 1, 1, 1], []), (10, [1, 1, 1, 1], [1]), (11, [1, 1, 1, 1], []), (12, [1, 1, 1, 1], [1]), (13, [1, 1, 1, 1], [1, 1]), (16, [1, 1, 1, 1], []), (17, [1, 1, 1, 1], [1]), (20, [1, 1, 1, 1], []), (21, [1, 1, 1, 1], [1]), (22, [1, 1, 1, 1], []), (23, [1, 1, 1, 1], [2]), (24, [1, 1, 1, 1], [1, 2]), (26, [1, 1, 1, 1], [1, 1, 2]), (27, [1, 1, 1, 1], [1, 1, 1, 2]), (28, [1, 1, 1, 1], [1, 1, 2]), (29, [1, 1, 1, 1], [1, 2]), (30, [1, 1, 1, 1], [1, 1, 2]), (31, [1, 1, 1, 1], [1, 2]), (32, [1, 1, 1, 1], [1, 1, 2]), (33, [1, 1, 1, 1], [1, 2]), (34, [1, 1, 1, 1], [1, 1, 2]), (35, [1, 1, 1, 1], [1, 2]), (36, [1, 1, 1, 1], [1, 1, 2]), (37, [1, 1, 1, 1], [1, 2]), (38, [1, 1, 1, 1], [2])]), (55, ([12, 1, 1], 2, []), [(0, [12, 1, 1], []), (1, [12, 1, 1], [1]), (2, [12, 1, 1], [1, 1]), (5, [12, 1, 1], []), (6, [12, 1, 1], [12]), (9, [12, 1, 1], [2]), (10, [12, 1, 1], [1, 2]), (11, [12, 1, 1], [1, 1, 2]), (14, [12, 1, 1], [2, 2]), (15, [12, 1, 1], [2]), (16, [12, 1, 1], [2, 2]), (17, [12, 1, 1], [1]), (20, [12, 1, 1], []), (21, [12, 1, 1], [1]), (24, [12, 1, 1], []), (25, [12, 1, 1], [1])]), (52, ([12, 1], 2, []), [(0, [12, 1, 1, 1, 1], []), (1, [12, 1, 1, 1, 1], [1]), (2, [12, 1, 1, 1, 1], []), (3, [12, 1, 1, 1, 1], [1]), (4, [12, 1, 1, 1, 1], []), (5, [12, 1, 1, 1, 1], [1]), (6, [12, 1, 1, 1, 1], [12, 1]), (9, [12, 1, 1, 1, 1], [1, 1]), (12, [12, 1, 1, 1, 1], []), (13, [12, 1, 1, 1, 1], [1]), (14, [12, 1, 1, 1, 1], [1, 1]), (15, [12, 1, 1, 1, 1], [1]), (17, [12, 1, 1, 1, 1], []), (19, [12, 1, 1, 1, 1], [1]), (20, [12, 1, 1, 1, 1], [12, 1]), (23, [12, 1, 1, 1, 1], [1, 1]), (26, [12, 1, 1, 1, 1], []), (27, [12, 1, 1, 1, 1], [12]), (28, [12, 1, 1, 1, 1], [1, 12]), (30, [12, 1, 1, 1, 1], [1, 1, 12]), (33, [12, 1, 1, 1, 1], [1]), (36, [12, 1, 1, 1, 1], []), (37, [12, 1, 1, 1, 1], [1]), (38, [12, 1, 1, 1, 1], [1, 1]), (41, [12, 1, 1, 1, 1], []), (43, [12, 1, 1, 1, 1], [1]), (44, [12, 1, 1, 1, 1], [1, 1]), (45, [12, 1, 1, 1, 1], [1]), (47, [12, 1, 1, 1, 1], [1, 1]), (48, [12, 1, 1, 1, 1], [1]), (49, [12, 1, 1, 1, 1], []), (52, [12, 1, 1, 1, 1], []), (55, [12, 1, 1, 1, 1], []), (58, [12, 1, 1, 1, 1], []), (61, [12, 1, 1, 1, 1], []), (64, [12, 1, 1, 1, 1], []), (65, [12, 1, 1, 1, 1], [1])]), (50, ([12, 1, 1], 2, []), [(0, [12, 1, 1, 1], []), (1, [12, 1, 1, 1], [1]), (2, [12, 1, 1, 1], [1, 1]), (3, [12, 1, 1, 1], [1]), (6, [12, 1, 1, 1], [1]), (7, [12, 1, 1, 1], []), (8, [12, 1, 1, 1], [1]), (9, [12, 1, 1, 1], [1, 1]), (12, [12, 1, 1, 1], []), (13, [12, 1, 1, 1], [1]), (14, [12, 1, 1, 1], [12, 1]), (17, [12, 1, 1, 1], [1, 1]), (18, [12, 1, 1, 1], [1, 1, 1]), (19, [12, 1, 1, 1], [1, 1]), (22, [12, 1, 1, 1], []), (23, [12, 1, 1, 1], [1]), (26, [12, 1, 1, 1], []), (27, [12, 1, 1, 1], [1])]), (49, ([12, 1, 1], 2, []), [(0, [12, 1, 1], []), (1, [12, 1, 1], [12]), (2, [12, 1, 1], [1, 12]), (3, [12, 1, 1], [1, 1, 12]), (6, [12, 1, 1], [1]), (9, [12, 1, 1], []), (10, [12, 1, 1], [12]), (11, [12, 1, 1], [1, 12]), (12, [12, 1, 1], [1, 1, 12]), (15, [12, 1, 1], [1]), (18, [12, 1, 1], []), (19, [12, 1, 1], [1]), (22, [12, 1, 1], []), (23, [12, 1, 1], [1])]), (60, ([12, 1, 1], 2, []), [(0, [12, 1, 1, 1, 1, 1], []), (1, [12, 1, 1, 1, 1, 1], [1]), (2, [12, 1, 1, 1, 1, 1], []), (3, [12, 1, 1, 1, 1, 1], [1]), (5, [12, 1, 1, 1, 1, 1], []), (6, [12, 1, 1, 1, 1, 1], [1]), (8, [12, 1, 1, 1, 1, 1], []), (10, [12, 1, 1, 1, 1, 1], [1]), (11, [12, 1, 1, 1, 1, 1], [12, 1]), (14, [12, 1, 1, 1, 1, 1], [1, 1]), (17, [12, 1, 1, 1, 1, 1], []), (19, [12, 1, 1, 1, 1, 1], [1]), (20, [12, 1, 1, 1, 1, 1], [1, 1]), (23, [12, 1, 1, 1, 1, 1], []), (25, [12, 1, 1, 1, 1, 1], [1]), (26, [12, 1, 1, 1, 1, 1], [1, 1]), (29, [12, 1, 1, 1, 1, 1], []), (30, [12, 1, 1, 1, 1, 1], [12]), (32, [12, 1, 1, 1, 1, 1], [1, 12]), (33, [12, 1, 1, 1, 1, 1], [1, 1, 12]), (36, [12, 1, 1, 1, 1, 1], [1]), (39, [12, 1, 1, 1, 1, 1], []), (40, [12, 1, 1, 1, 1, 1], [12]), (42, [12, 1, 1, 1, 1, 1], [1, 12]), (43, [12, 1, 1, 1, 1, 1], [1, 1, 12]), (46, [12, 1, 1, 1, 1, 1], [1]), (49, [12, 1, 1, 1, 1, 1], []), (51, [12, 1, 1, 1, 1, 1], [1]), (52, [12, 1, 1, 1, 1, 1], [1, 1]), (55, [12, 1, 1, 1, 1, 1], []), (57, [12, 1, 1, 1, 1, 1], [1]), (58, [12, 1, 1, 1, 1, 1], [1, 1]), (61, [12, 1, 1, 1, 1, 1], []), (63, [12, 1, 1, 1, 1, 1], [1]), (64, [12, 1, 1, 1, 1, 1], []), (67, [12, 1, 1, 1, 1, 1], []), (69, [12, 1, 1, 1, 1, 1], [1]), (71, [12, 1, 1, 1, 1, 1], []), (74, [12, 1, 1, 1, 1, 1], []), (77, [12, 1, 1, 1, 1, 1], []), (78, [12, 1, 1, 1, 1, 1], [1]), (79, [12, 1, 1, 1, 1, 1], [1, 1]), (82, [12, 1, 1, 1, 1, 1], []), (84, [12, 1, 1, 1, 1, 1], [1]), (85, [12, 1, 1, 1, 1, 1], [1, 1]), (88, [12, 1, 1, 1, 1, 1], []), (89, [12, 1, 1, 1, 1, 1], [1]), (90, [12, 1, 1, 1, 1, 1], []), (92, [12, 1, 1, 1, 1, 1], [1]), (93, [12, 1, 1, 1, 1, 1], [1, 1]), (95, [12, 1, 1, 1, 1, 1], [1, 1, 1]), (98, [12, 1, 1, 1, 1, 1], [1, 1]), (99, [12, 1, 1, 1, 1, 1], [1]), (100, [12, 1, 1, 1, 1, 1], [1, 1]), (102, [12, 1, 1, 1, 1, 1], [1, 1, 1]), (105, [12, 1, 1, 1, 1, 1], [1, 1]), (106, [12, 1, 1, 1, 1, 1], [1])]), (28, ([11, 1], 3, []), [(0, [11, 1, 1], []), (1, [11, 1, 1], [1]), (4, [11, 1, 1], []), (5, [11, 1, 1], [11]), (8, [11, 1, 1], [12]), (11, [11, 1, 1], [2]), (12, [11, 1, 1], []), (13, [11, 1, 1], [11]), (16, [11, 1, 1], [12]), (17, [11, 1, 1], [1, 12]), (19, [11, 1, 1], [1, 1, 12]), (20, [11, 1, 1], [1, 12]), (21, [11, 1, 1], [1, 1, 12]), (23, [11, 1, 1], [1, 1, 1, 12]), (24, [11, 1, 1], [1, 1, 12]), (27, [11, 1, 1], [1]), (28, [11, 1, 1], []), (29, [11, 1, 1], [1]), (32, [11, 1, 1], []), (33, [11, 1, 1], [11]), (36, [11, 1, 1], [12]), (39, [11, 1, 1], [2]), (40, [11, 1, 1], []), (41, [11, 1, 1], [11]), (44, [11, 1, 1], [12]), (47, [11, 1, 1], [2]), (48, [11, 1, 1], [1, 2]), (50, [11, 1, 1], [1, 1, 2]), (51, [11, 1, 1], [1, 2]), (52, [11, 1, 1], [1, 1, 2]), (54, [11, 1, 1], [1, 1, 1, 2]), (55, [11, 1, 1], [1, 1, 2]), (58, [11, 1, 1], [2, 2]), (59, [11, 1, 1], [2]), (60, [11, 1, 1], [1, 2]), (62, [11, 1, 1], [1, 1, 2]), (63, [11, 1, 1], [1, 2]), (64, [11, 1, 1], [1, 1, 2]), (66, [11, 1, 1], [1, 1, 1, 2]), (67, [11, 1, 1], [1, 1, 2]), (70, [11, 1, 1], [2, 2]), (71, [11, 1, 1], [2])]), (32, ([11, 12, 12, 9], 0, [605, 900, 901, 10030, 10031, 10032, 10033]), [(0, [11, 12, 12, 9, 1, 1, 1, 1], []), (1, [11, 12, 12, 9, 1, 1, 1, 1], [11]), (4, [11, 12, 12, 9, 1, 1, 1, 1], [12]), (5, [11, 12, 12, 9, 1, 1, 1, 1], [12, 12]), (8, [11, 12, 12, 9, 1, 1, 1, 1], [1, 12]), (11, [11, 12, 12, 9, 1, 1, 1, 1], []), (12, [11, 12, 12, 9, 1, 1, 1, 1], [9]), (15, [11, 12, 12, 9, 1, 1, 1, 1], []), (16, [11, 12, 12, 9, 1, 1, 1, 1], [9]), (17, [11, 12, 12, 9, 1, 1, 1, 1], [12, 9]), (20, [11, 12, 12, 9, 1, 1, 1, 1], [2, 9]), (21, [11, 12, 12, 9, 1, 1, 1, 1], [2, 2, 9]), (22, [11, 12, 12, 9, 1, 1, 1, 1], [1, 2, 2, 9]), (23, [11, 12, 12, 9, 1, 1, 1, 1], [1, 1, 2, 2, 9]), (26, [11, 12, 12, 9, 1, 1, 1, 1], [1]), (27, [11, 12, 12, 9, 1, 1, 1, 1], []), (28, [11, 12, 12, 9, 1, 1, 1, 1], [1]), (30, [11, 12, 12, 9, 1, 1, 0, 1], []), (32, [11, 12, 12, 9, 1, 1, 0, 1], [1]), (33, [11, 12, 12, 9, 1, 1, 0, 1], [9, 1]), (36, [11, 12, 12, 9, 1, 1, 0, 1], [1, 1]), (39, [11, 12, 12, 9, 1, 1, 0, 1], []), (41, [11, 12, 12, 9, 1, 1, 0, 1], [1]), (44, [11, 12, 12, 9, 1, 1, 0, 1], [1, 1]), (47, [11, 12, 12, 9, 1, 1, 0, 1], []), (48, [11, 12, 12, 9, 1, 1, 0, 1], [9]), (49, [11, 12, 12, 9, 1, 1, 0, 1], [12, 9]), (52, [11, 12, 12, 9, 1, 1, 0, 1], [2, 9]), (53, [11, 12, 12, 9, 1, 1, 0, 1], [2, 2, 9]), (56, [11, 12, 12, 9, 1, 1, 0, 1], [1]), (57, [11, 12, 12, 9, 1, 1, 0, 1], [1, 1]), (60, [11, 12, 12, 9, 1, 1, 0, 1], []), (61, [11, 12, 12, 9, 1, 1, 0, 1], []), (62, [11, 12, 12, 9, 1, 1, 0, 1], [11]), (65, [11, 12, 12, 9, 1, 1, 0, 1], [12]), (66, [11, 12, 12, 9, 1, 1, 0, 1], [9, 12]), (69, [11, 12, 12, 9, 1, 1, 0, 1], [33, 12]), (71, [11, 12, 12, 9, 1, 1, 0, 1], [1, 33, 12]), (72, [11, 12, 12, 9, 1, 1, 0, 1], [2, 12]), (75, [11, 12, 12, 9, 1, 1, 0, 1], []), (76, [11, 12, 12, 9, 1, 1, 0, 1], [1]), (78, [11, 12, 12, 9, 1, 1, 0, 1], []), (80, [11, 12, 12, 9, 1, 1, 0, 1], [1]), (81, [11, 12, 12, 9, 1, 1, 0, 1], [11, 1]), (84, [11, 12, 12, 9, 1, 1, 0, 1], [12, 1]), (87, [11, 12, 12, 9, 1, 1, 0, 1], [1, 1]), (88, [11, 12, 12, 9, 1, 1, 0, 1], [1, 1, 1]), (89, [11, 12, 12, 9, 1, 1, 0, 1], [1, 1]), (92, [11, 12, 12, 9, 1, 1, 0, 1], []), (93, [11, 12, 12, 9, 1, 1, 0, 1], [11]), (94, [11, 12, 12, 9, 1, 1, 0, 1], [11, 11]), (97, [11, 12, 12, 9, 1, 1, 0, 1], [12, 11]), (99, [11, 12, 12, 9, 1, 1, 0, 1], [1, 12, 11]), (102, [11, 12, 12, 9, 1, 1, 0, 1], [1, 11]), (105, [11, 12, 12, 9, 1, 1, 0, 1], [2]), (107, [11, 12, 12, 9, 1, 1, 2, 1], []), (108, [11, 12, 12, 9, 1, 1, 2, 1], [9]), (110, [11, 12, 12, 9, 1, 1, 2, 1], [2, 9]), (111, [11, 12, 12, 9, 1, 1, 2, 1], [2, 2, 9]), (114, [11, 12, 12, 9, 1, 1, 2, 1], [1]), (115, [11, 12, 12, 9, 1, 1, 2, 1], [1, 1]), (118, [11, 12, 12, 9, 1, 1, 2, 1], []), (119, [11, 12, 12, 9, 1, 1, 2, 1], [9]), (121, [11, 12, 12, 9, 1, 1, 2, 1], [2, 9]), (122, [11, 12, 12, 9, 1, 1, 2, 1], [2, 2, 9]), (124, [11, 12, 12, 9, 1, 1, 2, 1], [1, 2, 2, 9]), (125, [11, 12, 12, 9, 1, 1, 2, 1], [9, 1, 2, 2, 9]), (128, [11, 12, 12, 9, 1, 1, 2, 1], [35, 1, 2, 2, 9]), (130, [11, 12, 12, 9, 1, 1, 2, 1], [1, 35, 1, 2, 2, 9]), (131, [11, 12, 12, 9, 1, 1, 2, 1], [1, 1, 2, 2, 9]), (132, [11, 12, 12, 9, 1, 1, 2, 1], [1, 1, 1, 2, 2, 9]), (133, [11, 12, 12, 9, 1, 1, 2, 1], [1, 1, 2, 2, 9]), (136, [11, 12, 12, 9, 1, 1, 2, 1], [1]), (137, [11, 12, 12, 9, 1, 1, 2, 1], []), (140, [11, 12, 12, 9, 1, 1, 2, 1], []), (143, [11, 12, 12, 9, 1, 1, 0, 1], []), (146, [11, 12, 12, 9, 1, 1, 0, 1], []), (149, [11, 12, 12, 9, 1, 1, 0, 1], [])]), (29, ([11, 1, 9], 2, [901]), [(0, [11, 1, 9, 1, 1, 1, 1, 1], []), (1, [11, 1, 9, 1, 1, 1, 1, 1], [1]), (2, [11, 1, 9, 1, 1, 0, 1, 1], []), (3, [11, 1, 9, 1, 1, 0, 1, 1], [1]), (4, [11, 1, 9, 1, 1, 0, 1, 1], [11, 1]), (7, [11, 1, 9, 1, 1, 0, 1, 1], [12, 1]), (10, [11, 1, 9, 1, 1, 0, 1, 1], [1, 1]), (11, [11, 1, 9, 1, 1, 0, 1, 1], [1, 1, 1]), (12, [11, 1, 9, 1, 1, 0, 1, 1], [1, 1]), (15, [11, 1, 9, 1, 1, 0, 1, 1], []), (16, [11, 1, 9, 1, 1, 0, 1, 1], [11]), (19, [11, 1, 9, 1, 1, 0, 1, 1], [12]), (20, [11, 1, 9, 1, 1, 0, 1, 1], [1, 12]), (23, [11, 1, 9, 1, 1, 0, 1, 1], [1]), (25, [11, 1, 9, 1, 1, 0, 1, 1], []), (26, [11, 1, 9, 1, 1, 0, 1, 1], [11]), (28, [11, 1, 9, 1, 1, 0, 1, 1], [1, 11]), (31, [11, 1, 9, 1, 1, 0, 1, 1], [2]), (33, [11, 1, 9, 1, 1, 2, 1, 1], []), (34, [11, 1, 9, 1, 1, 2, 1, 1], [9]), (36, [11, 1, 9, 1, 1, 2, 1, 1], [2, 9]), (37, [11, 1, 9, 1, 1, 2, 1, 1], [2, 2, 9]), (40, [11, 1, 9, 1, 1, 2, 1, 1], [1]), (42, [11, 1, 9, 1, 1, 2, 1, 1], []), (44, [11, 1, 9, 1, 1, 2, 1, 1], [1]), (47, [11, 1, 9, 1, 1, 2, 1, 1], []), (48, [11, 1, 9, 1, 1, 2, 1, 1], [9]), (51, [11, 1, 9, 1, 1, 2, 1, 1], [35]), (53, [11, 1, 9, 1, 1, 2, 1, 1], [1, 35]), (54, [11, 1, 9, 1, 1, 2, 1, 1], [1]), (55, [11, 1, 9, 1, 1, 2, 1, 1], [1, 1]), (58, [11, 1, 9, 1, 1, 2, 1, 1], []), (59, [11, 1, 9, 1, 1, 2, 1, 1], [11]), (62, [11, 1, 9, 1, 1, 2, 1, 1], [12]), (64, [11, 1, 9, 1, 1, 2, 1, 1], [2, 12]), (67, [11, 1, 9, 1, 1, 2, 1, 1], []), (69, [11, 1, 9, 1, 1, 2, 1, 1], [1]), (70, [11, 1, 9, 1, 1, 2, 1, 1], []), (73, [11, 1, 9, 1, 1, 2, 1, 1], []), (76, [11, 1, 9, 1, 1, 0, 1, 1], []), (77, [11, 1, 9, 1, 1, 0, 1, 1], [1])]), (31, ([11, 12, 9], 2, [800, 901, 10035]), [(0, [11, 12, 9, 1, 1, 1], []), (1, [11, 12, 9, 1, 1, 1], [9]), (2, [11, 12, 9, 1, 1, 1], [12, 9]), (5, [11, 12, 9, 1, 1, 1], [2, 9]), (6, [11, 12, 9, 1, 1, 1], [2, 2, 9]), (9, [11, 12, 9, 1, 1, 1], [1]), (10, [11, 12, 9, 1, 1, 1], []), (11, [11, 12, 9, 1, 1, 1], [1]), (14, [11, 12, 9, 1, 1, 1], []), (15, [11, 12, 9, 1, 1, 1], [1]), (18, [11, 12, 9, 1, 1, 1], []), (19, [11, 12, 9, 1, 1, 1], [9]), (22, [11, 12, 9, 1, 1, 1], [35]), (23, [11, 12, 9, 1, 1, 1], [1, 35]), (24, [11, 12, 9, 1, 1, 1], [1]), (26, [11, 12, 9, 1, 1, 1], [1, 1]), (29, [11, 12, 9, 1, 1, 1], [1]), (31, [11, 12, 9, 1, 1, 1], []), (32, [11, 12, 9, 1, 1, 1], [11]), (35, [11, 12, 9, 1, 1, 1], [12]), (36, [11, 12, 9, 1, 1, 1], [12, 12]), (39, [11, 12, 9, 1, 1, 1], [2, 12]), (42, [11, 12, 9, 1, 1, 1], []), (43, [11, 12, 9, 1, 1, 1], [1]), (45, [11, 12, 9, 1, 1, 1], []), (47, [11, 12, 9, 1, 1, 1], [1]), (49, [11, 12, 9, 1, 1, 1], [1, 1]), (52, [11, 12, 9, 1, 1, 1], []), (53, [11, 12, 9, 1, 1, 1], [11]), (56, [11, 12, 9, 1, 1, 1], [38]), (58, [11, 12, 9, 1, 1, 1], [1, 38]), (59, [11, 12, 9, 1, 1, 1], [11, 1, 38]), (61, [11, 12, 9, 1, 1, 1], [1, 11, 1, 38]), (63, [11, 12, 9, 1, 1, 1], [1, 1, 11, 1, 38]), (64, [11, 12, 9, 1, 1, 1], [1, 11, 1, 38]), (65, [11, 12, 9, 1, 1, 1], [1, 1, 11, 1, 38]), (66, [11, 12, 9, 1, 1, 1], [1, 11, 1, 38]), (67, [11, 12, 9, 1, 1, 1], [9, 1, 11, 1, 38]), (70, [11, 12, 9, 1, 1, 1], [1, 1, 38]), (71, [11, 12, 9, 1, 1, 1], []), (74, [11, 12, 9, 1, 1, 1], []), (77, [11, 12, 9, 1, 1, 1], []), (78, [11, 12, 9, 1, 1, 1], [11]), (80, [11, 12, 9, 1, 1, 1], [1, 11]), (83, [11, 12, 9, 1, 1, 1], []), (85, [11, 12, 9, 1, 1, 1], [1])]), (119, ([3], 2, [605, 800, 900, 901, 10030, 10031, 10032, 10033, 10035]), [(0, [3], []), (1, [3], [3]), (4, [3], [37]), (5, [3], [1, 37]), (6, [3], [12]), (9, [3], [1]), (12, [3], []), (13, [3], [3]), (16, [3], [37]), (17, [3], [1, 37]), (18, [3], [12]), (21, [3], [1]), (24, [3], []), (25, [3], [3]), (28, [3], [37]), (29, [3], [1, 37]), (30, [3], [12]), (33, [3], [1]), (34, [3], [3, 1]), (37, [3], [37, 1]), (38, [3], [1, 37, 1]), (39, [3], [12, 1]), (42, [3], [1, 1]), (45, [3], []), (46, [3], [1]), (47, [3], []), (48, [3], [3]), (51, [3], [11]), (52, [3], [3, 11]), (55, [3], [37, 11]), (56, [3], [1, 37, 11]), (57, [3], [12, 11]), (58, [3], [3, 12, 11]), (61, [3], [37, 12, 11]), (62, [3], [1, 37, 12, 11]), (63, [3], [12, 12, 11]), (64, [3], [3, 12, 12, 11]), (67, [3], [9, 12, 12, 11]), (70, [3], []), (71, [3], [3]), (74, [3], [11]), (75, [3], [3, 11]), (78, [3], [37, 11]), (79, [3], [1, 37, 11]), (80, [3], [12, 11]), (81, [3], [3, 12, 11]), (84, [3], [9, 12, 11]), (87, [3], [1])])]
theorem rkP0 : rwP0.all (fun x_z => ks_row wP pmt ctP x_z.1 x_z.2) = true := by decide +kernel
theorem rwP_ct : rwP0.map (fun x_z => (x_z.1, x_z.2.1)) = ctPl := by decide +kernel
theorem ksP : ∀ n_z, ksRec wP ctP (pm_call pmt (an_sh wP) n_z) := ks_sound (fun mid_z Q_z hQ => by
  unfold ctP at hQ
  obtain ⟨x_z, hx, rfl⟩ := List.mem_map.mp hQ
  obtain ⟨h1, h2⟩ := List.mem_filter.mp hx
  have e_z := Nat.eq_of_beq_eq_true h2
  rw [← rwP_ct] at h1
  obtain ⟨y_z, hy, rfl⟩ := List.mem_map.mp h1
  have := List.all_eq_true.mp rkP0 y_z hy
  simp only at e_z
  rw [e_z] at this
  exact ⟨y_z.2.2, this⟩)
theorem kP_to {a : Nat} {v : pm_V} (ha : ¬ a = 35) (h : kv wX a v) : kv wP a v := by
  match a, ha, h with
  | 0, _, _ => trivial
  | 1, _, h => exact h
  | 2, _, h => exact h
  | k_z + 3, ha, h =>
    refine ⟨h.1, h.2.1, ?_⟩
    show (if v.2 = 414 then 36 else wX.2 v.2) = k_z
    have hk : wX.2 v.2 = k_z := h.2.2
    have k1_z : wX.2 414 = 32 := by decide
    rw [if_neg (fun e_z => ha (by rw [e_z] at hk; omega))]
    exact hk
theorem kP_dec : ∀ i_z : Fin 36, ∀ j_z : Fin 20, ¬ i_z.1 = 7 → ¬ i_z.1 = 6 → ¬ ks_d ((KX[i_z.1]?.getD (0, 0, 0, [])).2.2.2) j_z.1 = 35 := by decide +kernel
theorem kP_eq : ∀ i_z : Fin 36, ¬ i_z.1 = 7 → (KX.set 7 (0, 4, 6, [(0, 0, 3000), (0, (-2147483648), 2147483647), (2, 36, 0), (2, 10, 0), (1, (-9223372036854775808), 9223372036854775807), (1, (-9223372036854775808), 9223372036854775807)]) ++ [(1, 0, 3000, [(0, (-2147483648), 2147483647)])])[i_z.1]? = KX[i_z.1]? := fun i_z h0 => by
  have hl : KX.length = 36 := by decide +kernel
  have hi_z := i_z.2
  rw [List.getElem?_append_left (by rw [List.length_set]; omega), List.getElem?_set_ne (fun e_z => h0 e_z.symm)]
theorem kX_v7 {r : Int} (r0 : 0 ≤ r) (h : wX.2 r = 7) : r = 413 := by
  have h1 : ∀ x_z : Fin 514, wX.2 (x_z.1 : Int) = 7 → x_z.1 = 413 := by decide +kernel
  by_cases lr : r < 514
  · have h2 := h1 ⟨r.toNat, by omega⟩ (by show wX.2 ((r.toNat : Nat) : Int) = 7; rw [Int.toNat_of_nonneg r0]; exact h)
    have h3 : r.toNat = 413 := h2
    omega
  · have := kX_big (r := r) (by omega)
    omega
theorem kX_v6 {r : Int} (r0 : 0 ≤ r) (h : wX.2 r = 6) : r = 407 := by
  have h1 : ∀ x_z : Fin 514, wX.2 (x_z.1 : Int) = 6 → x_z.1 = 407 := by decide +kernel
  by_cases lr : r < 514
  · have h2 := h1 ⟨r.toNat, by omega⟩ (by show wX.2 ((r.toNat : Nat) : Int) = 6; rw [Int.toNat_of_nonneg r0]; exact h)
    have h3 : r.toNat = 407 := h2
    omega
  · have := kX_big (r := r) (by omega)
    omega
theorem gK_P {A : pm_A} (hA : gH wX A) (h3 : A 413 2 = 414) (h15 : A 407 3 = 411) : gK wP A := by
  have hg := gK_of hA
  intro r_z k_z r0 hk
  have hk' : (KX.set 7 (0, 4, 6, [(0, 0, 3000), (0, (-2147483648), 2147483647), (2, 36, 0), (2, 10, 0), (1, (-9223372036854775808), 9223372036854775807), (1, (-9223372036854775808), 9223372036854775807)]) ++ [(1, 0, 3000, [(0, (-2147483648), 2147483647)])])[if r_z = 414 then 36 else wX.2 r_z]? = some k_z := hk
  by_cases e_z : r_z = 414
  · rw [if_pos e_z] at hk'
    have ek : k_z = (1, 0, 3000, [(0, (-2147483648), 2147483647)]) := (Option.some.inj hk').symm
    rw [ek]
    exact ⟨fun q_z => (by cases q_z), fun _ j_z _ _ => trivial⟩
  · rw [if_neg e_z] at hk'
    rcases kX_lt r_z with l | l
    · by_cases i0_z : wX.2 r_z = 7
      · have hr := kX_v7 r0 i0_z
        obtain ⟨g1, g2⟩ := hg r_z _ r0 (show KX[wX.2 r_z]? = some (0, 4, 6, [(0, 0, 3000), (0, (-2147483648), 2147483647), (2, 32, 0), (2, 10, 0), (1, (-9223372036854775808), 9223372036854775807), (1, (-9223372036854775808), 9223372036854775807)]) by rw [i0_z]; rfl)
        rw [i0_z] at hk'
        have ek : k_z = (0, 4, 6, [(0, 0, 3000), (0, (-2147483648), 2147483647), (2, 36, 0), (2, 10, 0), (1, (-9223372036854775808), 9223372036854775807), (1, (-9223372036854775808), 9223372036854775807)]) := (Option.some.inj hk').symm
        subst hr
        rw [ek]
        refine ⟨fun _ j_z => ?_, fun q_z => by cases q_z⟩
        have h5 := g1 rfl j_z
        match j_z, h5 with
        | 0, _ => trivial
        | 1, _ => trivial
        | 2, _ =>
          refine ⟨rfl, ?_, ?_⟩
          · show 0 ≤ A 413 2; omega
          · show (if A 413 2 = 414 then 36 else wX.2 (A 413 2)) = 36
            rw [if_pos h3]
        | 3, h5 => exact kP_to (a := 13) (by decide) h5
        | 4, _ => trivial
        | 5, _ => trivial
        | n_z + 6, _ => trivial
      · have e3 := kP_eq ⟨wX.2 r_z, l⟩ i0_z
        have hkX : KX[wX.2 r_z]? = some k_z := e3.symm.trans hk'
        obtain ⟨g1, g2⟩ := hg r_z k_z r0 hkX
        by_cases i5_z : wX.2 r_z = 6
        · have hr := kX_v6 r0 i5_z
          rw [i5_z] at hkX
          have ek : k_z = (0, 1, 6, [(2, 30, 0), (2, 30, 0), (2, 31, 0), (2, 32, 0), (2, 33, 0), (0, 0, 3000)]) := (Option.some.inj hkX).symm
          subst ek
          subst hr
          refine ⟨fun q_z j_z => ?_, fun q_z => by cases q_z⟩
          have h5 := g1 rfl j_z
          match j_z, h5 with
          | 0, h5 => exact kP_to (a := 33) (by decide) h5
          | 1, h5 => exact kP_to (a := 33) (by decide) h5
          | 2, h5 => exact kP_to (a := 34) (by decide) h5
          | 3, _ =>
            refine ⟨rfl, ?_, ?_⟩
            · show 0 ≤ A 407 3; omega
            · show (if A 407 3 = 414 then 36 else wX.2 (A 407 3)) = 32
              rw [h15]
              decide
          | 4, h5 => exact kP_to (a := 36) (by decide) h5
          | 5, _ => trivial
          | n_z + 6, _ => trivial
        · have hd_z : ∀ j_z : Nat, ¬ ks_d k_z.2.2.2 j_z = 35 := fun j_z => by
            have h8 := kF_len ⟨wX.2 r_z, l⟩
            have ek : KX[wX.2 r_z]?.getD (0, 0, 0, []) = k_z := by rw [hkX]; rfl
            by_cases hj : j_z < 20
            · have h9 := kP_dec ⟨wX.2 r_z, l⟩ ⟨j_z, hj⟩ i0_z i5_z
              have h10 : ¬ ks_d ((KX[wX.2 r_z]?.getD (0, 0, 0, [])).2.2.2) j_z = 35 := h9
              rw [ek] at h10
              exact h10
            · have h11 : ((KX[wX.2 r_z]?.getD (0, 0, 0, [])).2.2.2).length ≤ 20 := h8
              rw [ek] at h11
              unfold ks_d
              rw [List.getElem?_eq_none (by omega)]
              decide
          exact ⟨fun q_z j_z => kP_to (hd_z j_z) (g1 q_z j_z), fun q_z j_z j0 j1 => kP_to (hd_z 0) (g2 q_z j_z j0 j1)⟩
    · have hlen : ((KX.set 7 (0, 4, 6, [(0, 0, 3000), (0, (-2147483648), 2147483647), (2, 36, 0), (2, 10, 0), (1, (-9223372036854775808), 9223372036854775807), (1, (-9223372036854775808), 9223372036854775807)]) ++ [(1, 0, 3000, [(0, (-2147483648), 2147483647)])]) : List an_K).length = 37 := by decide +kernel
      rw [l, List.getElem?_eq_none (by omega)] at hk'
      cases hk'
theorem fx_wayP {n : Nat} {A : pm_A} {r : pm_R} (h : pm_call pmt (an_sh wX) n 119 [(2, 0)] A = some r) (hK : gK wP A) : gFk wP [605, 800, 900, 901, 10030, 10031, 10032, 10033, 10035] A r.2 := by
  rw [← shP] at h
  exact (ksP n 119 ([3], 2, [605, 800, 900, 901, 10030, 10031, 10032, 10033, 10035]) (List.contains_iff_mem.mp (by decide +kernel)) [(2, 0)] A r ⟨⟨rfl, Int.le_refl 0, by decide⟩, trivial⟩ hK h).2.2
end
