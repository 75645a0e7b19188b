/-! the row of places is alike on both sides -/
theorem kk48 : wX.2 48 = 21 := by decide
def fl12 (A : pm_A) (r : Int) (q : pm_R) : Prop := q.1 = none ∧ gH wX q.2 ∧ (∀ r_z j_z : Int, ¬ r_z = r → q.2 r_z j_z = A r_z j_z) ∧ ∀ j_z : Int, 0 ≤ j_z → j_z < 12 → q.2 r j_z = 0
theorem fl12_5 {A : pm_A} {r : Int} (hr0 : 0 ≤ r) (hrk : wX.2 r = 21) : ∀ (m_z : Nat) (i_z : Int) (B_z : pm_A), (12 - i_z).toNat < m_z → 0 ≤ i_z → i_z ≤ 12 → gH wX B_z → (∀ r_z j_z : Int, ¬ r_z = r → B_z r_z j_z = A r_z j_z) → (∀ j_z : Int, 0 ≤ j_z → j_z < i_z → B_z r j_z = 0) → Tm pmt (an_sh wX) o_J7_fill_53178 5 ([(2, r), (0, 0), (0, i_z), (0, 12)], [], B_z) (fl12 A r) := by
  intro m_z
  induction m_z with
  | zero => intro i_z B_z h_z; omega
  | succ m_z ih_z =>
    intro i_z B_z hm_z hi0_z hi1 hB_z hF hz
    refine wq_ok srt_fill (fr := []) (cuts := [5]) (J := fun pc st_z => pc = 5 ∧ i_z < 12 ∧ st_z = ([(2, r), (0, 0), (0, i_z + 1), (0, 12)], [], pm_upd B_z r i_z 0)) ?_ 20 5 _ ?_
    · rintro pc st_z ⟨rfl, hi_z, rfl⟩
      refine ih_z (i_z + 1) _ (by omega) (by omega) (by omega) (uX_21 hB_z hrk (by omega) (by omega)) (fun r_z j_z hr => by rw [upd_ne hr]; exact hF r_z j_z hr) (fun j_z j0 j1 => ?_)
      by_cases e_z : j_z = i_z
      · rw [e_z, upd_at]
      · rw [upd_n2 e_z]; exact hz j_z j0 (by omega)
    · refine ⟨fun h_z => ⟨rfl, hB_z, hF, fun j_z j0 j1 => hz j_z j0 (by omega)⟩, fun h_z => ?_⟩
      refine ⟨tX_21 hr0 hrk hi0_z (by omega) rfl, ?_⟩
      refine ⟨⟨by omega, by omega⟩, ?_⟩
      exact ⟨rfl, h_z, rfl⟩
theorem fl12_ct {A : pm_A} {r : Int} (hA : gH wX A) (hr0 : 0 ≤ r) (hrk : wX.2 r = 21) : Cl pmt (an_sh wX) 1 [(2, r), (0, 0)] A (fl12 A r) := by
  refine Cl.of (Nat.le_of_ble_eq_true rfl) ?_
  have e_z := shX_21 hrk
  have st0 : pm_step (an_sh wX) (pm_call pmt (an_sh wX) 0) (4, 22, 0, 0, 0, 0, []) ([(2, r), (0, 0), (0, 0), (9, 0)], [(2, r)], A) = some (.inl (4, ([(2, r), (0, 0), (0, 0), (9, 0)], [(0, 12)], A))) := by
    simp only [pm_step, k_r]
    rw [k_if_t ⟨hr0, by rw [e_z], by rw [e_z], by rw [e_z]; simp only; omega⟩, e_z]
  refine wq_ok (full := o_J7_fill_53178) srt_fill (fr := []) (cuts := [3]) (J := fun pc st_z => pc = 3 ∧ st_z = ([(2, r), (0, 0), (0, 0), (9, 0)], [(2, r)], A)) ?_ 10 0 _ ?_
  · rintro pc st_z ⟨rfl, rfl⟩
    refine Tm.step srt_fill (q := (3, 4, 22, 0, 0, 0, 0, [])) rfl st0 ?_
    refine wq_ok srt_fill (fr := []) (cuts := [5]) (J := fun pc st_z => pc = 5 ∧ st_z = ([(2, r), (0, 0), (0, 0), (0, 12)], [], A)) ?_ 10 4 _ ?_
    · rintro pc st_z ⟨rfl, rfl⟩
      exact fl12_5 hr0 hrk _ 0 A (Nat.lt_succ_self _) (by omega) (by omega) hA (fun _ _ _ => rfl) (fun j_z j0 j1 => by omega)
    · exact ⟨rfl, rfl⟩
  · exact ⟨rfl, rfl⟩
def rwQ (A : pm_A) (f c n i k : Int) (r : pm_R) : Prop := (r = (some (0, 0), A) ∧ ¬ okR n i k) ∨ (okR n i k ∧ r.1 = some (0, 1) ∧ r.2 0 f = n ∧ ∀ j_z : Int, 0 ≤ j_z → j_z < 12 → r.2 c j_z = if j_z = i then k else if n = A 0 f then A c j_z else 0)
theorem xrow_53 {A B : pm_A} {n i k : Int} (ho : okR n i k) (hB : gH wX B) (e6 : B 0 6 = 48) (e7 : B 0 7 = n) (h : ∀ j_z : Int, 0 ≤ j_z → j_z < 12 → B 48 j_z = if n = A 0 7 then A 48 j_z else 0) : Tm pmt (an_sh wX) o_X9_row 53 ([(2, 0), (0, n), (0, i), (0, k)], [], B) (rwQ A 7 48 n i k) := by
  have ho2 := ho
  unfold okR at ho2
  refine wq_ok srt_Xrow (fr := []) (cuts := []) (J := fun _ _ => False) (fun _ _ h_z => h_z.elim) 12 53 _ ?_
  refine ⟨oX_0 (by omega) kk0 6 rfl, ?_⟩
  refine ⟨tX_21 (by rw [e6]; omega) (by rw [e6]; exact kk48) (by omega) (by omega) rfl, ?_⟩
  refine ⟨rfl, Or.inr ⟨ho, rfl, ?_, fun j_z j0 j1 => ?_⟩⟩
  · show pm_upd B (B 0 6) i k 0 7 = n
    rw [e6, upd_o (by omega)]; exact e7
  · show pm_upd B (B 0 6) i k 48 j_z = _
    rw [e6]
    by_cases e_z : j_z = i
    · rw [if_pos e_z, e_z, upd_at]
    · rw [if_neg e_z, upd_n2 e_z]; exact h j_z j0 j1
theorem xrow_ex {A : pm_A} {n i k : Int} (hA : gH wX A) (e6 : A 0 6 = 48) : Cl pmt (an_sh wX) 105 [(2, 0), (0, n), (0, i), (0, k)] A (rwQ A 7 48 n i k) := by
  refine Cl.of (Nat.le_of_ble_eq_true rfl) ?_
  refine wq_ok (full := o_X9_row) srt_Xrow (fr := []) (cuts := [53]) (J := fun pc st_z => pc = 53 ∧ okR n i k ∧ ∃ B_z, (gH wX B_z ∧ B_z 0 6 = 48 ∧ B_z 0 7 = n) ∧ (∀ j_z : Int, 0 ≤ j_z → j_z < 12 → B_z 48 j_z = if n = A 0 7 then A 48 j_z else 0) ∧ st_z = ([(2, 0), (0, n), (0, i), (0, k)], [], B_z)) ?_ 40 0 _ ?_
  · rintro pc st_z ⟨rfl, ho, B_z, ⟨hB_z, b6, b7⟩, hb_z, rfl⟩
    exact xrow_53 ho hB_z b6 b7 hb_z
  have no_z : ¬ okR n i k → rwQ A 7 48 n i k (some (0, 0), A) := fun h_z => Or.inl ⟨rfl, h_z⟩
  refine ⟨fun h0 => ?_, fun h0 => ?_⟩
  · exact ⟨rfl, no_z (by unfold okR; omega)⟩
  refine ⟨fun h1 => ?_, fun h1 => ?_⟩
  · exact ⟨rfl, no_z (by unfold okR; omega)⟩
  refine ⟨fun h2 => ?_, fun h2 => ?_⟩
  · exact ⟨rfl, no_z (by unfold okR; omega)⟩
  refine ⟨fun h3 => ?_, fun h3 => ?_⟩
  · exact ⟨rfl, no_z (by unfold okR; omega)⟩
  refine ⟨fun h4 => ?_, fun h4 => ?_⟩
  · exact ⟨rfl, no_z (by unfold okR; omega)⟩
  refine ⟨fun h5 => ?_, fun h5 => ?_⟩
  · have ho : okR n i k := ⟨⟨by omega, by omega⟩, ⟨by omega, by omega⟩, by omega, by omega⟩
    refine ⟨oX_0 (by omega) kk0 7 rfl, ?_⟩
    refine ⟨fun h6 => ?_, fun h6 => ?_⟩
    · exact ⟨rfl, ho, A, ⟨hA, e6, h6.symm⟩, fun j_z _ _ => by rw [if_pos h6], rfl⟩
    · refine ⟨oX_0 (by omega) kk0 7 rfl, ?_⟩
      refine ⟨oX_0 (by omega) kk0 6 rfl, ?_⟩
      refine ⟨rfl, ?_⟩
      have hB_z : gH wX (pm_upd A 0 7 n) := gH_upd hA (k := (0, 9, 15, [(2, 1, 0), (2, 3, 0), (2, 4, 0), (2, 19, 0), (0, 0, 100), (2, 20, 0), (2, 21, 0), (0, 0, 12), (2, 1, 0), (2, 5, 0), (0, (-2147483648), 2147483647), (2, 6, 0), (2, 7, 0), (2, 34, 0), (2, 8, 0)])) (by rw [kk0]; rfl) (fun _ j_z a_z ha_z ej => by
        have : j_z = 7 := by omega
        subst this
        cases ha_z
        exact ⟨rfl, by simp only; omega, by simp only; omega⟩) (fun q_z => by cases q_z)
      have u6 : pm_upd A 0 7 n 0 6 = 48 := by rw [upd_n2 (by omega)]; exact e6
      rw [u6]
      refine (fl12_ct hB_z (by omega) kk48).imp ?_
      rintro ⟨r1_z, C_z⟩ ⟨g1, g2, g3_z, g4⟩
      simp only at g1 g2 g3_z g4
      subst g1
      exact ⟨rfl, ho, C_z, ⟨g2, by rw [g3_z 0 6 (by omega)]; exact u6, by rw [g3_z 0 7 (by omega), upd_at]⟩, fun j_z j0 j1 => by rw [if_neg h6]; exact g4 j_z j0 j1, rfl⟩
  · exact ⟨rfl, no_z (by unfold okR; omega)⟩
theorem mrow_63 {A B : pm_A} {n i k : Int} {w4 : pm_V} (ho : okR n i k) (hB : gH wM B) (h : ∀ j_z : Int, 0 ≤ j_z → j_z < 12 → B 30 j_z = if n = A 0 46 then A 30 j_z else 0) : Tm pmt (an_sh wM) o_X10_row 63 ([(2, 0), (0, n), (0, i), (0, k), w4], [], B) (rwQ A 46 30 n i k) := by
  have ho2 := ho
  unfold okR at ho2
  have u47 : pm_upd B 0 46 n 0 47 = 30 := by rw [upd_n2 (by omega)]; exact pM_47 hB
  refine wq_ok srt_Mrow2 (fr := []) (cuts := []) (J := fun _ _ => False) (fun _ _ h_z => h_z.elim) 20 63 _ ?_
  refine ⟨oM_0 (by omega) km0 46 rfl, ?_⟩
  refine ⟨oM_0 (by omega) km0 47 rfl, ?_⟩
  refine ⟨tM_30 (r := pm_upd B 0 46 n 0 47) (by rw [u47]; omega) (by rw [u47]; exact kn30) (by omega) (by omega) rfl, ?_⟩
  refine ⟨rfl, Or.inr ⟨ho, rfl, ?_, fun j_z j0 j1 => ?_⟩⟩
  · show pm_upd (pm_upd B 0 46 n) (pm_upd B 0 46 n 0 47) i k 0 46 = n
    rw [u47, upd_o (by omega), upd_at]
  · show pm_upd (pm_upd B 0 46 n) (pm_upd B 0 46 n 0 47) i k 30 j_z = _
    rw [u47]
    by_cases e_z : j_z = i
    · rw [if_pos e_z, e_z, upd_at]
    · rw [if_neg e_z, upd_n2 e_z, upd_o (by omega)]; exact h j_z j0 j1
theorem mrow_42 {A : pm_A} {n i k : Int} (ho : okR n i k) (hn : ¬ n = A 0 46) : ∀ (m_z : Nat) (j_z : Int) (B_z : pm_A), (12 - j_z).toNat < m_z → 0 ≤ j_z → j_z ≤ 12 → gH wM B_z → (∀ u_z : Int, 0 ≤ u_z → u_z < j_z → B_z 30 u_z = 0) → Tm pmt (an_sh wM) o_X10_row 42 ([(2, 0), (0, n), (0, i), (0, k), (0, j_z)], [], B_z) (rwQ A 46 30 n i k) := by
  intro m_z
  induction m_z with
  | zero => intro j_z B_z h_z; omega
  | succ m_z ih_z =>
    intro j_z B_z hm_z j0 j1 hB_z hz
    have c47_z := pM_47 hB_z
    refine wq_ok srt_Mrow2 (fr := []) (cuts := [42, 63]) (J := fun pc st_z => (pc = 63 ∧ 12 ≤ j_z ∧ st_z = ([(2, 0), (0, n), (0, i), (0, k), (0, j_z)], [], B_z)) ∨ (pc = 42 ∧ j_z < 12 ∧ st_z = ([(2, 0), (0, n), (0, i), (0, k), (0, j_z + 1)], [], pm_upd B_z (B_z 0 47) j_z 0))) ?_ 20 42 _ ?_
    · rintro pc st_z (⟨rfl, h_z, rfl⟩ | ⟨rfl, h_z, rfl⟩)
      · exact mrow_63 ho hB_z (fun u_z u0_z u1_z => by rw [if_neg hn]; exact hz u_z u0_z (by omega))
      · rw [c47_z]
        refine ih_z (j_z + 1) _ (by omega) (by omega) (by omega) (uM_30 hB_z kn30 (by omega) (by omega)) (fun u_z u0_z u1_z => ?_)
        by_cases e_z : u_z = j_z
        · rw [e_z, upd_at]
        · rw [upd_n2 e_z]; exact hz u_z u0_z (by omega)
    · refine ⟨fun h_z => ?_, fun h_z => ?_⟩
      · exact Or.inl ⟨rfl, h_z, rfl⟩
      · refine ⟨oM_0 (by omega) km0 47 rfl, ?_⟩
        refine ⟨tM_30 (r := B_z 0 47) (by rw [c47_z]; omega) (by rw [c47_z]; exact kn30) (by omega) (by omega) rfl, ?_⟩
        refine ⟨⟨by omega, by omega⟩, ?_⟩
        exact Or.inr ⟨rfl, h_z, rfl⟩
theorem mrow_ex {A : pm_A} {n i k : Int} (hA : gH wM A) : Cl pmt (an_sh wM) 179 [(2, 0), (0, n), (0, i), (0, k)] A (rwQ A 46 30 n i k) := by
  refine Cl.of (Nat.le_of_ble_eq_true rfl) ?_
  refine wq_ok (full := o_X10_row) srt_Mrow2 (fr := []) (cuts := [42, 63]) (J := fun pc st_z => okR n i k ∧ ((pc = 63 ∧ n = A 0 46 ∧ st_z = ([(2, 0), (0, n), (0, i), (0, k), (9, 0)], [], A)) ∨ (pc = 42 ∧ (¬ n = A 0 46) ∧ st_z = ([(2, 0), (0, n), (0, i), (0, k), (0, 0)], [], A)))) ?_ 40 0 _ ?_
  · rintro pc st_z ⟨ho, (⟨rfl, h_z, rfl⟩ | ⟨rfl, h_z, rfl⟩)⟩
    · exact mrow_63 ho hA (fun j_z _ _ => by rw [if_pos h_z])
    · exact mrow_42 ho h_z _ 0 A (Nat.lt_succ_self _) (by omega) (by omega) hA (fun u_z u0_z u1_z => by omega)
  have no_z : ¬ okR n i k → rwQ A 46 30 n i k (some (0, 0), A) := fun h_z => Or.inl ⟨rfl, h_z⟩
  refine ⟨fun h0 => ?_, fun h0 => ?_⟩
  · exact ⟨rfl, no_z (by unfold okR; omega)⟩
  refine ⟨fun h1 => ?_, fun h1 => ?_⟩
  · exact ⟨rfl, no_z (by unfold okR; omega)⟩
  refine ⟨fun h2 => ?_, fun h2 => ?_⟩
  · exact ⟨rfl, no_z (by unfold okR; omega)⟩
  refine ⟨fun h3 => ?_, fun h3 => ?_⟩
  · exact ⟨rfl, no_z (by unfold okR; omega)⟩
  refine ⟨fun h4 => ?_, fun h4 => ?_⟩
  · exact ⟨rfl, no_z (by unfold okR; omega)⟩
  refine ⟨fun h5 => ?_, fun h5 => ?_⟩
  · have ho : okR n i k := ⟨⟨by omega, by omega⟩, ⟨by omega, by omega⟩, by omega, by omega⟩
    refine ⟨oM_0 (by omega) km0 46 rfl, ?_⟩
    refine ⟨fun h6 => ?_, fun h6 => ?_⟩
    · exact ⟨ho, Or.inl ⟨rfl, h6, rfl⟩⟩
    · exact ⟨ho, Or.inr ⟨rfl, h6, rfl⟩⟩
  · exact ⟨rfl, no_z (by unfold okR; omega)⟩
def RW (AX AM : pm_A) : Prop := AX 0 6 = 48 ∧ AX 0 7 = AM 0 46 ∧ ∀ j_z : Int, 0 ≤ j_z → j_z < 12 → AX 48 j_z = AM 30 j_z
theorem RW.k {AX BX AM BM : pm_A} {ms mt : List Nat} (h : RW AX AM) (hX : gFk wY ms AX BX) (hM : gFk wM mt AM BM) (a1 : avoid [6, 7, 10021] ms = true) (a2 : avoid [46, 10030] mt = true) : RW BX BM := by
  have x0_z : ∀ j_z : Int, j_z = 6 ∨ j_z = 7 → BX 0 j_z = AX 0 j_z := fun j_z hj => hX 0 j_z (by omega) (by omega) (by
    rw [kc_o (a := 0) kk0 (by decide) (shX_0 kk0)]
    refine avoid_n a1 ?_
    rcases hj with rfl | rfl <;> decide)
  refine ⟨by rw [x0_z 6 (by omega)]; exact h.1, ?_, fun j_z j0 j1 => ?_⟩
  · rw [x0_z 7 (by omega), hM 0 46 (by omega) (by omega) (by rw [kMd 46]; exact avoid_n a2 (by decide))]
    exact h.2.1
  · rw [hX 48 j_z (by omega) j0 (by rw [kc_a kk48 (by decide) (shX_21 kk48)]; exact avoid_n a1 (by decide)), hM 30 j_z (by omega) j0 (by rw [kmA kn30 (by decide +kernel)]; exact avoid_n a2 (by decide))]
    exact h.2.2 j_z j0 j1
theorem rw_row {AX AM : pm_A} {n i k : Int} {q r : pm_R} {ms : List Nat} (h : RW AX AM) (hX : gFk wY ms AX q.2) (a1 : avoid [6] ms = true) (hq : rwQ AX 7 48 n i k q) (hr : rwQ AM 46 30 n i k r) : RW q.2 r.2 := by
  rcases hq with ⟨rfl, n1_z⟩ | ⟨o1, _, q2_z, q3_z⟩
  · rcases hr with ⟨rfl, _⟩ | ⟨o2, _⟩
    · exact h
    · exact absurd o2 n1_z
  · rcases hr with ⟨_, n1_z⟩ | ⟨_, _, r2_z, r3_z⟩
    · exact absurd o1 n1_z
    · refine ⟨?_, by rw [q2_z, r2_z], fun j_z j0 j1 => ?_⟩
      · rw [hX 0 6 (by omega) (by omega) (by rw [kc_o (a := 0) kk0 (by decide) (shX_0 kk0)]; exact avoid_n a1 (by decide))]
        exact h.1
      · rw [q3_z j_z j0 j1, r3_z j_z j0 j1, h.2.1, h.2.2 j_z j0 j1]
theorem rw_first : RW (wA WX) A0M := ⟨by decide +kernel, by decide +kernel, fun j_z j0 j1 => all_int (P := fun x_z => wA WX 48 x_z = A0M 30 x_z) (n := 12) (by decide +kernel) j0 (by omega)⟩
theorem rl_order {s : cx_Sd 12} {ks : List (Fin 12)} {AX AM : pm_A} {q r : pm_R} (h : XRs s ks AX AM) (hw : RW AX AM) (hq : orP s ks AX q) (hr : moP s ks AM (orZ s ks (AM 30) (AM 0 46) (AM 0 7 + AM 0 8) (AM 0 7)) r) : q.1 = r.1 := by
  obtain ⟨_, z_z, e1, hz⟩ := hq
  obtain ⟨_, y_z, e2, hy⟩ := hr
  have h12 := fX_0_7 h.1.1.1 (r := 0) (by omega) kk0
  have eW : bgW AX 1 = AM 0 7 + AM 0 8 := by unfold bgW; rw [h.1.2.2.2.1, h.1.2.2.2.2]
  rw [hw.1, eW, h.1.2.2.2.1] at hz
  rw [← hw.2.1] at hy
  have hzy : z_z = y_z := orZ_one (fun i_z i0_z i1_z => hw.2.2 i_z i0_z (by omega)) (fun i_z i0_z i1_z => by
    have h5 := eX_21 h.1.1.1 (r := 48) (by omega) kk48 i0_z (show i_z < 12 by omega)
    omega) h12.1 hz hy
  rw [e1, e2, hzy]
