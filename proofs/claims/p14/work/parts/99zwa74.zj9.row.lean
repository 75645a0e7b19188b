section
/-! the row of places is alike on both sides -/
theorem kk48 : wX.2 48 = 21 := by decide
def fl12 (A : pm_A) (r : Int) (q : pm_R) : Prop := q.1 = none ∧ gH wX q.2 ∧ (∀ r_z j_z : Int, ¬ r_z = r → q.2 r_z j_z = A r_z j_z) ∧ ∀ j_z : Int, 0 ≤ j_z → j_z < 12 → q.2 r j_z = 0
theorem fl12_5 {A : pm_A} {r : Int} (hr0 : 0 ≤ r) (hrk : wX.2 r = 21) : ∀ (m_z : Nat) (i_z : Int) (B_z : pm_A), (12 - i_z).toNat < m_z → 0 ≤ i_z → i_z ≤ 12 → gH wX B_z → (∀ r_z j_z : Int, ¬ r_z = r → B_z r_z j_z = A r_z j_z) → (∀ j_z : Int, 0 ≤ j_z → j_z < i_z → B_z r j_z = 0) → Tm pmt (an_sh wX) o_J7_fill_53178 5 ([(2, r), (0, 0), (0, i_z), (0, 12)], [], B_z) (fl12 A r) := by
  intro m_z
  induction m_z with
  | zero => intro i_z B_z h_z; omega
  | succ m_z ih_z =>
    intro i_z B_z hm_z hi0_z hi1 hB_z hF hz
    refine wq_ok srt_fill (fr := []) (cuts := [5]) (J := fun pc st_z => pc = 5 ∧ i_z < 12 ∧ st_z = ([(2, r), (0, 0), (0, i_z + 1), (0, 12)], [], pm_upd B_z r i_z 0)) ?_ 20 5 _ ?_
    · rintro pc st_z ⟨rfl, hi_z, rfl⟩
      refine ih_z (i_z + 1) _ (by omega) (by omega) (by omega) (uX_21 hB_z hrk (by omega) (by omega)) (fun r_z j_z hr => by rw [upd_ne hr]; exact hF r_z j_z hr) (fun j_z j0 j1 => ?_)
      by_cases e_z : j_z = i_z
      · rw [e_z, upd_at]
      · rw [upd_n2 e_z]; exact hz j_z j0 (by omega)
    · refine ⟨fun h_z => ⟨rfl, hB_z, hF, fun j_z j0 j1 => hz j_z j0 (by omega)⟩, fun h_z => ?_⟩
      refine ⟨tX_21 hr0 hrk hi0_z (by omega) rfl, ?_⟩
      refine ⟨⟨by omega, by omega⟩, ?_⟩
      exact ⟨rfl, h_z, rfl⟩
theorem fl12_ct {A : pm_A} {r : Int} (hA : gH wX A) (hr0 : 0 ≤ r) (hrk : wX.2 r = 21) : Cl pmt (an_sh wX) 1 [(2, r), (0, 0)] A (fl12 A r) := by
  refine Cl.of (Nat.le_of_ble_eq_true rfl) ?_
  have e_z := shX_21 hrk
  have st0 : pm_step (an_sh wX) (pm_call pmt (an_sh wX) 0) (4, 22, 0, 0, 0, 0, []) ([(2, r), (0, 0), (0, 0), (9, 0)], [(2, r)], A) = some (.inl (4, ([(2, r), (0, 0), (0, 0), (9, 0)], [(0, 12)], A))) := by
    simp only [pm_step, k_r]
    rw [k_if_t ⟨hr0, by rw [e_z], by rw [e_z], by rw [e_z]; simp only; omega⟩, e_z]
  refine wq_ok (full := o_J7_fill_53178) srt_fill (fr := []) (cuts := [3]) (J := fun pc st_z => pc = 3 ∧ st_z = ([(2, r), (0, 0), (0, 0), (9, 0)], [(2, r)], A)) ?_ 10 0 _ ?_
  · rintro pc st_z ⟨rfl, rfl⟩
    refine Tm.step srt_fill (q := (3, 4, 22, 0, 0, 0, 0, [])) rfl st0 ?_
    refine wq_ok srt_fill (fr := []) (cuts := [5]) (J := fun pc st_z => pc = 5 ∧ st_z = ([(2, r), (0, 0), (0, 0), (0, 12)], [], A)) ?_ 10 4 _ ?_
    · rintro pc st_z ⟨rfl, rfl⟩
      exact fl12_5 hr0 hrk _ 0 A (Nat.lt_succ_self _) (by omega) (by omega) hA (fun _ _ _ => rfl) (fun j_z j0 j1 => by omega)
    · exact ⟨rfl, rfl⟩
  · exact ⟨rfl, rfl⟩
def rwQ (A : pm_A) (f c n i k : Int) (r : pm_R) : Prop := (r = (some (0, 0), A) ∧ ¬ okR n i k) ∨ (okR n i k ∧ r.1 = some (0, 1) ∧ r.2 0 f = n ∧ ∀ j_z : Int, 0 ≤ j_z → j_z < 12 → r.2 c j_z = if j_z = i then k else if n = A 0 f then A c j_z else 0)
theorem xrow_53 {A B : pm_A} {n i k : Int} (ho : okR n i k) (hB : gH wX B) (e6 : B 0 6 = 48) (e7 : B 0 7 = n) (h : ∀ j_z : Int, 0 ≤ j_z → j_z < 12 → B 48 j_z = if n = A 0 7 then A 48 j_z else 0) : Tm pmt (an_sh wX) o_X9_row 53 ([(2, 0), (0, n), (0, i), (0, k)], [], B) (rwQ A 7 48 n i k) := by
  have ho2 := ho
  unfold okR at ho2
  refine wq_ok srt_Xrow (fr := []) (cuts := []) (J := fun _ _ => False) (fun _ _ h_z => h_z.elim) 12 53 _ ?_
  refine ⟨oX_0 (by omega) kk0 6 rfl, ?_⟩
  refine ⟨tX_21 (by rw [e6]; omega) (by rw [e6]; exact kk48) (by omega) (by omega) rfl, ?_⟩
  refine ⟨rfl, Or.inr ⟨ho, rfl, ?_, fun j_z j0 j1 => ?_⟩⟩
  · show pm_upd B (B 0 6) i k 0 7 = n
    rw [e6, upd_o (by omega)]; exact e7
  · show pm_upd B (B 0 6) i k 48 j_z = _
    rw [e6]
    by_cases e_z : j_z = i
    · rw [if_pos e_z, e_z, upd_at]
    · rw [if_neg e_z, upd_n2 e_z]; exact h j_z j0 j1
theorem xrow_ex {A : pm_A} {n i k : Int} (hA : gH wX A) (e6 : A 0 6 = 48) : Cl pmt (an_sh wX) 105 [(2, 0), (0, n), (0, i), (0, k)] A (rwQ A 7 48 n i k) := by
  refine Cl.of (Nat.le_of_ble_eq_true rfl) ?_
  refine wq_ok (full := o_X9_row) srt_Xrow (fr := []) (cuts := [53]) (J := fun pc st_z => pc = 53 ∧ okR n i k ∧ ∃ B_z, (gH wX B_z ∧ B_z 0 6 = 48 ∧ B_z 0 7 = n) ∧ (∀ j_z : Int, 0 ≤ j_z → j_z < 12 → B_z 48 j_z = if n = A 0 7 then A 48 j_z else 0) ∧ st_z = ([(2, 0), (0, n), (0, i), (0, k)], [], B_z)) ?_ 40 0 _ ?_
  · rintro pc st_z ⟨rfl, ho, B_z, ⟨hB_z, b6, b7⟩, hb_z, rfl⟩
    exact xrow_53 ho hB_z b6 b7 hb_z
  have no_z : ¬ okR n i k → rwQ A 7 48 n i k (some (0, 0), A) := fun h_z => Or.inl ⟨rfl, h_z⟩
  refine ⟨fun h0 => ?_, fun h0 => ?_⟩
  · exact ⟨rfl, no_z (by unfold okR; omega)⟩
  refine ⟨fun h1 => ?_, fun h1 => ?_⟩
  · exact ⟨rfl, no_z (by unfold okR; omega)⟩
  refine ⟨fun h2 => ?_, fun h2 => ?_⟩
  · exact ⟨rfl, no_z (by unfold okR; omega)⟩
  refine ⟨fun h3 => ?_, fun h3 => ?_⟩
  · exact ⟨rfl, no_z (by unfold okR; omega)⟩
  refine ⟨fun h4 => ?_, fun h4 => ?_⟩
  · exact ⟨rfl, no_z (by unfold okR; omega)⟩
  refine ⟨fun h5 => ?_, fun h5 => ?_⟩
  · have ho : okR n i k := ⟨⟨by omega, by omega⟩, ⟨by omega, by omega⟩, by omega, by omega⟩
    refine ⟨oX_0 (by omega) kk0 7 rfl, ?_⟩
    refine ⟨fun h6 => ?_, fun h6 => ?_⟩
    · exact ⟨rfl, ho, A, ⟨hA, e6, h6.symm⟩, fun j_z _ _ => by rw [if_pos h6], rfl⟩
    · refine ⟨oX_0 (by omega) kk0 7 rfl, ?_⟩
      refine ⟨oX_0 (by omega) kk0 6 rfl, ?_⟩
      refine ⟨rfl, ?_⟩
      have hB_z : gH wX (pm_upd A 0 7 n) := gH_upd hA (k := (0, 9, 15, [(2, 1, 0), (2, 3, 0), (2, 4, 0), (2, 19, 0), (0, 0, 100), (2, 20, 0), (2, 21, 0), (0, 0, 12), (2, 1, 0), (2, 5, 0), (0, (-2147483648), 2147483647), (2, 6, 0), (2, 7, 0), (2, 34, 0), (2, 8, 0)])) (by rw [kk0]; rfl) (fun _ j_z a_z ha_z ej => by
        have : j_z = 7 := by omega
        subst this
        cases ha_z
        exact ⟨rfl, by simp only; omega, by simp only; omega⟩) (fun q_z => by cases q_z)
      have u6 : pm_upd A 0 7 n 0 6 = 48 := by rw [upd_n2 (by omega)]; exact e6
      rw [u6]
      refine (fl12_ct hB_z (by omega) kk48).imp ?_
      rintro ⟨r1_z, C_z⟩ ⟨g1, g2, g3_z, g4⟩
      simp only at g1 g2 g3_z g4
      subst g1
      exact ⟨rfl, ho, C_z, ⟨g2, by rw [g3_z 0 6 (by omega)]; exact u6, by rw [g3_z 0 7 (by omega), upd_at]⟩, fun j_z j0 j1 => by rw [if_neg h6]; exact g4 j_z j0 j1, rfl⟩
  · exact ⟨rfl, no_z (by unfold okR; omega)⟩
theorem mrow_63 {A B : pm_A} {n i k : Int} {w4 : pm_V} (ho : okR n i k) (hB : gH wM B) (h : ∀ j_z : Int, 0 ≤ j_z → j_z < 12 → B 30 j_z = if n = A 0 46 then A 30 j_z else 0) : Tm pmt (an_sh wM) o_X10_row 63 ([(2, 0), (0, n), (0, i), (0, k), w4], [], B) (rwQ A 46 30 n i k) := by
  have ho2 := ho
  unfold okR at ho2
  have u47 : pm_upd B 0 46 n 0 47 = 30 := by rw [upd_n2 (by omega)]; exact pM_47 hB
  refine wq_ok srt_Mrow2 (fr := []) (cuts := []) (J := fun _ _ => False) (fun _ _ h_z => h_z.elim) 20 63 _ ?_
  refine ⟨oM_0 (by omega) km0 46 rfl, ?_⟩
  refine ⟨oM_0 (by omega) km0 47 rfl, ?_⟩
  refine ⟨tM_30 (r := pm_upd B 0 46 n 0 47) (by rw [u47]; omega) (by rw [u47]; exact kn30) (by omega) (by omega) rfl, ?_⟩
  refine ⟨rfl, Or.inr ⟨ho, rfl, ?_, fun j_z j0 j1 => ?_⟩⟩
  · show pm_upd (pm_upd B 0 46 n) (pm_upd B 0 46 n 0 47) i k 0 46 = n
    rw [u47, upd_o (by omega), upd_at]
  · show pm_upd (pm_upd B 0 46 n) (pm_upd B 0 46 n 0 47) i k 30 j_z = _
    rw [u47]
    by_cases e_z : j_z = i
    · rw [if_pos e_z, e_z, upd_at]
    · rw [if_neg e_z, upd_n2 e_z, upd_o (by omega)]; exact h j_z j0 j1
theorem mrow_42 {A : pm_A} {n i k : Int} (ho : okR n i k) (hn : ¬ n = A 0 46) : ∀ (m_z : Nat) (j_z : Int) (B_z : pm_A), (12 - j_z).toNat < m_z → 0 ≤ j_z → j_z ≤ 12 → gH wM B_z → (∀ u_z : Int, 0 ≤ u_z → u_z < j_z → B_z 30 u_z = 0) → Tm pmt (an_sh wM) o_X10_row 42 ([(2, 0), (0, n), (0, i), (0, k), (0, j_z)], [], B_z) (rwQ A 46 30 n i k) := by
  intro m_z
  induction m_z with
  | zero => intro j_z B_z h_z; omega
  | succ m_z ih_z =>
    intro j_z B_z hm_z j0 j1 hB_z hz
    have c47_z := pM_47 hB_z
    refine wq_ok srt_Mrow2 (fr := []) (cuts := [42, 63]) (J := fun pc st_z => (pc = 63 ∧ 12 ≤ j_z ∧ st_z = ([(2, 0), (0, n), (0, i), (0, k), (0, j_z)], [], B_z)) ∨ (pc = 42 ∧ j_z < 12 ∧ st_z = ([(2, 0), (0, n), (0, i), (0, k), (0, j_z + 1)], [], pm_upd B_z (B_z 0 47) j_z 0))) ?_ 20 42 _ ?_
    · rintro pc st_z (⟨rfl, h_z, rfl⟩ | ⟨rfl, h_z, rfl⟩)
      · exact mrow_63 ho hB_z (fun u_z u0_z u1_z => by rw [if_neg hn]; exact hz u_z u0_z (by omega))
      · rw [c47_z]
        refine ih_z (j_z + 1) _ (by omega) (by omega) (by omega) (uM_30 hB_z kn30 (by omega) (by omega)) (fun u_z u0_z u1_z => ?_)
        by_cases e_z : u_z = j_z
        · rw [e_z, upd_at]
        · rw [upd_n2 e_z]; exact hz u_z u0_z (by omega)
    · refine ⟨fun h_z => ?_, fun h_z => ?_⟩
      · exact Or.inl ⟨rfl, h_z, rfl⟩
      · refine ⟨oM_0 (by omega) km0 47 rfl, ?_⟩
        refine ⟨tM_30 (r := B_z 0 47) (by rw [c47_z]; omega) (by rw [c47_z]; exact kn30) (by omega) (by omega) rfl, ?_⟩
        refine ⟨⟨by omega, by omega⟩, ?_⟩
        exact Or.inr ⟨rfl, h_z, rfl⟩
theorem mrow_ex {A : pm_A} {n i k : Int} (hA : gH wM A) : Cl pmt (an_sh wM) 179 [(2, 0), (0, n), (0, i), (0, k)] A (rwQ A 46 30 n i k) := by
  refine Cl.of (Nat.le_of_ble_eq_true rfl) ?_
  refine wq_ok (full := o_X10_row) srt_Mrow2 (fr := []) (cuts := [42, 63]) (J := fun pc st_z => okR n i k ∧ ((pc = 63 ∧ n = A 0 46 ∧ st_z = ([(2, 0), (0, n), (0, i), (0, k), (9, 0)], [], A)) ∨ (pc = 42 ∧ (¬ n = A 0 46) ∧ st_z = ([(2, 0), (0, n), (0, i), (0, k), (0, 0)], [], A)))) ?_ 40 0 _ ?_
  · rintro pc st_z ⟨ho, (⟨rfl, h_z, rfl⟩ | ⟨rfl, h_z, rfl⟩)⟩
    · exact mrow_63 ho hA (fun j_z _ _ => by rw [if_pos h_z])
    · exact mrow_42 ho h_z _ 0 A (Nat.lt_succ_self _) (by omega) (by omega) hA (fun u_z u0_z u1_z => by omega)
  have no_z : ¬ okR n i k → rwQ A 46 30 n i k (some (0, 0), A) := fun h_z => Or.inl ⟨rfl, h_z⟩
  refine ⟨fun h0 => ?_, fun h0 => ?_⟩
  · exact ⟨rfl, no_z (by unfold okR; omega)⟩
  refine ⟨fun h1 => ?_, fun h1 => ?_⟩
  · exact ⟨rfl, no_z (by unfold okR; omega)⟩
  refine ⟨fun h2 => ?_, fun h2 => ?_⟩
  · exact ⟨rfl, no_z (by unfold okR; omega)⟩
  refine ⟨fun h3 => ?_, fun h3 => ?_⟩
  · exact ⟨rfl, no_z (by unfold okR; omega)⟩
  refine ⟨fun h4 => ?_, fun h4 => ?_⟩
  · exact ⟨rfl, no_z (by unfold okR; omega)⟩
  refine ⟨fun h5 => ?_, fun h5 => ?_⟩
  · have ho : okR n i k := ⟨⟨by omega, by omega⟩, ⟨by omega, by omega⟩, by omega, by omega⟩
    refine ⟨oM_0 (by omega) km0 46 rfl, ?_⟩
    refine ⟨fun h6 => ?_, fun h6 => ?_⟩
    · exact ⟨ho, Or.inl ⟨rfl, h6, rfl⟩⟩
    · exact ⟨ho, Or.inr ⟨rfl, h6, rfl⟩⟩
  · exact ⟨rfl, no_z (by unfold okR; omega)⟩
def RW (AX AM : pm_A) : Prop := AX 0 6 = 48 ∧ AX 0 7 = AM 0 46 ∧ ∀ j_z : Int, 0 ≤ j_z → j_z < 12 → AX 48 j_z = AM 30 j_z
theorem RW.k {AX BX AM BM : pm_A} {ms mt : List Nat} (h : RW AX AM) (hX : gFk wY ms AX BX) (hM : gFk wM mt AM BM) (a1 : avoid [6, 7, 10021] ms = true) (a2 : avoid [46, 10030] mt = true) : RW BX BM := by
  have x0_z : ∀ j_z : Int, j_z = 6 ∨ j_z = 7 → BX 0 j_z = AX 0 j_z := fun j_z hj => hX 0 j_z (by omega) (by omega) (by
    rw [kc_o (a := 0) kk0 (by decide) (shX_0 kk0)]
    refine avoid_n a1 ?_
    rcases hj with rfl | rfl <;> decide)
  refine ⟨by rw [x0_z 6 (by omega)]; exact h.1, ?_, fun j_z j0 j1 => ?_⟩
  · rw [x0_z 7 (by omega), hM 0 46 (by omega) (by omega) (by rw [kMd 46]; exact avoid_n a2 (by decide))]
    exact h.2.1
  · rw [hX 48 j_z (by omega) j0 (by rw [kc_a kk48 (by decide) (shX_21 kk48)]; exact avoid_n a1 (by decide)), hM 30 j_z (by omega) j0 (by rw [kmA kn30 (by decide +kernel)]; exact avoid_n a2 (by decide))]
    exact h.2.2 j_z j0 j1
theorem rw_row {AX AM : pm_A} {n i k : Int} {q r : pm_R} {ms : List Nat} (h : RW AX AM) (hX : gFk wY ms AX q.2) (a1 : avoid [6] ms = true) (hq : rwQ AX 7 48 n i k q) (hr : rwQ AM 46 30 n i k r) : RW q.2 r.2 := by
  rcases hq with ⟨rfl, n1_z⟩ | ⟨o1, _, q2_z, q3_z⟩
  · rcases hr with ⟨rfl, _⟩ | ⟨o2, _⟩
    · exact h
    · exact absurd o2 n1_z
  · rcases hr with ⟨_, n1_z⟩ | ⟨_, _, r2_z, r3_z⟩
    · exact absurd o1 n1_z
    · refine ⟨?_, by rw [q2_z, r2_z], fun j_z j0 j1 => ?_⟩
      · rw [hX 0 6 (by omega) (by omega) (by rw [kc_o (a := 0) kk0 (by decide) (shX_0 kk0)]; exact avoid_n a1 (by decide))]
        exact h.1
      · rw [q3_z j_z j0 j1, r3_z j_z j0 j1, h.2.1, h.2.2 j_z j0 j1]
theorem rw_first : RW (wA WX) A0M := ⟨by decide +kernel, by decide +kernel, fun j_z j0 j1 => all_int (P := fun x_z => wA WX 48 x_z = A0M 30 x_z) (n := 12) (by decide +kernel) j0 (by omega)⟩
theorem rl_order {s : cx_Sd 12} {ks : List (Fin 12)} {AX AM : pm_A} {q r : pm_R} (h : XRs s ks AX AM) (hw : RW AX AM) (hq : orP s ks AX q) (hr : moP s ks AM (orZ s ks (AM 30) (AM 0 46) (AM 0 7 + AM 0 8) (AM 0 7)) r) : q.1 = r.1 := by
  obtain ⟨_, z_z, e1, hz⟩ := hq
  obtain ⟨_, y_z, e2, hy⟩ := hr
  have h12 := fX_0_7 h.1.1.1 (r := 0) (by omega) kk0
  have eW : bgW AX 1 = AM 0 7 + AM 0 8 := by unfold bgW; rw [h.1.2.2.2.1, h.1.2.2.2.2]
  rw [hw.1, eW, h.1.2.2.2.1] at hz
  rw [← hw.2.1] at hy
  have hzy : z_z = y_z := orZ_one (fun i_z i0_z i1_z => hw.2.2 i_z i0_z (by omega)) (fun i_z i0_z i1_z => by
    have h5 := eX_21 h.1.1.1 (r := 48) (by omega) kk48 i0_z (show i_z < 12 by omega)
    omega) h12.1 hz hy
  rw [e1, e2, hzy]
end

section
/-! the reference: letterOf and isThere exactly -/
def lo3 (A : pm_A) (s : Int) (r : pm_R) : Prop := lo_post A s r ∧ ((∃ l, r.1 = some (0, l) ∧ (0 ≤ l ∧ l < A 0 26) ∧ r.2 = A ∧ LSm A (50 + l) = LSm A s) ∨ ((∀ d_z : Int, 0 ≤ d_z → d_z < A 0 26 → ¬ LSm A (50 + d_z) = LSm A s) ∧ r.1 = some (0, A 0 26) ∧ r.2 0 26 = A 0 26 + 1))
theorem lp_2 {A : pm_A} {s : Int} (hA : gH wM A) (hs : 0 ≤ s ∧ s ≤ 49) (hl : A 0 26 ≤ 100) : ∀ (m_z : Nat) (l : Int), (102 - l).toNat < m_z → 0 ≤ l → l ≤ A 0 26 → (∀ d_z : Int, 0 ≤ d_z → d_z < l → ¬ LSm A (50 + d_z) = LSm A s) → Tm pmt (an_sh wM) o_X10_letterOf 2 ([(2, 0), (0, s), (0, l)], [], A) (lo3 A s) := by
  have p26 := fM_0_26 hA (r := 0) (by omega) km0
  intro m_z
  induction m_z with
  | zero => intro l h_z; omega
  | succ m_z ih_z =>
    intro l hm_z l0 l1 hn
    refine wq_ok srt_letterOf (fr := []) (cuts := [19, 42]) (J := fun pc st_z => (pc = 42 ∧ A 0 26 ≤ l ∧ ∃ C_z, gH wM C_z ∧ (∀ q_z j_z, ¬ inS (50 + A 0 26) q_z j_z → C_z q_z j_z = A q_z j_z) ∧ LSm C_z (50 + A 0 26) = LSm A s ∧ st_z = ([(2, 0), (0, s), (0, l)], [], C_z)) ∨ (pc = 19 ∧ l < A 0 26 ∧ ∃ y_z, ((y_z = 0 ∧ ¬ LSm A (50 + l) = LSm A s) ∨ (y_z = 1 ∧ LSm A (50 + l) = LSm A s)) ∧ st_z = ([(2, 0), (0, s), (0, l)], [(0, y_z)], A))) ?_ 15 2 _ ?_
    · rintro pc st_z (⟨rfl, hge, C_z, q2_z, q3_z, q4_z, rfl⟩ | ⟨rfl, hl2, y_z, hy, rfl⟩)
      · have e26_z : C_z 0 26 = A 0 26 := q3_z 0 26 (by unfold inS; omega)
        have hfin : lo3 A s (some (0, pm_upd C_z 0 26 (C_z 0 26 + 1) 0 26 - 1), pm_upd C_z 0 26 (C_z 0 26 + 1)) := by
          have f_z : pm_upd C_z 0 26 (C_z 0 26 + 1) 0 26 = A 0 26 + 1 := by rw [upd_at, e26_z]
          have hLC : LSm (pm_upd C_z 0 26 (C_z 0 26 + 1)) (50 + A 0 26) = LSm A s := (LSm_ext (upd_o (by omega)) (fun q_z v_z q0 q1_z v0_z v1_z => ⟨upd_o (by omega), upd_o (by omega)⟩)).trans q4_z
          have f1_z : some (0, pm_upd C_z 0 26 (C_z 0 26 + 1) 0 26 - 1) = some ((0 : Nat), A 0 26) := by rw [f_z]; congr 2; omega
          refine ⟨⟨A 0 26, ?_, uM_0_26 q2_z (by omega) (by omega), fun q_z j_z h1 h2 => ?_, ⟨by omega, ?_⟩, ⟨?_, ?_⟩, hLC⟩, Or.inr ⟨fun d_z d0_z d1_z => hn d_z d0_z (by omega), f1_z, f_z⟩⟩
          · show some (0, pm_upd C_z 0 26 (C_z 0 26 + 1) 0 26 - 1) = some (0, A 0 26); rw [f_z]; congr 2; omega
          · show pm_upd C_z 0 26 (C_z 0 26 + 1) q_z j_z = A q_z j_z; rw [upd_o (fun e_z => h2 ⟨e_z.1, e_z.2⟩)]; exact q3_z q_z j_z h1
          · show A 0 26 < pm_upd C_z 0 26 (C_z 0 26 + 1) 0 26; rw [f_z]; omega
          · show A 0 26 ≤ pm_upd C_z 0 26 (C_z 0 26 + 1) 0 26; rw [f_z]; omega
          · show pm_upd C_z 0 26 (C_z 0 26 + 1) 0 26 ≤ A 0 26 + 1; rw [f_z]; omega
        refine wq_ok srt_letterOf (fr := []) (cuts := []) (J := fun _ _ => False) ?_ 15 42 _ ?_
        · intro pc st_z h_z; exact h_z.elim
        · refine ⟨oM_0 (by omega) km0 26 rfl, ?_⟩
          refine ⟨⟨by omega, by omega⟩, ?_⟩
          refine ⟨oM_0 (by omega) km0 26 rfl, ?_⟩
          refine ⟨oM_0 (by omega) km0 26 rfl, ?_⟩
          refine ⟨(by show r32 (pm_upd C_z 0 26 (C_z 0 26 + 1) 0 26 - 1); rw [upd_at]; exact ⟨by omega, by omega⟩), ?_⟩
          exact ⟨rfl, hfin⟩
      · refine wq_ok srt_letterOf (fr := []) (cuts := [2]) (J := fun pc st_z => (pc = 2 ∧ (y_z = 0) ∧ st_z = ([(2, 0), (0, s), (0, l + 1)], [], A))) ?_ 8 19 _ ?_
        · rintro pc st_z (⟨rfl, h0, rfl⟩)
          refine ih_z (l + 1) (by omega) (by omega) (by omega) (fun d_z d0_z d1_z => ?_)
          by_cases e_z : d_z = l
          · rw [e_z]
            rcases hy with h_z | h_z
            · exact h_z.2
            · omega
          · exact hn d_z d0_z (by omega)
        · refine ⟨fun h0 => ?_, fun h0 => ?_⟩
          · refine ⟨⟨by omega, by omega⟩, ?_⟩
            exact ⟨rfl, h0, rfl⟩
          · have he : LSm A (50 + l) = LSm A s := by
              rcases hy with h_z | h_z
              · exact absurd h_z.1 h0
              · exact h_z.2
            exact ⟨rfl, ⟨l, rfl, hA, fun _ _ _ _ => rfl, ⟨l0, hl2⟩, ⟨by show A 0 26 ≤ A 0 26; omega, by show A 0 26 ≤ A 0 26 + 1; omega⟩, he⟩, Or.inl ⟨l, rfl, ⟨l0, hl2⟩, rfl, he⟩⟩
    · refine ⟨oM_0 (by omega) km0 26 rfl, ?_⟩
      refine ⟨fun h0 => ?_, fun h0 => ?_⟩
      · refine ⟨oM_0 (by omega) km0 26 rfl, ?_⟩
        refine ⟨⟨by omega, by omega⟩, ?_⟩
        refine ⟨rM_0 (by omega) km0, ?_⟩
        refine (copy_ex (to := 50 + A 0 26) (fr := s) hA (by omega) (by omega) (by omega) (by omega) (by omega)).imp ?_
        rintro ⟨r1_z, C_z⟩ ⟨q1_z, q2_z, q3_z, q4_z⟩
        simp only at q1_z q2_z q3_z q4_z
        subst q1_z
        exact Or.inl (⟨rfl, h0, C_z, q2_z, q3_z, q4_z, rfl⟩)
      · refine ⟨⟨by omega, by omega⟩, ?_⟩
        refine ⟨rM_0 (by omega) km0, ?_⟩
        refine (areAlike_exq (a := 50 + l) (b := s) hA (by omega) (by omega)).imp ?_
        rintro ⟨r1_z, C_z⟩ ⟨q1_z, q2_z⟩
        simp only at q1_z q2_z
        subst q1_z
        rcases q2_z with ⟨q2_z, q3_z⟩ | ⟨q2_z, q3_z⟩
        · subst q2_z
          exact Or.inr (⟨rfl, by omega, 0, Or.inl ⟨rfl, q3_z⟩, rfl⟩)
        · subst q2_z
          exact Or.inr (⟨rfl, by omega, 1, Or.inr ⟨rfl, q3_z⟩, rfl⟩)
theorem letterOf_exq {A : pm_A} {s : Int} (hA : gH wM A) (hs : 0 ≤ s ∧ s ≤ 49) (hl : A 0 26 ≤ 100) : Cl pmt (an_sh wM) 166 [(2, 0), (0, s)] A (lo3 A s) := by
  have p26 := fM_0_26 hA (r := 0) (by omega) km0
  refine Cl.of (Nat.le_of_ble_eq_true rfl) ?_
  refine wq_ok (full := o_X10_letterOf) srt_letterOf (fr := []) (cuts := [2]) (J := fun pc st_z => (pc = 2 ∧ st_z = ([(2, 0), (0, s), (0, 0)], [], A))) ?_ 7 0 _ ?_
  · rintro pc st_z (⟨rfl, rfl⟩)
    exact lp_2 hA hs hl _ 0 (Nat.lt_succ_self _) (by omega) (by omega) (fun d_z d0_z d1_z => by omega)
  · exact ⟨rfl, rfl⟩
/-- z is the last of the first l letters of the seed u that is the letter of place i -/
def lstN (A : pm_A) (u i l z : Int) : Prop := (z = -1 ∧ ∀ d_z : Int, 0 ≤ d_z → d_z < l → ¬ A 17 (6 * u + d_z) = A 23 i) ∨ ((0 ≤ z ∧ z < l) ∧ A 17 (6 * u + z) = A 23 i ∧ ∀ d_z : Int, z < d_z → d_z < l → ¬ A 17 (6 * u + d_z) = A 23 i)
theorem lstN_u {A : pm_A} {u i l y z : Int} (h1 : lstN A u i l y) (h2 : lstN A u i l z) : y = z := by
  rcases h1 with ⟨a1_z, a2⟩ | ⟨a1_z, a2, a3⟩
  · rcases h2 with ⟨b1, b2⟩ | ⟨b1, b2, b3⟩
    · omega
    · exact absurd b2 (a2 z b1.1 b1.2)
  · rcases h2 with ⟨b1, b2⟩ | ⟨b1, b2, b3⟩
    · exact absurd a2 (b2 y a1_z.1 a1_z.2)
    · rcases Int.lt_trichotomy y z with e_z | e_z | e_z
      · exact absurd b2 (a3 z e_z b1.2)
      · exact e_z
      · exact absurd a2 (b3 y e_z a1_z.2)
def thM (A : pm_A) (u : Int) : Prop := ∃ S_z : Int → Int, (∀ i_z : Int, 0 ≤ i_z → i_z < A 0 7 → ¬ S_z i_z = -1 ∧ lstN A u i_z (A 0 7) (S_z i_z)) ∧ mtc (A 5) (fun x_z => A 18 (72 * u + x_z)) S_z (A 0 7 + A 0 8) (A 0 7)
def thQ (A : pm_A) (r : pm_R) : Prop := boF A r.2 ∧ ((r.1 = some (0, 1) ∧ ∃ u_z : Int, (0 ≤ u_z ∧ u_z < A 0 24) ∧ thM A u_z) ∨ (r.1 = some (0, 0) ∧ ∀ u_z : Int, 0 ≤ u_z → u_z < A 0 24 → ¬ thM A u_z))
theorem iv_144 {A B : pm_A} {u i : Int} (hA : gH wM A) (hB : boF A B) (ho : ∀ d_z : Int, 0 ≤ d_z → d_z < A 0 7 → ¬ B 16 d_z = -1 ∧ lstN A u d_z (A 0 7) (B 16 d_z)) (u0 : 0 ≤ u) (u1 : u < 150) (i0 : 0 ≤ i) (i1 : i < A 0 7 + A 0 8) (H : ∀ (f_z : Int) (v4_z v5 : pm_V), ((f_z = 1 ∧ ∀ j_z : Int, 0 ≤ j_z → j_z < A 0 7 → A 5 (6 * i + j_z) = A 18 (72 * u + (6 * rwS (A 0 7) (B 16) i + B 16 j_z))) ∨ (f_z = 0 ∧ ¬ thM A u)) → Tm pmt (an_sh wM) o_X10_isThere 207 ([(2, 0), (0, u), (0, f_z), (0, i), v4_z, v5], [], B) (thQ A)) : ∀ (n_z : Nat) (j_z f_z : Int), (6 - j_z).toNat < n_z → 0 ≤ j_z → j_z ≤ A 0 7 → ((f_z = 1 ∧ ∀ d_z : Int, 0 ≤ d_z → d_z < j_z → A 5 (6 * i + d_z) = A 18 (72 * u + (6 * rwS (A 0 7) (B 16) i + B 16 d_z))) ∨ (f_z = 0 ∧ ¬ thM A u)) → Tm pmt (an_sh wM) o_X10_isThere 144 ([(2, 0), (0, u), (0, f_z), (0, i), (0, rwS (A 0 7) (B 16) i), (0, j_z)], [], B) (thQ A) := by
  have p6_z := fM_0_7 hA (r := 0) (by omega) km0
  have p8 := fM_0_8 hA (r := 0) (by omega) km0
  have c9_z := pM_9 hB.1
  have c28_z := pM_28 hB.1
  have c23_z := pM_23 hB.1
  have e7_z : B 0 7 = A 0 7 := hB.2 0 7 (by omega)
  have hS_z : ∀ d_z : Int, 0 ≤ d_z → d_z < A 0 7 → 0 ≤ B 16 d_z ∧ B 16 d_z < A 0 7 := fun d_z d0_z d1_z => by
    rcases ho d_z d0_z d1_z with ⟨h1, ⟨h2, _⟩ | ⟨h2, _⟩⟩
    · exact absurd h2 h1
    · exact h2
  have hr : 0 ≤ rwS (A 0 7) (B 16) i ∧ rwS (A 0 7) (B 16) i ≤ 11 := by
    unfold rwS
    by_cases q_z : i < A 0 7
    · rw [if_pos q_z]; have := hS_z i i0 q_z; omega
    · rw [if_neg q_z]; omega
  have hno : ∀ j_z : Int, 0 ≤ j_z → j_z < A 0 7 → ¬ A 5 (6 * i + j_z) = A 18 (72 * u + (6 * rwS (A 0 7) (B 16) i + B 16 j_z)) → ¬ thM A u := fun j_z j0 j1 hne ⟨S_z, hS1, hS2⟩ => hne (mtc_cong (fun d_z d0_z d1_z => lstN_u (hS1 d_z d0_z d1_z).2 (ho d_z d0_z d1_z).2) hS2 i j_z i0 i1 j0 j1)
  generalize rwS (A 0 7) (B 16) i = r_z at H hr hno
  intro n_z
  induction n_z with
  | zero => intro j_z f_z h_z; omega
  | succ n_z ih_z =>
    intro j_z f_z hn j0 j1 hd_z
    refine wq_ok srt_isThere (fr := []) (cuts := [144, 207]) (J := fun pc st_z => (pc = 207 ∧ j_z = A 0 7 ∧ st_z = ([(2, 0), (0, u), (0, f_z), (0, i), (0, r_z), (0, j_z)], [], B)) ∨ (pc = 144 ∧ j_z < A 0 7 ∧ ∃ g_z : Int, ((f_z = 0 ∧ g_z = 0) ∨ ((¬ A 5 (6 * i + j_z) = A 18 (72 * u + (6 * r_z + B 16 j_z))) ∧ g_z = 0) ∨ (A 5 (6 * i + j_z) = A 18 (72 * u + (6 * r_z + B 16 j_z)) ∧ (¬ f_z = 0) ∧ g_z = 1)) ∧ st_z = ([(2, 0), (0, u), (0, g_z), (0, i), (0, r_z), (0, j_z + 1)], [], B))) ?_ 60 144 _ ?_
    · rintro pc st_z (⟨rfl, hj, rfl⟩ | ⟨rfl, hj, g_z, hg, rfl⟩)
      · rw [hj] at hd_z
        exact H f_z _ _ hd_z
      · refine ih_z (j_z + 1) g_z (by omega) (by omega) (by omega) ?_
        rcases hg with ⟨h1, h2⟩ | ⟨h1, h2⟩ | ⟨h1, h3, h2⟩
        · rcases hd_z with h4 | h4
          · omega
          · exact Or.inr ⟨h2, h4.2⟩
        · exact Or.inr ⟨h2, hno j_z j0 hj h1⟩
        · rcases hd_z with h4 | h4
          · refine Or.inl ⟨h2, fun d_z d0_z d1_z => ?_⟩
            by_cases e_z : d_z = j_z
            · rw [e_z]; exact h1
            · exact h4.2 d_z d0_z (by omega)
          · exact absurd h4.1 h3
    · refine ⟨oM_0 (by omega) km0 7 rfl, ?_⟩
      refine ⟨fun h_z => Or.inl ⟨rfl, by omega, rfl⟩, fun h_z => ?_⟩
      have hj : j_z < A 0 7 := by omega
      refine ⟨fun h0 => ?_, fun h0 => ?_⟩
      · refine ⟨⟨by omega, by omega⟩, ?_⟩
        exact Or.inr ⟨rfl, hj, 0, Or.inl ⟨h0, rfl⟩, rfl⟩
      have oj := hS_z j_z j0 hj
      have e23_z : B (B 0 23) j_z = B 16 j_z := by rw [c23_z]
      refine ⟨oM_0 (by omega) km0 9 rfl, ?_⟩
      refine ⟨⟨by omega, by omega⟩, ?_⟩
      refine ⟨⟨by omega, by omega⟩, ?_⟩
      refine ⟨aM_5 (r := B 0 9) (by rw [c9_z]; omega) (by rw [c9_z]; exact km5) (by omega) (by omega), ?_⟩
      refine ⟨oM_0 (by omega) km0 28 rfl, ?_⟩
      refine ⟨⟨by omega, by omega⟩, ?_⟩
      refine ⟨⟨by omega, by omega⟩, ?_⟩
      refine ⟨⟨by omega, by omega⟩, ?_⟩
      refine ⟨oM_0 (by omega) km0 23 rfl, ?_⟩
      refine ⟨aM_16 (r := B 0 23) (by rw [c23_z]; omega) (by rw [c23_z]; exact km16) j0 (by omega), ?_⟩
      refine ⟨by show r32 (72 * u + 6 * r_z + B (B 0 23) j_z); rw [e23_z]; exact ⟨by omega, by omega⟩, ?_⟩
      refine ⟨aM_18 (r := B 0 28) (by rw [c28_z]; omega) (by rw [c28_z]; exact km18) (by show 0 ≤ 72 * u + 6 * r_z + B (B 0 23) j_z; rw [e23_z]; omega) (by show 72 * u + 6 * r_z + B (B 0 23) j_z < 10800; rw [e23_z]; omega), ?_⟩
      have ea : B (B 0 9) (6 * i + j_z) = A 5 (6 * i + j_z) := by rw [c9_z]; exact hB.2 5 _ (by omega)
      have eb : B (B 0 28) (72 * u + 6 * r_z + B (B 0 23) j_z) = A 18 (72 * u + (6 * r_z + B 16 j_z)) := by rw [c28_z, e23_z, Int.add_assoc]; exact hB.2 18 _ (by omega)
      refine ⟨fun h2 => ?_, fun h2 => ?_⟩
      · rw [ea, eb] at h2
        refine ⟨⟨by omega, by omega⟩, ?_⟩
        exact Or.inr ⟨rfl, hj, 0, Or.inr (Or.inl ⟨h2, rfl⟩), rfl⟩
      · rw [ea, eb] at h2
        refine ⟨⟨by omega, by omega⟩, ?_⟩
        exact Or.inr ⟨rfl, hj, 1, Or.inr (Or.inr ⟨h2, h0, rfl⟩), rfl⟩
theorem iv_104 {A B : pm_A} {u : Int} (hA : gH wM A) (hB : boF A B) (u0 : 0 ≤ u) (u1 : u < 150) (H : ∀ (f_z : Int) (v3 v4_z v5 : pm_V), ((f_z = 1 ∧ thM A u) ∨ (f_z = 0 ∧ ¬ thM A u)) → Tm pmt (an_sh wM) o_X10_isThere 213 ([(2, 0), (0, u), (0, f_z), v3, v4_z, v5], [], B) (thQ A)) : ∀ (n_z : Nat) (i_z f_z : Int) (v4_z v5 : pm_V), (12 - i_z).toNat < n_z → 0 ≤ i_z → i_z ≤ A 0 7 + A 0 8 → ((f_z = 1 ∧ (∀ d_z : Int, 0 ≤ d_z → d_z < A 0 7 → ¬ B 16 d_z = -1 ∧ lstN A u d_z (A 0 7) (B 16 d_z)) ∧ ∀ a_z j_z : Int, 0 ≤ a_z → a_z < i_z → 0 ≤ j_z → j_z < A 0 7 → A 5 (6 * a_z + j_z) = A 18 (72 * u + (6 * rwS (A 0 7) (B 16) a_z + B 16 j_z))) ∨ (f_z = 0 ∧ ¬ thM A u)) → Tm pmt (an_sh wM) o_X10_isThere 104 ([(2, 0), (0, u), (0, f_z), (0, i_z), v4_z, v5], [], B) (thQ A) := by
  have p6_z := fM_0_7 hA (r := 0) (by omega) km0
  have h6 := fM_0_8 hA (r := 0) (by omega) km0
  have c23_z := pM_23 hB.1
  have e7_z : B 0 7 = A 0 7 := hB.2 0 7 (by omega)
  have e8 : B 0 8 = A 0 8 := hB.2 0 8 (by omega)
  intro n_z
  induction n_z with
  | zero => intro i_z f_z v4_z v5 h_z; omega
  | succ n_z ih_z =>
    intro i_z f_z v4_z v5 hn i0_z i1_z hd_z
    refine wq_ok srt_isThere (fr := []) (cuts := [144, 213]) (J := fun pc st_z => (pc = 213 ∧ (A 0 7 + A 0 8 ≤ i_z ∨ f_z = 0) ∧ st_z = ([(2, 0), (0, u), (0, f_z), (0, i_z), v4_z, v5], [], B)) ∨ (pc = 144 ∧ (i_z < A 0 7 + A 0 8 ∧ ¬ f_z = 0) ∧ st_z = ([(2, 0), (0, u), (0, f_z), (0, i_z), (0, rwS (A 0 7) (B 16) i_z), (0, 0)], [], B))) ?_ 40 104 _ ?_
    · rintro pc st_z (⟨rfl, hi_z, rfl⟩ | ⟨rfl, hi_z, rfl⟩)
      · refine H f_z _ _ _ ?_
        rcases hd_z with ⟨h1, h2, h3⟩ | h1
        · exact Or.inl ⟨h1, B 16, h2, fun a_z j_z a0_z a1_z j0 j1 => h3 a_z j_z a0_z (by omega) j0 j1⟩
        · exact Or.inr h1
      · rcases hd_z with ⟨h1, h2, h3⟩ | h1
        · refine iv_144 hA hB h2 u0 u1 i0_z hi_z.1 (fun g_z w4_z w5_z hg => ?_) _ 0 f_z (Nat.lt_succ_self _) (by omega) p6_z.1 (Or.inl ⟨h1, fun d_z d0_z d1_z => by omega⟩)
          refine wq_ok srt_isThere (fr := []) (cuts := [104]) (J := fun pc st_z => pc = 104 ∧ st_z = ([(2, 0), (0, u), (0, g_z), (0, i_z + 1), w4_z, w5_z], [], B)) ?_ 20 207 _ ?_
          · rintro pc st_z ⟨rfl, rfl⟩
            refine ih_z (i_z + 1) g_z _ _ (by omega) (by omega) (by omega) ?_
            rcases hg with ⟨g1, g2⟩ | g1
            · refine Or.inl ⟨g1, h2, fun a_z j_z a0_z a1_z j0 j1 => ?_⟩
              by_cases e_z : a_z = i_z
              · rw [e_z]; exact g2 j_z j0 j1
              · exact h3 a_z j_z a0_z (by omega) j0 j1
            · exact Or.inr g1
          · refine ⟨⟨by omega, by omega⟩, ?_⟩
            exact ⟨rfl, rfl⟩
        · exact absurd h1.1 hi_z.2
    · refine ⟨oM_0 (by omega) km0 7 rfl, ?_⟩
      refine ⟨oM_0 (by omega) km0 8 rfl, ?_⟩
      refine ⟨⟨by omega, by omega⟩, ?_⟩
      refine ⟨fun h_z => ?_, fun h_z => ?_⟩
      · exact Or.inl ⟨rfl, Or.inl (by omega), rfl⟩
      refine ⟨fun h0 => ?_, fun h0 => ?_⟩
      · exact Or.inl ⟨rfl, Or.inr h0, rfl⟩
      have hi_z : i_z < A 0 7 + A 0 8 := by omega
      refine ⟨oM_0 (by omega) km0 7 rfl, ?_⟩
      refine ⟨fun h2 => ?_, fun h2 => ?_⟩
      · refine Or.inr ⟨rfl, ⟨hi_z, h0⟩, ?_⟩
        rw [show rwS (A 0 7) (B 16) i_z = i_z from if_neg (by omega)]
        rfl
      · refine ⟨oM_0 (by omega) km0 23 rfl, ?_⟩
        refine ⟨aM_16 (r := B 0 23) (by rw [c23_z]; omega) (by rw [c23_z]; exact km16) i0_z (by omega), ?_⟩
        refine Or.inr ⟨rfl, ⟨hi_z, h0⟩, ?_⟩
        rw [show rwS (A 0 7) (B 16) i_z = B (B 0 23) i_z by rw [c23_z]; exact if_pos (by omega)]
        rfl
theorem iv_36 {A : pm_A} {u i f : Int} {v5 : pm_V} (hA : gH wM A) (u0 : 0 ≤ u) (u1 : u < 150) (i0 : 0 ≤ i) (i1 : i < A 0 7) (H : ∀ (B_z : pm_A) (v4_z : pm_V), boF A B_z → (∀ d_z : Int, 0 ≤ d_z → d_z < i → ¬ B_z 16 d_z = -1 ∧ lstN A u d_z (A 0 7) (B_z 16 d_z)) → lstN A u i (A 0 7) (B_z 16 i) → Tm pmt (an_sh wM) o_X10_isThere 80 ([(2, 0), (0, u), (0, f), (0, i), v4_z, v5], [], B_z) (thQ A)) : ∀ (n_z : Nat) (l : Int) (B_z : pm_A), (6 - l).toNat < n_z → 0 ≤ l → l ≤ A 0 7 → boF A B_z → (∀ d_z : Int, 0 ≤ d_z → d_z < i → ¬ B_z 16 d_z = -1 ∧ lstN A u d_z (A 0 7) (B_z 16 d_z)) → lstN A u i l (B_z 16 i) → Tm pmt (an_sh wM) o_X10_isThere 36 ([(2, 0), (0, u), (0, f), (0, i), (0, l), v5], [], B_z) (thQ A) := by
  have p6_z := fM_0_7 hA (r := 0) (by omega) km0
  intro n_z
  induction n_z with
  | zero => intro l B_z h_z; omega
  | succ n_z ih_z =>
    intro l B_z hn l0 l1 hB_z ho hl
    have e7_z : B_z 0 7 = A 0 7 := hB_z.2 0 7 (by omega)
    have c23_z := pM_23 hB_z.1
    have c27_z := pM_27 hB_z.1
    have c35_z := pM_35 hB_z.1
    have ea : B_z (B_z 0 27) (6 * u + l) = A 17 (6 * u + l) := by rw [c27_z]; exact hB_z.2 17 _ (by omega)
    have eb : B_z (B_z 0 35) i = A 23 i := by rw [c35_z]; exact hB_z.2 23 _ (by omega)
    refine wq_ok srt_isThere (fr := []) (cuts := [36, 80]) (J := fun pc st_z => (pc = 80 ∧ l = A 0 7 ∧ st_z = ([(2, 0), (0, u), (0, f), (0, i), (0, l), v5], [], B_z)) ∨ (pc = 36 ∧ (l < A 0 7 ∧ ¬ A 17 (6 * u + l) = A 23 i) ∧ st_z = ([(2, 0), (0, u), (0, f), (0, i), (0, l + 1), v5], [], B_z)) ∨ (pc = 36 ∧ (l < A 0 7 ∧ A 17 (6 * u + l) = A 23 i) ∧ st_z = ([(2, 0), (0, u), (0, f), (0, i), (0, l + 1), v5], [], pm_upd B_z (B_z 0 23) i l))) ?_ 40 36 _ ?_
    · rintro pc st_z (⟨rfl, h1, rfl⟩ | ⟨rfl, h1, rfl⟩ | ⟨rfl, h1, rfl⟩)
      · rw [h1] at hl
        exact H B_z _ hB_z ho hl
      · refine ih_z (l + 1) B_z (by omega) (by omega) (by omega) hB_z ho ?_
        rcases hl with ⟨a1_z, a2⟩ | ⟨a1_z, a2, a3⟩
        · refine Or.inl ⟨a1_z, fun d_z d0_z d1_z => ?_⟩
          by_cases e_z : d_z = l
          · rw [e_z]; exact h1.2
          · exact a2 d_z d0_z (by omega)
        · refine Or.inr ⟨⟨a1_z.1, by omega⟩, a2, fun d_z d0_z d1_z => ?_⟩
          by_cases e_z : d_z = l
          · rw [e_z]; exact h1.2
          · exact a3 d_z d0_z (by omega)
      · rw [c23_z]
        refine ih_z (l + 1) _ (by omega) (by omega) (by omega) (hB_z.put (by omega) (by omega)) (fun d_z d0_z d1_z => ?_) ?_
        · rw [upd_n2 (by omega)]; exact ho d_z d0_z d1_z
        · rw [upd_at]
          exact Or.inr ⟨⟨l0, by omega⟩, h1.2, fun d_z d0_z d1_z => by omega⟩
    · refine ⟨oM_0 (by omega) km0 7 rfl, ?_⟩
      refine ⟨fun h_z => Or.inl ⟨rfl, by omega, rfl⟩, fun h_z => ?_⟩
      refine ⟨oM_0 (by omega) km0 27 rfl, ?_⟩
      refine ⟨⟨by omega, by omega⟩, ?_⟩
      refine ⟨⟨by omega, by omega⟩, ?_⟩
      refine ⟨aM_17 (r := B_z 0 27) (by rw [c27_z]; omega) (by rw [c27_z]; exact km17) (by omega) (by omega), ?_⟩
      refine ⟨oM_0 (by omega) km0 35 rfl, ?_⟩
      refine ⟨aM_23 (r := B_z 0 35) (by rw [c35_z]; omega) (by rw [c35_z]; exact km23) i0 (by omega), ?_⟩
      refine ⟨fun h2 => ?_, fun h2 => ?_⟩
      · rw [ea, eb] at h2
        refine ⟨⟨by omega, by omega⟩, ?_⟩
        exact Or.inr (Or.inl ⟨rfl, ⟨by omega, h2⟩, rfl⟩)
      · rw [ea, eb] at h2
        refine ⟨oM_0 (by omega) km0 23 rfl, ?_⟩
        refine ⟨tM_16 (r := B_z 0 23) (by rw [c23_z]; omega) (by rw [c23_z]; exact km16) i0 (by omega) rfl, ?_⟩
        refine ⟨⟨by omega, by omega⟩, ?_⟩
        exact Or.inr (Or.inr ⟨rfl, ⟨by omega, h2⟩, rfl⟩)
theorem iv_14 {A : pm_A} {u : Int} (hA : gH wM A) (u0 : 0 ≤ u) (u1 : u < 150) (H : ∀ (B_z : pm_A) (f_z : Int) (v3 v4_z v5 : pm_V), boF A B_z → ((f_z = 1 ∧ thM A u) ∨ (f_z = 0 ∧ ¬ thM A u)) → Tm pmt (an_sh wM) o_X10_isThere 213 ([(2, 0), (0, u), (0, f_z), v3, v4_z, v5], [], B_z) (thQ A)) : ∀ (n_z : Nat) (i_z f_z : Int) (v4_z v5 : pm_V) (B_z : pm_A), (6 - i_z).toNat < n_z → 0 ≤ i_z → i_z ≤ A 0 7 → boF A B_z → ((f_z = 1 ∧ ∀ d_z : Int, 0 ≤ d_z → d_z < i_z → ¬ B_z 16 d_z = -1 ∧ lstN A u d_z (A 0 7) (B_z 16 d_z)) ∨ (f_z = 0 ∧ ¬ thM A u)) → Tm pmt (an_sh wM) o_X10_isThere 14 ([(2, 0), (0, u), (0, f_z), (0, i_z), v4_z, v5], [], B_z) (thQ A) := by
  have p6_z := fM_0_7 hA (r := 0) (by omega) km0
  have h8 := fM_0_8 hA (r := 0) (by omega) km0
  intro n_z
  induction n_z with
  | zero => intro i_z f_z v4_z v5 B_z h_z; omega
  | succ n_z ih_z =>
    intro i_z f_z v4_z v5 B_z hn i0_z i1_z hB_z hd_z
    have e7_z : B_z 0 7 = A 0 7 := hB_z.2 0 7 (by omega)
    have c23_z := pM_23 hB_z.1
    refine wq_ok srt_isThere (fr := []) (cuts := [36, 104]) (J := fun pc st_z => (pc = 104 ∧ (i_z = A 0 7 ∨ f_z = 0) ∧ st_z = ([(2, 0), (0, u), (0, f_z), (0, 0), v4_z, v5], [], B_z)) ∨ (pc = 36 ∧ (i_z < A 0 7 ∧ ¬ f_z = 0) ∧ st_z = ([(2, 0), (0, u), (0, f_z), (0, i_z), (0, 0), v5], [], pm_upd B_z (B_z 0 23) i_z (-1)))) ?_ 40 14 _ ?_
    · rintro pc st_z (⟨rfl, hi_z, rfl⟩ | ⟨rfl, hi_z, rfl⟩)
      · refine iv_104 hA hB_z u0 u1 (fun g_z w3_z w4_z w5_z hg => H B_z g_z w3_z w4_z w5_z hB_z hg) _ 0 f_z v4_z v5 (Nat.lt_succ_self _) (by omega) (by omega) ?_
        rcases hd_z with ⟨h1, h2⟩ | h1
        · refine Or.inl ⟨h1, fun d_z d0_z d1_z => h2 d_z d0_z (by omega), fun a_z j_z a0_z a1_z => by omega⟩
        · exact Or.inr h1
      · rcases hd_z with ⟨h1, h2⟩ | h1
        · rw [c23_z]
          refine iv_36 hA u0 u1 i0_z hi_z.1 (fun C_z w4_z hC hC2 hl => ?_) _ 0 _ (Nat.lt_succ_self _) (by omega) p6_z.1 (hB_z.put (by omega) (by omega)) (fun d_z d0_z d1_z => by rw [upd_n2 (by omega)]; exact h2 d_z d0_z d1_z) (Or.inl ⟨upd_at, fun d_z d0_z d1_z => by omega⟩)
          have d23_z := pM_23 hC.1
          refine wq_ok srt_isThere (fr := []) (cuts := [14]) (J := fun pc st_z => pc = 14 ∧ ∃ g_z : Int, ((g_z = 1 ∧ ¬ C_z 16 i_z = -1) ∨ (g_z = 0 ∧ C_z 16 i_z = -1)) ∧ st_z = ([(2, 0), (0, u), (0, g_z), (0, i_z + 1), w4_z, v5], [], C_z)) ?_ 30 80 _ ?_
          · rintro pc st_z ⟨rfl, g_z, hg, rfl⟩
            refine ih_z (i_z + 1) g_z _ _ C_z (by omega) (by omega) (by omega) hC ?_
            rcases hg with ⟨g1, g2⟩ | ⟨g1, g2⟩
            · refine Or.inl ⟨g1, fun j_z j0 j1 => ?_⟩
              by_cases w_z : j_z = i_z
              · rw [w_z]; exact ⟨g2, hl⟩
              · exact hC2 j_z j0 (by omega)
            · refine Or.inr ⟨g1, fun ⟨S_z, hS_z, _⟩ => (hS_z i_z i0_z hi_z.1).1 ?_⟩
              exact (lstN_u (hS_z i_z i0_z hi_z.1).2 hl).trans g2
          · refine ⟨oM_0 (by omega) km0 23 rfl, ?_⟩
            refine ⟨aM_16 (r := C_z 0 23) (by rw [d23_z]; omega) (by rw [d23_z]; exact km16) i0_z (by omega), ?_⟩
            refine ⟨fun q_z => ?_, fun q_z => ?_⟩
            · rw [d23_z] at q_z
              refine ⟨⟨by omega, by omega⟩, ?_⟩
              exact ⟨rfl, 0, Or.inr ⟨rfl, q_z⟩, rfl⟩
            · rw [d23_z] at q_z
              refine ⟨⟨by omega, by omega⟩, ?_⟩
              exact ⟨rfl, 1, Or.inl ⟨rfl, q_z⟩, rfl⟩
        · exact absurd h1.1 hi_z.2
    · refine ⟨oM_0 (by omega) km0 7 rfl, ?_⟩
      refine ⟨fun h_z => Or.inl ⟨rfl, Or.inl (by omega), rfl⟩, fun h_z => ?_⟩
      refine ⟨fun h0 => Or.inl ⟨rfl, Or.inr h0, rfl⟩, fun h0 => ?_⟩
      refine ⟨oM_0 (by omega) km0 23 rfl, ?_⟩
      refine ⟨tM_16 (r := B_z 0 23) (by rw [c23_z]; omega) (by rw [c23_z]; exact km16) i0_z (by omega) rfl, ?_⟩
      exact Or.inr ⟨rfl, ⟨by omega, h0⟩, rfl⟩
theorem iv_2 {A : pm_A} (hA : gH wM A) : ∀ (n_z : Nat) (u_z : Int) (v2 v3 v4_z v5 : pm_V) (B_z : pm_A), (150 - u_z).toNat < n_z → 0 ≤ u_z → u_z ≤ A 0 24 → boF A B_z → (∀ w_z : Int, 0 ≤ w_z → w_z < u_z → ¬ thM A w_z) → Tm pmt (an_sh wM) o_X10_isThere 2 ([(2, 0), (0, u_z), v2, v3, v4_z, v5], [], B_z) (thQ A) := by
  have p24 := fM_0_24 hA (r := 0) (by omega) km0
  have p6_z := fM_0_7 hA (r := 0) (by omega) km0
  intro n_z
  induction n_z with
  | zero => intro u_z v2 v3 v4_z v5 B_z h_z; omega
  | succ n_z ih_z =>
    intro u_z v2 v3 v4_z v5 B_z hn u0 u1_z hB_z hno
    have e24_z : B_z 0 24 = A 0 24 := hB_z.2 0 24 (by omega)
    refine wq_ok srt_isThere (fr := []) (cuts := [14]) (J := fun pc st_z => pc = 14 ∧ u_z < A 0 24 ∧ st_z = ([(2, 0), (0, u_z), (0, 1), (0, 0), v4_z, v5], [], B_z)) ?_ 30 2 _ ?_
    · rintro pc st_z ⟨rfl, hu, rfl⟩
      refine iv_14 hA u0 (by omega) (fun C_z f_z w3_z w4_z w5_z hC hf => ?_) _ 0 1 v4_z v5 B_z (Nat.lt_succ_self _) (by omega) p6_z.1 hB_z (Or.inl ⟨rfl, fun d_z d0_z d1_z => by omega⟩)
      refine wq_ok srt_isThere (fr := []) (cuts := [2]) (J := fun pc st_z => pc = 2 ∧ f_z = 0 ∧ st_z = ([(2, 0), (0, u_z + 1), (0, f_z), w3_z, w4_z, w5_z], [], C_z)) ?_ 20 213 _ ?_
      · rintro pc st_z ⟨rfl, h0, rfl⟩
        refine ih_z (u_z + 1) _ _ _ _ C_z (by omega) (by omega) (by omega) hC (fun w_z w0_z w1_z => ?_)
        by_cases e_z : w_z = u_z
        · rw [e_z]
          rcases hf with h1 | h1
          · omega
          · exact h1.2
        · exact hno w_z w0_z (by omega)
      · refine ⟨fun h0 => ?_, fun h0 => ?_⟩
        · refine ⟨⟨by omega, by omega⟩, ?_⟩
          exact ⟨rfl, h0, rfl⟩
        · refine ⟨rfl, hC, Or.inl ⟨rfl, u_z, ⟨u0, hu⟩, ?_⟩⟩
          rcases hf with h1 | h1
          · exact h1.2
          · exact absurd h1.1 h0
    · refine ⟨oM_0 (by omega) km0 24 rfl, ?_⟩
      refine ⟨fun h_z => ?_, fun h_z => ?_⟩
      · exact ⟨rfl, hB_z, Or.inr ⟨rfl, fun w_z w0_z w1_z => hno w_z w0_z (by omega)⟩⟩
      · exact ⟨rfl, by omega, rfl⟩
theorem isThere_exq {A : pm_A} (hA : gH wM A) : Cl pmt (an_sh wM) 158 [(2, 0)] A (thQ A) := by
  have p24 := fM_0_24 hA (r := 0) (by omega) km0
  refine Cl.of (Nat.le_of_ble_eq_true rfl) ?_
  refine wq_ok (full := o_X10_isThere) srt_isThere (fr := []) (cuts := [2]) (J := fun pc st_z => pc = 2 ∧ st_z = ([(2, 0), (0, 0), (9, 0), (9, 0), (9, 0), (9, 0)], [], A)) ?_ 30 0 _ ?_
  · rintro pc st_z ⟨rfl, rfl⟩
    exact iv_2 hA _ 0 _ _ _ _ A (Nat.lt_succ_self _) (by omega) p24.1 ⟨hA, fun _ _ _ => rfl⟩ (fun w_z w0_z w1_z => by omega)
  · exact ⟨rfl, rfl⟩
end

section
/-! the reference's goesThrough along the row of all seeds -/
def cm3 (A : pm_A) (r : pm_R) : Prop := cmF A r.2 ∧ ((r.1 = some (0, 0) ∧ (¬ A 0 24 < 150 ∨ ¬ A 0 26 ≤ 100)) ∨ (r.1 = some (0, 1) ∧ A 0 24 < 150 ∧ r.2 0 24 = A 0 24 + 1 ∧ A 0 26 ≤ 100 ∧ (∀ t_z : Int, 0 ≤ t_z → t_z < A 0 7 → r.2 17 (6 * A 0 24 + t_z) = A 23 t_z) ∧ ∀ j_z : Int, 0 ≤ j_z → j_z < 72 → r.2 18 (72 * A 0 24 + j_z) = A 5 j_z))
theorem cn_50 {A : pm_A} (hA : gH wM A) (hs : A 0 24 < 150) : ∀ (m_z : Nat) (i_z : Int) (B_z : pm_A), (72 - i_z).toNat < m_z → 0 ≤ i_z → i_z ≤ 72 → cmJ A B_z i_z → Tm pmt (an_sh wM) o_X10_comes 50 ([(2, 0), (0, i_z)], [], B_z) (cm3 A) := by
  have p24 := fM_0_24 hA (r := 0) (by omega) km0
  intro m_z
  induction m_z with
  | zero => intro i_z B_z h_z; omega
  | succ m_z ih_z =>
    intro i_z B_z hm_z i0_z i1_z hJ
    obtain ⟨⟨g1, g2, g3_z, g4⟩, g5_z, g6, g7⟩ := hJ
    have c9_z := pM_9 g1
    have c28_z := pM_28 g1
    have e5 : B_z 5 i_z = A 5 i_z := g2 5 i_z (by omega) (by omega) (by omega)
    have e26_z : pm_upd B_z 0 24 (B_z 0 24 + 1) 0 26 = A 0 26 := by rw [upd_o (by omega)]; exact g2 0 26 (by omega) (by omega) (by omega)
    have hF : cmF A (pm_upd B_z 0 24 (B_z 0 24 + 1)) := ⟨uM_0_24 g1 (by omega) (by omega), fun r_z j_z h1 h2 h3 => by rw [upd_o (fun e_z => h3 ⟨e_z.1, e_z.2⟩)]; exact g2 r_z j_z h1 h2 h3, fun j_z hj => by rw [upd_o (by omega)]; exact g3_z j_z hj, fun j_z hj => by rw [upd_o (by omega)]; exact g4 j_z hj⟩
    have hfin : 72 ≤ i_z → A 0 26 ≤ 100 → cm3 A (some (0, 1), pm_upd B_z 0 24 (B_z 0 24 + 1)) := fun hi_z hl => ⟨hF, Or.inr ⟨rfl, hs, by show pm_upd B_z 0 24 (B_z 0 24 + 1) 0 24 = _; rw [upd_at, g5_z], hl, fun t_z t0_z t1_z => by show pm_upd B_z 0 24 (B_z 0 24 + 1) 17 _ = _; rw [upd_o (by omega)]; exact g6 t_z t0_z t1_z, fun j_z j0 j1 => by show pm_upd B_z 0 24 (B_z 0 24 + 1) 18 _ = _; rw [upd_o (by omega)]; exact g7 j_z j0 (by omega)⟩⟩
    refine wq_ok srt_comes (fr := []) (cuts := [50]) (J := fun pc st_z => (pc = 50 ∧ (i_z < 72) ∧ st_z = ([(2, 0), (0, i_z + 1)], [], pm_upd B_z (B_z 0 28) ((72 * (B_z 0 24)) + i_z) (B_z (B_z 0 9) i_z)))) ?_ 23 50 _ ?_
    · rintro pc st_z (⟨rfl, h0, rfl⟩)
      rw [c9_z, c28_z, g5_z]
      have b_z := eM_5 g1 (r := 5) (by omega) kn5 i0_z (show i_z < 72 by omega)
      refine ih_z (i_z + 1) _ (by omega) (by omega) (by omega) ⟨⟨uM_18 g1 kn18 b_z.1 b_z.2, fun r_z j_z h1 h2 h3 => by rw [upd_o (by omega)]; exact g2 r_z j_z h1 h2 h3, fun j_z hj => by rw [upd_o (by omega)]; exact g3_z j_z hj, fun j_z hj => by rw [upd_o (by omega)]; exact g4 j_z hj⟩, by rw [upd_o (by omega)]; exact g5_z, fun t_z t0_z t1_z => by rw [upd_o (by omega)]; exact g6 t_z t0_z t1_z, fun j_z j0 j1 => ?_⟩
      by_cases hj : j_z = i_z
      · rw [hj, upd_at]; exact e5
      · rw [upd_o (by omega)]; exact g7 j_z j0 (by omega)
    · refine ⟨fun h0 => ?_, fun h0 => ?_⟩
      · refine ⟨oM_0 (by omega) km0 24 rfl, ?_⟩
        refine ⟨⟨by omega, by omega⟩, ?_⟩
        refine ⟨oM_0 (by omega) km0 24 rfl, ?_⟩
        refine ⟨oM_0 (by omega) km0 26 rfl, ?_⟩
        refine ⟨fun h1 => ?_, fun h1 => ?_⟩
        · exact ⟨rfl, hF, Or.inl ⟨rfl, Or.inr (by rw [e26_z] at h1; omega)⟩⟩
        · exact ⟨rfl, hfin h0 (by rw [e26_z] at h1; exact h1)⟩
      · refine ⟨oM_0 (by omega) km0 28 rfl, ?_⟩
        refine ⟨oM_0 (by omega) km0 24 rfl, ?_⟩
        refine ⟨⟨by omega, by omega⟩, ?_⟩
        refine ⟨⟨by omega, by omega⟩, ?_⟩
        refine ⟨oM_0 (by omega) km0 9 rfl, ?_⟩
        refine ⟨aM_5 (r := B_z 0 9) (by rw [c9_z]; omega) (by rw [c9_z]; exact kn5) (by omega) (by omega), ?_⟩
        have e1 : B_z (B_z 0 9) i_z = B_z 5 i_z := by rw [c9_z]
        refine ⟨tM_18 (r := B_z 0 28) (by rw [c28_z]; omega) (by rw [c28_z]; exact kn18) (by omega) (by omega) rfl, ?_⟩
        refine ⟨⟨by omega, by omega⟩, ?_⟩
        exact ⟨rfl, h0, rfl⟩
theorem cn_14 {A : pm_A} (hA : gH wM A) (hs : A 0 24 < 150) (hth : ∀ t_z : Int, 0 ≤ t_z → t_z < A 0 7 → 0 ≤ A 23 t_z ∧ A 23 t_z ≤ 100) : ∀ (m_z : Nat) (i_z : Int) (B_z : pm_A), (6 - i_z).toNat < m_z → 0 ≤ i_z → i_z ≤ A 0 7 → cmI A B_z i_z → Tm pmt (an_sh wM) o_X10_comes 14 ([(2, 0), (0, i_z)], [], B_z) (cm3 A) := by
  have p24 := fM_0_24 hA (r := 0) (by omega) km0
  have p7_z := fM_0_7 hA (r := 0) (by omega) km0
  intro m_z
  induction m_z with
  | zero => intro i_z B_z h_z; omega
  | succ m_z ih_z =>
    intro i_z B_z hm_z i0_z i1_z hJ
    obtain ⟨⟨g1, g2, g3_z, g4⟩, g5_z, g6⟩ := hJ
    have c27_z := pM_27 g1
    have c35_z := pM_35 g1
    have e7_z : B_z 0 7 = A 0 7 := g2 0 7 (by omega) (by omega) (by omega)
    have e23_z : B_z 23 i_z = A 23 i_z := g2 23 i_z (by omega) (by omega) (by omega)
    refine wq_ok srt_comes (fr := []) (cuts := [14, 50]) (J := fun pc st_z => (pc = 50 ∧ ((B_z 0 7) ≤ i_z) ∧ st_z = ([(2, 0), (0, 0)], [], B_z)) ∨ (pc = 14 ∧ (i_z < (B_z 0 7)) ∧ st_z = ([(2, 0), (0, i_z + 1)], [], pm_upd B_z (B_z 0 27) ((6 * (B_z 0 24)) + i_z) (B_z (B_z 0 35) i_z)))) ?_ 24 14 _ ?_
    · rintro pc st_z (⟨rfl, h0, rfl⟩ | ⟨rfl, h0, rfl⟩)
      · exact cn_50 hA hs _ 0 B_z (Nat.lt_succ_self _) (by omega) (by omega) ⟨⟨g1, g2, g3_z, g4⟩, g5_z, fun t_z t0_z t1_z => g6 t_z t0_z (by rw [e7_z] at h0; omega), fun j_z j0 j1 => by omega⟩
      · rw [e7_z] at h0
        rw [c27_z, c35_z, g5_z]
        have b_z := hth i_z i0_z h0
        refine ih_z (i_z + 1) _ (by omega) (by omega) (by omega) ⟨⟨uM_17 g1 kn17 (by omega) (by omega), fun r_z j_z h1 h2 h3 => by rw [upd_o (by omega)]; exact g2 r_z j_z h1 h2 h3, fun j_z hj => by rw [upd_o (by omega)]; exact g3_z j_z hj, fun j_z hj => by rw [upd_o (by omega)]; exact g4 j_z hj⟩, by rw [upd_o (by omega)]; exact g5_z, fun t_z t0_z t1_z => ?_⟩
        by_cases hj : t_z = i_z
        · rw [hj, upd_at]; exact e23_z
        · rw [upd_o (by omega)]; exact g6 t_z t0_z (by omega)
    · refine ⟨oM_0 (by omega) km0 7 rfl, ?_⟩
      refine ⟨fun h0 => ?_, fun h0 => ?_⟩
      · exact Or.inl (⟨rfl, h0, rfl⟩)
      · refine ⟨oM_0 (by omega) km0 27 rfl, ?_⟩
        refine ⟨oM_0 (by omega) km0 24 rfl, ?_⟩
        refine ⟨⟨by omega, by omega⟩, ?_⟩
        refine ⟨⟨by omega, by omega⟩, ?_⟩
        refine ⟨oM_0 (by omega) km0 35 rfl, ?_⟩
        refine ⟨aM_23 (r := B_z 0 35) (by rw [c35_z]; omega) (by rw [c35_z]; exact kn23) (by omega) (by omega), ?_⟩
        have e1 : B_z (B_z 0 35) i_z = B_z 23 i_z := by rw [c35_z]
        refine ⟨tM_17 (r := B_z 0 27) (by rw [c27_z]; omega) (by rw [c27_z]; exact kn17) (by omega) (by omega) rfl, ?_⟩
        refine ⟨⟨by omega, by omega⟩, ?_⟩
        exact Or.inr (⟨rfl, h0, rfl⟩)
theorem comes_exq {A : pm_A} (hA : gH wM A) (hth : ∀ t_z : Int, 0 ≤ t_z → t_z < A 0 7 → 0 ≤ A 23 t_z ∧ A 23 t_z ≤ 100) : Cl pmt (an_sh wM) 132 [(2, 0)] A (cm3 A) := by
  have p24 := fM_0_24 hA (r := 0) (by omega) km0
  have p7_z := fM_0_7 hA (r := 0) (by omega) km0
  have hF : cmF A A := ⟨hA, fun _ _ _ _ _ => rfl, fun _ _ => rfl, fun _ _ => rfl⟩
  refine Cl.of (Nat.le_of_ble_eq_true rfl) ?_
  refine wq_ok (full := o_X10_comes) srt_comes (fr := []) (cuts := [14]) (J := fun pc st_z => (pc = 14 ∧ (¬ (A 0 24) = 150) ∧ st_z = ([(2, 0), (0, 0)], [], A))) ?_ 11 0 _ ?_
  · rintro pc st_z (⟨rfl, h0, rfl⟩)
    exact cn_14 hA (by omega) hth _ 0 A (Nat.lt_succ_self _) (by omega) (by omega) ⟨hF, rfl, fun t_z t0_z t1_z => by omega⟩
  · refine ⟨oM_0 (by omega) km0 24 rfl, ?_⟩
    refine ⟨fun h0 => ?_, fun h0 => ?_⟩
    · exact ⟨rfl, h0, rfl⟩
    · exact ⟨rfl, hF, Or.inl ⟨rfl, Or.inl (by omega)⟩⟩
def lstE (E : Int → Int → Prop) (i l z : Int) : Prop := (z = -1 ∧ ∀ d_z : Int, 0 ≤ d_z → d_z < l → ¬ E i d_z) ∨ ((0 ≤ z ∧ z < l) ∧ E i z ∧ ∀ d_z : Int, z < d_z → d_z < l → ¬ E i d_z)
theorem md_gen {s s' : cx_Sd 12} {ks ls : List (Fin 12)} {A : pm_A} {U : Int → Int} {E : Int → Int → Prop} (hg : Tru s ls A) (hE : ∀ i_z f_z : Fin 12, (i_z.1 : Int) < A 0 7 → (f_z.1 : Int) < A 0 7 → (E i_z.1 f_z.1 ↔ ∀ x_z, (cr_gp s'.b ks x_z).1 f_z = (cr_gp s.b ls x_z).1 i_z)) (hU : ∀ i_z j_z : Fin 12, (i_z.1 : Int) < A 0 7 + A 0 8 → (j_z.1 : Int) < A 0 7 → cr_bs s'.b ks i_z j_z = U (6 * (i_z.1 : Int) + (j_z.1 : Int))) : (∃ S_z : Int → Int, (∀ i_z : Int, 0 ≤ i_z → i_z < A 0 7 → ¬ S_z i_z = -1 ∧ lstE E i_z (A 0 7) (S_z i_z)) ∧ mtc (A 5) U S_z (A 0 7 + A 0 8) (A 0 7)) ↔ smS s ls s' ks (A 0 7 + A 0 8) (A 0 7) := by
  have pg := fM_0_7 hg.1 (r := 0) (by omega) km0
  have qg := fM_0_8 hg.1 (r := 0) (by omega) km0
  constructor
  · rintro ⟨S_z, hS_z, hT_z⟩
    have hb_z : ∀ i_z : Int, 0 ≤ i_z → i_z < A 0 7 → (0 ≤ S_z i_z ∧ S_z i_z < A 0 7) ∧ E i_z (S_z i_z) := fun i_z i0_z i1_z => by
      rcases hS_z i_z i0_z i1_z with ⟨h1, ⟨h2, _⟩ | ⟨h2, h3, _⟩⟩
      · exact absurd h2 h1
      · exact ⟨h2, h3⟩
    refine ⟨S_z, fun i_z hi_z => ?_, fun i_z j_z f_z q_z hi_z hj hf hq => ?_⟩
    · obtain ⟨h1, h2⟩ := hb_z i_z.1 (by omega) hi_z
      have hf : ((⟨(S_z i_z.1).toNat, by omega⟩ : Fin 12).1 : Int) = S_z i_z.1 := by show (((S_z i_z.1).toNat : Nat) : Int) = S_z i_z.1; omega
      refine ⟨⟨(S_z i_z.1).toNat, by omega⟩, ⟨hf, by rw [hf]; omega⟩, ?_⟩
      exact (hE _ _ hi_z (by rw [hf]; omega)).1 (by rw [hf]; exact h2)
    · have h1 := hT_z i_z.1 j_z.1 (by omega) hi_z (by omega) hj
      rw [(hg.2.2.1 i_z j_z hj).1 hi_z, hU f_z q_z ?_ ?_, h1, hf, hq]
      · rw [hf]
        unfold rwS
        by_cases q2_z : (i_z.1 : Int) < A 0 7
        · rw [if_pos q2_z]
          have := (hb_z i_z.1 (by omega) q2_z).1
          omega
        · rw [if_neg q2_z]; exact hi_z
      · rw [hq]
        have := (hb_z j_z.1 (by omega) hj).1
        omega
  · rintro ⟨S_z, hS_z, hT_z⟩
    have hS2 : ∀ i_z : Int, 0 ≤ i_z → i_z < A 0 7 → (0 ≤ S_z i_z ∧ S_z i_z < A 0 7) ∧ lstE E i_z (A 0 7) (S_z i_z) := fun i_z i0_z i1_z => by
      obtain ⟨w_z, hw⟩ : ∃ w_z : Fin 12, i_z = (w_z.1 : Int) := ⟨⟨i_z.toNat, by omega⟩, by show i_z = ((i_z.toNat : Nat) : Int); omega⟩
      rw [hw] at i1_z ⊢
      obtain ⟨f_z, ⟨hf, hfP⟩, hx⟩ := hS_z w_z i1_z
      rw [← hf]
      refine ⟨⟨by omega, hfP⟩, Or.inr ⟨⟨by omega, hfP⟩, (hE _ _ i1_z hfP).2 hx, fun d_z d0_z d1_z hl => ?_⟩⟩
      obtain ⟨u_z, hu⟩ : ∃ u_z : Fin 12, d_z = (u_z.1 : Int) := ⟨⟨d_z.toNat, by omega⟩, by show d_z = ((d_z.toNat : Nat) : Int); omega⟩
      rw [hu] at hl d0_z d1_z
      have hx2 := (hE _ _ i1_z d1_z).1 hl
      exact gp_ne s' ks (i := u_z) (j := f_z) (fun q_z => by rw [q_z] at d0_z; omega) (fun x_z => (hx2 x_z).trans (hx x_z).symm)
    refine ⟨S_z, fun i_z i0_z i1_z => ⟨by have := (hS2 i_z i0_z i1_z).1; omega, (hS2 i_z i0_z i1_z).2⟩, fun i_z j_z i0_z i1_z j0 j1 => ?_⟩
    obtain ⟨w_z, hw⟩ : ∃ w_z : Fin 12, i_z = (w_z.1 : Int) := ⟨⟨i_z.toNat, by omega⟩, by show i_z = ((i_z.toNat : Nat) : Int); omega⟩
    obtain ⟨u_z, hu⟩ : ∃ u_z : Fin 12, j_z = (u_z.1 : Int) := ⟨⟨j_z.toNat, by omega⟩, by show j_z = ((j_z.toNat : Nat) : Int); omega⟩
    have hr : 0 ≤ rwS (A 0 7) S_z i_z ∧ rwS (A 0 7) S_z i_z < A 0 7 + A 0 8 := by
      unfold rwS
      by_cases q2_z : i_z < A 0 7
      · rw [if_pos q2_z]
        have := (hS2 i_z i0_z q2_z).1
        omega
      · rw [if_neg q2_z]; exact ⟨i0_z, i1_z⟩
    have hs := (hS2 j_z j0 j1).1
    obtain ⟨f_z, hf⟩ : ∃ f_z : Fin 12, rwS (A 0 7) S_z i_z = (f_z.1 : Int) := ⟨⟨(rwS (A 0 7) S_z i_z).toNat, by omega⟩, by show rwS (A 0 7) S_z i_z = (((rwS (A 0 7) S_z i_z).toNat : Nat) : Int); omega⟩
    obtain ⟨q_z, hq⟩ : ∃ q_z : Fin 12, S_z j_z = (q_z.1 : Int) := ⟨⟨(S_z j_z).toNat, by omega⟩, by show S_z j_z = (((S_z j_z).toNat : Nat) : Int); omega⟩
    have h1 := hT_z w_z u_z f_z q_z (by rw [← hw]; exact i1_z) (by rw [← hu]; exact j1) (by rw [← hw, hf]) (by rw [← hu, hq])
    rw [(hg.2.2.1 w_z u_z (by rw [← hu]; exact j1)).1 (by rw [← hw]; exact i1_z), hU f_z q_z (by rw [← hf]; exact hr.2) (by rw [← hq]; omega)] at h1
    rw [hf, hq, hw, hu]
    exact h1
def ltM (B : pm_A) (p : Int) (f : Fun12) : Prop := cr_Shr (LSm B p) ∧ (1 ≤ (LSm B p).length ∧ ∀ y_z ∈ LSm B p, y_z.1 ≤ 1000000000000) ∧ ∀ x_z : cr_Pv 12, f x_z = cr_vl x_z.1 (LSm B p)
theorem ltM.like {B C : pm_A} {a b : Int} {f g : Fun12} (h1 : ltM B a f) (h2 : ltM C b g) : LSm B a = LSm C b ↔ f = g := by
  constructor
  · intro e_z
    refine funext fun x_z => ?_
    rw [h1.2.2 x_z, h2.2.2 x_z, e_z]
  · intro e_z
    refine cr_Shr.eq h1.1 h2.1 (cr_vl_unique (fun x_z => ?_))
    rw [← h1.2.2 x_z, ← h2.2.2 x_z, e_z]
theorem ltM.c {B C : pm_A} {a b : Int} {f : Fun12} (h : ltM B a f) (e : LSm C b = LSm B a) : ltM C b f := by
  unfold ltM
  rw [e]
  exact h
theorem Tru.ltM {s : cx_Sd 12} {p : List (Fin 12)} {B : pm_A} (h : Tru s p B) {i : Fin 12} (hi : (i.1 : Int) < B 0 7) : ltM B i.1 (gpf s p i) := by
  obtain ⟨a1_z, a2, a3⟩ := h.2.2.2.2.2.2 i hi
  refine ⟨shr_of a1_z a2, ⟨?_, fun y_z hy => ?_⟩, fun x_z => a3 x_z⟩
  · have h1 := h.one hi
    rw [LSm_len]
    omega
  · obtain ⟨q_z, q0, q1_z, rfl⟩ := mem_LSm hy
    exact (a2 q_z q0 q1_z).2
theorem ltM.cf {B : pm_A} {p : Int} {f : Fun12} (h : ltM B p f) : cfs B p := fun q_z q0 q1_z => by
  have hin := in_LSm (A := B) (p := p) q0 q1_z
  have h1 : 0 < B 2 (200 * p + q_z) := h.1.2 _ hin
  exact ⟨by omega, h.2.1.2 _ hin⟩
def gxL (B : pm_A) (La : List Fun12) : Prop := B 0 26 = (La.length : Int) ∧ (∀ (l : Nat) (f_z : Fun12), La[l]? = some f_z → ltM B (50 + (l : Int)) f_z) ∧ ∀ (l m_z : Nat) (f_z : Fun12), La[l]? = some f_z → La[m_z]? = some f_z → l = m_z
def gxI (s : cx_Sd 12) (B : pm_A) (La : List Fun12) (P c u : Int) (p : List (Fin 12)) : Prop := ∀ i_z : Fin 12, (i_z.1 : Int) < P → ∃ l : Nat, B c (u + (i_z.1 : Int)) = (l : Int) ∧ La[l]? = some (gpf s p i_z)
def gxS (s : cx_Sd 12) (P m : Int) (La : List Fun12) (Rh : List (List (Fin 12))) (B : pm_A) : Prop := (B 0 7 = P ∧ B 0 8 = m) ∧ gxL B La ∧ B 0 24 = (Rh.length : Int) ∧ ∀ (u_z : Nat) (p_z : List (Fin 12)), Rh[u_z]? = some p_z → TruX s p_z P m (fun j_z => B 18 (72 * (u_z : Int) + j_z)) (fun t_z => LSm B (50 + B 17 (6 * (u_z : Int) + t_z))) ∧ gxI s B La P 17 (6 * (u_z : Int)) p_z
theorem get_lt {α : Type} {L : List α} {n : Nat} {x : α} (h : L[n]? = some x) : n < L.length := (List.getElem?_eq_some_iff.mp h).1
theorem gxS.keep {s : cx_Sd 12} {P m : Int} {La : List Fun12} {Rh : List (List (Fin 12))} {B C : pm_A} (h : gxS s P m La Rh B) (hB : gH wM B) (e7 : C 0 7 = B 0 7) (e8 : C 0 8 = B 0 8) (e24 : C 0 24 = B 0 24) (e26 : C 0 26 = B 0 26) (e17 : ∀ j_z : Int, 0 ≤ j_z → C 17 j_z = B 17 j_z) (e18 : ∀ j_z : Int, 0 ≤ j_z → C 18 j_z = B 18 j_z) (hp : ∀ l : Int, 0 ≤ l → l < B 0 26 → ∀ r_z j_z, inS (50 + l) r_z j_z → C r_z j_z = B r_z j_z) : gxS s P m La Rh C := by
  obtain ⟨⟨h7, h8⟩, ⟨g1, g2, g3_z⟩, h24, hR⟩ := h
  have p26 := fM_0_26 hB (r := 0) (by omega) km0
  have ls : ∀ l : Nat, l < La.length → LSm C (50 + (l : Int)) = LSm B (50 + (l : Int)) := fun l hl => by
    have m1_z := eM_1 hB (r := 1) (by omega) kn1 (j := 50 + (l : Int)) (by omega) (by omega)
    exact LSm_same m1_z.2 (hp (l : Int) (by omega) (by omega))
  refine ⟨⟨by rw [e7]; exact h7, by rw [e8]; exact h8⟩, ⟨by rw [e26]; exact g1, fun l f_z hl => (g2 l f_z hl).c (ls l (get_lt hl)), g3_z⟩, by rw [e24]; exact h24, fun u_z p_z hu => ?_⟩
  obtain ⟨a1_z, a2⟩ := hR u_z p_z hu
  have p6_z := a1_z.1
  refine ⟨a1_z.congr (fun j_z j0 j1 => e18 _ (by omega)) (fun t_z t0_z t1_z => ?_), fun i_z hi_z => ?_⟩
  · obtain ⟨f_z, hf⟩ := fin_of t0_z t1_z (show P ≤ 12 by omega)
    obtain ⟨l, b1, b2⟩ := a2 f_z (by omega)
    show LSm C (50 + C 17 (6 * (u_z : Int) + t_z)) = LSm B (50 + B 17 (6 * (u_z : Int) + t_z))
    rw [e17 _ (by omega), hf, b1]
    exact ls l (get_lt b2)
  · obtain ⟨l, b1, b2⟩ := a2 i_z hi_z
    exact ⟨l, by rw [e17 _ (by omega)]; exact b1, b2⟩
theorem gxS.ext {s : cx_Sd 12} {P m : Int} {La : List Fun12} {Rh : List (List (Fin 12))} {B C : pm_A} {f : Fun12} (h : gxS s P m La Rh B) (hB : gH wM B) (e7 : C 0 7 = B 0 7) (e8 : C 0 8 = B 0 8) (e24 : C 0 24 = B 0 24) (e26 : C 0 26 = B 0 26 + 1) (e17 : ∀ j_z : Int, 0 ≤ j_z → C 17 j_z = B 17 j_z) (e18 : ∀ j_z : Int, 0 ≤ j_z → C 18 j_z = B 18 j_z) (hp : ∀ l : Int, 0 ≤ l → l < B 0 26 → ∀ r_z j_z, inS (50 + l) r_z j_z → C r_z j_z = B r_z j_z) (hn : ltM C (50 + B 0 26) f) (hf : ¬ f ∈ La) : gxS s P m (La ++ [f]) Rh C := by
  obtain ⟨⟨h7, h8⟩, ⟨g1, g2, g3_z⟩, h24, hR⟩ := h
  have p26 := fM_0_26 hB (r := 0) (by omega) km0
  have ls : ∀ l : Nat, l < La.length → LSm C (50 + (l : Int)) = LSm B (50 + (l : Int)) := fun l hl => by
    have m1_z := eM_1 hB (r := 1) (by omega) kn1 (j := 50 + (l : Int)) (by omega) (by omega)
    exact LSm_same m1_z.2 (hp (l : Int) (by omega) (by omega))
  have sp_z : ∀ (l : Nat) (g_z : Fun12), (La ++ [f])[l]? = some g_z → La[l]? = some g_z ∨ (l = La.length ∧ g_z = f) := fun l g_z hl => by
    by_cases w_z : l < La.length
    · rw [List.getElem?_append_left w_z] at hl; exact Or.inl hl
    · have h1 := get_lt hl
      rw [List.length_append, List.length_singleton] at h1
      have h2 : l = La.length := by omega
      rw [h2, List.getElem?_append_right (Nat.le_refl _), Nat.sub_self] at hl
      exact Or.inr ⟨h2, (Option.some.inj hl).symm⟩
  refine ⟨⟨by rw [e7]; exact h7, by rw [e8]; exact h8⟩, ⟨by rw [e26, g1, List.length_append, List.length_singleton]; omega, fun l g_z hl => ?_, fun l m_z g_z hl hm_z => ?_⟩, by rw [e24]; exact h24, fun u_z p_z hu => ?_⟩
  · rcases sp_z l g_z hl with h1 | ⟨h1, h2⟩
    · exact (g2 l g_z h1).c (ls l (get_lt h1))
    · rw [h1, h2, ← g1]; exact hn
  · rcases sp_z l g_z hl with h1 | ⟨h1, h2⟩
    · rcases sp_z m_z g_z hm_z with h3 | ⟨h3, h4⟩
      · exact g3_z l m_z g_z h1 h3
      · exact absurd (by rw [← h4]; exact List.mem_of_getElem? h1) hf
    · rcases sp_z m_z g_z hm_z with h3 | ⟨h3, h4⟩
      · exact absurd (by rw [← h2]; exact List.mem_of_getElem? h3) hf
      · omega
  · obtain ⟨a1_z, a2⟩ := hR u_z p_z hu
    have p6_z := a1_z.1
    refine ⟨a1_z.congr (fun j_z j0 j1 => e18 _ (by omega)) (fun t_z t0_z t1_z => ?_), fun i_z hi_z => ?_⟩
    · obtain ⟨f_z, hf⟩ := fin_of t0_z t1_z (show P ≤ 12 by omega)
      obtain ⟨l, b1, b2⟩ := a2 f_z (by omega)
      show LSm C (50 + C 17 (6 * (u_z : Int) + t_z)) = LSm B (50 + B 17 (6 * (u_z : Int) + t_z))
      rw [e17 _ (by omega), hf, b1]
      exact ls l (get_lt b2)
    · obtain ⟨l, b1, b2⟩ := a2 i_z hi_z
      exact ⟨l, by rw [e17 _ (by omega)]; exact b1, by rw [List.getElem?_append_left (get_lt b2)]; exact b2⟩
theorem gxS.add {s : cx_Sd 12} {P m : Int} {La : List Fun12} {Rh : List (List (Fin 12))} {B C : pm_A} {p : List (Fin 12)} (h : gxS s P m La Rh B) (hT : Tru s p B) (hth : gxI s B La P 23 0 p) (hC : cmF B C) (e24 : C 0 24 = B 0 24 + 1) (n17 : ∀ t_z : Int, 0 ≤ t_z → t_z < B 0 7 → C 17 (6 * B 0 24 + t_z) = B 23 t_z) (n18 : ∀ j_z : Int, 0 ≤ j_z → j_z < 72 → C 18 (72 * B 0 24 + j_z) = B 5 j_z) : gxS s P m La (Rh ++ [p]) C := by
  obtain ⟨⟨h7, h8⟩, ⟨g1, g2, g3_z⟩, h24, hR⟩ := h
  have p24 := fM_0_24 hT.1 (r := 0) (by omega) km0
  have ls : ∀ p_z : Int, LSm C p_z = LSm B p_z := fun p_z => LSm_ext (hC.2.1 1 _ (by omega) (by omega) (by omega)) (fun q_z v_z q0 q1_z v0_z v1_z => ⟨hC.2.1 2 _ (by omega) (by omega) (by omega), hC.2.1 3 _ (by omega) (by omega) (by omega)⟩)
  refine ⟨⟨by rw [hC.2.1 0 7 (by omega) (by omega) (by omega)]; exact h7, by rw [hC.2.1 0 8 (by omega) (by omega) (by omega)]; exact h8⟩, ⟨by rw [hC.2.1 0 26 (by omega) (by omega) (by omega)]; exact g1, fun l f_z hl => (g2 l f_z hl).c (ls _), g3_z⟩, by rw [e24, h24, List.length_append, List.length_singleton]; omega, fun u_z p_z hu => ?_⟩
  by_cases w_z : u_z < Rh.length
  · rw [List.getElem?_append_left w_z] at hu
    obtain ⟨a1_z, a2⟩ := hR u_z p_z hu
    have p6_z := a1_z.1
    have c17 : ∀ t_z : Int, t_z < 6 → C 17 (6 * (u_z : Int) + t_z) = B 17 (6 * (u_z : Int) + t_z) := fun t_z ht => hC.2.2.1 _ (by omega)
    refine ⟨a1_z.congr (fun j_z j0 j1 => hC.2.2.2 _ (by omega)) (fun t_z t0_z t1_z => ?_), fun i_z hi_z => ?_⟩
    · show LSm C (50 + C 17 (6 * (u_z : Int) + t_z)) = LSm B (50 + B 17 (6 * (u_z : Int) + t_z))
      rw [ls, c17 t_z (by omega)]
    · rw [c17 _ (by omega)]
      exact a2 i_z hi_z
  · have h1 := get_lt hu
    rw [List.length_append, List.length_singleton] at h1
    have h2 : u_z = Rh.length := by omega
    rw [h2, List.getElem?_append_right (Nat.le_refl _), Nat.sub_self] at hu
    have h3 : p = p_z := Option.some.inj hu
    rw [← h3, h2, ← h24]
    have hx := hT.x
    rw [h7, h8] at hx
    have p6_z := hx.1
    refine ⟨hx.congr (fun j_z j0 j1 => n18 j_z j0 j1) (fun t_z t0_z t1_z => ?_), fun i_z hi_z => ?_⟩
    · obtain ⟨f_z, hf⟩ := fin_of t0_z t1_z (show P ≤ 12 by omega)
      obtain ⟨l, b1, b2⟩ := hth f_z (by omega)
      show LSm C (50 + C 17 (6 * B 0 24 + t_z)) = LSm B t_z
      rw [ls, n17 t_z t0_z (by omega), hf]
      rw [Int.zero_add] at b1
      rw [b1]
      exact ((g2 l _ b2).like (hT.ltM (by omega))).2 rfl
    · obtain ⟨l, b1, b2⟩ := hth i_z hi_z
      rw [Int.zero_add] at b1
      exact ⟨l, by rw [n17 _ (by omega) (by omega)]; exact b1, b2⟩
theorem th_iff {s : cx_Sd 12} {P m : Int} {La : List Fun12} {Rh : List (List (Fin 12))} {B : pm_A} {p q : List (Fin 12)} {u : Nat} (h : gxS s P m La Rh B) (hT : Tru s p B) (hth : gxI s B La P 23 0 p) (hu : Rh[u]? = some q) : thM B (u : Int) ↔ smS s p s q (P + m) P := by
  obtain ⟨⟨h7, h8⟩, ⟨g1, g2, g3_z⟩, h24, hR⟩ := h
  obtain ⟨a1_z, a2⟩ := hR u q hu
  have hr := md_gen (s' := s) (ks := q) (U := fun x_z => B 18 (72 * (u : Int) + x_z)) (E := fun i_z d_z => B 17 (6 * (u : Int) + d_z) = B 23 i_z) hT (fun i_z f_z hi_z hf => ?_) (fun i_z j_z hi_z hj => ?_)
  · rw [h7, h8] at hr
    rw [← hr]
    unfold thM
    rw [h7, h8]
    exact Iff.rfl
  · obtain ⟨l, b1, b2⟩ := hth i_z (by omega)
    obtain ⟨k_z, c1_z, c2_z⟩ := a2 f_z (by omega)
    rw [Int.zero_add] at b1
    show B 17 (6 * (u : Int) + (f_z.1 : Int)) = B 23 (i_z.1 : Int) ↔ _
    rw [b1, c1_z]
    constructor
    · intro e_z x_z
      have e2 : k_z = l := by omega
      rw [e2, b2] at c2_z
      exact (congrFun (Option.some.inj c2_z) x_z).symm
    · intro e_z
      have e2 : gpf s q f_z = gpf s p i_z := funext fun x_z => e_z x_z
      rw [e2] at c2_z
      have := g3_z k_z l _ c2_z b2
      omega
  · exact (a1_z.2.2.1 i_z j_z (by omega)).1 (by omega)
theorem gxS.mem {s : cx_Sd 12} {P m : Int} {La : List Fun12} {Rh : List (List (Fin 12))} {B : pm_A} (h : gxS s P m La Rh B) {q : List (Fin 12)} (hq : q ∈ Rh) {i : Fin 12} (hi : (i.1 : Int) < P) : gpf s q i ∈ La := by
  obtain ⟨u_z, hu⟩ := List.mem_iff_getElem?.1 hq
  obtain ⟨l, _, b2⟩ := (h.2.2.2 u_z q hu).2 i hi
  exact List.mem_of_getElem? b2
def gzP (s : cx_Sd 12) (P m : Int) (Z : Option (List Fun12 × List (List (Fin 12))) → Prop) (A : pm_A) (r : pm_R) : Prop := gtF A r.2 ∧ ((r.1 = some (0, 0) ∧ Z none) ∨ (r.1 = some (0, 1) ∧ ∃ (La_z : List Fun12) (Rh : List (List (Fin 12))), Z (some (La_z, Rh)) ∧ gxS s P m La_z Rh r.2 ∧ La_z.length ≤ 100))
theorem bo_gtF {A B C : pm_A} (hF : gtF A B) (hC : boF B C) : gtF A C := hF.tr ⟨hC.1, fun r_z j_z r0 r1_z j0 j1 a1_z a2 a3 => hC.2 r_z j_z a2.2.2.2.1⟩
theorem gy_137 {s : cx_Sd 12} {P m : Int} {Z : Option (List Fun12 × List (List (Fin 12))) → Prop} {La L2 : List Fun12} {Rh : List (List (Fin 12))} {A B : pm_A} {u k d : Int} {p : List (Fin 12)} {f : Fin 12} (hF : gtF A B) (hS : gxS s P m L2 Rh B) (hT : Tru s (p ++ [f]) B) (hth : gxI s B L2 P 23 0 (p ++ [f])) (hok : okS s p (P + m) P f) (hf : (f.1 : Int) < P) (hL2 : (L2 = La ∧ gpf s (p ++ [f]) f ∈ La) ∨ (L2 = La ++ [gpf s (p ++ [f]) f] ∧ ¬ gpf s (p ++ [f]) f ∈ La)) (hin : ∀ q_z ∈ Rh, ∀ i_z : Fin 12, (i_z.1 : Int) < P → gpf s q_z i_z ∈ La) (hl : La.length ≤ 100) (hd : d = (La.length : Int)) (k0 : 0 ≤ k) (k1 : k ≤ 5) (HN : stepA s (P + m) P La Rh p f none → Z none) (H : ∀ (C_z : pm_A) (L3_z : List Fun12) (R3 : List (List (Fin 12))) (w3_z w4_z : pm_V), gtF A C_z → gxS s P m L3_z R3 C_z → L3_z.length ≤ 100 → stepA s (P + m) P La Rh p f (some (L3_z, R3)) → Tm pmt (an_sh wM) o_X10_goesThrough 58 ([(2, 0), (0, u), (0, k + 1), w3_z, w4_z], [], C_z) (gzP s P m Z A)) (w4 : pm_V) : Tm pmt (an_sh wM) o_X10_goesThrough 137 ([(2, 0), (0, u), (0, k), (0, d), w4], [], B) (gzP s P m Z A) := by
  have p6_z := fM_0_7 hF.1 (r := 0) (by omega) km0
  have h26 := hS.2.1.1
  have h24 := hS.2.2.1
  have p24 := fM_0_24 hF.1 (r := 0) (by omega) km0
  have h164 : ∀ (C_z : pm_A) (L3_z : List Fun12) (R3 : List (List (Fin 12))), gtF A C_z → gxS s P m L3_z R3 C_z → L3_z.length ≤ 100 → stepA s (P + m) P La Rh p f (some (L3_z, R3)) → Tm pmt (an_sh wM) o_X10_goesThrough 164 ([(2, 0), (0, u), (0, k), (0, d), w4], [], C_z) (gzP s P m Z A) := fun C_z L3_z R3 h1 h2 h3 h4 => by
    refine wq_ok srt_goesThrough (fr := []) (cuts := [58]) (J := fun pc st_z => (pc = 58 ∧ st_z = ([(2, 0), (0, u), (0, k + 1), (0, d), w4], [], C_z))) ?_ 7 164 _ ?_
    · rintro pc st_z (⟨rfl, rfl⟩)
      exact H C_z L3_z R3 _ _ h1 h2 h3 h4
    · refine ⟨⟨by omega, by omega⟩, ?_⟩
      exact ⟨rfl, rfl⟩
  have h155 : ∀ B_z, gtF A B_z → gxS s P m L2 Rh B_z → Tru s (p ++ [f]) B_z → gxI s B_z L2 P 23 0 (p ++ [f]) → (¬ ∃ q_z ∈ Rh, smS s (p ++ [f]) s q_z (P + m) P) → Tm pmt (an_sh wM) o_X10_goesThrough 155 ([(2, 0), (0, u), (0, k), (0, d), w4], [], B_z) (gzP s P m Z A) := fun B_z hF hS hT hth hno => by
    have e26_z := hS.2.1.1
    have e24_z := hS.2.2.1
    have p26 := fM_0_26 hF.1 (r := 0) (by omega) km0
    have p24 := fM_0_24 hF.1 (r := 0) (by omega) km0
    have e7_z := hS.1.1
    refine wq_ok srt_goesThrough (fr := []) (cuts := [159]) (J := fun pc st_z => (pc = 159 ∧ ∃ C_z y_z, gtF A C_z ∧ ((y_z = 0 ∧ stepA s (P + m) P La Rh p f none) ∨ (y_z = 1 ∧ ∃ (L3_z : List Fun12) (R3 : List (List (Fin 12))), gxS s P m L3_z R3 C_z ∧ L3_z.length ≤ 100 ∧ stepA s (P + m) P La Rh p f (some (L3_z, R3)))) ∧ st_z = ([(2, 0), (0, u), (0, k), (0, d), w4], [(0, y_z)], C_z))) ?_ 6 155 _ ?_
    · rintro pc st_z (⟨rfl, C_z, y_z, hCF, hy, rfl⟩)
      refine wq_ok srt_goesThrough (fr := []) (cuts := [164]) (J := fun pc st_z => (pc = 164 ∧ (¬ y_z = 0) ∧ st_z = ([(2, 0), (0, u), (0, k), (0, d), w4], [], C_z))) ?_ 7 159 _ ?_
      · rintro pc st_z (⟨rfl, h0, rfl⟩)
        rcases hy with h1 | ⟨_, L3_z, R3, h1, h2, h3⟩
        · exact absurd h1.1 h0
        · exact h164 C_z L3_z R3 hCF h1 h2 h3
      · refine ⟨fun h0 => ?_, fun h0 => ?_⟩
        · exact ⟨rfl, h0, rfl⟩
        · refine ⟨rfl, hCF, Or.inl ⟨rfl, HN ?_⟩⟩
          rcases hy with h1 | h1
          · exact h1.2
          · omega
    · refine ⟨rM_0 (by omega) km0, ?_⟩
      refine (comes_exq hF.1 (fun t_z t0_z t1_z => ?_)).imp ?_
      · obtain ⟨g_z, hg⟩ := fin_of t0_z t1_z (show B_z 0 7 ≤ 12 by have := fM_0_7 hF.1 (r := 0) (by omega) km0; omega)
        obtain ⟨l, b1, b2⟩ := hth g_z (by omega)
        have b3 := get_lt b2
        rw [Int.zero_add] at b1
        rw [hg, b1]
        omega
      · rintro ⟨r1_z, C_z⟩ ⟨q1_z, q2_z⟩
        simp only at q1_z q2_z
        rcases q2_z with ⟨q2_z, q3_z⟩ | ⟨q2_z, q3_z, q4_z, q5_z, q6_z, q7_z⟩
        · subst q2_z
          refine ⟨rfl, C_z, 0, hF.tr (cm_gtF q1_z), Or.inl ⟨rfl, Or.inr (Or.inr ⟨hok, hno, ?_⟩)⟩, rfl⟩
          by_cases w_z : Rh.length < 150
          · rcases q3_z with h1 | h1
            · omega
            · rcases hL2 with ⟨e_z, _⟩ | ⟨e_z, hn⟩
              · rw [e_z] at e26_z
                omega
              · rw [e_z, List.length_append, List.length_singleton] at e26_z
                exact Or.inr (Or.inr (Or.inl ⟨hn, by omega, rfl⟩))
          · exact Or.inl ⟨w_z, rfl⟩
        · subst q2_z
          have h150 : Rh.length < 150 := by omega
          have hl2 : L2.length ≤ 100 := by omega
          refine ⟨rfl, C_z, 1, hF.tr (cm_gtF q1_z), Or.inr ⟨rfl, L2, Rh ++ [p ++ [f]], hS.add hT hth q1_z q4_z q6_z q7_z, hl2, Or.inr (Or.inr ⟨hok, hno, ?_⟩)⟩, rfl⟩
          rcases hL2 with ⟨e_z, hm_z⟩ | ⟨e_z, hn⟩
          · rw [e_z]
            exact Or.inr (Or.inl ⟨hm_z, h150, rfl⟩)
          · rw [e_z]
            rw [e_z, List.length_append, List.length_singleton] at hl2
            exact Or.inr (Or.inr (Or.inr ⟨hn, by omega, h150, rfl⟩))
  refine wq_ok srt_goesThrough (fr := []) (cuts := [149, 155]) (J := fun pc st_z => (pc = 155 ∧ (¬ (B 0 26) = d) ∧ st_z = ([(2, 0), (0, u), (0, k), (0, d), w4], [], B)) ∨ (pc = 149 ∧ B 0 26 = d ∧ ∃ C_z y_z, thQ B (some (0, y_z), C_z) ∧ st_z = ([(2, 0), (0, u), (0, k), (0, d), w4], [(0, y_z)], C_z))) ?_ 10 137 _ ?_
  · rintro pc st_z (⟨rfl, h0, rfl⟩ | ⟨rfl, hbe, C_z, y_z, ⟨hC, hy⟩, rfl⟩)
    · rcases hL2 with ⟨e_z, _⟩ | ⟨e_z, hn⟩
      · exact absurd (by rw [h26, hd, e_z]) h0
      · refine h155 B hF hS hT hth (fun ⟨q_z, hq, S_z, hS1, _⟩ => hn ?_)
        obtain ⟨g_z, hg, hx⟩ := hS1 f hf
        have e2 : gpf s (p ++ [f]) f = gpf s q_z g_z := funext fun x_z => (hx x_z).symm
        rw [e2]
        exact hin q_z hq g_z hg.2
    · simp only at hC hy
      have hf2 : ∀ r_z j_z : Int, ¬ r_z = 16 → C_z r_z j_z = B r_z j_z := hC.2
      have hCS : gxS s P m L2 Rh C_z := hS.keep hF.1 (hf2 0 7 (by omega)) (hf2 0 8 (by omega)) (hf2 0 24 (by omega)) (hf2 0 26 (by omega)) (fun j_z _ => hf2 17 j_z (by omega)) (fun j_z _ => hf2 18 j_z (by omega)) (fun l l0 l1 r_z j_z hr => hf2 r_z j_z (by unfold inS at hr; omega))
      have hCT : Tru s (p ++ [f]) C_z := hT.same hC.1 (hf2 0 7 (by omega)) (hf2 0 8 (by omega)) (fun j_z _ _ => hf2 5 j_z (by omega)) (fun p_z p0_z p1_z r_z j_z hr => hf2 r_z j_z (by unfold inS at hr; omega))
      have hCth : gxI s C_z L2 P 23 0 (p ++ [f]) := fun i_z hi_z => by
        rw [hf2 23 _ (by omega)]
        exact hth i_z hi_z
      have hLe : L2 = La := by
        rcases hL2 with ⟨e_z, _⟩ | ⟨e_z, _⟩
        · exact e_z
        · exfalso
          rw [e_z, List.length_append, List.length_singleton] at h26
          omega
      have hy2 : (y_z = 1 ∧ ∃ q_z ∈ Rh, smS s (p ++ [f]) s q_z (P + m) P) ∨ (y_z = 0 ∧ ¬ ∃ q_z ∈ Rh, smS s (p ++ [f]) s q_z (P + m) P) := by
        rcases hy with ⟨e_z, u_z, hu, ht⟩ | ⟨e_z, hn⟩
        · cases e_z
          have hlt : u_z.toNat < Rh.length := by omega
          have hget_z : Rh[u_z.toNat]? = some (Rh[u_z.toNat]'hlt) := List.getElem?_eq_getElem hlt
          refine Or.inl ⟨rfl, _, List.mem_of_getElem? hget_z, (th_iff hS hT hth hget_z).1 ?_⟩
          rw [Int.toNat_of_nonneg hu.1]
          exact ht
        · cases e_z
          refine Or.inr ⟨rfl, fun ⟨q_z, hq, hsm⟩ => ?_⟩
          obtain ⟨v_z, hv⟩ := List.mem_iff_getElem?.1 hq
          have hlt := get_lt hv
          exact hn (v_z : Int) (by omega) (by omega) ((th_iff hS hT hth hv).2 hsm)
      refine wq_ok srt_goesThrough (fr := []) (cuts := [155, 164]) (J := fun pc st_z => (pc = 155 ∧ (y_z = 0) ∧ st_z = ([(2, 0), (0, u), (0, k), (0, d), w4], [], C_z)) ∨ (pc = 164 ∧ (¬ y_z = 0) ∧ st_z = ([(2, 0), (0, u), (0, k), (0, d), w4], [], C_z))) ?_ 7 149 _ ?_
      · rintro pc st_z (⟨rfl, h0, rfl⟩ | ⟨rfl, h0, rfl⟩)
        · refine h155 C_z (bo_gtF hF hC) hCS hCT hCth ?_
          rcases hy2 with h1 | h1
          · omega
          · exact h1.2
        · rcases hy2 with h1 | h1
          · rw [hLe] at hCS
            exact h164 C_z La Rh (bo_gtF hF hC) hCS hl (Or.inr (Or.inl ⟨hok, h1.2, rfl⟩))
          · exact absurd h1.1 h0
      · refine ⟨fun h0 => ?_, fun h0 => ?_⟩
        · exact Or.inl (⟨rfl, h0, rfl⟩)
        · exact Or.inr (⟨rfl, h0, rfl⟩)
  · refine ⟨oM_0 (by omega) km0 26 rfl, ?_⟩
    refine ⟨fun h0 => ?_, fun h0 => ?_⟩
    · exact Or.inl (⟨rfl, h0, rfl⟩)
    · refine ⟨rM_0 (by omega) km0, ?_⟩
      refine (isThere_exq hF.1).imp ?_
      rintro ⟨r1_z, C_z⟩ hq
      obtain ⟨y_z, hy⟩ : ∃ y_z, r1_z = some (0, y_z) := by
        rcases hq.2 with h1 | h1
        · exact ⟨1, h1.1⟩
        · exact ⟨0, h1.1⟩
      subst hy
      exact Or.inr (⟨rfl, h0, C_z, y_z, hq, rfl⟩)
end

section
/-! the reference's goesThrough: its loops -/
theorem gpf_o {s : cx_Sd 12} {p : List (Fin 12)} {f i : Fin 12} (h : ¬ i = f) : gpf s (p ++ [f]) i = gpf s p i := by
  refine funext fun x_z => ?_
  show (cr_gp s.b (p ++ [f]) x_z).1 i = (cr_gp s.b p x_z).1 i
  rw [cr_gp_snoc]
  exact cr_step_ne _ _ h
def h9L (s : cx_Sd 12) (p : List (Fin 12)) (f : Fin 12) (D B : pm_A) (La L2 : List Fun12) (i : Int) : Prop := gH wM B ∧ (∀ r_z j_z, ¬ inS (50 + D 0 26) r_z j_z → r_z ≠ 23 → ¬ (r_z = 0 ∧ j_z = 26) → B r_z j_z = D r_z j_z) ∧ B 0 26 = (L2.length : Int) ∧ ((i ≤ (f.1 : Int) ∧ L2 = La) ∨ ((f.1 : Int) < i ∧ ((L2 = La ∧ gpf s (p ++ [f]) f ∈ La) ∨ (L2 = La ++ [gpf s (p ++ [f]) f] ∧ (¬ gpf s (p ++ [f]) f ∈ La) ∧ ltM B (50 + D 0 26) (gpf s (p ++ [f]) f))))) ∧ ∀ t_z : Fin 12, (t_z.1 : Int) < i → ∃ l : Nat, B 23 (t_z.1 : Int) = (l : Int) ∧ L2[l]? = some (gpf s (p ++ [f]) t_z)
theorem gy_89 {s : cx_Sd 12} {P m : Int} {Z : Option (List Fun12 × List (List (Fin 12))) → Prop} {La : List Fun12} {Rh : List (List (Fin 12))} {A D : pm_A} {u : Nat} {p : List (Fin 12)} {f : Fin 12} (hF : gtF A D) (hS : gxS s P m La Rh D) (hT : Tru s (p ++ [f]) D) (hok : okS s p (P + m) P f) (hf : (f.1 : Int) < P) (hu : Rh[u]? = some p) (hl : La.length ≤ 100) (u1 : u < 150) (HN : stepA s (P + m) P La Rh p f none → Z none) (H : ∀ (C_z : pm_A) (L3_z : List Fun12) (R3 : List (List (Fin 12))) (w3_z w4_z : pm_V), gtF A C_z → gxS s P m L3_z R3 C_z → L3_z.length ≤ 100 → stepA s (P + m) P La Rh p f (some (L3_z, R3)) → Tm pmt (an_sh wM) o_X10_goesThrough 58 ([(2, 0), (0, (u : Int)), (0, (f.1 : Int) + 1), w3_z, w4_z], [], C_z) (gzP s P m Z A)) : ∀ (n_z : Nat) (i_z : Int) (B_z : pm_A) (L2_z : List Fun12), (6 - i_z).toNat < n_z → 0 ≤ i_z → i_z ≤ P → h9L s p f D B_z La L2_z i_z → Tm pmt (an_sh wM) o_X10_goesThrough 89 ([(2, 0), (0, (u : Int)), (0, (f.1 : Int)), (0, (La.length : Int)), (0, i_z)], [], B_z) (gzP s P m Z A) := by
  have p7_z := fM_0_7 hF.1 (r := 0) (by omega) km0
  have hP := hS.1.1
  have d26_z := hS.2.1.1
  have hI := (hS.2.2.2 u p hu).2
  intro n_z
  induction n_z with
  | zero => intro i_z B_z L2_z h_z; omega
  | succ n_z ih_z =>
    intro i_z B_z L2_z hn i0_z i1_z hB_z
    obtain ⟨g1, g2, g3_z, g4, g5_z⟩ := hB_z
    have c35_z := pM_35 g1
    have c27_z := pM_27 g1
    have fd_z : ∀ j_z : Int, j_z ≠ 26 → B_z 0 j_z = D 0 j_z := fun j_z hj => g2 0 j_z (by unfold inS; omega) (by omega) (by omega)
    have e7_z := fd_z 7 (by omega)
    have e17_z : ∀ j_z : Int, B_z 17 j_z = D 17 j_z := fun j_z => g2 17 j_z (by unfold inS; omega) (by omega) (by omega)
    have e18_z : ∀ j_z : Int, B_z 18 j_z = D 18 j_z := fun j_z => g2 18 j_z (by unfold inS; omega) (by omega) (by omega)
    have hsl : ∀ p_z : Int, p_z ≠ 50 + D 0 26 → ∀ r_z j_z, inS p_z r_z j_z → B_z r_z j_z = D r_z j_z := fun p_z hp r_z j_z hr => g2 r_z j_z (by unfold inS at *; omega) (by unfold inS at hr; omega) (by unfold inS at hr; omega)
    have hend : P ≤ i_z → Tm pmt (an_sh wM) o_X10_goesThrough 137 ([(2, 0), (0, (u : Int)), (0, (f.1 : Int)), (0, (La.length : Int)), (0, i_z)], [], B_z) (gzP s P m Z A) := fun hi_z => by
      have hBF : gtF A B_z := hF.tr ⟨g1, fun r_z j_z r0 r1_z j0 j1 a1_z a2 a3 => g2 r_z j_z (a1_z _ (by omega)) a2.2.2.2.2.2.2 (fun e_z => a3 ⟨e_z.1, by omega⟩)⟩
      have hBT : Tru s (p ++ [f]) B_z := hT.same g1 e7_z (fd_z 8 (by omega)) (fun j_z j0 _ => g2 5 j_z (by unfold inS; omega) (by omega) (by omega)) (fun p_z p0_z p1_z r_z j_z hr => hsl p_z (by omega) r_z j_z hr)
      rcases g4 with g4 | ⟨_, g4⟩
      · omega
      have hBS : gxS s P m L2_z Rh B_z := by
        rcases g4 with ⟨e_z, _⟩ | ⟨e_z, hn2, hlt⟩
        · rw [e_z]
          rw [e_z] at g3_z
          exact hS.keep hF.1 e7_z (fd_z 8 (by omega)) (fd_z 24 (by omega)) (by omega) (fun j_z _ => e17_z j_z) (fun j_z _ => e18_z j_z) (fun l l0 l1 r_z j_z hr => hsl _ (by omega) r_z j_z hr)
        · rw [e_z]
          rw [e_z, List.length_append, List.length_singleton] at g3_z
          exact hS.ext hF.1 e7_z (fd_z 8 (by omega)) (fd_z 24 (by omega)) (by omega) (fun j_z _ => e17_z j_z) (fun j_z _ => e18_z j_z) (fun l l0 l1 r_z j_z hr => hsl _ (by omega) r_z j_z hr) hlt hn2
      exact gy_137 hBF hBS hBT (fun t_z ht => by rw [Int.zero_add]; exact g5_z t_z (by omega)) hok hf (g4.imp id (fun e_z => ⟨e_z.1, e_z.2.1⟩)) (fun q_z hq j_z hj => hS.mem hq hj) hl rfl (by omega) (by omega) HN H _
    refine wq_ok srt_goesThrough (fr := []) (cuts := [89, 115, 137]) (J := fun pc st_z => (pc = 137 ∧ (B_z 0 7 ≤ i_z) ∧ st_z = ([(2, 0), (0, (u : Int)), (0, (f.1 : Int)), (0, (La.length : Int)), (0, i_z)], [], B_z)) ∨ (pc = 89 ∧ (i_z < B_z 0 7) ∧ (¬ i_z = (f.1 : Int)) ∧ st_z = ([(2, 0), (0, (u : Int)), (0, (f.1 : Int)), (0, (La.length : Int)), (0, i_z + 1)], [], pm_upd B_z (B_z 0 35) i_z (B_z (B_z 0 27) ((6 * (u : Int)) + i_z)))) ∨ (pc = 115 ∧ i_z < B_z 0 7 ∧ i_z = (f.1 : Int) ∧ ∃ C_z l, lo3 B_z (f.1 : Int) (some (0, l), C_z) ∧ st_z = ([(2, 0), (0, (u : Int)), (0, (f.1 : Int)), (0, (La.length : Int)), (0, i_z)], [(0, l), (0, i_z), (2, B_z 0 35)], C_z))) ?_ 30 89 _ ?_
    · rintro pc st_z (⟨rfl, h0, rfl⟩ | ⟨rfl, h0, h1, rfl⟩ | ⟨rfl, h0, hik, C_z, l, hlo, rfl⟩)
      · exact hend (by omega)
      · rw [c35_z, c27_z, e17_z]
        obtain ⟨t_z, ht⟩ := fin_of i0_z (show i_z < P by omega) (by omega)
        obtain ⟨l, b1, b2⟩ := hI t_z (by omega)
        rw [ht, b1]
        have hl2 := get_lt b2
        have u26 : ∀ x_z : Int, pm_upd B_z 23 x_z (l : Int) 0 26 = B_z 0 26 := fun x_z => upd_o (by omega)
        have hu2 : ∀ x_z p_z : Int, LSm (pm_upd B_z 23 x_z (l : Int)) p_z = LSm B_z p_z := fun x_z p_z => LSm_ext (upd_o (by omega)) (fun q_z v_z q0 q1_z v0_z v1_z => ⟨upd_o (by omega), upd_o (by omega)⟩)
        have htf : ¬ t_z = f := fun e_z => h1 (by rw [ht, e_z])
        refine ih_z ((t_z.1 : Int) + 1) _ L2_z (by omega) (by omega) (by omega) ⟨uM_23 g1 kn23 (by omega) (by omega), fun r_z j_z a1_z a2 a3 => by rw [upd_o (by omega)]; exact g2 r_z j_z a1_z a2 a3, by rw [u26]; exact g3_z, ?_, fun v_z hv => ?_⟩
        · rcases g4 with ⟨a1_z, a2⟩ | ⟨a1_z, a2⟩
          · exact Or.inl ⟨by omega, a2⟩
          · refine Or.inr ⟨by omega, a2.imp id (fun e_z => ⟨e_z.1, e_z.2.1, e_z.2.2.c (hu2 _ _)⟩)⟩
        · by_cases e_z : v_z = t_z
          · rw [e_z, upd_at, gpf_o htf]
            refine ⟨l, rfl, ?_⟩
            rcases g4 with ⟨_, a2⟩ | ⟨_, ⟨a2, _⟩ | ⟨a2, _⟩⟩
            · rw [a2]; exact b2
            · rw [a2]; exact b2
            · rw [a2, List.getElem?_append_left hl2]; exact b2
          · have e2 : ¬ (v_z.1 : Int) = (t_z.1 : Int) := fun w_z => e_z (Fin.ext (by omega))
            rw [upd_o (by omega)]
            exact g5_z v_z (by omega)
      · refine wq_ok srt_goesThrough (fr := []) (cuts := [89]) (J := fun pc st_z => (pc = 89 ∧ st_z = ([(2, 0), (0, (u : Int)), (0, (f.1 : Int)), (0, (La.length : Int)), (0, i_z + 1)], [], pm_upd C_z (B_z 0 35) i_z l))) ?_ 9 115 _ ?_
        · rintro pc st_z (⟨rfl, rfl⟩)
          rw [c35_z]
          have w1_y : (6 - (i_z + 1)).toNat < n_z := by omega
          have w2_y : 0 ≤ i_z + 1 := by omega
          have w3_y : i_z + 1 ≤ P := by omega
          have e0_z : L2_z = La := by
            rcases g4 with g4 | g4
            · exact g4.2
            · omega
          rw [e0_z] at g3_z g5_z
          have b26 : B_z 0 26 = D 0 26 := by omega
          have hfB : LSm B_z (f.1 : Int) = LSm D (f.1 : Int) := by
            have m2_z := eM_1 hF.1 (r := 1) (by omega) kn1 (j := (f.1 : Int)) (by omega) (by omega)
            exact LSm_same m2_z.2 (hsl _ (by omega))
          have hg : ltM B_z (f.1 : Int) (gpf s (p ++ [f]) f) := (hT.ltM (by omega)).c hfB
          have hlB : ∀ (n_z : Nat) (h_z : Fun12), La[n_z]? = some h_z → ltM B_z (50 + (n_z : Int)) h_z := fun n_z h_z hn2 => by
            have hn3 := get_lt hn2
            have m2_z := eM_1 hF.1 (r := 1) (by omega) kn1 (j := 50 + (n_z : Int)) (by omega) (by omega)
            exact (hS.2.1.2.1 n_z h_z hn2).c (LSm_same m2_z.2 (hsl _ (by omega)))
          have hu2 : ∀ (x_z : Int) (p_z : Int), LSm (pm_upd C_z 23 x_z l) p_z = LSm C_z p_z := fun x_z p_z => LSm_ext (upd_o (by omega)) (fun q_z v_z q0 q1_z v0_z v1_z => ⟨upd_o (by omega), upd_o (by omega)⟩)
          obtain ⟨⟨l', q1_z, q2_z, q3_z, q4_z, q5_z, q6_z⟩, q7_z⟩ := hlo
          simp only at q1_z q2_z q3_z q4_z q5_z q6_z q7_z
          cases q1_z
          have key_z : ∃ L3_z : List Fun12, C_z 0 26 = (L3_z.length : Int) ∧ ((L3_z = La ∧ gpf s (p ++ [f]) f ∈ La) ∨ (L3_z = La ++ [gpf s (p ++ [f]) f] ∧ (¬ gpf s (p ++ [f]) f ∈ La) ∧ ltM C_z (50 + D 0 26) (gpf s (p ++ [f]) f))) ∧ ∃ n_z : Nat, l = (n_z : Int) ∧ L3_z[n_z]? = some (gpf s (p ++ [f]) f) := by
            rcases q7_z with ⟨l2, e_z, hl3, eC_z, he⟩ | ⟨hno, e_z, h26⟩
            · cases e_z
              have hlt : l.toNat < La.length := by omega
              have hget_z : La[l.toNat]? = some (La[l.toNat]'hlt) := List.getElem?_eq_getElem hlt
              have h8 := hlB _ _ hget_z
              rw [Int.toNat_of_nonneg hl3.1] at h8
              have h9 := (h8.like hg).1 he
              rw [h9] at hget_z
              exact ⟨La, by rw [eC_z]; omega, Or.inl ⟨rfl, List.mem_of_getElem? hget_z⟩, l.toNat, by omega, hget_z⟩
            · cases e_z
              have hnm : ¬ gpf s (p ++ [f]) f ∈ La := fun hm_z => by
                obtain ⟨n_z, hn2⟩ := List.mem_iff_getElem?.1 hm_z
                have hn3 := get_lt hn2
                exact hno (n_z : Int) (by omega) (by omega) (((hlB n_z _ hn2).like hg).2 rfl)
              refine ⟨La ++ [gpf s (p ++ [f]) f], by rw [h26, List.length_append, List.length_singleton]; omega, Or.inr ⟨rfl, hnm, ?_⟩, La.length, by omega, by rw [List.getElem?_append_right (Nat.le_refl _), Nat.sub_self]; rfl⟩
              rw [← b26]
              exact hg.c q6_z
          obtain ⟨L3_z, k1_z, k2_z, n_z', k3_z, k4_z⟩ := key_z
          refine ih_z (i_z + 1) _ L3_z w1_y w2_y w3_y ⟨uM_23 q2_z kn23 (by omega) (by omega), fun r_z j_z a1_z a2 a3 => ?_, by rw [upd_o (by omega)]; exact k1_z, Or.inr ⟨by omega, k2_z.imp id (fun e_z => ⟨e_z.1, e_z.2.1, e_z.2.2.c (hu2 _ _)⟩)⟩, fun v_z hv => ?_⟩
          · rw [upd_o (by omega), q3_z r_z j_z (by rw [b26]; exact a1_z) a3]
            exact g2 r_z j_z a1_z a2 a3
          · by_cases e_z : v_z = f
            · rw [e_z, hik, upd_at]
              exact ⟨n_z', k3_z, k4_z⟩
            · have e2 : ¬ (v_z.1 : Int) = (f.1 : Int) := fun w_z => e_z (Fin.ext (by omega))
              rw [upd_o (by omega), q3_z 23 _ (by unfold inS; omega) (by omega)]
              obtain ⟨l2, b1, b2⟩ := g5_z v_z (by omega)
              refine ⟨l2, b1, ?_⟩
              rcases k2_z with ⟨a2, _⟩ | ⟨a2, _⟩
              · rw [a2]; exact b2
              · rw [a2, List.getElem?_append_left (get_lt b2)]; exact b2
        · have hb_z := hlo.1
          obtain ⟨l', q1_z, q2_z, q3_z, q4_z, q5_z, q6_z⟩ := hb_z
          refine ⟨tM_23 (r := B_z 0 35) (by rw [c35_z]; omega) (by rw [c35_z]; exact kn23) (by omega) (by omega) rfl, ?_⟩
          refine ⟨⟨by omega, by omega⟩, ?_⟩
          exact ⟨rfl, rfl⟩
    · have u0 : (0 : Int) ≤ (u : Int) := by omega
      refine ⟨oM_0 (by omega) km0 7 rfl, ?_⟩
      refine ⟨fun h0 => ?_, fun h0 => ?_⟩
      · exact Or.inl (⟨rfl, h0, rfl⟩)
      · refine ⟨oM_0 (by omega) km0 35 rfl, ?_⟩
        refine ⟨fun h1 => ?_, fun h1 => ?_⟩
        · refine ⟨oM_0 (by omega) km0 27 rfl, ?_⟩
          refine ⟨⟨by omega, by omega⟩, ?_⟩
          refine ⟨⟨by omega, by omega⟩, ?_⟩
          refine ⟨aM_17 (r := B_z 0 27) (by rw [c27_z]; omega) (by rw [c27_z]; exact kn17) (by omega) (by omega), ?_⟩
          refine ⟨tM_23 (r := B_z 0 35) (by rw [c35_z]; omega) (by rw [c35_z]; exact kn23) (by omega) (by omega) rfl, ?_⟩
          refine ⟨⟨by omega, by omega⟩, ?_⟩
          exact Or.inr (Or.inl (⟨rfl, h0, h1, rfl⟩))
        · refine ⟨rM_0 (by omega) km0, ?_⟩
          have h26 : B_z 0 26 ≤ 100 := by
            rcases g4 with g4 | g4
            · rw [g4.2] at g3_z; omega
            · omega
          refine (letterOf_exq (s := (f.1 : Int)) g1 (by omega) h26).imp ?_
          rintro ⟨r1_z, C_z⟩ hq
          have hq0 := hq.1
          obtain ⟨l, q1_z, _⟩ := hq0
          simp only at q1_z
          subst q1_z
          exact Or.inr (Or.inr (⟨rfl, h0, h1, C_z, l, hq, rfl⟩))
theorem stepA_prM {s : cx_Sd 12} {W P : Int} {La L3 : List Fun12} {Rh R3 : List (List (Fin 12))} {p q : List (Fin 12)} {k : Fin 12} {u : Nat} (h : stepA s W P La Rh p k (some (L3, R3))) (hu : Rh[u]? = some q) : R3[u]? = some q := by
  have ha_z : (Rh ++ [p ++ [k]])[u]? = some q := by rw [List.getElem?_append_left (get_lt hu)]; exact hu
  rcases h with ⟨_, e_z⟩ | ⟨_, _, e_z⟩ | ⟨_, _, ⟨_, e_z⟩ | ⟨_, _, e_z⟩ | ⟨_, _, e_z⟩ | ⟨_, _, _, e_z⟩⟩
  · cases e_z
  · cases e_z; exact hu
  · cases e_z
  · cases e_z; exact ha_z
  · cases e_z
  · cases e_z; exact ha_z
theorem gy_58 {s : cx_Sd 12} {P m : Int} {Z : Option (List Fun12 × List (List (Fin 12))) → Prop} {A : pm_A} {u : Nat} {p : List (Fin 12)} (hm : 0 ≤ m) (hP : P ≤ 6) (u1 : u < 150) (H : ∀ (C_z : pm_A) (L3_z : List Fun12) (R3 : List (List (Fin 12))) (w2_z w3_z w4_z : pm_V), gtF A C_z → gxS s P m L3_z R3 C_z → L3_z.length ≤ 100 → u < R3.length → (∀ o_z n_z, allA s (P + m) P n_z L3_z R3 (u + 1) 0 o_z → Z o_z) → Tm pmt (an_sh wM) o_X10_goesThrough 48 ([(2, 0), (0, (u : Int) + 1), w2_z, w3_z, w4_z], [], C_z) (gzP s P m Z A)) : ∀ (n_z k_z : Nat) (w3_z w4_z : pm_V) (B_z : pm_A) (La_z : List Fun12) (Rh : List (List (Fin 12))), 6 - k_z < n_z → (k_z : Int) ≤ P → gtF A B_z → gxS s P m La_z Rh B_z → La_z.length ≤ 100 → Rh[u]? = some p → (∀ o_z n_z, allA s (P + m) P n_z La_z Rh u k_z o_z → Z o_z) → Tm pmt (an_sh wM) o_X10_goesThrough 58 ([(2, 0), (0, (u : Int)), (0, (k_z : Int)), w3_z, w4_z], [], B_z) (gzP s P m Z A) := by
  intro n_z
  induction n_z with
  | zero => intro k_z w3_z w4_z B_z La_z Rh h_z; omega
  | succ n_z ih_z =>
    intro k_z w3_z w4_z B_z La_z Rh hn hk hF hS_z hl hu HZ_z
    have p7_z := fM_0_7 hF.1 (r := 0) (by omega) km0
    have p26 := fM_0_26 hF.1 (r := 0) (by omega) km0
    have e7_z := hS_z.1.1
    have e8 := hS_z.1.2
    have e26_z := hS_z.2.1.1
    have hlt := get_lt hu
    have h170 : P ≤ (k_z : Int) → Tm pmt (an_sh wM) o_X10_goesThrough 170 ([(2, 0), (0, (u : Int)), (0, (k_z : Int)), w3_z, w4_z], [], B_z) (gzP s P m Z A) := fun hPk => by
      refine wq_ok srt_goesThrough (fr := []) (cuts := [48]) (J := fun pc st_z => (pc = 48 ∧ st_z = ([(2, 0), (0, (u : Int) + 1), (0, (k_z : Int)), w3_z, w4_z], [], B_z))) ?_ 7 170 _ ?_
      · rintro pc st_z (⟨rfl, rfl⟩)
        exact H B_z La_z Rh _ _ _ hF hS_z hl hlt (fun o_z j_z ho => HZ_z o_z (j_z + 1) (Or.inr (Or.inl ⟨hlt, hPk, ho⟩)))
      · refine ⟨⟨by omega, by omega⟩, ?_⟩
        exact ⟨rfl, rfl⟩
    refine wq_ok srt_goesThrough (fr := []) (cuts := [71, 170]) (J := fun pc st_z => (pc = 170 ∧ (B_z 0 7 ≤ (k_z : Int)) ∧ st_z = ([(2, 0), (0, (u : Int)), (0, (k_z : Int)), w3_z, w4_z], [], B_z)) ∨ (pc = 71 ∧ (k_z : Int) < B_z 0 7 ∧ ∃ C_z, tkJ B_z C_z (u : Int) 72 ∧ st_z = ([(2, 0), (0, (u : Int)), (0, (k_z : Int)), w3_z, w4_z], [], C_z))) ?_ 11 58 _ ?_
    · rintro pc st_z (⟨rfl, h0, rfl⟩ | ⟨rfl, hk2, C_z, hC, rfl⟩)
      · exact h170 (by omega)
      · have hCc : ∀ r_z j_z : Int, (r_z = 0 ∨ 5 < r_z) → C_z r_z j_z = B_z r_z j_z := fun r_z j_z h1 => hC.2.1 r_z j_z (fun t_z t0_z t1_z ht => by unfold inS at ht; omega) (by omega)
        have c7_z : C_z 0 7 = P := by rw [hCc 0 7 (by omega)]; exact e7_z
        have c8_z : C_z 0 8 = m := by rw [hCc 0 8 (by omega)]; exact e8
        have hR := hS_z.2.2.2 u p hu
        have hCT : Tru s p C_z := hR.1.to hC.1 c7_z c8_z (fun j_z j0 j1 => hC.2.2.2 j_z j0 j1) (fun t_z t0_z t1_z => hC.2.2.1 t_z t0_z (by omega))
        have hCF : gtF A C_z := hF.tr ⟨hC.1, fun r_z j_z r0 r1_z j0 j1 a1_z a2 a3 => hC.2.1 r_z j_z (fun x_z x0_z x1_z => a1_z x_z (by omega)) a2.2.1⟩
        obtain ⟨f_z, hf⟩ : ∃ f_z : Fin 12, f_z.1 = k_z := ⟨⟨k_z, by omega⟩, rfl⟩
        have hfP : (f_z.1 : Int) < P := by omega
        have hits := hCT.its (k := f_z) (by omega)
        rw [c7_z, c8_z] at hits
        have HN_z : stepA s (P + m) P La_z Rh p f_z none → Z none := fun hst => HZ_z none 1 (Or.inr (Or.inr ⟨by omega, p, f_z, hu, hf, Or.inl ⟨hst, rfl⟩⟩))
        refine wq_ok srt_goesThrough (fr := []) (cuts := [76]) (J := fun pc st_z => (pc = 76 ∧ ∃ D_z y_z, tuq_post s p C_z f_z (some (0, y_z), D_z) ∧ st_z = ([(2, 0), (0, (u : Int)), (0, (k_z : Int)), w3_z, w4_z], [(0, y_z)], D_z))) ?_ 7 71 _ ?_
        · rintro pc st_z (⟨rfl, D_z, y_z, hy, rfl⟩)
          refine wq_ok srt_goesThrough (fr := []) (cuts := [81]) (J := fun pc st_z => (pc = 81 ∧ (¬ y_z = 0) ∧ st_z = ([(2, 0), (0, (u : Int)), (0, (k_z : Int)), w3_z, w4_z], [], D_z))) ?_ 7 76 _ ?_
          · rintro pc st_z (⟨rfl, h0, rfl⟩)
            have hy2 : Tru s (p ++ [f_z]) D_z ∧ gH wM D_z ∧ (∀ q_z j_z, (∀ t_z : Int, 42 ≤ t_z → t_z ≤ 47 → ¬ inS t_z q_z j_z) → ¬ inS f_z.1 q_z j_z → q_z ≠ 4 → q_z ≠ 5 → q_z ≠ 12 → ¬ (q_z = 0 ∧ (j_z = 4 ∨ j_z = 5)) → D_z q_z j_z = C_z q_z j_z) ∧ ¬ spB s p f_z ∧ arO C_z f_z.1 := by
              rcases hy with ⟨e_z, _⟩ | ⟨_, h1⟩
              · cases e_z
                exact absurd rfl h0
              · exact h1
            obtain ⟨hDT, hDg, hDf, hsp, har⟩ := hy2
            have hok : okS s p (P + m) P f_z := ⟨hsp, hits.1 har⟩
            have d0_z : ∀ j_z : Int, j_z ≠ 4 → j_z ≠ 5 → D_z 0 j_z = B_z 0 j_z := fun j_z a_z b_z => by
              rw [hDf 0 j_z (fun x_z x0_z x1_z hx => by unfold inS at hx; omega) (by unfold inS; omega) (by omega) (by omega) (by omega) (by omega)]
              exact hCc 0 j_z (by omega)
            have dn : ∀ r_z j_z : Int, r_z = 17 ∨ r_z = 18 → D_z r_z j_z = B_z r_z j_z := fun r_z j_z hr => by
              rw [hDf r_z j_z (fun x_z x0_z x1_z hx => by unfold inS at hx; omega) (by unfold inS; omega) (by omega) (by omega) (by omega) (by omega)]
              exact hCc r_z j_z (by omega)
            have hDF : gtF A D_z := hCF.tr ⟨hDg, fun r_z j_z r0 r1_z j0 j1 a1_z a2 a3 => hDf r_z j_z (fun x_z x0_z x1_z => a1_z x_z (by omega)) (a1_z _ (by omega)) a2.1 a2.2.1 a2.2.2.1 (fun e_z => a3 ⟨e_z.1, by omega⟩)⟩
            have hDS : gxS s P m La_z Rh D_z := hS_z.keep hF.1 (d0_z 7 (by omega) (by omega)) (d0_z 8 (by omega) (by omega)) (d0_z 24 (by omega) (by omega)) (d0_z 26 (by omega) (by omega)) (fun j_z _ => dn 17 j_z (by omega)) (fun j_z _ => dn 18 j_z (by omega)) (fun l l0 l1 r_z j_z hr => by
              rw [hDf r_z j_z (fun x_z x0_z x1_z hx => by unfold inS at *; omega) (by unfold inS at *; omega) (by unfold inS at hr; omega) (by unfold inS at hr; omega) (by unfold inS at hr; omega) (by unfold inS at hr; omega)]
              exact hC.2.1 r_z j_z (fun x_z x0_z x1_z hx => by unfold inS at *; omega) (by unfold inS at hr; omega))
            have d26_z : D_z 0 26 = (La_z.length : Int) := by rw [d0_z 26 (by omega) (by omega)]; exact e26_z
            refine wq_ok srt_goesThrough (fr := []) (cuts := [89]) (J := fun pc st_z => (pc = 89 ∧ st_z = ([(2, 0), (0, (u : Int)), (0, (k_z : Int)), (0, D_z 0 26), (0, 0)], [], D_z))) ?_ 10 81 _ ?_
            · rintro pc st_z (⟨rfl, rfl⟩)
              rw [d26_z, ← hf]
              refine gy_89 hDF hDS hDT hok hfP hu hl u1 HN_z (fun E_z L3_z R3 w5_z w6_z g1 g2 g3_z g4 => ?_) _ 0 D_z La_z (Nat.lt_succ_self _) (by omega) (by omega) ⟨hDg, fun _ _ _ _ _ => rfl, d26_z, Or.inl ⟨by omega, rfl⟩, fun t_z ht => by omega⟩
              rw [hf]
              refine ih_z (k_z + 1) w5_z w6_z E_z L3_z R3 (by omega) (by omega) g1 g2 g3_z (stepA_prM g4 hu) (fun o_z j_z ho => HZ_z o_z (j_z + 1) (Or.inr (Or.inr ⟨by omega, p, f_z, hu, hf, Or.inr ⟨L3_z, R3, g4, ho⟩⟩)))
            · refine ⟨oM_0 (by omega) km0 26 rfl, ?_⟩
              exact ⟨rfl, rfl⟩
          · refine ⟨fun h0 => ?_, fun h0 => ?_⟩
            · exact ⟨rfl, h0, rfl⟩
            · rcases hy with ⟨_, h1, _, h2⟩ | ⟨e_z, _⟩
              · refine ⟨rfl, hCF.tr ⟨h1.1, fun r_z j_z r0 r1_z j0 j1 a1_z a2 a3 => h1.2 r_z j_z (fun x_z x0_z x1_z => a1_z x_z (by omega)) a2.1 a2.2.2.1 (fun e_z => a3 ⟨e_z.1, by omega⟩)⟩, Or.inl ⟨rfl, HN_z (Or.inl ⟨nok hits h2, rfl⟩)⟩⟩
              · cases e_z
                omega
        · refine ⟨rM_0 (by omega) km0, ?_⟩
          show Cl pmt (an_sh wM) 200 [(2, 0), (0, (k_z : Int))] C_z _
          rw [← hf]
          refine (turns_exq hCT (k := f_z) (by omega)).imp ?_
          rintro ⟨r1_z, D_z⟩ hD
          have hD0 := hD
          rcases hD0 with ⟨q1_z, _⟩ | ⟨q1_z, _⟩
          · simp only at q1_z
            subst q1_z
            exact ⟨rfl, D_z, 0, hD, rfl⟩
          · simp only at q1_z
            subst q1_z
            exact ⟨rfl, D_z, 1, hD, rfl⟩
    · refine ⟨oM_0 (by omega) km0 7 rfl, ?_⟩
      refine ⟨fun h0 => ?_, fun h0 => ?_⟩
      · exact Or.inl (⟨rfl, h0, rfl⟩)
      · refine ⟨rM_0 (by omega) km0, ?_⟩
        refine (takes_ex (s := (u : Int)) hF.1 (by omega) (by omega)).imp ?_
        rintro ⟨r1_z, C_z⟩ ⟨q1_z, q2_z⟩
        simp only at q1_z q2_z
        subst q1_z
        exact Or.inr (⟨rfl, h0, C_z, q2_z, rfl⟩)
theorem gy_48 {s : cx_Sd 12} {P m : Int} {Z : Option (List Fun12 × List (List (Fin 12))) → Prop} {A : pm_A} (hm : 0 ≤ m) (hP : P ≤ 6) (hP0 : 0 ≤ P) : ∀ (n_z u_z : Nat) (w2_z w3_z w4_z : pm_V) (B_z : pm_A) (La_z : List Fun12) (Rh : List (List (Fin 12))), 150 - u_z < n_z → u_z ≤ 150 → gtF A B_z → gxS s P m La_z Rh B_z → La_z.length ≤ 100 → (∀ o_z n_z, allA s (P + m) P n_z La_z Rh u_z 0 o_z → Z o_z) → Tm pmt (an_sh wM) o_X10_goesThrough 48 ([(2, 0), (0, (u_z : Int)), w2_z, w3_z, w4_z], [], B_z) (gzP s P m Z A) := by
  intro n_z
  induction n_z with
  | zero => intro u_z w2_z w3_z w4_z B_z La_z Rh h_z; omega
  | succ n_z ih_z =>
    intro u_z w2_z w3_z w4_z B_z La_z Rh hn hu hF hS_z hl HZ_z
    have p24 := fM_0_24 hF.1 (r := 0) (by omega) km0
    have e24_z := hS_z.2.2.1
    refine wq_ok srt_goesThrough (fr := []) (cuts := [58]) (J := fun pc st_z => (pc = 58 ∧ ((u_z : Int) < B_z 0 24) ∧ st_z = ([(2, 0), (0, (u_z : Int)), (0, 0), w3_z, w4_z], [], B_z))) ?_ 11 48 _ ?_
    · rintro pc st_z (⟨rfl, h0, rfl⟩)
      have hlt : u_z < Rh.length := by omega
      have hget_z : Rh[u_z]? = some (Rh[u_z]'hlt) := List.getElem?_eq_getElem hlt
      refine gy_58 hm hP (by omega) (fun C_z L3_z R3 v2 v3 v4_z g1 g2 g3_z g4 g5_z => ?_) _ 0 _ _ B_z La_z Rh (Nat.lt_succ_self _) (by omega) hF hS_z hl hget_z HZ_z
      have h24 := g2.2.2.1
      have q24 := fM_0_24 g1.1 (r := 0) (by omega) km0
      exact ih_z (u_z + 1) v2 v3 v4_z C_z L3_z R3 (by omega) (by omega) g1 g2 g3_z g5_z
    · refine ⟨oM_0 (by omega) km0 24 rfl, ?_⟩
      refine ⟨fun h0 => ?_, fun h0 => ?_⟩
      · exact ⟨rfl, hF, Or.inr ⟨rfl, La_z, Rh, HZ_z _ 1 (Or.inl ⟨by omega, rfl⟩), hS_z, hl⟩⟩
      · exact ⟨rfl, h0, rfl⟩
def g13 (s : cx_Sd 12) (ks : List (Fin 12)) (A B : pm_A) (i : Nat) : Prop := gtF A B ∧ B 0 24 = 0 ∧ gxL B (firstL s ks i) ∧ (∀ p_z : Int, 0 ≤ p_z → p_z ≤ 5 → ∀ r_z j_z, inS p_z r_z j_z → B r_z j_z = A r_z j_z) ∧ (∀ j_z : Int, 0 ≤ j_z → B 5 j_z = A 5 j_z) ∧ ∀ t_z : Int, 0 ≤ t_z → t_z < i → B 23 t_z = t_z
theorem gy_37 {s : cx_Sd 12} {ks : List (Fin 12)} {A B : pm_A} (hT : Tru s ks A) (h : g13 s ks A B (A 0 7).toNat) (w1 w2 w3 w4 : pm_V) : Tm pmt (an_sh wM) o_X10_goesThrough 37 ([(2, 0), w1, w2, w3, w4], [], B) (gzP s (A 0 7) (A 0 8) (fun o_z => ∃ n_z, allA s (A 0 7 + A 0 8) (A 0 7) n_z (firstL s ks (A 0 7).toNat) [ks] 0 0 o_z) A) := by
  obtain ⟨hF, h24, hL, hsl, h5, hth⟩ := h
  have e7_z := hF.fld (j := 7) (by omega) (by omega) (by omega)
  have e8 := hF.fld (j := 8) (by omega) (by omega) (by omega)
  have p7_z := fM_0_7 hT.1 (r := 0) (by omega) km0
  have p8 := fM_0_8 hT.1 (r := 0) (by omega) km0
  have e26_z := hL.1
  rw [firstL_len] at e26_z
  have hBT : Tru s ks B := hT.same hF.1 e7_z e8 (fun j_z j0 _ => h5 j_z j0) (fun p_z p0_z p1_z => hsl p_z p0_z (by omega))
  have hS_z : gxS s (A 0 7) (A 0 8) (firstL s ks (A 0 7).toNat) [] B := ⟨⟨e7_z, e8⟩, hL, h24, fun u_z p_z hu => absurd hu (by intro q_z; simp at q_z)⟩
  have hI : gxI s B (firstL s ks (A 0 7).toNat) (A 0 7) 23 0 ks := fun i_z hi_z => by
    refine ⟨i_z.1, by rw [Int.zero_add]; exact hth _ (by omega) (by omega), ?_⟩
    rw [firstL_at (show i_z.1 < (A 0 7).toNat by omega)]
    refine congrArg some (congrArg (gpf s ks) (Fin.ext ?_))
    show i_z.1 % 12 = i_z.1
    exact Nat.mod_eq_of_lt i_z.2
  refine wq_ok srt_goesThrough (fr := []) (cuts := [41]) (J := fun pc st_z => (pc = 41 ∧ ∃ C_z, gtF A C_z ∧ gxS s (A 0 7) (A 0 8) (firstL s ks (A 0 7).toNat) [ks] C_z ∧ st_z = ([(2, 0), w1, w2, w3, w4], [(0, 1)], C_z))) ?_ 6 37 _ ?_
  · rintro pc st_z (⟨rfl, C_z, hCF, hCS, rfl⟩)
    refine wq_ok srt_goesThrough (fr := []) (cuts := [48]) (J := fun pc st_z => (pc = 48 ∧ st_z = ([(2, 0), (0, 0), w2, w3, w4], [], C_z))) ?_ 8 41 _ ?_
    · rintro pc st_z (⟨rfl, rfl⟩)
      exact gy_48 p8.1 p7_z.2 p7_z.1 _ 0 _ _ _ C_z _ _ (Nat.lt_succ_self _) (by omega) hCF hCS (by rw [firstL_len]; omega) (fun o_z n_z ho => ⟨n_z, ho⟩)
    · refine ⟨fun _ => ?_, fun hh => absurd hh (by decide)⟩
      exact ⟨rfl, rfl⟩
  · refine ⟨rM_0 (by omega) km0, ?_⟩
    refine (comes_exq hF.1 (fun t_z t0_z t1_z => by rw [hth t_z t0_z (by omega)]; omega)).imp ?_
    rintro ⟨r1_z, C_z⟩ ⟨q1_z, q2_z⟩
    simp only at q1_z q2_z
    rcases q2_z with ⟨_, q3_z⟩ | ⟨q2_z, q3_z, q4_z, q5_z, q6_z, q7_z⟩
    · omega
    · subst q2_z
      exact ⟨rfl, C_z, hF.tr (cm_gtF q1_z), hS_z.add hBT hI q1_z q4_z q6_z q7_z, rfl⟩
theorem gy_12 {s : cx_Sd 12} {ks : List (Fin 12)} {A : pm_A} (hT : Tru s ks A) : ∀ (n_z i_z : Nat) (w2_z w3_z w4_z : pm_V) (B_z : pm_A), 6 - i_z < n_z → (i_z : Int) ≤ A 0 7 → g13 s ks A B_z i_z → Tm pmt (an_sh wM) o_X10_goesThrough 12 ([(2, 0), (0, (i_z : Int)), w2_z, w3_z, w4_z], [], B_z) (gzP s (A 0 7) (A 0 8) (fun o_z => ∃ n_z, allA s (A 0 7 + A 0 8) (A 0 7) n_z (firstL s ks (A 0 7).toNat) [ks] 0 0 o_z) A) := by
  have p7_z := fM_0_7 hT.1 (r := 0) (by omega) km0
  intro n_z
  induction n_z with
  | zero => intro i_z w2_z w3_z w4_z B_z h_z; omega
  | succ n_z ih_z =>
    intro i_z w2_z w3_z w4_z B_z hn i1_z hB_z
    have hB0 := hB_z
    obtain ⟨hF, h24, hL, hsl, h5, hth⟩ := hB_z
    have e7_z := hF.fld (j := 7) (by omega) (by omega) (by omega)
    have c35_z := pM_35 hF.1
    have e26_z := hL.1
    rw [firstL_len] at e26_z
    refine wq_ok srt_goesThrough (fr := []) (cuts := [30, 37]) (J := fun pc st_z => (pc = 37 ∧ (B_z 0 7 ≤ (i_z : Int)) ∧ st_z = ([(2, 0), (0, (i_z : Int)), w2_z, w3_z, w4_z], [], B_z)) ∨ (pc = 30 ∧ (i_z : Int) < B_z 0 7 ∧ ∃ C_z l, lo3 B_z (i_z : Int) (some (0, l), C_z) ∧ st_z = ([(2, 0), (0, (i_z : Int)), w2_z, w3_z, w4_z], [(0, l), (0, (i_z : Int)), (2, B_z 0 35)], C_z))) ?_ 20 12 _ ?_
    · rintro pc st_z (⟨rfl, h0, rfl⟩ | ⟨rfl, h0, C_z, l, hlo, rfl⟩)
      · have hi_z : i_z = (A 0 7).toNat := by omega
        rw [hi_z] at hB0
        exact gy_37 hT hB0 _ _ _ _
      · have hsB : ∀ p_z : Int, 0 ≤ p_z → p_z ≤ 5 → LSm B_z p_z = LSm A p_z := fun p_z p0_z p1_z => by
          have m_z := eM_1 hT.1 (r := 1) (by omega) kn1 (j := p_z) p0_z (by omega)
          exact LSm_same m_z.2 (hsl p_z p0_z p1_z)
        have hfi : (fin12 i_z).1 = i_z := Nat.mod_eq_of_lt (by omega)
        have hg : ltM B_z (i_z : Int) (gpf s ks (fin12 i_z)) := by
          have h1 := hT.ltM (i := fin12 i_z) (by rw [hfi]; omega)
          rw [hfi] at h1
          exact h1.c (hsB _ (by omega) (by omega))
        obtain ⟨⟨l', q1_z, q2_z, q3_z, q4_z, q5_z, q6_z⟩, q7_z⟩ := hlo
        simp only at q1_z q2_z q3_z q4_z q5_z q6_z q7_z
        cases q1_z
        have hnew : l = B_z 0 26 ∧ C_z 0 26 = B_z 0 26 + 1 := by
          rcases q7_z with ⟨l2, e_z, hl3, eC_z, he⟩ | ⟨hno, e_z, h26⟩
          · exfalso
            cases e_z
            have hlt : l.toNat < (firstL s ks i_z).length := by rw [firstL_len]; omega
            have hget_z : (firstL s ks i_z)[l.toNat]? = some ((firstL s ks i_z)[l.toNat]'hlt) := List.getElem?_eq_getElem hlt
            have h8 := hL.2.1 _ _ hget_z
            rw [Int.toNat_of_nonneg hl3.1] at h8
            have h9 := (h8.like hg).1 he
            rw [h9] at hget_z
            exact firstL_no (by omega) (List.mem_of_getElem? hget_z)
          · cases e_z
            exact ⟨rfl, h26⟩
        refine wq_ok srt_goesThrough (fr := []) (cuts := [12]) (J := fun pc st_z => (pc = 12 ∧ st_z = ([(2, 0), (0, (i_z : Int) + 1), w2_z, w3_z, w4_z], [], pm_upd C_z (B_z 0 35) (i_z : Int) l))) ?_ 8 30 _ ?_
        · rintro pc st_z (⟨rfl, rfl⟩)
          rw [c35_z]
          have hu2 : ∀ (p_z : Int), LSm (pm_upd C_z 23 (i_z : Int) l) p_z = LSm C_z p_z := fun p_z => LSm_ext (upd_o (by omega)) (fun q_z v_z q0 q1_z v0_z v1_z => ⟨upd_o (by omega), upd_o (by omega)⟩)
          have cls_z : ∀ p_z : Int, p_z ≠ 50 + B_z 0 26 → ∀ r_z j_z, inS p_z r_z j_z → C_z r_z j_z = B_z r_z j_z := fun p_z hp r_z j_z hr => q3_z r_z j_z (by unfold inS at *; omega) (by unfold inS at hr; omega)
          have hLC : gxL (pm_upd C_z 23 (i_z : Int) l) (firstL s ks (i_z + 1)) := by
            rw [firstL_s]
            have hsp : ∀ (k_z : Nat) (g_z : Fun12), (firstL s ks i_z ++ [gpf s ks (fin12 i_z)])[k_z]? = some g_z → (firstL s ks i_z)[k_z]? = some g_z ∨ (k_z = i_z ∧ g_z = gpf s ks (fin12 i_z)) := fun k_z g_z hk => by
              by_cases w_z : k_z < (firstL s ks i_z).length
              · rw [List.getElem?_append_left w_z] at hk; exact Or.inl hk
              · have h1 := get_lt hk
                rw [List.length_append, List.length_singleton] at h1
                have h2 : k_z = (firstL s ks i_z).length := by omega
                rw [h2, List.getElem?_append_right (Nat.le_refl _), Nat.sub_self] at hk
                rw [firstL_len] at h2
                exact Or.inr ⟨h2, (Option.some.inj hk).symm⟩
            refine ⟨by rw [upd_o (by omega), hnew.2, e26_z, List.length_append, List.length_singleton, firstL_len]; omega, fun k_z g_z hk => ?_, fun k_z k2_z g_z hk hk2 => ?_⟩
            · rcases hsp k_z g_z hk with h1 | ⟨h1, h2⟩
              · have h3 := get_lt h1
                rw [firstL_len] at h3
                have m_z := eM_1 hF.1 (r := 1) (by omega) kn1 (j := 50 + (k_z : Int)) (by omega) (by omega)
                exact ((hL.2.1 k_z g_z h1).c (LSm_same m_z.2 (cls_z _ (by omega)))).c (hu2 _)
              · rw [h1, h2, ← e26_z]
                refine (hg.c ?_).c (hu2 _)
                rw [← hnew.1]
                exact q6_z
            · rcases hsp k_z g_z hk with h1 | ⟨h1, h2⟩
              · rcases hsp k2_z g_z hk2 with h3 | ⟨h3, h4⟩
                · exact hL.2.2 k_z k2_z g_z h1 h3
                · exact absurd (by rw [← h4]; exact List.mem_of_getElem? h1) (firstL_no (s := s) (ks := ks) (n := i_z) (by omega))
              · rcases hsp k2_z g_z hk2 with h3 | ⟨h3, h4⟩
                · exact absurd (by rw [← h2]; exact List.mem_of_getElem? h3) (firstL_no (s := s) (ks := ks) (n := i_z) (by omega))
                · omega
          rw [show (i_z : Int) + 1 = ((i_z + 1 : Nat) : Int) by omega]
          refine ih_z (i_z + 1) _ _ _ _ (by omega) (by omega) ⟨hF.tr ⟨uM_23 q2_z kn23 (by omega) (by omega), fun r_z j_z r0 r1_z j0 j1 a1_z a2 a3 => ?_⟩, ?_, hLC, fun p_z p0_z p1_z r_z j_z hr => ?_, fun j_z j0 => ?_, fun t_z t0_z t1_z => ?_⟩
          · rw [upd_o (by omega)]; exact q3_z r_z j_z (a1_z _ (by omega)) (fun e_z => a3 ⟨e_z.1, by omega⟩)
          · rw [upd_o (by omega), q3_z 0 24 (by unfold inS; omega) (by omega)]; exact h24
          · rw [upd_o (by unfold inS at hr; omega), cls_z p_z (by omega) r_z j_z hr]; exact hsl p_z p0_z p1_z r_z j_z hr
          · rw [upd_o (by omega), q3_z 5 j_z (by unfold inS; omega) (by omega)]; exact h5 j_z j0
          · by_cases e_z : t_z = (i_z : Int)
            · rw [e_z, upd_at]; omega
            · rw [upd_o (by omega), q3_z 23 t_z (by unfold inS; omega) (by omega)]; exact hth t_z t0_z (by omega)
        · refine ⟨tM_23 (r := B_z 0 35) (by rw [c35_z]; omega) (by rw [c35_z]; exact kn23) (by omega) (by omega) rfl, ?_⟩
          refine ⟨⟨by omega, by omega⟩, ?_⟩
          exact ⟨rfl, rfl⟩
    · refine ⟨oM_0 (by omega) km0 7 rfl, ?_⟩
      refine ⟨fun h0 => ?_, fun h0 => ?_⟩
      · exact Or.inl (⟨rfl, h0, rfl⟩)
      · refine ⟨oM_0 (by omega) km0 35 rfl, ?_⟩
        refine ⟨rM_0 (by omega) km0, ?_⟩
        refine (letterOf_exq (s := (i_z : Int)) hF.1 (by omega) (by omega)).imp ?_
        rintro ⟨r1_z, C_z⟩ hq
        have hq0 := hq.1
        obtain ⟨l, q1_z, _⟩ := hq0
        simp only at q1_z
        subst q1_z
        exact Or.inr (⟨rfl, h0, C_z, l, hq, rfl⟩)
theorem goesThrough_exq {s : cx_Sd 12} {ks : List (Fin 12)} {A : pm_A} (hT : Tru s ks A) : Cl pmt (an_sh wM) 147 [(2, 0)] A (gzP s (A 0 7) (A 0 8) (fun o_z => ∃ n_z, allA s (A 0 7 + A 0 8) (A 0 7) n_z (firstL s ks (A 0 7).toNat) [ks] 0 0 o_z) A) := by
  have hA := hT.1
  have p7_z := fM_0_7 hA (r := 0) (by omega) km0
  refine Cl.of (Nat.le_of_ble_eq_true rfl) ?_
  refine wq_ok (full := o_X10_goesThrough) srt_goesThrough (fr := []) (cuts := [12]) (J := fun pc st_z => (pc = 12 ∧ st_z = ([(2, 0), (0, 0), (9, 0), (9, 0), (9, 0)], [], pm_upd (pm_upd A 0 24 0) 0 26 0))) ?_ 13 0 _ ?_
  · rintro pc st_z (⟨rfl, rfl⟩)
    refine gy_12 hT _ 0 _ _ _ _ (Nat.lt_succ_self _) (by omega) ⟨⟨uM_0_26 (uM_0_24 hA (by omega) (by omega)) (by omega) (by omega), fun r_z j_z r0 r1_z j0 j1 a1_z a2 a3 => ?_⟩, ?_, ⟨?_, fun l f_z hl => absurd (get_lt hl) (by rw [firstL_len]; omega), fun l m_z f_z hl => absurd (get_lt hl) (by rw [firstL_len]; omega)⟩, fun p_z p0_z p1_z r_z j_z hr => ?_, fun j_z j0 => ?_, fun t_z t0_z t1_z => by omega⟩
    · rw [upd_o (fun e_z => a3 ⟨e_z.1, by omega⟩), upd_o (fun e_z => a3 ⟨e_z.1, by omega⟩)]
    · rw [upd_o (by omega), upd_at]
    · rw [upd_at, firstL_len]; rfl
    · rw [upd_o (by unfold inS at hr; omega), upd_o (by unfold inS at hr; omega)]
    · rw [upd_o (by omega), upd_o (by omega)]
  · refine ⟨oM_0 (by omega) km0 24 rfl, ?_⟩
    refine ⟨oM_0 (by omega) km0 26 rfl, ?_⟩
    exact ⟨rfl, rfl⟩
end

section
/-! the reference's all, exactly, with what it tells -/
def toldM (D B : pm_A) (n : Int) : Prop := ∀ l : Int, 0 ≤ l → l < n → B 19 l = D 1 (50 + l) ∧ B 20 l = smP (fun q_z => D 2 (200 * (50 + l) + q_z)) (D 1 (50 + l)).toNat ∧ ∀ v_z : Int, 0 ≤ v_z → v_z < 12 → B 21 (12 * l + v_z) = mnP (fun q_z => D 3 (12 * (200 * (50 + l) + q_z) + v_z)) ((D 1 (50 + l)).toNat - 1)
def alF (D B : pm_A) : Prop := gH wM B ∧ ∀ r_z j_z : Int, ¬ r_z = 19 → ¬ r_z = 20 → ¬ r_z = 21 → B r_z j_z = D r_z j_z
def alH (D : pm_A) : Prop := (gH wM D ∧ D 0 26 ≤ 100) ∧ ∀ l : Int, 0 ≤ l → l < D 0 26 → cfs D (50 + l) ∧ 1 ≤ D 1 (50 + l)
def alP (D : pm_A) (r : pm_R) : Prop := r.1 = some (0, D 0 24) ∧ (∀ j_z : Int, ¬ j_z = 36 → r.2 0 j_z = D 0 j_z) ∧ r.2 0 36 = D 0 7 + D 0 8 ∧ toldM D r.2 (D 0 26)
theorem al_c {D B : pm_A} (h : alF D B) {i : Int} (hf : cfs D i) : cfs B i := fun q_z q0 q1_z => by
  rw [h.2 1 _ (by omega) (by omega) (by omega)] at q1_z
  rw [h.2 2 _ (by omega) (by omega) (by omega)]
  exact hf q_z q0 q1_z
theorem bl_94 {D : pm_A} {l : Int} (hD : alH D) (l0 : 0 ≤ l) (l1 : l < D 0 26) (H : ∀ (C_z : pm_A) (w3_z : pm_V), alF D C_z → toldM D C_z (l + 1) → Tm pmt (an_sh wM) o_X10_all 55 ([(2, 0), (0, 1), (0, l + 1), w3_z], [], C_z) (alP D)) : ∀ (n_z : Nat) (v_z : Int) (B_z : pm_A), (12 - v_z).toNat < n_z → 0 ≤ v_z → v_z ≤ 12 → alF D B_z → toldM D B_z l → (B_z 19 l = D 1 (50 + l) ∧ B_z 20 l = smP (fun q_z => D 2 (200 * (50 + l) + q_z)) (D 1 (50 + l)).toNat) → (∀ w_z : Int, 0 ≤ w_z → w_z < v_z → B_z 21 (12 * l + w_z) = mnP (fun q_z => D 3 (12 * (200 * (50 + l) + q_z) + w_z)) ((D 1 (50 + l)).toNat - 1)) → Tm pmt (an_sh wM) o_X10_all 94 ([(2, 0), (0, 1), (0, l), (0, v_z)], [], B_z) (alP D) := by
  have h100 := hD.1.2
  intro n_z
  induction n_z with
  | zero => intro v_z B_z h_z; omega
  | succ n_z ih_z =>
    intro v_z B_z hn v0_z v1_z hB_z ht hs hv
    have c33_z := pM_33 hB_z.1
    have e1 : B_z 1 (50 + l) = D 1 (50 + l) := hB_z.2 1 _ (by omega) (by omega) (by omega)
    have e3 : B_z 3 = D 3 := funext fun j_z => hB_z.2 3 j_z (by omega) (by omega) (by omega)
    have hx : mnP (fun q_z => B_z 3 (12 * (200 * (50 + l) + q_z) + v_z)) ((B_z 1 (50 + l)).toNat - 1) = mnP (fun q_z => D 3 (12 * (200 * (50 + l) + q_z) + v_z)) ((D 1 (50 + l)).toNat - 1) := by rw [e1, e3]
    have m_z := eM_1 hB_z.1 (r := 1) (by omega) kn1 (j := 50 + l) (by omega) (by omega)
    have hb_z : v_z < 12 → -2147483648 ≤ mnP (fun q_z => B_z 3 (12 * (200 * (50 + l) + q_z) + v_z)) ((B_z 1 (50 + l)).toNat - 1) ∧ mnP (fun q_z => B_z 3 (12 * (200 * (50 + l) + q_z) + v_z)) ((B_z 1 (50 + l)).toNat - 1) ≤ 2147483647 := fun hv2 => mnP_b _ (fun q_z q0 q1_z => eM_3 hB_z.1 (r := 3) (by omega) kn3 (by omega) (by omega))
    refine wq_ok srt_Mall (fr := []) (cuts := [55, 94]) (J := fun pc st_z => (pc = 55 ∧ (12 ≤ v_z) ∧ st_z = ([(2, 0), (0, 1), (0, l + 1), (0, v_z)], [], B_z)) ∨ (pc = 94 ∧ v_z < 12 ∧ st_z = ([(2, 0), (0, 1), (0, l), (0, v_z + 1)], [], pm_upd B_z (B_z 0 33) (12 * l + v_z) (mnP (fun q_z => B_z 3 (12 * (200 * (50 + l) + q_z) + v_z)) ((B_z 1 (50 + l)).toNat - 1))))) ?_ 30 94 _ ?_
    · rintro pc st_z (⟨rfl, h0, rfl⟩ | ⟨rfl, h0, rfl⟩)
      · refine H B_z _ hB_z (fun k_z k0_z k1_z => ?_)
        by_cases e_z : k_z = l
        · rw [e_z]
          exact ⟨hs.1, hs.2, fun w_z w0_z w1_z => hv w_z w0_z (by omega)⟩
        · exact ht k_z k0_z (by omega)
      · have hb2 := hb_z h0
        rw [c33_z, hx]
        rw [hx] at hb2
        refine ih_z (v_z + 1) _ (by omega) (by omega) (by omega) ⟨uM_21 hB_z.1 kn21 hb2.1 hb2.2, fun r_z j_z a1_z a2 a3 => by rw [upd_ne a3]; exact hB_z.2 r_z j_z a1_z a2 a3⟩ (fun k_z k0_z k1_z => ?_) ⟨by rw [upd_ne (by omega)]; exact hs.1, by rw [upd_ne (by omega)]; exact hs.2⟩ (fun w_z w0_z w1_z => ?_)
        · obtain ⟨a1_z, a2, a3⟩ := ht k_z k0_z k1_z
          exact ⟨by rw [upd_ne (by omega)]; exact a1_z, by rw [upd_ne (by omega)]; exact a2, fun w_z w0_z w1_z => by rw [upd_n2 (by omega)]; exact a3 w_z w0_z w1_z⟩
        · by_cases e_z : w_z = v_z
          · rw [e_z, upd_at]
          · rw [upd_n2 (by omega)]; exact hv w_z w0_z (by omega)
    · refine ⟨fun h0 => ?_, fun h0 => ?_⟩
      · refine ⟨⟨by omega, by omega⟩, ?_⟩
        exact Or.inl ⟨rfl, h0, rfl⟩
      · refine ⟨oM_0 (by omega) km0 33 rfl, ?_⟩
        refine ⟨⟨by omega, by omega⟩, ?_⟩
        refine ⟨⟨by omega, by omega⟩, ?_⟩
        refine ⟨⟨by omega, by omega⟩, ?_⟩
        refine ⟨rM_0 (by omega) km0, ?_⟩
        refine (mleastOf_ex hB_z.1 (by omega) (by omega) (by rw [e1]; exact (hD.2 l l0 l1).2) v0_z h0).imp ?_
        rintro r_z rfl
        refine ⟨tM_21 (r := B_z 0 33) (by rw [c33_z]; omega) (by rw [c33_z]; exact kn21) (by omega) (by omega) rfl, ?_⟩
        refine ⟨⟨by omega, by omega⟩, ?_⟩
        exact Or.inr ⟨rfl, h0, rfl⟩
theorem bl_55 {D : pm_A} (hD : alH D) : ∀ (n_z : Nat) (l : Int) (w3_z : pm_V) (B_z : pm_A), (101 - l).toNat < n_z → 0 ≤ l → l ≤ D 0 26 → alF D B_z → toldM D B_z l → Tm pmt (an_sh wM) o_X10_all 55 ([(2, 0), (0, 1), (0, l), w3_z], [], B_z) (alP D) := by
  have h100 := hD.1.2
  intro n_z
  induction n_z with
  | zero => intro l w3_z B_z h_z; omega
  | succ n_z ih_z =>
    intro l w3_z B_z hn l0 l1 hB_z ht
    have p7_z := fM_0_7 hB_z.1 (r := 0) (by omega) km0
    have p8 := fM_0_8 hB_z.1 (r := 0) (by omega) km0
    have c31_z := pM_31 hB_z.1
    have c1_z := pM_1 hB_z.1
    have e0_z : ∀ j_z : Int, B_z 0 j_z = D 0 j_z := fun j_z => hB_z.2 0 j_z (by omega) (by omega) (by omega)
    have h26_y := e0_z 26
    have e1 : B_z 1 (50 + l) = D 1 (50 + l) := hB_z.2 1 _ (by omega) (by omega) (by omega)
    have ml_z : l < 100 → 0 ≤ B_z 1 (50 + l) ∧ B_z 1 (50 + l) ≤ 200 := fun h_z => eM_1 hB_z.1 (r := 1) (by omega) kn1 (by omega) (by omega)
    refine wq_ok srt_Mall (fr := []) (cuts := [78]) (J := fun pc st_z => (pc = 78 ∧ (l < B_z 0 26) ∧ st_z = ([(2, 0), (0, 1), (0, l), w3_z], [], pm_upd B_z (B_z 0 31) l (B_z (B_z 0 1) (50 + l))))) ?_ 19 55 _ ?_
    · rintro pc st_z (⟨rfl, h0, rfl⟩)
      have h26 := e0_z 26
      rw [c31_z, c1_z, e1]
      have b_z := ml_z (by omega)
      rw [e1] at b_z
      have hl1 : l < D 0 26 := by omega
      have hC : alF D (pm_upd B_z 19 l (D 1 (50 + l))) := ⟨uM_19 hB_z.1 kn19 (by omega) (by omega), fun r_z j_z a1_z a2 a3 => by rw [upd_ne a1_z]; exact hB_z.2 r_z j_z a1_z a2 a3⟩
      have htC : toldM D (pm_upd B_z 19 l (D 1 (50 + l))) l := fun k_z k0_z k1_z => by
        obtain ⟨a1_z, a2, a3⟩ := ht k_z k0_z k1_z
        exact ⟨by rw [upd_n2 (by omega)]; exact a1_z, by rw [upd_ne (by omega)]; exact a2, fun w_z w0_z w1_z => by rw [upd_ne (by omega)]; exact a3 w_z w0_z w1_z⟩
      have h19 : pm_upd B_z 19 l (D 1 (50 + l)) 19 l = D 1 (50 + l) := upd_at
      generalize pm_upd B_z 19 l (D 1 (50 + l)) = C_z at hC htC h19
      have c32_z := pM_32 hC.1
      have f1_z : C_z 1 (50 + l) = D 1 (50 + l) := hC.2 1 _ (by omega) (by omega) (by omega)
      have f2_z : C_z 2 = D 2 := funext fun j_z => hC.2 2 j_z (by omega) (by omega) (by omega)
      have hcf := (hD.2 l l0 hl1).1
      have hx : smP (fun q_z => C_z 2 (200 * (50 + l) + q_z)) (C_z 1 (50 + l)).toNat = smP (fun q_z => D 2 (200 * (50 + l) + q_z)) (D 1 (50 + l)).toNat := by rw [f1_z, f2_z]
      have m_z := eM_1 hC.1 (r := 1) (by omega) kn1 (j := 50 + l) (by omega) (by omega)
      have hsb := smP_b (f := fun q_z => D 2 (200 * (50 + l) + q_z)) (D 1 (50 + l)).toNat (by omega) (fun q_z q0 q1_z => hcf q_z q0 (by omega))
      refine wq_ok srt_Mall (fr := []) (cuts := [94]) (J := fun pc st_z => (pc = 94 ∧ st_z = ([(2, 0), (0, 1), (0, l), (0, 0)], [], pm_upd C_z (C_z 0 32) l (smP (fun q_z => C_z 2 (200 * (50 + l) + q_z)) (C_z 1 (50 + l)).toNat)))) ?_ 20 78 _ ?_
      · rintro pc st_z (⟨rfl, rfl⟩)
        rw [c32_z, hx]
        refine bl_94 hD l0 hl1 (fun E_z v3 hE hE2 => ih_z (l + 1) v3 E_z (by omega) (by omega) (by omega) hE hE2) _ 0 _ (Nat.lt_succ_self _) (by omega) (by omega) ⟨uM_20 hC.1 kn20 (by omega) (by omega), fun r_z j_z a1_z a2 a3 => by rw [upd_ne a2]; exact hC.2 r_z j_z a1_z a2 a3⟩ (fun k_z k0_z k1_z => ?_) ⟨by rw [upd_ne (by omega)]; exact h19, upd_at⟩ (fun w_z w0_z w1_z => by omega)
        obtain ⟨a1_z, a2, a3⟩ := htC k_z k0_z k1_z
        exact ⟨by rw [upd_ne (by omega)]; exact a1_z, by rw [upd_n2 (by omega)]; exact a2, fun w_z w0_z w1_z => by rw [upd_ne (by omega)]; exact a3 w_z w0_z w1_z⟩
      · refine ⟨oM_0 (by omega) km0 32 rfl, ?_⟩
        refine ⟨⟨by omega, by omega⟩, ?_⟩
        refine ⟨rM_0 (by omega) km0, ?_⟩
        refine (msum_ex hC.1 (by omega) (by omega) (al_c hC hcf)).imp ?_
        rintro r_z rfl
        refine ⟨tM_20 (r := C_z 0 32) (by rw [c32_z]; omega) (by rw [c32_z]; exact kn20) (by omega) (by omega) rfl, ?_⟩
        exact ⟨rfl, rfl⟩
    · refine ⟨oM_0 (by omega) km0 26 rfl, ?_⟩
      refine ⟨fun h0 => ?_, fun h0 => ?_⟩
      · refine ⟨oM_0 (by omega) km0 7 rfl, ?_⟩
        refine ⟨oM_0 (by omega) km0 8 rfl, ?_⟩
        refine ⟨⟨by omega, by omega⟩, ?_⟩
        refine ⟨oM_0 (by omega) km0 36 rfl, ?_⟩
        refine ⟨oM_0 (by omega) km0 24 rfl, ?_⟩
        have hl : l = D 0 26 := by have := e0_z 26; omega
        rw [hl] at ht
        refine ⟨rfl, ?_, fun j_z hj => ?_, ?_, fun k_z k0_z k1_z => ?_⟩
        · show some (0, pm_upd B_z 0 36 (B_z 0 7 + B_z 0 8) 0 24) = some (0, D 0 24)
          rw [upd_n2 (by omega), e0_z]
        · show pm_upd B_z 0 36 (B_z 0 7 + B_z 0 8) 0 j_z = D 0 j_z
          rw [upd_n2 hj, e0_z]
        · show pm_upd B_z 0 36 (B_z 0 7 + B_z 0 8) 0 36 = D 0 7 + D 0 8
          rw [upd_at, e0_z, e0_z]
        · obtain ⟨a1_z, a2, a3⟩ := ht k_z k0_z k1_z
          refine ⟨?_, ?_, fun w_z w0_z w1_z => ?_⟩
          · show pm_upd B_z 0 36 (B_z 0 7 + B_z 0 8) 19 k_z = _
            rw [upd_ne (by omega)]; exact a1_z
          · show pm_upd B_z 0 36 (B_z 0 7 + B_z 0 8) 20 k_z = _
            rw [upd_ne (by omega)]; exact a2
          · show pm_upd B_z 0 36 (B_z 0 7 + B_z 0 8) 21 (12 * k_z + w_z) = _
            rw [upd_ne (by omega)]; exact a3 w_z w0_z w1_z
      · refine ⟨oM_0 (by omega) km0 31 rfl, ?_⟩
        refine ⟨oM_0 (by omega) km0 1 rfl, ?_⟩
        refine ⟨⟨by omega, by omega⟩, ?_⟩
        refine ⟨aM_1 (r := B_z 0 1) (by rw [c1_z]; omega) (by rw [c1_z]; exact kn1) (by omega) (by omega), ?_⟩
        refine ⟨tM_19 (r := B_z 0 31) (by rw [c31_z]; omega) (by rw [c31_z]; exact kn19) (by omega) (by omega) rfl, ?_⟩
        exact ⟨rfl, h0, rfl⟩
def mlE (s : cx_Sd 12) (P m : Int) (Z : Option (List Fun12 × List (List (Fin 12))) → Prop) (A : pm_A) (r : pm_R) : Prop := (r.1 = some (0, -2) ∧ Z none ∧ r.2 0 25 = 0 ∧ (r.2 0 29 = A 0 29 ∧ r.2 0 30 = A 0 30 ∧ r.2 0 36 = A 0 36) ∧ ∀ c_z j_z : Int, c_z = 19 ∨ c_z = 20 ∨ c_z = 21 → 0 ≤ j_z → r.2 c_z j_z = A c_z j_z) ∨ ∃ (La_z : List Fun12) (Rh : List (List (Fin 12))) (D_z : pm_A), Z (some (La_z, Rh)) ∧ (gxS s P m La_z Rh D_z ∧ gH wM D_z) ∧ La_z.length ≤ 100 ∧ r.1 = some (0, (Rh.length : Int)) ∧ r.2 0 25 = (Rh.length : Int) ∧ (r.2 0 29 = 1 ∧ r.2 0 30 = (La_z.length : Int) ∧ r.2 0 36 = P + m) ∧ toldM D_z r.2 (La_z.length : Int)
theorem mall_exq {s : cx_Sd 12} {ks : List (Fin 12)} {A : pm_A} (hT : Tru s ks A) : Cl pmt (an_sh wM) 123 [(2, 0)] A (mlE s (A 0 7) (A 0 8) (fun o_z => ∃ n_z, allA s (A 0 7 + A 0 8) (A 0 7) n_z (firstL s ks (A 0 7).toNat) [ks] 0 0 o_z) A) := by
  have hg := hT.1
  have p7_z := fM_0_7 hg (r := 0) (by omega) km0
  refine Cl.of (Nat.le_of_ble_eq_true rfl) ?_
  refine wq_ok (full := o_X10_all) srt_Mall (fr := []) (cuts := [6]) (J := fun pc st_z => (pc = 6 ∧ ∃ C_z, savesJ A C_z 30 72 ∧ st_z = ([(2, 0), (9, 0), (9, 0), (9, 0)], [], C_z))) ?_ 7 0 _ ?_
  · rintro pc st_z (⟨rfl, C_z, hC, rfl⟩)
    have s1_z : ∀ r_z j_z : Int, r_z ≠ 22 → (∀ t_z : Int, 30 ≤ t_z → t_z ≤ 35 → ¬ inS t_z r_z j_z) → C_z r_z j_z = A r_z j_z := fun r_z j_z hr hn => hC.2.1 r_z j_z (fun t_z t0_z t1_z ht => hn (30 + t_z) (by omega) (by omega) ht) hr
    have c7_z : C_z 0 7 = A 0 7 := s1_z 0 7 (by omega) (fun t_z t0_z t1_z ht => by unfold inS at ht; omega)
    have c8_z : C_z 0 8 = A 0 8 := s1_z 0 8 (by omega) (fun t_z t0_z t1_z ht => by unfold inS at ht; omega)
    have hCT : Tru s ks C_z := hT.same hC.1 c7_z c8_z (fun i_z _ _ => s1_z 5 i_z (by omega) (fun t_z t0_z t1_z ht => by unfold inS at ht; omega)) (fun p_z p0_z p1_z r_z i_z hr => s1_z r_z i_z (by unfold inS at hr; omega) (fun t_z t0_z t1_z ht => by unfold inS at *; omega))
    have hgt := goesThrough_exq hCT
    rw [c7_z, c8_z] at hgt
    refine wq_ok srt_Mall (fr := []) (cuts := [10]) (J := fun pc st_z => (pc = 10 ∧ ∃ B_z y_z, gzP s (A 0 7) (A 0 8) (fun o_z => ∃ n_z, allA s (A 0 7 + A 0 8) (A 0 7) n_z (firstL s ks (A 0 7).toNat) [ks] 0 0 o_z) C_z (some (0, y_z), B_z) ∧ st_z = ([(2, 0), (9, 0), (9, 0), (9, 0)], [(0, y_z)], B_z))) ?_ 6 6 _ ?_
    · rintro pc st_z (⟨rfl, B_z, y_z, ⟨hB_z, hy⟩, rfl⟩)
      simp only at hB_z hy
      refine wq_ok srt_Mall (fr := []) (cuts := [17]) (J := fun pc st_z => (pc = 17 ∧ ∃ D_z, restoresJ B_z D_z 30 72 ∧ st_z = ([(2, 0), (0, y_z), (9, 0), (9, 0)], [], D_z))) ?_ 8 10 _ ?_
      · rintro pc st_z (⟨rfl, D_z, hD, rfl⟩)
        have dB_z : ∀ r_z j_z : Int, r_z ≠ 5 → (∀ t_z : Int, 0 ≤ t_z → t_z ≤ 5 → ¬ inS t_z r_z j_z) → D_z r_z j_z = B_z r_z j_z := fun r_z j_z hr hn => hD.2.1 r_z j_z (fun t_z t0_z t1_z => hn t_z t0_z (by have := fM_0_7 hB_z.1 (r := 0) (by omega) km0; omega)) hr
        have dA : ∀ r_z j_z : Int, 0 ≤ j_z → (r_z = 0 ∧ (j_z = 29 ∨ j_z = 30 ∨ j_z = 36)) ∨ r_z = 19 ∨ r_z = 20 ∨ r_z = 21 → D_z r_z j_z = A r_z j_z := fun r_z j_z j0 hr => by
          rw [dB_z r_z j_z (by omega) (fun t_z t0_z t1_z ht => by unfold inS at ht; omega), hB_z.2 r_z j_z (by omega) (by omega) j0 (by omega) (fun t_z t0_z ht => by unfold inS at ht; omega) (by omega) (by omega)]
          exact s1_z r_z j_z (by omega) (fun t_z t0_z t1_z ht => by unfold inS at ht; omega)
        have d0_z : ∀ j_z : Int, D_z 0 j_z = B_z 0 j_z := fun j_z => dB_z 0 j_z (by omega) (fun t_z t0_z t1_z ht => by unfold inS at ht; omega)
        have p24 := fM_0_24 hD.1 (r := 0) (by omega) km0
        have p26 := fM_0_26 hD.1 (r := 0) (by omega) km0
        rcases hy with ⟨ey, hZ⟩ | ⟨ey, La_z, Rh, hZ, hS_z, hl⟩
        · cases ey
          refine wq_ok srt_Mall (fr := []) (cuts := []) (J := fun _ _ => False) (fun _ _ h_z => h_z.elim) 20 17 _ ?_
          refine ⟨fun _ => ?_, fun hh => absurd rfl hh⟩
          refine ⟨oM_0 (by omega) km0 25 rfl, ?_⟩
          refine ⟨fun hh => absurd rfl hh, fun _ => ?_⟩
          refine ⟨rfl, Or.inl ⟨rfl, hZ, ?_, ⟨?_, ?_, ?_⟩, fun c_z j_z hc_z j0 => ?_⟩⟩
          · show pm_upd D_z 0 25 0 0 25 = 0
            rw [upd_at]
          · show pm_upd D_z 0 25 0 0 29 = A 0 29
            rw [upd_n2 (by omega)]; exact dA 0 29 (by omega) (by omega)
          · show pm_upd D_z 0 25 0 0 30 = A 0 30
            rw [upd_n2 (by omega)]; exact dA 0 30 (by omega) (by omega)
          · show pm_upd D_z 0 25 0 0 36 = A 0 36
            rw [upd_n2 (by omega)]; exact dA 0 36 (by omega) (by omega)
          · show pm_upd D_z 0 25 0 c_z j_z = A c_z j_z
            rw [upd_ne (by omega)]; exact dA c_z j_z j0 (by omega)
        · cases ey
          have hSD : gxS s (A 0 7) (A 0 8) La_z Rh D_z := hS_z.keep hB_z.1 (d0_z 7) (d0_z 8) (d0_z 24) (d0_z 26) (fun j_z _ => dB_z 17 j_z (by omega) (fun t_z t0_z t1_z ht => by unfold inS at ht; omega)) (fun j_z _ => dB_z 18 j_z (by omega) (fun t_z t0_z t1_z ht => by unfold inS at ht; omega)) (fun l l0 l1 r_z j_z hr => dB_z r_z j_z (by unfold inS at hr; omega) (fun t_z t0_z t1_z ht => by unfold inS at *; omega))
          have e26_z := hSD.2.1.1
          have e24_z := hSD.2.2.1
          have hE1 : gH wM (pm_upd D_z 0 25 (D_z 0 24)) := uM_0_25 hD.1 (by omega) (by omega)
          have hE2 : gH wM (pm_upd (pm_upd D_z 0 25 (D_z 0 24)) 0 29 1) := uM_0_29 hE1 (x := 1) (by omega) (by omega)
          have hE3 : gH wM (pm_upd (pm_upd (pm_upd D_z 0 25 (D_z 0 24)) 0 29 1) 0 30 (D_z 0 26)) := uM_0_30 hE2 (x := D_z 0 26) (by omega) (by omega)
          have u26 : pm_upd (pm_upd D_z 0 25 (D_z 0 24)) 0 29 1 0 26 = D_z 0 26 := by rw [upd_n2 (by omega), upd_n2 (by omega)]
          have hE0 : ∀ r_z j_z : Int, ¬ (r_z = 0 ∧ (j_z = 25 ∨ j_z = 29 ∨ j_z = 30)) → pm_upd (pm_upd (pm_upd D_z 0 25 (D_z 0 24)) 0 29 1) 0 30 (D_z 0 26) r_z j_z = D_z r_z j_z := fun r_z j_z hr => by
            rw [upd_o (fun e_z => hr ⟨e_z.1, by omega⟩), upd_o (fun e_z => hr ⟨e_z.1, by omega⟩), upd_o (fun e_z => hr ⟨e_z.1, by omega⟩)]
          have h25 : pm_upd (pm_upd (pm_upd D_z 0 25 (D_z 0 24)) 0 29 1) 0 30 (D_z 0 26) 0 25 = D_z 0 24 := by rw [upd_n2 (by omega), upd_n2 (by omega), upd_at]
          have h29 : pm_upd (pm_upd (pm_upd D_z 0 25 (D_z 0 24)) 0 29 1) 0 30 (D_z 0 26) 0 29 = 1 := by rw [upd_n2 (by omega), upd_at]
          have h30 : pm_upd (pm_upd (pm_upd D_z 0 25 (D_z 0 24)) 0 29 1) 0 30 (D_z 0 26) 0 30 = D_z 0 26 := upd_at
          refine wq_ok srt_Mall (fr := []) (cuts := [55]) (J := fun pc st_z => (pc = 55 ∧ st_z = ([(2, 0), (0, 1), (0, 0), (9, 0)], [], pm_upd (pm_upd (pm_upd D_z 0 25 (D_z 0 24)) 0 29 1) 0 30 (pm_upd (pm_upd D_z 0 25 (D_z 0 24)) 0 29 1 0 26)))) ?_ 30 17 _ ?_
          · rintro pc st_z (⟨rfl, rfl⟩)
            rw [u26]
            generalize pm_upd (pm_upd (pm_upd D_z 0 25 (D_z 0 24)) 0 29 1) 0 30 (D_z 0 26) = E_z at hE3 hE0 h25 h29 h30
            have hSE_z : gxS s (A 0 7) (A 0 8) La_z Rh E_z := hSD.keep hD.1 (hE0 0 7 (by omega)) (hE0 0 8 (by omega)) (hE0 0 24 (by omega)) (hE0 0 26 (by omega)) (fun j_z _ => hE0 17 j_z (by omega)) (fun j_z _ => hE0 18 j_z (by omega)) (fun l l0 l1 r_z j_z hr => hE0 r_z j_z (by unfold inS at hr; omega))
            have f26 := hSE_z.2.1.1
            have f24 := hSE_z.2.2.1
            have hAH : alH E_z := by
              refine ⟨⟨hE3, by omega⟩, fun l l0 l1 => ?_⟩
              have hlt : l.toNat < La_z.length := by omega
              have h1 := hSE_z.2.1.2.1 l.toNat _ (List.getElem?_eq_getElem hlt)
              rw [Int.toNat_of_nonneg l0] at h1
              have h2 := h1.2.1.1
              rw [LSm_len] at h2
              exact ⟨h1.cf, by omega⟩
            obtain ⟨n_z, r_z, c1_z, hr1, hr2, hr3, hr4⟩ := bl_55 hAH _ 0 (9, 0) E_z (Nat.lt_succ_self _) (by omega) (by omega) ⟨hE3, fun _ _ _ _ _ => rfl⟩ (fun k_z k0_z k1_z => by omega)
            refine ⟨n_z, r_z, c1_z, Or.inr ⟨La_z, Rh, E_z, hZ, ⟨hSE_z, hE3⟩, hl, by rw [hr1, f24], by rw [hr2 25 (by omega), h25, e24_z], ⟨by rw [hr2 29 (by omega)]; exact h29, by rw [hr2 30 (by omega), h30, e26_z], by rw [hr3, hSE_z.1.1, hSE_z.1.2]⟩, by rw [← f26]; exact hr4⟩⟩
          · refine ⟨fun hh => absurd hh (by decide), fun _ => ?_⟩
            refine ⟨oM_0 (by omega) km0 24 rfl, ?_⟩
            refine ⟨oM_0 (by omega) km0 25 rfl, ?_⟩
            refine ⟨fun _ => ?_, fun hh => absurd hh (by decide)⟩
            refine ⟨oM_0 (by omega) km0 29 rfl, ?_⟩
            refine ⟨oM_0 (by omega) km0 26 rfl, ?_⟩
            refine ⟨oM_0 (by omega) km0 30 rfl, ?_⟩
            exact ⟨rfl, rfl⟩
      · refine ⟨rM_0 (by omega) km0, ?_⟩
        refine (restores_ex (p := 30) hB_z.1 (by omega) (by omega)).imp ?_
        rintro ⟨r1_z, D_z⟩ ⟨q1_z, q2_z⟩
        simp only at q1_z q2_z
        subst q1_z
        exact ⟨rfl, D_z, q2_z, rfl⟩
    · refine ⟨rM_0 (by omega) km0, ?_⟩
      refine hgt.imp ?_
      rintro ⟨r1_z, B_z⟩ hq
      obtain ⟨y_z, hy⟩ : ∃ y_z, r1_z = some (0, y_z) := by
        rcases hq.2 with h1 | h1
        · exact ⟨0, h1.1⟩
        · exact ⟨1, h1.1⟩
      subst hy
      exact ⟨rfl, B_z, y_z, hq, rfl⟩
  · refine ⟨rM_0 (by omega) km0, ?_⟩
    refine (saves_ex (p := 30) hg (by omega) (by omega)).imp ?_
    rintro ⟨r1_z, C_z⟩ ⟨q1_z, q2_z⟩
    simp only at q1_z q2_z
    subst q1_z
    exact ⟨rfl, C_z, q2_z, rfl⟩
end

section
/-! all alike on both sides; count on both sides -/
theorem sq_Xcount : pm_srt o_X9_count = true := by decide +kernel
theorem sq_Mcount : pm_srt o_X10_count = true := by decide +kernel
theorem sq_allTerms : pm_srt o_X7_allTerms = true := by decide +kernel
theorem smP_n {f : Int → Int} : ∀ n_z : Nat, n_z ≤ 6 → (∀ q_z : Int, 0 ≤ q_z → q_z < n_z → 0 ≤ f q_z ∧ f q_z ≤ 200) → 0 ≤ smP f n_z ∧ smP f n_z ≤ 200 * (n_z : Int)
  | 0, _, _ => by show (0 : Int) ≤ 0 ∧ (0 : Int) ≤ _; omega
  | n_z + 1, h_z, hf => by
    have h1 := smP_n n_z (by omega) (fun q_z q0 q1_z => hf q_z q0 (by omega))
    have h2 := hf n_z (by omega) (by omega)
    show 0 ≤ smP f n_z + f n_z ∧ smP f n_z + f n_z ≤ _
    omega
theorem at_4 {A : pm_A} (hS : StE A) : ∀ (m_z t_z : Nat), 6 - t_z < m_z → (t_z : Int) ≤ A 1 0 → Tm pmt (an_sh wX) o_X7_allTerms 4 ([(2, 1), (0, smP (fun i_z => A (A 4 i_z) 1) t_z), (0, (t_z : Int))], [], A) (fun r_z => r_z = (some (0, smP (fun i_z => A (A 4 i_z) 1) (A 1 0).toNat), A)) := by
  have a5 := hS.2.1.1.2.2.2.2.1
  have p6_z := fX_1_0 hS.1 (r := 1) (by omega) kk1
  have hb_z : ∀ q_z : Int, 0 ≤ q_z → q_z < 6 → 0 ≤ A (A 4 q_z) 1 ∧ A (A 4 q_z) 1 ≤ 200 := fun q_z q0 q1_z => by
    have el := eX_12 hS.1 (r := 4) (by omega) kk4 q0 q1_z
    exact fX_2_1 hS.1 el.1 el.2
  intro m_z
  induction m_z with
  | zero => intro t_z h_z; omega
  | succ m_z ih_z =>
    intro t_z hm_z t1_z
    refine wq_ok sq_allTerms (fr := []) (cuts := [4]) (J := fun pc st_z => pc = 4 ∧ (t_z : Int) < A 1 0 ∧ st_z = ([(2, 1), (0, smP (fun i_z => A (A 4 i_z) 1) t_z + A (A 4 (t_z : Int)) 1), (0, (t_z : Int) + 1)], [], A)) ?_ 30 4 _ ?_
    · rintro pc st_z ⟨rfl, h1, rfl⟩
      rw [show (t_z : Int) + 1 = ((t_z + 1 : Nat) : Int) by omega]
      exact ih_z (t_z + 1) (by omega) (by omega)
    · refine ⟨oX_1 (by omega) kk1 0 rfl, ?_⟩
      refine ⟨fun h_z => ?_, fun h_z => ?_⟩
      · have e_z : t_z = (A 1 0).toNat := by omega
        exact ⟨rfl, by rw [e_z]⟩
      · have el := eX_12 hS.1 (r := 4) (by omega) kk4 (j := (t_z : Int)) (by omega) (by omega)
        have b1 := smP_n (f := fun i_z => A (A 4 i_z) 1) t_z (by omega) (fun q_z q0 q1_z => hb_z q_z q0 (by omega))
        have b2 := hb_z (t_z : Int) (by omega) (by omega)
        refine ⟨oX_1 (by omega) kk1 4 rfl, ?_⟩
        refine ⟨aX_12 (by rw [a5]; omega) (by rw [a5]; exact kk4) (by omega) (by omega), ?_⟩
        refine ⟨oX_2 (by rw [a5]; exact el.1) (by rw [a5]; exact el.2) 1 rfl, ?_⟩
        rw [a5]
        refine ⟨⟨by omega, by omega⟩, ?_⟩
        refine ⟨⟨by omega, by omega⟩, ?_⟩
        exact ⟨rfl, h_z, rfl⟩
theorem allTerms_ex {A : pm_A} (hS : StE A) : Cl pmt (an_sh wX) 66 [(2, 1)] A (fun r_z => r_z = (some (0, smP (fun i_z => A (A 4 i_z) 1) (A 1 0).toNat), A)) := by
  have p6_z := fX_1_0 hS.1 (r := 1) (by omega) kk1
  refine Cl.of (Nat.le_of_ble_eq_true rfl) ?_
  refine wq_ok (full := o_X7_allTerms) sq_allTerms (fr := []) (cuts := [4]) (J := fun pc st_z => pc = 4 ∧ st_z = ([(2, 1), (0, 0), (0, 0)], [], A)) ?_ 20 0 _ ?_
  · rintro pc st_z ⟨rfl, rfl⟩
    exact at_4 hS _ 0 (Nat.lt_succ_self _) (by omega)
  · exact ⟨rfl, rfl⟩
def cnt (p h t T z x : Int) : Int := if x = 0 then p else if x = 1 then h else if x = 2 then t else if x = 3 then T else if x = 4 then z else -1
theorem cnt_no {p h t T z x : Int} (hx : x < 0 ∨ 4 < x) : cnt p h t T z x = -1 := by
  unfold cnt
  rw [if_neg (by omega), if_neg (by omega), if_neg (by omega), if_neg (by omega), if_neg (by omega)]
theorem xcnt_ex {A : pm_A} {x : Int} (hS : StE A) : Cl pmt (an_sh wX) 88 [(2, 0), (0, x)] A (fun r_z => r_z = (some (0, cnt (A 1 0) (A 1 1) (A 0 4) (smP (fun i_z => A (A 4 i_z) 1) (A 1 0).toNat) (A 0 10) x), A)) := by
  have a1_z := hS.2.1.1.1
  have k1_z : 0 ≤ A 0 0 := by rw [a1_z]; omega
  have k2_z : wX.2 (A 0 0) = 1 := by rw [a1_z]; exact kk1
  refine Cl.of (Nat.le_of_ble_eq_true rfl) ?_
  refine wq_ok (full := o_X9_count) sq_Xcount (fr := []) (cuts := [1]) (J := fun pc st_z => pc = 1 ∧ st_z = ([(2, 0), (0, x)], [(0, x)], A)) ?_ 10 0 _ ?_
  · rintro pc st_z ⟨rfl, rfl⟩
    by_cases hx : x < 0 ∨ 4 < x
    · have st0 : pm_step (an_sh wX) (pm_call pmt (an_sh wX) 0) (36, 16, 0, 70, 35, 0, [36, 44, 52, 57, 65]) ([(2, 0), (0, x)], [(0, x)], A) = some (.inl (70, ([(2, 0), (0, x)], [], A))) := by
        simp only [pm_step, k_i]
        rw [if_pos (by simp only [List.length_cons, List.length_nil]; omega)]
      refine Tm.step sq_Xcount (q := (1, 36, 16, 0, 70, 35, 0, [36, 44, 52, 57, 65])) rfl st0 ?_
      refine wq_ok sq_Xcount (fr := []) (cuts := []) (J := fun _ _ => False) (fun _ _ h_z => h_z.elim) 10 70 _ ?_
      rw [cnt_no hx]
      exact ⟨rfl, rfl⟩
    · have h5 : x = 0 ∨ x = 1 ∨ x = 2 ∨ x = 3 ∨ x = 4 := by omega
      rcases h5 with rfl | rfl | rfl | rfl | rfl
      · refine Tm.step sq_Xcount (q := (1, 36, 16, 0, 70, 35, 0, [36, 44, 52, 57, 65])) rfl (n0 := 0) (pc' := 36) (s' := ([(2, 0), (0, 0)], [], A)) rfl ?_
        refine wq_ok sq_Xcount (fr := []) (cuts := []) (J := fun _ _ => False) (fun _ _ h_z => h_z.elim) 10 36 _ ?_
        refine ⟨oX_0 z0 kk0 0 rfl, ?_⟩
        refine ⟨oX_1 k1_z k2_z 0 rfl, ?_⟩
        refine ⟨rfl, ?_⟩
        rw [a1_z] <;> rfl
      · refine Tm.step sq_Xcount (q := (1, 36, 16, 0, 70, 35, 0, [36, 44, 52, 57, 65])) rfl (n0 := 0) (pc' := 44) (s' := ([(2, 0), (0, 1)], [], A)) rfl ?_
        refine wq_ok sq_Xcount (fr := []) (cuts := []) (J := fun _ _ => False) (fun _ _ h_z => h_z.elim) 10 44 _ ?_
        refine ⟨oX_0 z0 kk0 0 rfl, ?_⟩
        refine ⟨oX_1 k1_z k2_z 1 rfl, ?_⟩
        refine ⟨rfl, ?_⟩
        rw [a1_z] <;> rfl
      · refine Tm.step sq_Xcount (q := (1, 36, 16, 0, 70, 35, 0, [36, 44, 52, 57, 65])) rfl (n0 := 0) (pc' := 52) (s' := ([(2, 0), (0, 2)], [], A)) rfl ?_
        refine wq_ok sq_Xcount (fr := []) (cuts := []) (J := fun _ _ => False) (fun _ _ h_z => h_z.elim) 10 52 _ ?_
        refine ⟨oX_0 z0 kk0 4 rfl, ?_⟩
        exact ⟨rfl, rfl⟩
      · refine Tm.step sq_Xcount (q := (1, 36, 16, 0, 70, 35, 0, [36, 44, 52, 57, 65])) rfl (n0 := 0) (pc' := 57) (s' := ([(2, 0), (0, 3)], [], A)) rfl ?_
        refine wq_ok sq_Xcount (fr := []) (cuts := []) (J := fun _ _ => False) (fun _ _ h_z => h_z.elim) 10 57 _ ?_
        refine ⟨oX_0 z0 kk0 0 rfl, ?_⟩
        refine ⟨rX_1 k1_z k2_z, ?_⟩
        rw [a1_z]
        refine (allTerms_ex hS).imp ?_
        rintro r_z rfl
        exact ⟨rfl, rfl⟩
      · refine Tm.step sq_Xcount (q := (1, 36, 16, 0, 70, 35, 0, [36, 44, 52, 57, 65])) rfl (n0 := 0) (pc' := 65) (s' := ([(2, 0), (0, 4)], [], A)) rfl ?_
        refine wq_ok sq_Xcount (fr := []) (cuts := []) (J := fun _ _ => False) (fun _ _ h_z => h_z.elim) 10 65 _ ?_
        refine ⟨oX_0 z0 kk0 10 rfl, ?_⟩
        exact ⟨rfl, rfl⟩
  · exact ⟨rfl, rfl⟩
theorem mc_55 {A : pm_A} {x : Int} (hg : gH wM A) : ∀ (m_z t_z : Nat), 6 - t_z < m_z → (t_z : Int) ≤ A 0 7 → Tm pmt (an_sh wM) o_X10_count 55 ([(2, 0), (0, x), (0, smP (A 1) t_z), (0, (t_z : Int))], [], A) (fun r_z => r_z = (some (0, smP (A 1) (A 0 7).toNat), A)) := by
  have c1_z := pM_1 hg
  have p7_z := fM_0_7 hg (r := 0) (by omega) km0
  have hb_z : ∀ q_z : Int, 0 ≤ q_z → q_z < 6 → 0 ≤ A 1 q_z ∧ A 1 q_z ≤ 200 := fun q_z q0 q1_z => eM_1 hg (r := 1) (by omega) kn1 q0 (by omega)
  intro m_z
  induction m_z with
  | zero => intro t_z h_z; omega
  | succ m_z ih_z =>
    intro t_z hm_z t1_z
    refine wq_ok sq_Mcount (fr := []) (cuts := [55]) (J := fun pc st_z => pc = 55 ∧ (t_z : Int) < A 0 7 ∧ st_z = ([(2, 0), (0, x), (0, smP (A 1) t_z + A 1 (t_z : Int)), (0, (t_z : Int) + 1)], [], A)) ?_ 30 55 _ ?_
    · rintro pc st_z ⟨rfl, h1, rfl⟩
      rw [show (t_z : Int) + 1 = ((t_z + 1 : Nat) : Int) by omega]
      exact ih_z (t_z + 1) (by omega) (by omega)
    · refine ⟨oM_0 (by omega) km0 7 rfl, ?_⟩
      refine ⟨fun h_z => ?_, fun h_z => ?_⟩
      · have e_z : t_z = (A 0 7).toNat := by omega
        exact ⟨rfl, by rw [e_z]⟩
      · have b1 := smP_n (f := A 1) t_z (by omega) (fun q_z q0 q1_z => hb_z q_z q0 (by omega))
        have b2 := hb_z (t_z : Int) (by omega) (by omega)
        refine ⟨oM_0 (by omega) km0 1 rfl, ?_⟩
        refine ⟨aM_1 (r := A 0 1) (by rw [c1_z]; omega) (by rw [c1_z]; exact kn1) (by omega) (by omega), ?_⟩
        rw [c1_z]
        refine ⟨⟨by omega, by omega⟩, ?_⟩
        refine ⟨⟨by omega, by omega⟩, ?_⟩
        exact ⟨rfl, h_z, rfl⟩
theorem mcount_ex {A : pm_A} {x : Int} (hg : gH wM A) : Cl pmt (an_sh wM) 135 [(2, 0), (0, x)] A (fun r_z => r_z = (some (0, cnt (A 0 7) (A 0 8) (A 0 10) (smP (A 1) (A 0 7).toNat) (A 0 25) x), A)) := by
  have p7_z := fM_0_7 hg (r := 0) (by omega) km0
  refine Cl.of (Nat.le_of_ble_eq_true rfl) ?_
  refine wq_ok (full := o_X10_count) sq_Mcount (fr := []) (cuts := [1]) (J := fun pc st_z => pc = 1 ∧ st_z = ([(2, 0), (0, x), (9, 0), (9, 0)], [(0, x)], A)) ?_ 10 0 _ ?_
  · rintro pc st_z ⟨rfl, rfl⟩
    by_cases hx : x < 0 ∨ 4 < x
    · have st0 : pm_step (an_sh wM) (pm_call pmt (an_sh wM) 0) (36, 16, 0, 85, 35, 0, [36, 41, 46, 51, 80]) ([(2, 0), (0, x), (9, 0), (9, 0)], [(0, x)], A) = some (.inl (85, ([(2, 0), (0, x), (9, 0), (9, 0)], [], A))) := by
        simp only [pm_step, k_i]
        rw [if_pos (by simp only [List.length_cons, List.length_nil]; omega)]
      refine Tm.step sq_Mcount (q := (1, 36, 16, 0, 85, 35, 0, [36, 41, 46, 51, 80])) rfl st0 ?_
      refine wq_ok sq_Mcount (fr := []) (cuts := []) (J := fun _ _ => False) (fun _ _ h_z => h_z.elim) 10 85 _ ?_
      rw [cnt_no hx]
      exact ⟨rfl, rfl⟩
    · have h5 : x = 0 ∨ x = 1 ∨ x = 2 ∨ x = 3 ∨ x = 4 := by omega
      rcases h5 with rfl | rfl | rfl | rfl | rfl
      · refine Tm.step sq_Mcount (q := (1, 36, 16, 0, 85, 35, 0, [36, 41, 46, 51, 80])) rfl (n0 := 0) (pc' := 36) (s' := ([(2, 0), (0, 0), (9, 0), (9, 0)], [], A)) rfl ?_
        refine wq_ok sq_Mcount (fr := []) (cuts := []) (J := fun _ _ => False) (fun _ _ h_z => h_z.elim) 10 36 _ ?_
        refine ⟨oM_0 (by omega) km0 7 rfl, ?_⟩
        exact ⟨rfl, rfl⟩
      · refine Tm.step sq_Mcount (q := (1, 36, 16, 0, 85, 35, 0, [36, 41, 46, 51, 80])) rfl (n0 := 0) (pc' := 41) (s' := ([(2, 0), (0, 1), (9, 0), (9, 0)], [], A)) rfl ?_
        refine wq_ok sq_Mcount (fr := []) (cuts := []) (J := fun _ _ => False) (fun _ _ h_z => h_z.elim) 10 41 _ ?_
        refine ⟨oM_0 (by omega) km0 8 rfl, ?_⟩
        exact ⟨rfl, rfl⟩
      · refine Tm.step sq_Mcount (q := (1, 36, 16, 0, 85, 35, 0, [36, 41, 46, 51, 80])) rfl (n0 := 0) (pc' := 46) (s' := ([(2, 0), (0, 2), (9, 0), (9, 0)], [], A)) rfl ?_
        refine wq_ok sq_Mcount (fr := []) (cuts := []) (J := fun _ _ => False) (fun _ _ h_z => h_z.elim) 10 46 _ ?_
        refine ⟨oM_0 (by omega) km0 10 rfl, ?_⟩
        exact ⟨rfl, rfl⟩
      · refine Tm.step sq_Mcount (q := (1, 36, 16, 0, 85, 35, 0, [36, 41, 46, 51, 80])) rfl (n0 := 0) (pc' := 51) (s' := ([(2, 0), (0, 3), (9, 0), (9, 0)], [], A)) rfl ?_
        refine wq_ok sq_Mcount (fr := []) (cuts := [55]) (J := fun pc st_z => pc = 55 ∧ st_z = ([(2, 0), (0, 3), (0, 0), (0, 0)], [], A)) ?_ 10 51 _ ?_
        · rintro pc st_z ⟨rfl, rfl⟩
          exact mc_55 hg _ 0 (Nat.lt_succ_self _) (by omega)
        · exact ⟨rfl, rfl⟩
      · refine Tm.step sq_Mcount (q := (1, 36, 16, 0, 85, 35, 0, [36, 41, 46, 51, 80])) rfl (n0 := 0) (pc' := 80) (s' := ([(2, 0), (0, 4), (9, 0), (9, 0)], [], A)) rfl ?_
        refine wq_ok sq_Mcount (fr := []) (cuts := []) (J := fun _ _ => False) (fun _ _ h_z => h_z.elim) 10 80 _ ?_
        refine ⟨oM_0 (by omega) km0 25 rfl, ?_⟩
        exact ⟨rfl, rfl⟩
  · exact ⟨rfl, rfl⟩
def SA (AX AM : pm_A) : Prop := AX 0 10 = AM 0 25
theorem SA.k {AX BX AM BM : pm_A} {ms mt : List Nat} (h : SA AX AM) (hX : gFk wY ms AX BX) (hM : gFk wM mt AM BM) (a1 : avoid [10] ms = true) (a2 : avoid [25] mt = true) : SA BX BM := by
  unfold SA
  rw [hX 0 10 (by omega) (by omega) (by rw [kc_o (a := 0) kk0 (by decide) (shX_0 kk0)]; exact avoid_n a1 (by decide)), hM 0 25 (by omega) (by omega) (by rw [kMd 25]; exact avoid_n a2 (by decide))]
  exact h
theorem sa_first : SA (wA WX) A0M := by unfold SA; decide +kernel
theorem rl_all {s : cx_Sd 12} {ks : List (Fin 12)} {AX AM : pm_A} {q r : pm_R} (h : XRs s ks AX AM) (hq : xlP2 s ks AX (bgW AX 1) (AX 1 0) q) (hr : mlE s (AM 0 7) (AM 0 8) (fun o_z => ∃ n_z, allA s (AM 0 7 + AM 0 8) (AM 0 7) n_z (firstL s ks (AM 0 7).toNat) [ks] 0 0 o_z) AM r) : SA q.2 r.2 ∧ q.1 = r.1 := by
  have h7 := h.1.2.2.2.1
  have eW : bgW AX 1 = AM 0 7 + AM 0 8 := by unfold bgW; rw [h7, h.1.2.2.2.2]
  rw [eW, h7] at hq
  obtain ⟨C_z, z_z, hE, e1, e2, _⟩ := hq
  have hX : ∃ o_z, (∃ n_z, allA s (AM 0 7 + AM 0 8) (AM 0 7) n_z (firstL s ks (AM 0 7).toNat) [ks] 0 0 o_z) ∧ ((o_z = none ∧ z_z = -2) ∨ ∃ La_z Rh, o_z = some (La_z, Rh) ∧ z_z = (Rh.length : Int)) := by
    rcases hE with ⟨_, _, hZ, e_z⟩ | ⟨La_z, Rh, B_z, hZ, e_z, _⟩
    · refine ⟨none, hZ, Or.inl ⟨rfl, ?_⟩⟩
      cases e_z
      rfl
    · refine ⟨some (La_z, Rh), hZ, Or.inr ⟨La_z, Rh, rfl, ?_⟩⟩
      cases e_z
      rfl
  obtain ⟨o_z, ⟨n_z, ho⟩, hz⟩ := hX
  have h10 : q.2 0 10 = max z_z 0 := by rw [e2, upd_at]
  unfold SA
  rw [h10, e1]
  rcases hr with ⟨r1_z, ⟨m_z, hm_z⟩, r2_z, _⟩ | ⟨L2_z, R2, D_z, ⟨m_z, hm_z⟩, _, _, r1_z, r2_z, _⟩
  · have e_z := allA_u ho hm_z
    rcases hz with ⟨_, e3⟩ | ⟨La_z, Rh, e3, _⟩
    · rw [r1_z, r2_z, e3]
      exact ⟨by decide, rfl⟩
    · rw [e_z] at e3
      cases e3
  · have e_z := allA_u ho hm_z
    rcases hz with ⟨e3, _⟩ | ⟨La_z, Rh, e3, e4_z⟩
    · rw [e_z] at e3
      cases e3
    · rw [e_z] at e3
      have h5 := Option.some.inj e3
      injection h5 with _ h6
      rw [r1_z, r2_z, e4_z, h6]
      exact ⟨by omega, rfl⟩
theorem rl_count {s : cx_Sd 12} {ks : List (Fin 12)} {AX AM : pm_A} {x : Int} {q r : pm_R} (h : XRs s ks AX AM) (hs : SA AX AM) (hq : q = (some (0, cnt (AX 1 0) (AX 1 1) (AX 0 4) (smP (fun i_z => AX (AX 4 i_z) 1) (AX 1 0).toNat) (AX 0 10) x), AX)) (hr : r = (some (0, cnt (AM 0 7) (AM 0 8) (AM 0 10) (smP (AM 1) (AM 0 7).toNat) (AM 0 25) x), AM)) : q.1 = r.1 := by
  have h7 := h.1.2.2.2.1
  have p7_z := fM_0_7 h.1.2.2.1.1 (r := 0) (by omega) km0
  have e_z : smP (fun i_z => AX (AX 4 i_z) 1) (AM 0 7).toNat = smP (AM 1) (AM 0 7).toNat := smP_c _ (fun i_z i0_z i1_z => (h.1.at i0_z (by omega)).1.1)
  have e3 : AX 0 10 = AM 0 25 := hs
  rw [hq, hr]
  show some (0, _) = some (0, _)
  rw [h7, h.1.2.2.2.2, h.2.2.1.1, e_z, e3]
end

section
/-! what turn writes of the class: the list of turned places is a kind of its own -/
def wT : an_W := ((KX.set 0 (0, 9, 15, [(2, 1, 0), (2, 3, 0), (2, 4, 0), (2, 36, 0), (0, 0, 100), (2, 20, 0), (2, 21, 0), (0, 0, 12), (2, 1, 0), (2, 5, 0), (0, (-2147483648), 2147483647), (2, 6, 0), (2, 7, 0), (2, 34, 0), (2, 8, 0)]) ++ [(1, 0, 100, [(0, (-2147483648), 2147483647)])]), fun r_z => if r_z = 46 then 36 else wX.2 r_z)
theorem shT : an_sh wT = an_sh wX := by
  funext r_z
  unfold an_sh
  show (match (KX.set 0 (0, 9, 15, [(2, 1, 0), (2, 3, 0), (2, 4, 0), (2, 36, 0), (0, 0, 100), (2, 20, 0), (2, 21, 0), (0, 0, 12), (2, 1, 0), (2, 5, 0), (0, (-2147483648), 2147483647), (2, 6, 0), (2, 7, 0), (2, 34, 0), (2, 8, 0)]) ++ [(1, 0, 100, [(0, (-2147483648), 2147483647)])])[if r_z = 46 then 36 else wX.2 r_z]? with
    | some k_z => (k_z.1, k_z.2.1, k_z.2.2.1)
    | none => (2, 0, 0)) = match KX[wX.2 r_z]? with
    | some k_z => (k_z.1, k_z.2.1, k_z.2.2.1)
    | none => (2, 0, 0)
  by_cases e_z : r_z = 46
  · subst e_z
    decide
  · rw [if_neg e_z]
    have key_z : ∀ i_z : Nat, i_z < 36 → (match (KX.set 0 (0, 9, 15, [(2, 1, 0), (2, 3, 0), (2, 4, 0), (2, 36, 0), (0, 0, 100), (2, 20, 0), (2, 21, 0), (0, 0, 12), (2, 1, 0), (2, 5, 0), (0, (-2147483648), 2147483647), (2, 6, 0), (2, 7, 0), (2, 34, 0), (2, 8, 0)]) ++ [(1, 0, 100, [(0, (-2147483648), 2147483647)])])[i_z]? with
      | some k_z => (k_z.1, k_z.2.1, k_z.2.2.1)
      | none => (2, 0, 0)) = match KX[i_z]? with
      | some k_z => (k_z.1, k_z.2.1, k_z.2.2.1)
      | none => (2, 0, 0) := by
      intro i_z hi_z
      have : ∀ j_z : Fin 36, (match (KX.set 0 (0, 9, 15, [(2, 1, 0), (2, 3, 0), (2, 4, 0), (2, 36, 0), (0, 0, 100), (2, 20, 0), (2, 21, 0), (0, 0, 12), (2, 1, 0), (2, 5, 0), (0, (-2147483648), 2147483647), (2, 6, 0), (2, 7, 0), (2, 34, 0), (2, 8, 0)]) ++ [(1, 0, 100, [(0, (-2147483648), 2147483647)])])[j_z.1]? with
        | some k_z => (k_z.1, k_z.2.1, k_z.2.2.1)
        | none => ((2, 0, 0) : Nat × Nat × Int)) = match KX[j_z.1]? with
        | some k_z => (k_z.1, k_z.2.1, k_z.2.2.1)
        | none => (2, 0, 0) := by decide +kernel
      exact this ⟨i_z, hi_z⟩
    by_cases l : wX.2 r_z < 36
    · exact key_z _ l
    · have hw : wX.2 r_z = 9999 := by
        show (if r_z < 0 then 9999 else kdXl.getD r_z.toNat 9999) = 9999
        have l : ¬ (if r_z < 0 then 9999 else kdXl.getD r_z.toNat 9999) < 36 := l
        by_cases r0 : r_z < 0
        · rw [if_pos r0]
        · rw [if_neg r0] at l ⊢
          by_cases lr : r_z.toNat < kdXl.length
          · have hall : kdXl.all (fun x_z => decide (x_z < 36)) = true := by decide +kernel
            have hm_z := List.all_eq_true.mp hall (kdXl[r_z.toNat]) (List.getElem_mem lr)
            rw [List.getD_eq_getElem?_getD, List.getElem?_eq_getElem lr] at l
            exact absurd (of_decide_eq_true hm_z) l
          · exact getD_ge (by omega)
      rw [hw]
      rfl
def ctTl : List (Nat × ks_Q) := [(96, ([3, 1], 2, [])), (117, ([13, 1, 1, 1], 2, [])), (98, ([13, 1, 1, 1], 2, [])), (1, ([21, 1], 0, [10018])), (44, ([2, 2], 3, [])), (75, ([5, 1], 0, [200, 201])), (77, ([5, 21, 1], 2, [])), (73, ([5, 21, 2, 1], 2, [201, 10014, 10015])), (40, ([7, 4, 1, 1, 5], 2, [200, 201, 10014, 10015, 10018])), (45, ([7, 5, 5, 5], 2, [200, 201, 10014, 10015, 10018])), (46, ([7, 4, 1, 1, 5, 5], 2, [200, 201, 10014, 10015, 10018])), (77, ([1, 21, 1], 2, [])), (73, ([1, 21, 2, 1], 2, [201, 10014, 10015])), (39, ([7, 1, 1], 2, [201, 10014, 10015, 10018])), (48, ([7, 1, 1, 5, 2], 2, [10014, 10018])), (41, ([7, 1, 5], 2, [200, 201, 10014, 10015, 10018])), (42, ([7, 4, 1], 2, [200, 201, 10014, 10015, 10018])), (116, ([13, 1, 1, 1], 0, [10010])), (47, ([7, 4, 1], 0, [400, 10010, 10012])), (115, ([3, 1], 2, [4, 200, 201, 400, 10010, 10012, 10014, 10015, 10018, 10036]))]
def ctT (mid : Nat) : List ks_Q := (ctTl.filter (fun x_z => Nat.beq x_z.1 mid)).map (fun x_z => x_z.2)
def rwT0 : List (Nat × ks_Q × ks_C) := [(96, ([3, 1], 2, []), [(0, [3, 1], []), (1, [3, 1], [1]), (4, [3, 1], []), (5, [3, 1], [1]), (6, [3, 1], [3, 1]), (9, [3, 1], [4, 1]), (12, [3, 1], [1, 1]), (15, [3, 1], []), (16, [3, 1], [1]), (19, [3, 1], []), (20, [3, 1], [1])]), (117, ([13, 1, 1, 1], 2, []), [(0, [13, 1, 1, 1, 1, 1, 1], []), (1, [13, 1, 1, 1, 1, 1, 1], [13]), (2, [13, 1, 1, 1, 1, 1, 1], [1, 13]), (4, [13, 1, 1, 1, 1, 1, 1], [1, 1, 13]), (5, [13, 1, 1, 1, 1, 1, 1], [1, 13]), (6, [13, 1, 1, 1, 1, 1, 1], [1, 1, 13]), (7, [13, 1, 1, 1, 1, 1, 1], [1, 13]), (8, [13, 1, 1, 1, 1, 1, 1], [1]), (10, [13, 1, 1, 1, 1, 1, 1], []), (11, [13, 1, 1, 1, 1, 1, 1], [13]), (12, [13, 1, 1, 1, 1, 1, 1], [1, 13]), (14, [13, 1, 1, 1, 1, 1, 1], [1, 1, 13]), (15, [13, 1, 1, 1, 1, 1, 1], [1, 13]), (16, [13, 1, 1, 1, 1, 1, 1], [1, 1, 13]), (17, [13, 1, 1, 1, 1, 1, 1], [1, 13]), (18, [13, 1, 1, 1, 1, 1, 1], [1]), (20, [13, 1, 1, 1, 1, 1, 1], []), (22, [13, 1, 1, 1, 1, 1, 1], [1]), (25, [13, 1, 1, 1, 1, 1, 1], []), (27, [13, 1, 1, 1, 1, 1, 1], [1]), (30, [13, 1, 1, 1, 1, 1, 1], []), (32, [13, 1, 1, 1, 1, 1, 1], [1]), (35, [13, 1, 1, 1, 1, 1, 1], []), (37, [13, 1, 1, 1, 1, 1, 1], [1]), (40, [13, 1, 1, 1, 1, 1, 1], []), (41, [13, 1, 1, 1, 1, 1, 1], [1]), (44, [13, 1, 1, 1, 1, 1, 1], []), (45, [13, 1, 1, 1, 1, 1, 1], [1]), (47, [13, 1, 1, 1, 1, 1, 1], []), (48, [13, 1, 1, 1, 1, 1, 1], [13]), (49, [13, 1, 1, 1, 1, 1, 1], [1, 13]), (51, [13, 1, 1, 1, 1, 1, 1], [1, 1, 13]), (52, [13, 1, 1, 1, 1, 1, 1], [1, 13]), (53, [13, 1, 1, 1, 1, 1, 1], [1, 1, 13]), (54, [13, 1, 1, 1, 1, 1, 1], [1, 13]), (55, [13, 1, 1, 1, 1, 1, 1], [1]), (57, [13, 1, 1, 1, 1, 1, 1], [1, 1]), (60, [13, 1, 1, 1, 1, 1, 1], [1]), (62, [13, 1, 1, 1, 1, 1, 1], [1, 1]), (65, [13, 1, 1, 1, 1, 1, 1], [1, 1]), (67, [13, 1, 1, 1, 1, 1, 1], [1, 1, 1]), (68, [13, 1, 1, 1, 1, 1, 1], [1, 1]), (71, [13, 1, 1, 1, 1, 1, 1], [1]), (72, [13, 1, 1, 1, 1, 1, 1], [1, 1]), (73, [13, 1, 1, 1, 1, 1, 1], [1])]), (98, ([13, 1, 1, 1], 2, []), [(0, [13, 1, 1, 1, 1, 1], []), (1, [13, 1, 1, 1, 1, 1], [1]), (3, [13, 1, 1, 1, 1, 1], []), (5, [13, 1, 1, 1, 1, 1], [1]), (6, [13, 1, 1, 1, 1, 1], [1, 1]), (9, [13, 1, 1, 1, 1, 1], []), (10, [13, 1, 1, 1, 1, 1], [1]), (12, [13, 1, 1, 1, 1, 1], []), (14, [13, 1, 1, 1, 1, 1], [1]), (15, [13, 1, 1, 1, 1, 1], [1, 1]), (18, [13, 1, 1, 1, 1, 1], []), (20, [13, 1, 1, 1, 1, 1], [1]), (21, [13, 1, 1, 1, 1, 1], [1, 1]), (24, [13, 1, 1, 1, 1, 1], []), (26, [13, 1, 1, 1, 1, 1], [1]), (27, [13, 1, 1, 1, 1, 1], [1, 1]), (30, [13, 1, 1, 1, 1, 1], []), (31, [13, 1, 1, 1, 1, 1], [13]), (33, [13, 1, 1, 1, 1, 1], [1, 13]), (35, [13, 1, 1, 1, 1, 1], [1, 1, 13]), (36, [13, 1, 1, 1, 1, 1], [1, 1, 1, 13]), (39, [13, 1, 1, 1, 1, 1], [1]), (42, [13, 1, 1, 1, 1, 1], [1]), (45, [13, 1, 1, 1, 1, 1], [1, 1]), (48, [13, 1, 1, 1, 1, 1], []), (49, [13, 1, 1, 1, 1, 1], [1]), (50, [13, 1, 1, 1, 1, 1], []), (53, [13, 1, 1, 1, 1, 1], []), (56, [13, 1, 1, 1, 1, 1], []), (59, [13, 1, 1, 1, 1, 1], []), (62, [13, 1, 1, 1, 1, 1], []), (63, [13, 1, 1, 1, 1, 1], [1])]), (1, ([21, 1], 0, [10018]), [(0, [21, 1, 1, 1], []), (1, [21, 1, 1, 1], [1]), (2, [21, 1, 1, 1], []), (3, [21, 1, 1, 1], [21]), (4, [21, 1, 1, 1], [1]), (5, [21, 1, 1, 1], []), (6, [21, 1, 1, 1], [1]), (7, [21, 1, 1, 1], [1, 1]), (10, [21, 1, 1, 1], []), (11, [21, 1, 1, 1], [21]), (12, [21, 1, 1, 1], [1, 21]), (13, [21, 1, 1, 1], [1, 1, 21]), (14, [21, 1, 1, 1], []), (17, [21, 1, 1, 1], []), (20, [21, 1, 1, 1], [])]), (44, ([2, 2], 3, []), [(0, [2, 1, 2, 1], []), (1, [2, 1, 2, 1], [2]), (2, [2, 1, 2, 1], [2, 2]), (3, [2, 1, 2, 1], [1]), (6, [2, 1, 2, 1], []), (7, [2, 1, 2, 1], [2]), (10, [2, 1, 2, 1], [2, 2]), (11, [2, 1, 2, 1], [2, 2, 2]), (12, [2, 1, 2, 1], [2, 2]), (13, [2, 1, 2, 1], [1]), (16, [2, 1, 2, 1], []), (19, [2, 1, 2, 1], [2]), (22, [2, 1, 2, 1], []), (23, [2, 1, 2, 1], [2]), (24, [2, 1, 2, 1], [2, 2]), (25, [2, 1, 2, 1], [2])]), (75, ([5, 1], 0, [200, 201]), [(0, [5, 1], []), (1, [5, 1], [5]), (2, [5, 1], [1, 5]), (5, [5, 1], []), (6, [5, 1], [5]), (7, [5, 1], [1, 5]), (10, [5, 1], [])]), (77, ([5, 21, 1], 2, []), [(0, [5, 21, 1, 1, 1, 1, 1, 1, 1], []), (1, [5, 21, 1, 1, 1, 1, 1, 1, 1], [1]), (2, [5, 21, 1, 1, 1, 1, 1, 1, 1], []), (3, [5, 21, 1, 1, 1, 1, 1, 1, 1], [5]), (6, [5, 21, 1, 1, 1, 1, 1, 1, 1], [1]), (7, [5, 21, 1, 1, 1, 1, 1, 1, 1], [1, 1]), (8, [5, 21, 1, 1, 1, 1, 1, 1, 1], [1]), (10, [5, 21, 1, 1, 1, 1, 1, 1, 1], []), (11, [5, 21, 1, 1, 1, 1, 1, 1, 1], [1]), (13, [5, 21, 1, 1, 1, 1, 1, 1, 1], []), (15, [5, 21, 1, 1, 1, 1, 1, 1, 1], [1]), (18, [5, 21, 1, 1, 1, 1, 1, 1, 1], [1, 1]), (21, [5, 21, 1, 1, 1, 1, 1, 1, 1], []), (22, [5, 21, 1, 1, 1, 1, 1, 1, 1], [1]), (24, [5, 21, 1, 1, 1, 1, 1, 1, 1], [1, 1]), (27, [5, 21, 1, 1, 1, 1, 1, 1, 1], []), (28, [5, 21, 1, 1, 1, 1, 1, 1, 1], [1]), (30, [5, 21, 1, 1, 1, 1, 1, 1, 1], [1, 1]), (31, [5, 21, 1, 1, 1, 1, 1, 1, 1], [1]), (32, [5, 21, 1, 1, 1, 1, 1, 1, 1], [1, 1]), (33, [5, 21, 1, 1, 1, 1, 1, 1, 1], [1]), (35, [5, 21, 1, 1, 1, 1, 1, 1, 1], []), (37, [5, 21, 1, 1, 1, 1, 1, 1, 1], [1]), (38, [5, 21, 1, 1, 1, 1, 1, 1, 1], [5, 1]), (41, [5, 21, 1, 1, 1, 1, 1, 1, 1], [1, 1]), (42, [5, 21, 1, 1, 1, 1, 1, 1, 1], [1]), (44, [5, 21, 1, 1, 1, 1, 1, 1, 1], []), (45, [5, 21, 1, 1, 1, 1, 1, 1, 1], [1]), (47, [5, 21, 1, 1, 1, 1, 1, 1, 1], []), (49, [5, 21, 1, 1, 1, 1, 1, 1, 1], [1]), (50, [5, 21, 1, 1, 1, 1, 1, 1, 1], [5, 1]), (53, [5, 21, 1, 1, 1, 1, 1, 1, 1], [1, 1]), (56, [5, 21, 1, 1, 1, 1, 1, 1, 1], []), (57, [5, 21, 1, 1, 1, 1, 1, 1, 1], [5]), (60, [5, 21, 1, 1, 1, 1, 1, 1, 1], [18]), (62, [5, 21, 1, 1, 1, 1, 1, 1, 1], [1, 18]), (64, [5, 21, 1, 1, 1, 1, 1, 1, 1], [1, 1, 18]), (65, [5, 21, 1, 1, 1, 1, 1, 1, 1], [1, 18]), (66, [5, 21, 1, 1, 1, 1, 1, 1, 1], [1]), (67, [5, 21, 1, 1, 1, 1, 1, 1, 1], [21, 1]), (69, [5, 21, 1, 1, 1, 1, 1, 1, 1], [1, 21, 1]), (70, [5, 21, 1, 1, 1, 1, 1, 1, 1], [1, 1]), (73, [5, 21, 1, 1, 1, 1, 1, 1, 1], []), (76, [5, 21, 1, 1, 1, 1, 1, 1, 1], []), (79, [5, 21, 1, 1, 1, 1, 1, 1, 1], []), (81, [5, 21, 1, 1, 1, 1, 1, 1, 1], [1]), (82, [5, 21, 1, 1, 1, 1, 1, 1, 1], [5, 1]), (85, [5, 21, 1, 1, 1, 1, 1, 1, 1], [1, 1]), (88, [5, 21, 1, 1, 1, 1, 1, 1, 1], []), (90, [5, 21, 1, 1, 1, 1, 1, 1, 1], [1]), (91, [5, 21, 1, 1, 1, 1, 1, 1, 1], []), (92, [5, 21, 1, 1, 1, 1, 1, 1, 1], [5]), (95, [5, 21, 1, 1, 1, 1, 1, 1, 1], [18]), (97, [5, 21, 1, 1, 1, 1, 1, 1, 1], [1, 18]), (99, [5, 21, 1, 1, 1, 1, 1, 1, 1], [1, 1, 18]), (100, [5, 21, 1, 1, 1, 1, 1, 1, 1], [1, 18]), (101, [5, 21, 1, 1, 1, 1, 1, 1, 1], [1]), (102, [5, 21, 1, 1, 1, 1, 1, 1, 1], [21, 1]), (104, [5, 21, 1, 1, 1, 1, 1, 1, 1], [1, 21, 1]), (105, [5, 21, 1, 1, 1, 1, 1, 1, 1], [1, 1]), (108, [5, 21, 1, 1, 1, 1, 1, 1, 1], []), (110, [5, 21, 1, 1, 1, 1, 1, 1, 1], [1]), (111, [5, 21, 1, 1, 1, 1, 1, 1, 1], [1, 1]), (112, [5, 21, 1, 1, 1, 1, 1, 1, 1], [1]), (113, [5, 21, 1, 1, 1, 1, 1, 1, 1], []), (116, [5, 21, 1, 1, 1, 1, 1, 1, 1], []), (118, [5, 21, 1, 1, 1, 1, 1, 1, 1], [1]), (119, [5, 21, 1, 1, 1, 1, 1, 1, 1], [1, 1]), (120, [5, 21, 1, 1, 1, 1, 1, 1, 1], [1]), (122, [5, 21, 1, 1, 1, 1, 1, 1, 1], []), (125, [5, 21, 1, 1, 1, 1, 1, 1, 1], []), (128, [5, 21, 1, 1, 1, 1, 1, 1, 1], []), (129, [5, 21, 1, 1, 1, 1, 1, 1, 1], [1]), (130, [5, 21, 1, 1, 1, 1, 1, 1, 1], [1, 1]), (131, [5, 21, 1, 1, 1, 1, 1, 1, 1], [1])]), (73, ([5, 21, 2, 1], 2, [201, 10014, 10015]), [(0, [5, 21, 2, 1, 1, 1, 1], []), (1, [5, 21, 2, 1, 1, 1, 1], [5]), (2, [5, 21, 2, 1, 1, 1, 1], [21, 5]), (4, [5, 21, 2, 1, 1, 1, 1], [1, 21, 5]), (7, [5, 21, 2, 1, 1, 1, 1], [1]), (9, [5, 21, 2, 1, 1, 1, 1], []), (11, [5, 21, 2, 1, 1, 1, 1], [1]), (14, [5, 21, 2, 1, 1, 1, 1], []), (15, [5, 21, 2, 1, 1, 1, 1], [5]), (18, [5, 21, 2, 1, 1, 1, 1], [17]), (20, [5, 21, 2, 1, 1, 1, 1], [1, 17]), (21, [5, 21, 2, 1, 1, 1, 1], [1, 17, 1, 17]), (22, [5, 21, 2, 1, 1, 1, 1], [2, 1, 17]), (23, [5, 21, 2, 1, 1, 1, 1], [2, 2, 1, 17]), (24, [5, 21, 2, 1, 1, 1, 1], [2, 1, 17]), (25, [5, 21, 2, 1, 1, 1, 1], []), (26, [5, 21, 2, 1, 1, 1, 1], [5]), (29, [5, 21, 2, 1, 1, 1, 1], [17]), (31, [5, 21, 2, 1, 1, 1, 1], [1, 17]), (32, [5, 21, 2, 1, 1, 1, 1], [2]), (35, [5, 21, 2, 1, 1, 1, 1], [2, 2]), (36, [5, 21, 2, 1, 1, 1, 1], [1]), (39, [5, 21, 2, 1, 1, 1, 1], []), (40, [5, 21, 2, 1, 1, 1, 1], [1]), (43, [5, 21, 2, 1, 1, 1, 1], []), (45, [5, 21, 2, 1, 1, 1, 1], [1]), (46, [5, 21, 2, 1, 1, 1, 1], []), (47, [5, 21, 2, 1, 1, 1, 1], [5]), (50, [5, 21, 2, 1, 1, 1, 1], [1]), (53, [5, 21, 2, 1, 1, 1, 1], [1, 1]), (56, [5, 21, 2, 1, 1, 1, 1], []), (57, [5, 21, 2, 1, 1, 1, 1], [2]), (60, [5, 21, 2, 1, 1, 1, 1], [2, 2]), (61, [5, 21, 2, 1, 1, 1, 1], [1]), (64, [5, 21, 2, 1, 1, 1, 1], []), (65, [5, 21, 2, 1, 1, 1, 1], [1]), (66, [5, 21, 2, 1, 1, 1, 1], []), (67, [5, 21, 2, 1, 1, 1, 1], [1]), (69, [5, 21, 2, 1, 1, 1, 1], [1, 1]), (70, [5, 21, 2, 1, 1, 1, 1], [1]), (72, [5, 21, 2, 1, 1, 1, 1], []), (73, [5, 21, 2, 1, 1, 1, 1], [5]), (76, [5, 21, 2, 1, 1, 1, 1], [17]), (78, [5, 21, 2, 1, 1, 1, 1], [1, 17]), (79, [5, 21, 2, 1, 1, 1, 1], [5, 1, 17]), (82, [5, 21, 2, 1, 1, 1, 1], [17, 1, 17]), (84, [5, 21, 2, 1, 1, 1, 1], [1, 17, 1, 17]), (85, [5, 21, 2, 1, 1, 1, 1], [1, 1, 17, 1, 17]), (86, [5, 21, 2, 1, 1, 1, 1], [1, 17, 1, 17]), (87, [5, 21, 2, 1, 1, 1, 1], [5, 1, 17, 1, 17]), (90, [5, 21, 2, 1, 1, 1, 1], [1, 1, 17, 1, 17]), (92, [5, 21, 2, 1, 1, 1, 1], [1, 1, 1, 17, 1, 17]), (93, [5, 21, 2, 1, 1, 1, 1], [1, 1, 17, 1, 17]), (96, [5, 21, 2, 1, 1, 1, 1], []), (97, [5, 21, 2, 1, 1, 1, 1], [5]), (100, [5, 21, 2, 1, 1, 1, 1], [18]), (102, [5, 21, 2, 1, 1, 1, 1], [1, 18]), (103, [5, 21, 2, 1, 1, 1, 1], [5, 1, 18]), (106, [5, 21, 2, 1, 1, 1, 1], [1, 1, 18]), (107, [5, 21, 2, 1, 1, 1, 1], [1, 18]), (108, [5, 21, 2, 1, 1, 1, 1], [5, 1, 18]), (111, [5, 21, 2, 1, 1, 1, 1], [18, 1, 18]), (113, [5, 21, 2, 1, 1, 1, 1], [1, 18, 1, 18]), (114, [5, 21, 2, 1, 1, 1, 1], [1, 1, 18, 1, 18]), (115, [5, 21, 2, 1, 1, 1, 1], [1, 18, 1, 18]), (116, [5, 21, 2, 1, 1, 1, 1], [5, 1, 18, 1, 18]), (119, [5, 21, 2, 1, 1, 1, 1], [1, 1, 18, 1, 18]), (120, [5, 21, 2, 1, 1, 1, 1], [1, 18, 1, 18]), (121, [5, 21, 2, 1, 1, 1, 1], [5, 1, 18, 1, 18]), (124, [5, 21, 2, 1, 1, 1, 1], [1, 1, 18, 1, 18]), (126, [5, 21, 2, 1, 1, 1, 1], [1, 1, 1, 18, 1, 18]), (127, [5, 21, 2, 1, 1, 1, 1], [1, 1, 18, 1, 18]), (128, [5, 21, 2, 1, 1, 1, 1], [5, 1, 1, 18, 1, 18]), (131, [5, 21, 2, 1, 1, 1, 1], [1, 1, 1, 18, 1, 18]), (132, [5, 21, 2, 1, 1, 1, 1], [1, 1, 18, 1, 18]), (135, [5, 21, 2, 1, 1, 1, 1], []), (136, [5, 21, 2, 1, 1, 1, 1], [5]), (139, [5, 21, 2, 1, 1, 1, 1], [17]), (141, [5, 21, 2, 1, 1, 1, 1], [1, 17]), (142, [5, 21, 2, 1, 1, 1, 1], [2, 1, 17]), (143, [5, 21, 2, 1, 1, 1, 1], []), (144, [5, 21, 2, 1, 1, 1, 1], [21]), (145, [5, 21, 2, 1, 1, 1, 1], [1, 21]), (146, [5, 21, 2, 1, 1, 1, 1], [5, 1, 21]), (149, [5, 21, 2, 1, 1, 1, 1], [18, 1, 21]), (151, [5, 21, 2, 1, 1, 1, 1], [1, 18, 1, 21]), (152, [5, 21, 2, 1, 1, 1, 1], [5, 1, 18, 1, 21]), (155, [5, 21, 2, 1, 1, 1, 1], [1, 1, 18, 1, 21]), (156, [5, 21, 2, 1, 1, 1, 1], [1, 18, 1, 21]), (157, [5, 21, 2, 1, 1, 1, 1], [5, 1, 18, 1, 21]), (160, [5, 21, 2, 1, 1, 1, 1], [1, 1, 18, 1, 21]), (163, [5, 21, 2, 1, 1, 1, 1], []), (164, [5, 21, 2, 1, 1, 1, 1], [5]), (165, [5, 21, 2, 1, 1, 1, 1], [5, 5]), (168, [5, 21, 2, 1, 1, 1, 1], [1, 5]), (169, [5, 21, 2, 1, 1, 1, 1], [1, 1, 5]), (170, [5, 21, 2, 1, 1, 1, 1], [1, 5]), (173, [5, 21, 2, 1, 1, 1, 1], []), (175, [5, 21, 2, 1, 1, 1, 1], [1])]), (40, ([7, 4, 1, 1, 5], 2, [200, 201, 10014, 10015, 10018]), [(0, [7, 4, 1, 1, 5, 1, 1, 1, 1, 1, 1, 1], []), (1, [7, 4, 1, 1, 5, 1, 1, 1, 1, 1, 1, 1], [4]), (4, [7, 4, 1, 1, 5, 1, 1, 1, 1, 1, 1, 1], [1]), (5, [7, 4, 1, 1, 5, 1, 1, 1, 1, 1, 1, 1], [4, 1]), (8, [7, 4, 1, 1, 5, 1, 1, 1, 1, 1, 1, 1], [1, 1]), (9, [7, 4, 1, 1, 5, 1, 1, 1, 1, 1, 1, 1], [1]), (11, [7, 4, 1, 1, 5, 1, 1, 1, 1, 1, 1, 1], []), (12, [7, 4, 1, 1, 5, 1, 1, 1, 1, 1, 1, 1], [2]), (14, [7, 4, 1, 1, 5, 1, 2, 1, 1, 1, 1, 1], []), (15, [7, 4, 1, 1, 5, 1, 2, 1, 1, 1, 1, 1], [7]), (18, [7, 4, 1, 1, 5, 1, 2, 1, 1, 1, 1, 1], [21]), (19, [7, 4, 1, 1, 5, 1, 2, 1, 1, 1, 1, 1], [1, 21]), (22, [7, 4, 1, 1, 5, 1, 2, 1, 1, 1, 1, 1], []), (23, [7, 4, 1, 1, 5, 1, 2, 1, 1, 1, 1, 1], [1]), (25, [7, 4, 1, 1, 5, 1, 2, 1, 1, 1, 1, 1], []), (27, [7, 4, 1, 1, 5, 1, 2, 1, 1, 1, 1, 1], [1]), (29, [7, 4, 1, 1, 5, 1, 2, 1, 1, 1, 1, 1], [1, 1]), (32, [7, 4, 1, 1, 5, 1, 2, 1, 1, 1, 1, 1], []), (33, [7, 4, 1, 1, 5, 1, 2, 1, 1, 1, 1, 1], [1]), (34, [7, 4, 1, 1, 5, 1, 2, 1, 1, 1, 1, 1], [4, 1]), (37, [7, 4, 1, 1, 5, 1, 2, 1, 1, 1, 1, 1], [13, 1]), (39, [7, 4, 1, 1, 5, 1, 2, 1, 1, 1, 1, 1], [1, 13, 1]), (41, [7, 4, 1, 1, 5, 1, 2, 1, 1, 1, 1, 1], [1, 1, 13, 1]), (42, [7, 4, 1, 1, 5, 1, 2, 1, 1, 1, 1, 1], [1, 13, 1]), (43, [7, 4, 1, 1, 5, 1, 2, 1, 1, 1, 1, 1], [1, 1, 13, 1]), (44, [7, 4, 1, 1, 5, 1, 2, 1, 1, 1, 1, 1], [1, 13, 1]), (45, [7, 4, 1, 1, 5, 1, 2, 1, 1, 1, 1, 1], [1, 1]), (46, [7, 4, 1, 1, 5, 1, 2, 1, 1, 1, 1, 1], [1]), (48, [7, 4, 1, 1, 5, 1, 2, 1, 1, 1, 1, 1], []), (50, [7, 4, 1, 1, 5, 1, 2, 1, 1, 1, 1, 1], [1]), (53, [7, 4, 1, 1, 5, 1, 2, 1, 1, 1, 1, 1], []), (55, [7, 4, 1, 1, 5, 1, 2, 1, 1, 1, 1, 1], [1]), (56, [7, 4, 1, 1, 5, 1, 2, 1, 1, 1, 1, 1], [4, 1]), (59, [7, 4, 1, 1, 5, 1, 2, 1, 1, 1, 1, 1], [1, 1]), (62, [7, 4, 1, 1, 5, 1, 2, 1, 1, 1, 1, 1], []), (63, [7, 4, 1, 1, 5, 1, 2, 1, 1, 1, 1, 1], [7]), (66, [7, 4, 1, 1, 5, 1, 2, 1, 1, 1, 1, 1], [21]), (68, [7, 4, 1, 1, 5, 1, 2, 1, 1, 1, 1, 1], [1, 21]), (69, [7, 4, 1, 1, 5, 1, 2, 1, 1, 1, 1, 1], [1, 21, 1, 21]), (70, [7, 4, 1, 1, 5, 1, 2, 1, 1, 1, 1, 1], [1, 1, 21]), (72, [7, 4, 1, 1, 5, 1, 2, 1, 1, 1, 1, 1], [1, 1, 1, 21]), (73, [7, 4, 1, 1, 5, 1, 2, 1, 1, 1, 1, 1], [1, 1, 21]), (74, [7, 4, 1, 1, 5, 1, 2, 1, 1, 1, 1, 1], []), (77, [7, 4, 1, 1, 5, 1, 2, 1, 1, 1, 1, 1], []), (79, [7, 4, 1, 1, 5, 1, 2, 1, 1, 1, 1, 1], [1]), (82, [7, 4, 1, 1, 5, 1, 2, 1, 1, 1, 1, 1], []), (83, [7, 4, 1, 1, 5, 1, 2, 1, 1, 1, 1, 1], [4]), (86, [7, 4, 1, 1, 5, 1, 2, 1, 1, 1, 1, 1], [15]), (88, [7, 4, 1, 1, 5, 1, 2, 1, 1, 1, 1, 1], [1, 15]), (89, [7, 4, 1, 1, 5, 1, 2, 1, 1, 1, 1, 1], [5]), (92, [7, 4, 1, 1, 5, 1, 2, 1, 1, 1, 1, 1], [1]), (93, [7, 4, 1, 1, 5, 1, 2, 1, 1, 1, 1, 1], [1, 1]), (96, [7, 4, 1, 1, 5, 1, 2, 1, 1, 1, 1, 1], []), (97, [7, 4, 1, 1, 5, 1, 2, 1, 1, 1, 1, 1], [4]), (100, [7, 4, 1, 1, 5, 1, 2, 1, 1, 1, 1, 1], [15]), (102, [7, 4, 1, 1, 5, 1, 2, 1, 1, 1, 1, 1], [1, 15]), (103, [7, 4, 1, 1, 5, 1, 2, 1, 1, 1, 1, 1], [5]), (105, [7, 4, 1, 1, 5, 1, 2, 1, 1, 1, 5, 1], []), (106, [7, 4, 1, 1, 5, 1, 2, 1, 1, 1, 5, 1], [1]), (108, [7, 4, 1, 1, 5, 1, 2, 1, 1, 1, 5, 1], []), (110, [7, 4, 1, 1, 5, 1, 2, 1, 1, 1, 5, 1], [1]), (112, [7, 4, 1, 1, 5, 1, 2, 1, 1, 1, 5, 1], [1, 1]), (115, [7, 4, 1, 1, 5, 1, 2, 1, 1, 1, 5, 1], []), (116, [7, 4, 1, 1, 5, 1, 2, 1, 1, 1, 5, 1], [7]), (119, [7, 4, 1, 1, 5, 1, 2, 1, 1, 1, 5, 1], [21]), (121, [7, 4, 1, 1, 5, 1, 2, 1, 1, 1, 5, 1], [1, 21]), (122, [7, 4, 1, 1, 5, 1, 2, 1, 1, 1, 5, 1], [1, 21, 1, 21]), (123, [7, 4, 1, 1, 5, 1, 2, 1, 1, 1, 5, 1], [1, 1, 21]), (125, [7, 4, 1, 1, 5, 1, 2, 1, 1, 1, 5, 1], [1, 1, 1, 21]), (127, [7, 4, 1, 1, 5, 1, 2, 1, 1, 1, 5, 1], [5, 1, 1, 1, 21]), (130, [7, 4, 1, 1, 5, 1, 2, 1, 1, 1, 5, 1], [18, 1, 1, 1, 21]), (132, [7, 4, 1, 1, 5, 1, 2, 1, 1, 1, 5, 1], [1, 18, 1, 1, 1, 21]), (133, [7, 4, 1, 1, 5, 1, 2, 1, 1, 1, 5, 1], [1, 1, 1, 1, 21]), (134, [7, 4, 1, 1, 5, 1, 2, 1, 1, 1, 5, 1], [1, 1, 1, 21]), (135, [7, 4, 1, 1, 5, 1, 2, 1, 1, 1, 5, 1], [1, 1, 21]), (136, [7, 4, 1, 1, 5, 1, 2, 1, 1, 1, 5, 1], []), (139, [7, 4, 1, 1, 5, 1, 2, 1, 1, 1, 5, 1], []), (142, [7, 4, 1, 1, 5, 1, 2, 1, 1, 1, 5, 1], []), (143, [7, 4, 1, 1, 5, 1, 2, 1, 1, 1, 5, 1], [1]), (145, [7, 4, 1, 1, 5, 1, 2, 1, 1, 1, 5, 1], []), (147, [7, 4, 1, 1, 5, 1, 2, 1, 1, 1, 5, 1], [1]), (149, [7, 4, 1, 1, 5, 1, 2, 1, 1, 1, 5, 1], [1, 1]), (152, [7, 4, 1, 1, 5, 1, 2, 1, 1, 1, 5, 1], []), (154, [7, 4, 1, 1, 5, 1, 2, 1, 1, 1, 5, 1], [5]), (157, [7, 4, 1, 1, 5, 1, 2, 1, 1, 1, 5, 1], [17]), (158, [7, 4, 1, 1, 5, 1, 2, 1, 1, 1, 5, 1], [1, 17]), (159, [7, 4, 1, 1, 5, 1, 2, 1, 1, 1, 5, 1], [2]), (160, [7, 4, 1, 1, 5, 1, 2, 1, 1, 1, 5, 1], [2, 2]), (161, [7, 4, 1, 1, 5, 1, 2, 1, 1, 1, 5, 1], [1]), (164, [7, 4, 1, 1, 5, 1, 2, 1, 1, 1, 5, 1], []), (166, [7, 4, 1, 1, 5, 1, 2, 1, 1, 1, 5, 1], [2]), (167, [7, 4, 1, 1, 5, 1, 2, 1, 1, 1, 5, 1], [2, 2]), (168, [7, 4, 1, 1, 5, 1, 2, 1, 1, 1, 5, 1], [1]), (171, [7, 4, 1, 1, 5, 1, 2, 1, 1, 1, 5, 1], []), (173, [7, 4, 1, 1, 5, 1, 2, 1, 1, 1, 5, 1], [2]), (175, [7, 4, 1, 1, 5, 1, 2, 1, 1, 1, 5, 1], [5, 2]), (178, [7, 4, 1, 1, 5, 1, 2, 1, 1, 1, 5, 1], [17, 2]), (179, [7, 4, 1, 1, 5, 1, 2, 1, 1, 1, 5, 1], [1, 17, 2]), (180, [7, 4, 1, 1, 5, 1, 2, 1, 1, 1, 5, 1], [2, 2]), (183, [7, 4, 1, 1, 5, 1, 2, 1, 1, 1, 5, 1], [2]), (185, [7, 4, 1, 1, 5, 1, 2, 1, 1, 1, 5, 1], []), (188, [7, 4, 1, 1, 5, 1, 2, 1, 1, 1, 5, 1], []), (191, [7, 4, 1, 1, 5, 1, 2, 1, 1, 1, 1, 1], []), (194, [7, 4, 1, 1, 5, 1, 2, 1, 1, 1, 1, 1], []), (197, [7, 4, 1, 1, 5, 1, 2, 1, 1, 1, 1, 1], []), (199, [7, 4, 1, 1, 5, 1, 2, 1, 1, 1, 1, 1], [5]), (201, [7, 4, 1, 1, 5, 1, 2, 1, 1, 1, 1, 1], [1, 5]), (204, [7, 4, 1, 1, 5, 1, 2, 1, 1, 1, 1, 1], []), (206, [7, 4, 1, 1, 5, 1, 2, 1, 1, 1, 1, 1], [2]), (207, [7, 4, 1, 1, 5, 1, 2, 1, 1, 1, 1, 1], [2, 2]), (208, [7, 4, 1, 1, 5, 1, 2, 1, 1, 1, 1, 1], [1]), (211, [7, 4, 1, 1, 5, 1, 2, 1, 1, 1, 1, 1], []), (213, [7, 4, 1, 1, 5, 1, 2, 1, 1, 1, 1, 1], [5]), (214, [7, 4, 1, 1, 5, 1, 2, 1, 1, 1, 1, 1], [7, 5]), (217, [7, 4, 1, 1, 5, 1, 2, 1, 1, 1, 1, 1], [21, 5]), (219, [7, 4, 1, 1, 5, 1, 2, 1, 1, 1, 1, 1], [2, 21, 5]), (220, [7, 4, 1, 1, 5, 1, 2, 1, 1, 1, 1, 1], [1, 2, 21, 5]), (223, [7, 4, 1, 1, 5, 1, 2, 1, 1, 1, 1, 1], [1]), (224, [7, 4, 1, 1, 5, 1, 2, 1, 1, 1, 1, 1], [1, 1]), (227, [7, 4, 1, 1, 5, 1, 2, 1, 1, 1, 1, 1], []), (228, [7, 4, 1, 1, 5, 1, 2, 1, 1, 1, 1, 1], [1]), (231, [7, 4, 1, 1, 5, 1, 2, 1, 1, 1, 1, 1], []), (232, [7, 4, 1, 1, 5, 1, 2, 1, 1, 1, 1, 1], [1])]), (45, ([7, 5, 5, 5], 2, [200, 201, 10014, 10015, 10018]), [(0, [7, 5, 5, 5, 1, 1, 1, 1, 1, 1, 1], []), (1, [7, 5, 5, 5, 1, 1, 1, 1, 1, 1, 1], [5]), (4, [7, 5, 5, 5, 1, 1, 1, 1, 1, 1, 1], [1]), (5, [7, 5, 5, 5, 1, 1, 1, 1, 1, 1, 1], [5, 1]), (8, [7, 5, 5, 5, 1, 1, 1, 1, 1, 1, 1], [1, 1]), (9, [7, 5, 5, 5, 1, 1, 1, 1, 1, 1, 1], [1]), (10, [7, 5, 5, 5, 1, 1, 1, 1, 1, 1, 1], [1, 1]), (11, [7, 5, 5, 5, 1, 1, 1, 1, 1, 1, 1], [1]), (14, [7, 5, 5, 5, 1, 1, 1, 1, 1, 1, 1], [1, 1]), (17, [7, 5, 5, 5, 1, 1, 1, 1, 1, 1, 1], []), (18, [7, 5, 5, 5, 1, 1, 1, 1, 1, 1, 1], [1]), (19, [7, 5, 5, 5, 1, 1, 1, 1, 1, 1, 1], []), (20, [7, 5, 5, 5, 1, 1, 1, 1, 1, 1, 1], [5]), (23, [7, 5, 5, 5, 1, 1, 1, 1, 1, 1, 1], [1]), (25, [7, 5, 5, 5, 1, 1, 1, 1, 1, 1, 1], []), (26, [7, 5, 5, 5, 1, 1, 1, 1, 1, 1, 1], [5]), (28, [7, 5, 5, 5, 1, 1, 1, 1, 1, 1, 1], [1, 5]), (31, [7, 5, 5, 5, 1, 1, 1, 1, 1, 1, 1], []), (32, [7, 5, 5, 5, 1, 1, 1, 1, 1, 1, 1], [1]), (34, [7, 5, 5, 5, 1, 1, 1, 1, 0, 1, 1], []), (36, [7, 5, 5, 5, 1, 1, 1, 1, 0, 1, 1], [1]), (37, [7, 5, 5, 5, 1, 1, 1, 1, 0, 1, 1], [5, 1]), (40, [7, 5, 5, 5, 1, 1, 1, 1, 0, 1, 1], [1, 1]), (43, [7, 5, 5, 5, 1, 1, 1, 1, 0, 1, 1], []), (44, [7, 5, 5, 5, 1, 1, 1, 1, 0, 1, 1], [1]), (46, [7, 5, 5, 5, 1, 1, 1, 1, 0, 1, 1], []), (47, [7, 5, 5, 5, 1, 1, 1, 1, 0, 1, 1], [1]), (49, [7, 5, 5, 5, 1, 1, 1, 1, 0, 1, 1], []), (51, [7, 5, 5, 5, 1, 1, 1, 1, 0, 1, 1], [1]), (52, [7, 5, 5, 5, 1, 1, 1, 1, 0, 1, 1], [5, 1]), (55, [7, 5, 5, 5, 1, 1, 1, 1, 0, 1, 1], [1, 1]), (58, [7, 5, 5, 5, 1, 1, 1, 1, 0, 1, 1], []), (59, [7, 5, 5, 5, 1, 1, 1, 1, 0, 1, 1], [5]), (62, [7, 5, 5, 5, 1, 1, 1, 1, 0, 1, 1], [17]), (64, [7, 5, 5, 5, 1, 1, 1, 1, 0, 1, 1], [1, 17]), (65, [7, 5, 5, 5, 1, 1, 1, 1, 0, 1, 1], [2]), (66, [7, 5, 5, 5, 1, 1, 1, 1, 0, 1, 1], [5, 2]), (69, [7, 5, 5, 5, 1, 1, 1, 1, 0, 1, 1], [17, 2]), (71, [7, 5, 5, 5, 1, 1, 1, 1, 0, 1, 1], [1, 17, 2]), (72, [7, 5, 5, 5, 1, 1, 1, 1, 0, 1, 1], [2, 2]), (75, [7, 5, 5, 5, 1, 1, 1, 1, 0, 1, 1], [2]), (77, [7, 5, 5, 5, 1, 1, 1, 1, 2, 1, 1], []), (79, [7, 5, 5, 5, 1, 1, 1, 1, 2, 1, 1], [2]), (82, [7, 5, 5, 5, 1, 1, 1, 1, 2, 1, 1], [2, 2]), (83, [7, 5, 5, 5, 1, 1, 1, 1, 2, 1, 1], [1]), (86, [7, 5, 5, 5, 1, 1, 1, 1, 2, 1, 1], []), (87, [7, 5, 5, 5, 1, 1, 1, 1, 2, 1, 1], [1]), (88, [7, 5, 5, 5, 1, 1, 1, 1, 2, 1, 1], []), (89, [7, 5, 5, 5, 1, 1, 1, 1, 2, 1, 1], [1]), (91, [7, 5, 5, 5, 1, 1, 1, 1, 2, 1, 1], []), (93, [7, 5, 5, 5, 1, 1, 1, 1, 2, 1, 1], [1]), (95, [7, 5, 5, 5, 1, 1, 1, 1, 2, 1, 1], [1, 1]), (98, [7, 5, 5, 5, 1, 1, 1, 1, 2, 1, 1], []), (99, [7, 5, 5, 5, 1, 1, 1, 1, 2, 1, 1], [7]), (102, [7, 5, 5, 5, 1, 1, 1, 1, 2, 1, 1], [21]), (104, [7, 5, 5, 5, 1, 1, 1, 1, 2, 1, 1], [1, 21]), (105, [7, 5, 5, 5, 1, 1, 1, 1, 2, 1, 1], [5, 1, 21]), (108, [7, 5, 5, 5, 1, 1, 1, 1, 2, 1, 1], [18, 1, 21]), (110, [7, 5, 5, 5, 1, 1, 1, 1, 2, 1, 1], [1, 18, 1, 21]), (112, [7, 5, 5, 5, 1, 1, 1, 1, 2, 1, 1], [1, 1, 18, 1, 21]), (113, [7, 5, 5, 5, 1, 1, 1, 1, 2, 1, 1], [1, 18, 1, 21]), (115, [7, 5, 5, 5, 1, 1, 1, 1, 2, 1, 1], [1, 1, 18, 1, 21]), (116, [7, 5, 5, 5, 1, 1, 1, 1, 2, 1, 1], [1, 18, 1, 21]), (117, [7, 5, 5, 5, 1, 1, 1, 1, 2, 1, 1], [1, 1, 21]), (118, [7, 5, 5, 5, 1, 1, 1, 1, 2, 1, 1], [5, 1, 1, 21]), (121, [7, 5, 5, 5, 1, 1, 1, 1, 2, 1, 1], [18, 1, 1, 21]), (123, [7, 5, 5, 5, 1, 1, 1, 1, 2, 1, 1], [1, 18, 1, 1, 21]), (125, [7, 5, 5, 5, 1, 1, 1, 1, 2, 1, 1], [1, 1, 18, 1, 1, 21]), (126, [7, 5, 5, 5, 1, 1, 1, 1, 2, 1, 1], [1, 18, 1, 1, 21]), (128, [7, 5, 5, 5, 1, 1, 1, 1, 2, 1, 1], [1, 1, 18, 1, 1, 21]), (129, [7, 5, 5, 5, 1, 1, 1, 1, 2, 1, 1], [1, 18, 1, 1, 21]), (130, [7, 5, 5, 5, 1, 1, 1, 1, 2, 1, 1], [1, 1, 1, 21]), (131, [7, 5, 5, 5, 1, 1, 1, 1, 2, 1, 1], [1, 1, 21]), (132, [7, 5, 5, 5, 1, 1, 1, 1, 2, 1, 1], []), (135, [7, 5, 5, 5, 1, 1, 1, 1, 2, 1, 1], []), (138, [7, 5, 5, 5, 1, 1, 1, 1, 2, 1, 1], []), (139, [7, 5, 5, 5, 1, 1, 1, 1, 2, 1, 1], [5]), (140, [7, 5, 5, 5, 1, 1, 1, 1, 2, 1, 1], [7, 5]), (143, [7, 5, 5, 5, 1, 1, 1, 1, 2, 1, 1], [21, 5]), (145, [7, 5, 5, 5, 1, 1, 1, 1, 2, 1, 1], [2, 21, 5]), (147, [7, 5, 5, 5, 1, 1, 1, 1, 2, 1, 1], [1, 2, 21, 5]), (150, [7, 5, 5, 5, 1, 1, 1, 1, 2, 1, 1], [1]), (151, [7, 5, 5, 5, 1, 1, 1, 1, 2, 1, 1], [1, 1]), (152, [7, 5, 5, 5, 1, 1, 1, 1, 2, 1, 1], [1]), (154, [7, 5, 5, 5, 1, 1, 1, 1, 2, 1, 1], []), (156, [7, 5, 5, 5, 1, 1, 1, 1, 2, 1, 1], [1]), (159, [7, 5, 5, 5, 1, 1, 1, 1, 2, 1, 1], []), (160, [7, 5, 5, 5, 1, 1, 1, 1, 2, 1, 1], [1]), (161, [7, 5, 5, 5, 1, 1, 1, 1, 2, 1, 1], []), (164, [7, 5, 5, 5, 1, 1, 1, 1, 2, 1, 1], []), (167, [7, 5, 5, 5, 1, 1, 1, 1, 0, 1, 1], []), (170, [7, 5, 5, 5, 1, 1, 1, 1, 0, 1, 1], []), (173, [7, 5, 5, 5, 1, 1, 1, 1, 0, 1, 1], []), (174, [7, 5, 5, 5, 1, 1, 1, 1, 0, 1, 1], [1])]), (46, ([7, 4, 1, 1, 5, 5], 2, [200, 201, 10014, 10015, 10018]), [(0, [7, 4, 1, 1, 5, 5, 1, 1, 1, 1, 1, 1], []), (2, [7, 4, 1, 1, 5, 5, 1, 1, 1, 1, 1, 1], [5]), (4, [7, 4, 1, 1, 5, 5, 5, 1, 1, 1, 1, 1], []), (6, [7, 4, 1, 1, 5, 5, 5, 1, 1, 1, 1, 1], [5]), (8, [7, 4, 1, 1, 5, 5, 5, 5, 1, 1, 1, 1], []), (9, [7, 4, 1, 1, 5, 5, 5, 5, 1, 1, 1, 1], [7]), (10, [7, 4, 1, 1, 5, 5, 5, 5, 1, 1, 1, 1], [4, 7]), (11, [7, 4, 1, 1, 5, 5, 5, 5, 1, 1, 1, 1], [1, 4, 7]), (12, [7, 4, 1, 1, 5, 5, 5, 5, 1, 1, 1, 1], [1, 1, 4, 7]), (14, [7, 4, 1, 1, 5, 5, 5, 5, 1, 1, 1, 1], [5, 1, 1, 4, 7]), (17, [7, 4, 1, 1, 5, 5, 5, 5, 1, 1, 1, 1], [1]), (20, [7, 4, 1, 1, 5, 5, 5, 5, 1, 1, 1, 1], []), (21, [7, 4, 1, 1, 5, 5, 5, 5, 1, 1, 1, 1], [1]), (22, [7, 4, 1, 1, 5, 5, 5, 5, 1, 1, 1, 1], []), (23, [7, 4, 1, 1, 5, 5, 5, 5, 1, 1, 1, 1], [1]), (25, [7, 4, 1, 1, 5, 5, 5, 5, 1, 1, 1, 1], []), (27, [7, 4, 1, 1, 5, 5, 5, 5, 1, 1, 1, 1], [1]), (28, [7, 4, 1, 1, 5, 5, 5, 5, 1, 1, 1, 1], [4, 1]), (31, [7, 4, 1, 1, 5, 5, 5, 5, 1, 1, 1, 1], [1, 1]), (34, [7, 4, 1, 1, 5, 5, 5, 5, 1, 1, 1, 1], []), (35, [7, 4, 1, 1, 5, 5, 5, 5, 1, 1, 1, 1], [4]), (38, [7, 4, 1, 1, 5, 5, 5, 5, 1, 1, 1, 1], [15]), (40, [7, 4, 1, 1, 5, 5, 5, 5, 1, 1, 1, 1], [1, 15]), (41, [7, 4, 1, 1, 5, 5, 5, 5, 1, 1, 1, 1], [5]), (44, [7, 4, 1, 1, 5, 5, 5, 5, 1, 1, 1, 1], [1]), (45, [7, 4, 1, 1, 5, 5, 5, 5, 1, 1, 1, 1], [1, 1]), (48, [7, 4, 1, 1, 5, 5, 5, 5, 1, 1, 1, 1], []), (49, [7, 4, 1, 1, 5, 5, 5, 5, 1, 1, 1, 1], [1]), (50, [7, 4, 1, 1, 5, 5, 5, 5, 1, 1, 1, 1], [4, 1]), (53, [7, 4, 1, 1, 5, 5, 5, 5, 1, 1, 1, 1], [13, 1]), (55, [7, 4, 1, 1, 5, 5, 5, 5, 1, 1, 1, 1], [1, 13, 1]), (57, [7, 4, 1, 1, 5, 5, 5, 5, 1, 1, 1, 1], [1, 1, 13, 1]), (58, [7, 4, 1, 1, 5, 5, 5, 5, 1, 1, 1, 1], [1, 13, 1]), (59, [7, 4, 1, 1, 5, 5, 5, 5, 1, 1, 1, 1], [1, 1, 13, 1]), (60, [7, 4, 1, 1, 5, 5, 5, 5, 1, 1, 1, 1], [1, 13, 1]), (61, [7, 4, 1, 1, 5, 5, 5, 5, 1, 1, 1, 1], [1, 1]), (62, [7, 4, 1, 1, 5, 5, 5, 5, 1, 1, 1, 1], [1]), (65, [7, 4, 1, 1, 5, 5, 5, 5, 1, 1, 1, 1], []), (66, [7, 4, 1, 1, 5, 5, 5, 5, 1, 1, 1, 1], [1]), (68, [7, 4, 1, 1, 5, 5, 5, 5, 1, 1, 1, 1], []), (69, [7, 4, 1, 1, 5, 5, 5, 5, 1, 1, 1, 1], [1]), (71, [7, 4, 1, 1, 5, 5, 5, 5, 1, 1, 1, 1], []), (73, [7, 4, 1, 1, 5, 5, 5, 5, 1, 1, 1, 1], [1]), (75, [7, 4, 1, 1, 5, 5, 5, 5, 1, 1, 1, 1], [1, 1]), (78, [7, 4, 1, 1, 5, 5, 5, 5, 1, 1, 1, 1], []), (79, [7, 4, 1, 1, 5, 5, 5, 5, 1, 1, 1, 1], [7]), (81, [7, 4, 1, 1, 5, 5, 5, 5, 1, 1, 1, 1], [5, 7]), (82, [7, 4, 1, 1, 5, 5, 5, 5, 1, 1, 1, 1], [4, 5, 7]), (85, [7, 4, 1, 1, 5, 5, 5, 5, 1, 1, 1, 1], [15, 5, 7]), (87, [7, 4, 1, 1, 5, 5, 5, 5, 1, 1, 1, 1], [1, 15, 5, 7]), (88, [7, 4, 1, 1, 5, 5, 5, 5, 1, 1, 1, 1], [5, 5, 7]), (90, [7, 4, 1, 1, 5, 5, 5, 5, 1, 1, 1, 1], [5, 5, 5, 7]), (93, [7, 4, 1, 1, 5, 5, 5, 5, 1, 1, 1, 1], [1]), (96, [7, 4, 1, 1, 5, 5, 5, 5, 1, 1, 1, 1], []), (97, [7, 4, 1, 1, 5, 5, 5, 5, 1, 1, 1, 1], [1]), (98, [7, 4, 1, 1, 5, 5, 5, 5, 1, 1, 1, 1], []), (100, [7, 4, 1, 1, 5, 5, 5, 5, 1, 1, 1, 1], [5]), (102, [7, 4, 1, 1, 5, 5, 5, 5, 1, 1, 1, 5], []), (104, [7, 4, 1, 1, 5, 5, 5, 5, 1, 1, 1, 5], [5]), (106, [7, 4, 1, 1, 5, 5, 5, 5, 1, 1, 1, 5], []), (108, [7, 4, 1, 1, 5, 5, 5, 5, 1, 1, 1, 5], [5]), (110, [7, 4, 1, 1, 5, 5, 5, 5, 1, 1, 1, 5], []), (113, [7, 4, 1, 1, 5, 5, 5, 5, 1, 1, 1, 5], []), (116, [7, 4, 1, 1, 5, 5, 5, 5, 1, 1, 1, 1], []), (119, [7, 4, 1, 1, 5, 5, 5, 5, 1, 1, 1, 1], []), (122, [7, 4, 1, 1, 5, 5, 5, 5, 1, 1, 1, 1], []), (124, [7, 4, 1, 1, 5, 5, 5, 5, 1, 1, 1, 1], [5])]), (77, ([1, 21, 1], 2, []), [(0, [1, 21, 1, 1, 1, 1, 1, 1, 1], []), (1, [1, 21, 1, 1, 1, 1, 1, 1, 1], [1]), (2, [1, 21, 1, 1, 1, 1, 1, 1, 1], []), (3, [1, 21, 1, 1, 1, 1, 1, 1, 1], [1]), (6, [1, 21, 1, 1, 1, 1, 1, 1, 1], [1]), (7, [1, 21, 1, 1, 1, 1, 1, 1, 1], [1, 1]), (8, [1, 21, 1, 1, 1, 1, 1, 1, 1], [1]), (10, [1, 21, 1, 1, 1, 1, 1, 1, 1], []), (11, [1, 21, 1, 1, 1, 1, 1, 1, 1], [1]), (13, [1, 21, 1, 1, 1, 1, 1, 1, 1], []), (15, [1, 21, 1, 1, 1, 1, 1, 1, 1], [1]), (18, [1, 21, 1, 1, 1, 1, 1, 1, 1], [1, 1]), (21, [1, 21, 1, 1, 1, 1, 1, 1, 1], []), (22, [1, 21, 1, 1, 1, 1, 1, 1, 1], [1]), (24, [1, 21, 1, 1, 1, 1, 1, 1, 1], [1, 1]), (27, [1, 21, 1, 1, 1, 1, 1, 1, 1], []), (28, [1, 21, 1, 1, 1, 1, 1, 1, 1], [1]), (30, [1, 21, 1, 1, 1, 1, 1, 1, 1], [1, 1]), (31, [1, 21, 1, 1, 1, 1, 1, 1, 1], [1]), (32, [1, 21, 1, 1, 1, 1, 1, 1, 1], [1, 1]), (33, [1, 21, 1, 1, 1, 1, 1, 1, 1], [1]), (35, [1, 21, 1, 1, 1, 1, 1, 1, 1], []), (37, [1, 21, 1, 1, 1, 1, 1, 1, 1], [1]), (38, [1, 21, 1, 1, 1, 1, 1, 1, 1], [1, 1]), (41, [1, 21, 1, 1, 1, 1, 1, 1, 1], [1, 1]), (42, [1, 21, 1, 1, 1, 1, 1, 1, 1], [1]), (44, [1, 21, 1, 1, 1, 1, 1, 1, 1], []), (45, [1, 21, 1, 1, 1, 1, 1, 1, 1], [1]), (47, [1, 21, 1, 1, 1, 1, 1, 1, 1], []), (49, [1, 21, 1, 1, 1, 1, 1, 1, 1], [1]), (50, [1, 21, 1, 1, 1, 1, 1, 1, 1], [1, 1]), (53, [1, 21, 1, 1, 1, 1, 1, 1, 1], [1, 1]), (56, [1, 21, 1, 1, 1, 1, 1, 1, 1], []), (57, [1, 21, 1, 1, 1, 1, 1, 1, 1], [1]), (60, [1, 21, 1, 1, 1, 1, 1, 1, 1], [18]), (62, [1, 21, 1, 1, 1, 1, 1, 1, 1], [1, 18]), (64, [1, 21, 1, 1, 1, 1, 1, 1, 1], [1, 1, 18]), (65, [1, 21, 1, 1, 1, 1, 1, 1, 1], [1, 18]), (66, [1, 21, 1, 1, 1, 1, 1, 1, 1], [1]), (67, [1, 21, 1, 1, 1, 1, 1, 1, 1], [21, 1]), (69, [1, 21, 1, 1, 1, 1, 1, 1, 1], [1, 21, 1]), (70, [1, 21, 1, 1, 1, 1, 1, 1, 1], [1, 1]), (73, [1, 21, 1, 1, 1, 1, 1, 1, 1], []), (76, [1, 21, 1, 1, 1, 1, 1, 1, 1], []), (79, [1, 21, 1, 1, 1, 1, 1, 1, 1], []), (81, [1, 21, 1, 1, 1, 1, 1, 1, 1], [1]), (82, [1, 21, 1, 1, 1, 1, 1, 1, 1], [1, 1]), (85, [1, 21, 1, 1, 1, 1, 1, 1, 1], [1, 1]), (88, [1, 21, 1, 1, 1, 1, 1, 1, 1], []), (90, [1, 21, 1, 1, 1, 1, 1, 1, 1], [1]), (91, [1, 21, 1, 1, 1, 1, 1, 1, 1], []), (92, [1, 21, 1, 1, 1, 1, 1, 1, 1], [1]), (95, [1, 21, 1, 1, 1, 1, 1, 1, 1], [18]), (97, [1, 21, 1, 1, 1, 1, 1, 1, 1], [1, 18]), (99, [1, 21, 1, 1, 1, 1, 1, 1, 1], [1, 1, 18]), (100, [1, 21, 1, 1, 1, 1, 1, 1, 1], [1, 18]), (101, [1, 21, 1, 1, 1, 1, 1, 1, 1], [1]), (102, [1, 21, 1, 1, 1, 1, 1, 1, 1], [21, 1]), (104, [1, 21, 1, 1, 1, 1, 1, 1, 1], [1, 21, 1]), (105, [1, 21, 1, 1, 1, 1, 1, 1, 1], [1, 1]), (108, [1, 21, 1, 1, 1, 1, 1, 1, 1], []), (110, [1, 21, 1, 1, 1, 1, 1, 1, 1], [1]), (111, [1, 21, 1, 1, 1, 1, 1, 1, 1], [1, 1]), (112, [1, 21, 1, 1, 1, 1, 1, 1, 1], [1]), (113, [1, 21, 1, 1, 1, 1, 1, 1, 1], []), (116, [1, 21, 1, 1, 1, 1, 1, 1, 1], []), (118, [1, 21, 1, 1, 1, 1, 1, 1, 1], [1]), (119, [1, 21, 1, 1, 1, 1, 1, 1, 1], [1, 1]), (120, [1, 21, 1, 1, 1, 1, 1, 1, 1], [1]), (122, [1, 21, 1, 1, 1, 1, 1, 1, 1], []), (125, [1, 21, 1, 1, 1, 1, 1, 1, 1], []), (128, [1, 21, 1, 1, 1, 1, 1, 1, 1], []), (129, [1, 21, 1, 1, 1, 1, 1, 1, 1], [1]), (130, [1, 21, 1, 1, 1, 1, 1, 1, 1], [1, 1]), (131, [1, 21, 1, 1, 1, 1, 1, 1, 1], [1])]), (73, ([1, 21, 2, 1], 2, [201, 10014, 10015]), [(0, [1, 21, 2, 1, 1, 1, 1], []), (1, [1, 21, 2, 1, 1, 1, 1], [1]), (2, [1, 21, 2, 1, 1, 1, 1], [21, 1]), (4, [1, 21, 2, 1, 1, 1, 1], [1, 21, 1]), (7, [1, 21, 2, 1, 1, 1, 1], [1]), (9, [1, 21, 2, 1, 1, 1, 1], []), (11, [1, 21, 2, 1, 1, 1, 1], [1]), (14, [1, 21, 2, 1, 1, 1, 1], []), (15, [1, 21, 2, 1, 1, 1, 1], [1]), (18, [1, 21, 2, 1, 1, 1, 1], [17]), (20, [1, 21, 2, 1, 1, 1, 1], [1, 17]), (21, [1, 21, 2, 1, 1, 1, 1], [1, 17, 1, 17]), (22, [1, 21, 2, 1, 1, 1, 1], [2, 1, 17]), (23, [1, 21, 2, 1, 1, 1, 1], [2, 2, 1, 17]), (24, [1, 21, 2, 1, 1, 1, 1], [2, 1, 17]), (25, [1, 21, 2, 1, 1, 1, 1], []), (26, [1, 21, 2, 1, 1, 1, 1], [1]), (29, [1, 21, 2, 1, 1, 1, 1], [17]), (31, [1, 21, 2, 1, 1, 1, 1], [1, 17]), (32, [1, 21, 2, 1, 1, 1, 1], [2]), (35, [1, 21, 2, 1, 1, 1, 1], [2, 2]), (36, [1, 21, 2, 1, 1, 1, 1], [1]), (39, [1, 21, 2, 1, 1, 1, 1], []), (40, [1, 21, 2, 1, 1, 1, 1], [1]), (43, [1, 21, 2, 1, 1, 1, 1], []), (45, [1, 21, 2, 1, 1, 1, 1], [1]), (46, [1, 21, 2, 1, 1, 1, 1], []), (47, [1, 21, 2, 1, 1, 1, 1], [1]), (50, [1, 21, 2, 1, 1, 1, 1], [1]), (53, [1, 21, 2, 1, 1, 1, 1], [1, 1]), (56, [1, 21, 2, 1, 1, 1, 1], []), (57, [1, 21, 2, 1, 1, 1, 1], [2]), (60, [1, 21, 2, 1, 1, 1, 1], [2, 2]), (61, [1, 21, 2, 1, 1, 1, 1], [1]), (64, [1, 21, 2, 1, 1, 1, 1], []), (65, [1, 21, 2, 1, 1, 1, 1], [1]), (66, [1, 21, 2, 1, 1, 1, 1], []), (67, [1, 21, 2, 1, 1, 1, 1], [1]), (69, [1, 21, 2, 1, 1, 1, 1], [1, 1]), (70, [1, 21, 2, 1, 1, 1, 1], [1]), (72, [1, 21, 2, 1, 1, 1, 1], []), (73, [1, 21, 2, 1, 1, 1, 1], [1]), (76, [1, 21, 2, 1, 1, 1, 1], [17]), (78, [1, 21, 2, 1, 1, 1, 1], [1, 17]), (79, [1, 21, 2, 1, 1, 1, 1], [1, 1, 17]), (82, [1, 21, 2, 1, 1, 1, 1], [17, 1, 17]), (84, [1, 21, 2, 1, 1, 1, 1], [1, 17, 1, 17]), (85, [1, 21, 2, 1, 1, 1, 1], [1, 1, 17, 1, 17]), (86, [1, 21, 2, 1, 1, 1, 1], [1, 17, 1, 17]), (87, [1, 21, 2, 1, 1, 1, 1], [1, 1, 17, 1, 17]), (90, [1, 21, 2, 1, 1, 1, 1], [1, 1, 17, 1, 17]), (92, [1, 21, 2, 1, 1, 1, 1], [1, 1, 1, 17, 1, 17]), (93, [1, 21, 2, 1, 1, 1, 1], [1, 1, 17, 1, 17]), (96, [1, 21, 2, 1, 1, 1, 1], []), (97, [1, 21, 2, 1, 1, 1, 1], [1]), (100, [1, 21, 2, 1, 1, 1, 1], [18]), (102, [1, 21, 2, 1, 1, 1, 1], [1, 18]), (103, [1, 21, 2, 1, 1, 1, 1], [1, 1, 18]), (106, [1, 21, 2, 1, 1, 1, 1], [1, 1, 18]), (107, [1, 21, 2, 1, 1, 1, 1], [1, 18]), (108, [1, 21, 2, 1, 1, 1, 1], [1, 1, 18]), (111, [1, 21, 2, 1, 1, 1, 1], [18, 1, 18]), (113, [1, 21, 2, 1, 1, 1, 1], [1, 18, 1, 18]), (114, [1, 21, 2, 1, 1, 1, 1], [1, 1, 18, 1, 18]), (115, [1, 21, 2, 1, 1, 1, 1], [1, 18, 1, 18]), (116, [1, 21, 2, 1, 1, 1, 1], [1, 1, 18, 1, 18]), (119, [1, 21, 2, 1, 1, 1, 1], [1, 1, 18, 1, 18]), (120, [1, 21, 2, 1, 1, 1, 1], [1, 18, 1, 18]), (121, [1, 21, 2, 1, 1, 1, 1], [1, 1, 18, 1, 18]), (124, [1, 21, 2, 1, 1, 1, 1], [1, 1, 18, 1, 18]), (126, [1, 21, 2, 1, 1, 1, 1], [1, 1, 1, 18, 1, 18]), (127, [1, 21, 2, 1, 1, 1, 1], [1, 1, 18, 1, 18]), (128, [1, 21, 2, 1, 1, 1, 1], [1, 1, 1, 18, 1, 18]), (131, [1, 21, 2, 1, 1, 1, 1], [1, 1, 1, 18, 1, 18]), (132, [1, 21, 2, 1, 1, 1, 1], [1, 1, 18, 1, 18]), (135, [1, 21, 2, 1, 1, 1, 1], []), (136, [1, 21, 2, 1, 1, 1, 1], [1]), (139, [1, 21, 2, 1, 1, 1, 1], [17]), (141, [1, 21, 2, 1, 1, 1, 1], [1, 17]), (142, [1, 21, 2, 1, 1, 1, 1], [2, 1, 17]), (143, [1, 21, 2, 1, 1, 1, 1], []), (144, [1, 21, 2, 1, 1, 1, 1], [21]), (145, [1, 21, 2, 1, 1, 1, 1], [1, 21]), (146, [1, 21, 2, 1, 1, 1, 1], [1, 1, 21]), (149, [1, 21, 2, 1, 1, 1, 1], [18, 1, 21]), (151, [1, 21, 2, 1, 1, 1, 1], [1, 18, 1, 21]), (152, [1, 21, 2, 1, 1, 1, 1], [1, 1, 18, 1, 21]), (155, [1, 21, 2, 1, 1, 1, 1], [1, 1, 18, 1, 21]), (156, [1, 21, 2, 1, 1, 1, 1], [1, 18, 1, 21]), (157, [1, 21, 2, 1, 1, 1, 1], [1, 1, 18, 1, 21]), (160, [1, 21, 2, 1, 1, 1, 1], [1, 1, 18, 1, 21]), (163, [1, 21, 2, 1, 1, 1, 1], []), (164, [1, 21, 2, 1, 1, 1, 1], [1]), (165, [1, 21, 2, 1, 1, 1, 1], [1, 1]), (168, [1, 21, 2, 1, 1, 1, 1], [1, 1]), (169, [1, 21, 2, 1, 1, 1, 1], [1, 1, 1]), (170, [1, 21, 2, 1, 1, 1, 1], [1, 1]), (173, [1, 21, 2, 1, 1, 1, 1], []), (175, [1, 21, 2, 1, 1, 1, 1], [1])]), (39, ([7, 1, 1], 2, [201, 10014, 10015, 10018]), [(0, [7, 1, 1, 1, 1], []), (1, [7, 1, 1, 1, 1], [1]), (4, [7, 1, 1, 1, 1], [1]), (5, [7, 1, 1, 1, 1], []), (6, [7, 1, 1, 1, 1], [1]), (8, [7, 1, 1, 1, 1], []), (10, [7, 1, 1, 1, 1], [1]), (11, [7, 1, 1, 1, 1], [1, 1]), (14, [7, 1, 1, 1, 1], [1, 1]), (17, [7, 1, 1, 1, 1], []), (18, [7, 1, 1, 1, 1], [1]), (21, [7, 1, 1, 1, 1], [18]), (23, [7, 1, 1, 1, 1], [1, 18]), (24, [7, 1, 1, 1, 1], [1, 1, 18]), (25, [7, 1, 1, 1, 1], [1, 18]), (26, [7, 1, 1, 1, 1], [7, 1, 18]), (29, [7, 1, 1, 1, 1], [21, 1, 18]), (30, [7, 1, 1, 1, 1], [1, 21, 1, 18]), (31, [7, 1, 1, 1, 1], [1, 1, 21, 1, 18]), (34, [7, 1, 1, 1, 1], []), (35, [7, 1, 1, 1, 1], [1]), (36, [7, 1, 1, 1, 1], [7, 1]), (39, [7, 1, 1, 1, 1], [21, 1]), (40, [7, 1, 1, 1, 1], [1, 21, 1]), (43, [7, 1, 1, 1, 1], [17, 21, 1]), (45, [7, 1, 1, 1, 1], [1, 17, 21, 1]), (46, [7, 1, 1, 1, 1], [2, 21, 1]), (47, [7, 1, 1, 1, 1], [1, 2, 21, 1]), (50, [7, 1, 1, 1, 1], [1]), (51, [7, 1, 1, 1, 1], [1, 1]), (54, [7, 1, 1, 1, 1], []), (55, [7, 1, 1, 1, 1], [1]), (56, [7, 1, 1, 1, 1], []), (59, [7, 1, 1, 1, 1], []), (62, [7, 1, 1, 1, 1], []), (63, [7, 1, 1, 1, 1], [1])]), (48, ([7, 1, 1, 5, 2], 2, [10014, 10018]), [(0, [7, 1, 1, 5, 2, 1, 1, 1, 1, 1], []), (1, [7, 1, 1, 5, 2, 1, 1, 1, 1, 1], [1]), (4, [7, 1, 1, 5, 2, 1, 1, 1, 1, 1], [1]), (6, [7, 1, 1, 5, 2, 1, 1, 1, 1, 1], []), (7, [7, 1, 1, 5, 2, 1, 1, 1, 1, 1], [1]), (9, [7, 1, 1, 5, 2, 1, 1, 1, 1, 1], []), (10, [7, 1, 1, 5, 2, 1, 1, 1, 1, 1], [1]), (12, [7, 1, 1, 5, 2, 1, 1, 1, 1, 1], []), (14, [7, 1, 1, 5, 2, 1, 1, 1, 1, 1], [1]), (15, [7, 1, 1, 5, 2, 1, 1, 1, 1, 1], [5, 1]), (18, [7, 1, 1, 5, 2, 1, 1, 1, 1, 1], [1, 1]), (21, [7, 1, 1, 5, 2, 1, 1, 1, 1, 1], []), (22, [7, 1, 1, 5, 2, 1, 1, 1, 1, 1], [1]), (24, [7, 1, 1, 5, 2, 1, 1, 1, 1, 1], []), (26, [7, 1, 1, 5, 2, 1, 1, 1, 1, 1], [1]), (28, [7, 1, 1, 5, 2, 1, 1, 1, 1, 1], [1, 1]), (31, [7, 1, 1, 5, 2, 1, 1, 1, 1, 1], []), (32, [7, 1, 1, 5, 2, 1, 1, 1, 1, 1], [7]), (35, [7, 1, 1, 5, 2, 1, 1, 1, 1, 1], [21]), (37, [7, 1, 1, 5, 2, 1, 1, 1, 1, 1], [1, 21]), (38, [7, 1, 1, 5, 2, 1, 1, 1, 1, 1], [7, 1, 21]), (41, [7, 1, 1, 5, 2, 1, 1, 1, 1, 1], [21, 1, 21]), (43, [7, 1, 1, 5, 2, 1, 1, 1, 1, 1], [1, 21, 1, 21]), (44, [7, 1, 1, 5, 2, 1, 1, 1, 1, 1], [1, 1, 21]), (45, [7, 1, 1, 5, 2, 1, 1, 1, 1, 1], [5, 1, 1, 21]), (48, [7, 1, 1, 5, 2, 1, 1, 1, 1, 1], [18, 1, 1, 21]), (50, [7, 1, 1, 5, 2, 1, 1, 1, 1, 1], [1, 18, 1, 1, 21]), (52, [7, 1, 1, 5, 2, 1, 1, 1, 1, 1], [1, 1, 18, 1, 1, 21]), (53, [7, 1, 1, 5, 2, 1, 1, 1, 1, 1], [1, 18, 1, 1, 21]), (55, [7, 1, 1, 5, 2, 1, 1, 1, 1, 1], [1, 1, 18, 1, 1, 21]), (56, [7, 1, 1, 5, 2, 1, 1, 1, 1, 1], [1, 18, 1, 1, 21]), (57, [7, 1, 1, 5, 2, 1, 1, 1, 1, 1], [1, 1, 1, 21]), (58, [7, 1, 1, 5, 2, 1, 1, 1, 1, 1], [1, 1, 21]), (59, [7, 1, 1, 5, 2, 1, 1, 1, 1, 1], []), (62, [7, 1, 1, 5, 2, 1, 1, 1, 1, 1], []), (65, [7, 1, 1, 5, 2, 1, 1, 1, 1, 1], []), (66, [7, 1, 1, 5, 2, 1, 1, 1, 1, 1], [1]), (67, [7, 1, 1, 5, 2, 1, 1, 1, 1, 1], [7, 1]), (70, [7, 1, 1, 5, 2, 1, 1, 1, 1, 1], [21, 1]), (72, [7, 1, 1, 5, 2, 1, 1, 1, 1, 1], [1, 21, 1]), (75, [7, 1, 1, 5, 2, 1, 1, 1, 1, 1], [1]), (77, [7, 1, 1, 5, 2, 1, 1, 1, 1, 1], []), (79, [7, 1, 1, 5, 2, 1, 1, 1, 1, 1], [1]), (82, [7, 1, 1, 5, 2, 1, 1, 1, 1, 1], []), (83, [7, 1, 1, 5, 2, 1, 1, 1, 1, 1], [1]), (84, [7, 1, 1, 5, 2, 1, 1, 1, 1, 1], []), (85, [7, 1, 1, 5, 2, 1, 1, 1, 1, 1], [1]), (88, [7, 1, 1, 5, 2, 1, 1, 1, 1, 1], [17]), (90, [7, 1, 1, 5, 2, 1, 1, 1, 1, 1], [1, 17]), (91, [7, 1, 1, 5, 2, 1, 1, 1, 1, 1], [1, 17, 1, 17]), (92, [7, 1, 1, 5, 2, 1, 1, 1, 1, 1], [2, 1, 17]), (94, [7, 1, 1, 5, 2, 1, 1, 1, 1, 1], [2, 2, 1, 17]), (95, [7, 1, 1, 5, 2, 1, 1, 1, 1, 1], [5, 2, 2, 1, 17]), (98, [7, 1, 1, 5, 2, 1, 1, 1, 1, 1], [17, 2, 2, 1, 17]), (100, [7, 1, 1, 5, 2, 1, 1, 1, 1, 1], [1, 17, 2, 2, 1, 17]), (101, [7, 1, 1, 5, 2, 1, 1, 1, 1, 1], [2, 2, 2, 1, 17]), (102, [7, 1, 1, 5, 2, 1, 1, 1, 1, 1], [2, 2, 1, 17]), (103, [7, 1, 1, 5, 2, 1, 1, 1, 1, 1], [2, 1, 17]), (104, [7, 1, 1, 5, 2, 1, 1, 1, 1, 1], []), (106, [7, 1, 1, 5, 2, 1, 1, 1, 1, 1], [1]), (107, [7, 1, 1, 5, 2, 1, 1, 1, 1, 1], [1, 1]), (108, [7, 1, 1, 5, 2, 1, 1, 1, 1, 1], [1]), (110, [7, 1, 1, 5, 2, 1, 1, 1, 1, 1], []), (113, [7, 1, 1, 5, 2, 1, 1, 1, 1, 1], []), (116, [7, 1, 1, 5, 2, 1, 1, 1, 1, 1], []), (117, [7, 1, 1, 5, 2, 1, 1, 1, 1, 1], [1]), (120, [7, 1, 1, 5, 2, 1, 1, 1, 1, 1], [17]), (121, [7, 1, 1, 5, 2, 1, 1, 1, 1, 1], [1, 17]), (122, [7, 1, 1, 5, 2, 1, 1, 1, 1, 1], [2]), (123, [7, 1, 1, 5, 2, 1, 1, 1, 1, 1], [2, 2]), (124, [7, 1, 1, 5, 2, 1, 1, 1, 1, 1], [1]), (127, [7, 1, 1, 5, 2, 1, 1, 1, 1, 1], []), (128, [7, 1, 1, 5, 2, 1, 1, 1, 1, 1], [1]), (131, [7, 1, 1, 5, 2, 1, 1, 1, 1, 1], []), (132, [7, 1, 1, 5, 2, 1, 1, 1, 1, 1], [1])]), (41, ([7, 1, 5], 2, [200, 201, 10014, 10015, 10018]), [(0, [7, 1, 5, 1, 1, 1, 1], []), (1, [7, 1, 5, 1, 1, 1, 1], [1]), (4, [7, 1, 5, 1, 1, 1, 1], [1]), (5, [7, 1, 5, 1, 1, 1, 1], []), (6, [7, 1, 5, 1, 1, 1, 1], [7]), (9, [7, 1, 5, 1, 1, 1, 1], [5]), (10, [7, 1, 5, 1, 1, 1, 1], [1, 5]), (13, [7, 1, 5, 1, 1, 1, 1], []), (14, [7, 1, 5, 1, 1, 1, 1], [5]), (17, [7, 1, 5, 1, 1, 1, 1], [1]), (20, [7, 1, 5, 1, 1, 1, 1], []), (21, [7, 1, 5, 1, 1, 1, 1], [5]), (24, [7, 1, 5, 1, 1, 1, 1], [17]), (25, [7, 1, 5, 1, 1, 1, 1], [1, 17]), (26, [7, 1, 5, 1, 1, 1, 1], [2]), (27, [7, 1, 5, 1, 1, 1, 1], [2, 2]), (28, [7, 1, 5, 1, 1, 1, 1], [1]), (31, [7, 1, 5, 1, 1, 1, 1], []), (32, [7, 1, 5, 1, 1, 1, 1], [1]), (33, [7, 1, 5, 1, 1, 1, 1], []), (34, [7, 1, 5, 1, 1, 1, 1], [1]), (36, [7, 1, 5, 1, 1, 0, 1], []), (38, [7, 1, 5, 1, 1, 0, 1], [1]), (39, [7, 1, 5, 1, 1, 0, 1], [1, 1]), (42, [7, 1, 5, 1, 1, 0, 1], [1, 1]), (45, [7, 1, 5, 1, 1, 0, 1], []), (46, [7, 1, 5, 1, 1, 0, 1], [1]), (49, [7, 1, 5, 1, 1, 0, 1], [17]), (51, [7, 1, 5, 1, 1, 0, 1], [1, 17]), (52, [7, 1, 5, 1, 1, 0, 1], [2]), (53, [7, 1, 5, 1, 1, 0, 1], [2, 2]), (54, [7, 1, 5, 1, 1, 0, 1], [1]), (57, [7, 1, 5, 1, 1, 0, 1], []), (60, [7, 1, 5, 1, 1, 0, 1], []), (61, [7, 1, 5, 1, 1, 0, 1], [1]), (63, [7, 1, 5, 1, 1, 1, 1], []), (65, [7, 1, 5, 1, 1, 1, 1], [1]), (66, [7, 1, 5, 1, 1, 1, 1], [1, 1]), (69, [7, 1, 5, 1, 1, 1, 1], []), (70, [7, 1, 5, 1, 1, 1, 1], [7]), (73, [7, 1, 5, 1, 1, 1, 1], [21]), (75, [7, 1, 5, 1, 1, 1, 1], [1, 21]), (76, [7, 1, 5, 1, 1, 1, 1], [1, 1, 21]), (79, [7, 1, 5, 1, 1, 1, 1], [18, 1, 21]), (81, [7, 1, 5, 1, 1, 1, 1], [1, 18, 1, 21]), (82, [7, 1, 5, 1, 1, 1, 1], [1, 1, 18, 1, 21]), (83, [7, 1, 5, 1, 1, 1, 1], [1, 18, 1, 21]), (85, [7, 1, 5, 1, 1, 1, 1], [1, 1, 18, 1, 21]), (86, [7, 1, 5, 1, 1, 1, 1], [1, 18, 1, 21]), (87, [7, 1, 5, 1, 1, 1, 1], [1, 1, 21]), (88, [7, 1, 5, 1, 1, 1, 1], [5, 1, 1, 21]), (91, [7, 1, 5, 1, 1, 1, 1], [18, 1, 1, 21]), (93, [7, 1, 5, 1, 1, 1, 1], [1, 18, 1, 1, 21]), (94, [7, 1, 5, 1, 1, 1, 1], [1, 1, 1, 21]), (95, [7, 1, 5, 1, 1, 1, 1], [1, 1, 21]), (96, [7, 1, 5, 1, 1, 1, 1], []), (99, [7, 1, 5, 1, 1, 1, 1], []), (102, [7, 1, 5, 1, 1, 1, 1], []), (103, [7, 1, 5, 1, 1, 1, 1], [1]), (106, [7, 1, 5, 1, 1, 1, 1], [17]), (108, [7, 1, 5, 1, 1, 1, 1], [1, 17]), (109, [7, 1, 5, 1, 1, 1, 1], [2]), (110, [7, 1, 5, 1, 1, 1, 1], [5, 2]), (113, [7, 1, 5, 1, 1, 1, 1], [17, 2]), (114, [7, 1, 5, 1, 1, 1, 1], [1, 17, 2]), (115, [7, 1, 5, 1, 1, 1, 1], [2, 2]), (116, [7, 1, 5, 1, 1, 1, 1], [2]), (118, [7, 1, 5, 1, 1, 2, 1], []), (119, [7, 1, 5, 1, 1, 2, 1], [7]), (122, [7, 1, 5, 1, 1, 2, 1], [5]), (123, [7, 1, 5, 1, 1, 2, 1], [7, 5]), (126, [7, 1, 5, 1, 1, 2, 1], [21, 5]), (128, [7, 1, 5, 1, 1, 2, 1], [2, 21, 5]), (129, [7, 1, 5, 1, 1, 2, 1], [7, 2, 21, 5]), (132, [7, 1, 5, 1, 1, 2, 1], [5, 2, 21, 5]), (135, [7, 1, 5, 1, 1, 2, 1], [1, 2, 21, 5]), (138, [7, 1, 5, 1, 1, 2, 1], [1]), (139, [7, 1, 5, 1, 1, 2, 1], [1, 1]), (142, [7, 1, 5, 1, 1, 2, 1], []), (143, [7, 1, 5, 1, 1, 2, 1], [7]), (144, [7, 1, 5, 1, 1, 2, 1], [1, 7]), (146, [7, 1, 5, 1, 1, 2, 1], [1, 1, 7]), (147, [7, 1, 5, 1, 1, 2, 1], [5, 1, 1, 7]), (149, [7, 1, 5, 1, 1, 2, 1], [2, 5, 1, 1, 7]), (152, [7, 1, 5, 1, 1, 2, 1], [1]), (155, [7, 1, 5, 1, 1, 2, 1], []), (156, [7, 1, 5, 1, 1, 2, 1], [1]), (157, [7, 1, 5, 1, 1, 0, 1], []), (160, [7, 1, 5, 1, 1, 0, 1], []), (163, [7, 1, 5, 1, 1, 0, 1], []), (164, [7, 1, 5, 1, 1, 0, 1], [1])]), (42, ([7, 4, 1], 2, [200, 201, 10014, 10015, 10018]), [(0, [7, 4, 1, 1, 1], []), (1, [7, 4, 1, 1, 1], [4]), (4, [7, 4, 1, 1, 1], [13]), (5, [7, 4, 1, 1, 1], [4, 13]), (8, [7, 4, 1, 1, 1], [1, 13]), (9, [7, 4, 1, 1, 1], [4, 1, 13]), (12, [7, 4, 1, 1, 1], [1, 1, 13]), (13, [7, 4, 1, 1, 1], [1, 13]), (14, [7, 4, 1, 1, 1], [4, 1, 13]), (17, [7, 4, 1, 1, 1], [1, 1, 13]), (18, [7, 4, 1, 1, 1], [1, 1, 1, 13]), (21, [7, 4, 1, 1, 1], [1]), (24, [7, 4, 1, 1, 1], []), (25, [7, 4, 1, 1, 1], [1]), (26, [7, 4, 1, 1, 1], []), (27, [7, 4, 1, 1, 1], [7]), (28, [7, 4, 1, 1, 1], [4, 7]), (29, [7, 4, 1, 1, 1], [1, 4, 7]), (30, [7, 4, 1, 1, 1], [1, 1, 4, 7]), (31, [7, 4, 1, 1, 1], [7, 1, 1, 4, 7]), (34, [7, 4, 1, 1, 1], [5, 1, 1, 4, 7]), (35, [7, 4, 1, 1, 1], [7, 5, 1, 1, 4, 7]), (38, [7, 4, 1, 1, 1], [5, 5, 1, 1, 4, 7]), (41, [7, 4, 1, 1, 1], [1]), (42, [7, 4, 1, 1, 1], []), (43, [7, 4, 1, 1, 1], [7]), (44, [7, 4, 1, 1, 1], [4, 7]), (45, [7, 4, 1, 1, 1], [1, 4, 7]), (46, [7, 4, 1, 1, 1], [1, 1, 4, 7]), (47, [7, 4, 1, 1, 1], [7, 1, 1, 4, 7]), (50, [7, 4, 1, 1, 1], [5, 1, 1, 4, 7]), (51, [7, 4, 1, 1, 1], [7, 5, 1, 1, 4, 7]), (54, [7, 4, 1, 1, 1], [5, 5, 1, 1, 4, 7]), (57, [7, 4, 1, 1, 1], [1]), (59, [7, 4, 1, 1, 1], []), (60, [7, 4, 1, 1, 1], [1]), (63, [7, 4, 1, 1, 1], []), (65, [7, 4, 1, 1, 1], [1]), (68, [7, 4, 1, 1, 1], []), (69, [7, 4, 1, 1, 1], [7]), (70, [7, 4, 1, 1, 1], [1, 7]), (72, [7, 4, 1, 1, 1], [1, 1, 7]), (75, [7, 4, 1, 1, 1], [1]), (78, [7, 4, 1, 1, 1], []), (79, [7, 4, 1, 1, 1], [1]), (80, [7, 4, 1, 1, 1], []), (81, [7, 4, 1, 1, 1], [7]), (82, [7, 4, 1, 1, 1], [1, 7]), (83, [7, 4, 1, 1, 1], [4, 1, 7]), (86, [7, 4, 1, 1, 1], [15, 1, 7]), (87, [7, 4, 1, 1, 1], [1, 15, 1, 7]), (88, [7, 4, 1, 1, 1], [5, 1, 7]), (91, [7, 4, 1, 1, 1], [1])]), (116, ([13, 1, 1, 1], 0, [10010]), [(0, [13, 1, 1, 1, 1, 1], []), (1, [13, 1, 1, 1, 1, 1], [1]), (3, [13, 1, 1, 1, 1, 1], []), (5, [13, 1, 1, 1, 1, 1], [1]), (6, [13, 1, 1, 1, 1, 1], [1, 1]), (9, [13, 1, 1, 1, 1, 1], []), (10, [13, 1, 1, 1, 1, 1], [1]), (12, [13, 1, 1, 1, 1, 1], []), (14, [13, 1, 1, 1, 1, 1], [1]), (15, [13, 1, 1, 1, 1, 1], [1, 1]), (18, [13, 1, 1, 1, 1, 1], []), (20, [13, 1, 1, 1, 1, 1], [1]), (21, [13, 1, 1, 1, 1, 1], [1, 1]), (24, [13, 1, 1, 1, 1, 1], []), (26, [13, 1, 1, 1, 1, 1], [1]), (27, [13, 1, 1, 1, 1, 1], [1, 1]), (30, [13, 1, 1, 1, 1, 1], []), (31, [13, 1, 1, 1, 1, 1], [13]), (33, [13, 1, 1, 1, 1, 1], [1, 13]), (35, [13, 1, 1, 1, 1, 1], [1, 1, 13]), (36, [13, 1, 1, 1, 1, 1], [1, 13]), (38, [13, 1, 1, 1, 1, 1], [1, 1, 13]), (39, [13, 1, 1, 1, 1, 1], [1, 13]), (40, [13, 1, 1, 1, 1, 1], [13, 1, 13]), (42, [13, 1, 1, 1, 1, 1], [1, 13, 1, 13]), (44, [13, 1, 1, 1, 1, 1], [1, 1, 13, 1, 13]), (45, [13, 1, 1, 1, 1, 1], [1, 1, 1, 13, 1, 13]), (48, [13, 1, 1, 1, 1, 1], [1, 1, 13]), (49, [13, 1, 1, 1, 1, 1], []), (52, [13, 1, 1, 1, 1, 1], []), (55, [13, 1, 1, 1, 1, 1], []), (58, [13, 1, 1, 1, 1, 1], []), (61, [13, 1, 1, 1, 1, 1], []), (62, [13, 1, 1, 1, 1, 1], [1]), (64, [13, 1, 1, 1, 1, 1], []), (66, [13, 1, 1, 1, 1, 1], [1]), (67, [13, 1, 1, 1, 1, 1], [1, 1]), (70, [13, 1, 1, 1, 1, 1], []), (71, [13, 1, 1, 1, 1, 1], [13]), (73, [13, 1, 1, 1, 1, 1], [1, 13]), (75, [13, 1, 1, 1, 1, 1], [1, 1, 13]), (76, [13, 1, 1, 1, 1, 1], [1, 13]), (77, [13, 1, 1, 1, 1, 1], [1, 1, 13]), (78, [13, 1, 1, 1, 1, 1], [1, 13]), (79, [13, 1, 1, 1, 1, 1], [13, 1, 13]), (81, [13, 1, 1, 1, 1, 1], [1, 13, 1, 13]), (83, [13, 1, 1, 1, 1, 1], [1, 1, 13, 1, 13]), (84, [13, 1, 1, 1, 1, 1], [1, 13, 1, 13]), (85, [13, 1, 1, 1, 1, 1], [1, 1, 13, 1, 13]), (86, [13, 1, 1, 1, 1, 1], [1, 13, 1, 13]), (87, [13, 1, 1, 1, 1, 1], [1, 1, 13]), (88, [13, 1, 1, 1, 1, 1], [1, 1, 13]), (89, [13, 1, 1, 1, 1, 1], []), (92, [13, 1, 1, 1, 1, 1], []), (95, [13, 1, 1, 1, 1, 1], []), (96, [13, 1, 1, 1, 1, 1], [1]), (98, [13, 1, 1, 1, 1, 1], []), (100, [13, 1, 1, 1, 1, 1], [1]), (101, [13, 1, 1, 1, 1, 1], [1, 1]), (104, [13, 1, 1, 1, 1, 1], []), (106, [13, 1, 1, 1, 1, 1], [1]), (107, [13, 1, 1, 1, 1, 1], [1, 1]), (110, [13, 1, 1, 1, 1, 1], []), (111, [13, 1, 1, 1, 1, 1], [13]), (112, [13, 1, 1, 1, 1, 1], [1, 13]), (114, [13, 1, 1, 1, 1, 1], [1, 1, 13]), (115, [13, 1, 1, 1, 1, 1], [1, 13]), (117, [13, 1, 1, 1, 1, 1], [1, 1, 13]), (118, [13, 1, 1, 1, 1, 1], [1, 13]), (119, [13, 1, 1, 1, 1, 1], [13, 1, 13]), (120, [13, 1, 1, 1, 1, 1], [1, 13, 1, 13]), (122, [13, 1, 1, 1, 1, 1], [1, 1, 13, 1, 13]), (123, [13, 1, 1, 1, 1, 1], [1, 13, 1, 13]), (125, [13, 1, 1, 1, 1, 1], [1, 1, 13, 1, 13]), (126, [13, 1, 1, 1, 1, 1], [1, 13, 1, 13]), (127, [13, 1, 1, 1, 1, 1], [1, 1, 13]), (128, [13, 1, 1, 1, 1, 1], [1, 1, 13]), (129, [13, 1, 1, 1, 1, 1], []), (132, [13, 1, 1, 1, 1, 1], []), (135, [13, 1, 1, 1, 1, 1], [])]), (47, ([7, 4, 1], 0, [400, 10010, 10012]), [(0, [7, 4, 1, 1], []), (1, [7, 4, 1, 1], [4]), (4, [7, 4, 1, 1], [15]), (5, [7, 4, 1, 1], [1, 15]), (6, [7, 4, 1, 1], [5]), (7, [7, 4, 1, 5], []), (8, [7, 4, 1, 5], [4]), (11, [7, 4, 1, 5], [15]), (12, [7, 4, 1, 5], [1, 15]), (13, [7, 4, 1, 5], [7, 1, 15]), (16, [7, 4, 1, 5], [5, 1, 15]), (17, [7, 4, 1, 5], []), (18, [7, 4, 1, 5], [7]), (19, [7, 4, 1, 5], [5, 7]), (22, [7, 4, 1, 5], []), (23, [7, 4, 1, 5], [4]), (26, [7, 4, 1, 5], [13]), (27, [7, 4, 1, 5], [4, 13]), (30, [7, 4, 1, 5], [1, 13]), (31, [7, 4, 1, 5], [4, 1, 13]), (34, [7, 4, 1, 5], [1, 1, 13]), (35, [7, 4, 1, 5], [1, 13]), (36, [7, 4, 1, 5], [4, 1, 13]), (39, [7, 4, 1, 5], [1, 1, 13]), (40, [7, 4, 1, 5], [1, 1, 1, 13]), (43, [7, 4, 1, 5], [])]), (115, ([3, 1], 2, [4, 200, 201, 400, 10010, 10012, 10014, 10015, 10018, 10036]), [(0, [3, 1], []), (1, [3, 1], [3]), (2, [3, 1], [1, 3]), (5, [3, 1], [1]), (8, [3, 1], []), (9, [3, 1], [1]), (10, [3, 1], []), (11, [3, 1], [3]), (14, [3, 1], [7]), (15, [3, 1], [3, 7]), (18, [3, 1], [4, 7]), (19, [3, 1], [1, 4, 7]), (22, [3, 1], [1]), (25, [3, 1], []), (27, [3, 1], [1]), (28, [3, 1], []), (29, [3, 1], [3]), (32, [3, 1], [1]), (34, [3, 1], [1, 1]), (37, [3, 1], []), (39, [3, 1], [1]), (40, [3, 1], []), (41, [3, 1], [3]), (44, [3, 1], [7]), (45, [3, 1], [3, 7]), (48, [3, 1], [4, 7]), (49, [3, 1], [1, 4, 7]), (52, [3, 1], []), (53, [3, 1], [3]), (56, [3, 1], [39]), (57, [3, 1], [3, 39]), (60, [3, 1], [1, 39]), (61, [3, 1], [1, 1, 39]), (62, [3, 1], []), (63, [3, 1], [3]), (64, [3, 1], [3, 3]), (67, [3, 1], [1, 3]), (68, [3, 1], [1, 1, 3]), (69, [3, 1], [1, 3]), (72, [3, 1], []), (73, [3, 1], [3]), (76, [3, 1], [4]), (79, [3, 1], [15]), (80, [3, 1], [1, 15]), (81, [3, 1], [5]), (84, [3, 1], [1])])]
theorem rkT0 : rwT0.all (fun x_z => ks_row wT pmt ctT x_z.1 x_z.2) = true := by decide +kernel
theorem rwT_ct : rwT0.map (fun x_z => (x_z.1, x_z.2.1)) = ctTl := by decide +kernel
theorem ksT : ∀ n_z, ksRec wT ctT (pm_call pmt (an_sh wT) n_z) := ks_sound (fun mid_z Q_z hQ => by
  unfold ctT at hQ
  obtain ⟨x_z, hx, rfl⟩ := List.mem_map.mp hQ
  obtain ⟨h1, h2⟩ := List.mem_filter.mp hx
  have e_z := Nat.eq_of_beq_eq_true h2
  rw [← rwT_ct] at h1
  obtain ⟨y_z, hy, rfl⟩ := List.mem_map.mp h1
  have := List.all_eq_true.mp rkT0 y_z hy
  simp only at e_z
  rw [e_z] at this
  exact ⟨y_z.2.2, this⟩)
theorem kT_to {a : Nat} {v : pm_V} (ha : ¬ a = 22) (h : kv wX a v) : kv wT a v := by
  match a, ha, h with
  | 0, _, _ => trivial
  | 1, _, h => exact h
  | 2, _, h => exact h
  | k_z + 3, ha, h =>
    refine ⟨h.1, h.2.1, ?_⟩
    show (if v.2 = 46 then 36 else wX.2 v.2) = k_z
    have hk : wX.2 v.2 = k_z := h.2.2
    have k1_z : wX.2 46 = 19 := by decide
    rw [if_neg (fun e_z => ha (by rw [e_z] at hk; omega))]
    exact hk
theorem kT_dec : ∀ i_z : Fin 36, ∀ j_z : Fin 20, ¬ i_z.1 = 0 → ¬ i_z.1 = 5 → ¬ ks_d ((KX[i_z.1]?.getD (0, 0, 0, [])).2.2.2) j_z.1 = 22 := by decide +kernel
theorem kT_eq : ∀ i_z : Fin 36, ¬ i_z.1 = 0 → (KX.set 0 (0, 9, 15, [(2, 1, 0), (2, 3, 0), (2, 4, 0), (2, 36, 0), (0, 0, 100), (2, 20, 0), (2, 21, 0), (0, 0, 12), (2, 1, 0), (2, 5, 0), (0, (-2147483648), 2147483647), (2, 6, 0), (2, 7, 0), (2, 34, 0), (2, 8, 0)]) ++ [(1, 0, 100, [(0, (-2147483648), 2147483647)])])[i_z.1]? = KX[i_z.1]? := fun i_z h0 => by
  have hl : KX.length = 36 := by decide +kernel
  have hi_z := i_z.2
  rw [List.getElem?_append_left (by rw [List.length_set]; omega), List.getElem?_set_ne (fun e_z => h0 e_z.symm)]
theorem kX_u0 {r : Int} (r0 : 0 ≤ r) (h : wX.2 r = 0) : r = 0 := by
  have h1 : ∀ x_z : Fin 514, wX.2 (x_z.1 : Int) = 0 → x_z.1 = 0 := by decide +kernel
  by_cases lr : r < 514
  · have h2 := h1 ⟨r.toNat, by omega⟩ (by show wX.2 ((r.toNat : Nat) : Int) = 0; rw [Int.toNat_of_nonneg r0]; exact h)
    have h3 : r.toNat = 0 := h2
    omega
  · have := kX_big (r := r) (by omega)
    omega
theorem kX_u5 {r : Int} (r0 : 0 ≤ r) (h : wX.2 r = 5) : r = 72 := by
  have h1 : ∀ x_z : Fin 514, wX.2 (x_z.1 : Int) = 5 → x_z.1 = 72 := by decide +kernel
  by_cases lr : r < 514
  · have h2 := h1 ⟨r.toNat, by omega⟩ (by show wX.2 ((r.toNat : Nat) : Int) = 5; rw [Int.toNat_of_nonneg r0]; exact h)
    have h3 : r.toNat = 72 := h2
    omega
  · have := kX_big (r := r) (by omega)
    omega
theorem gK_T {A : pm_A} (hA : gH wX A) (h3 : A 0 3 = 46) (h15 : A 72 15 = 104) : gK wT A := by
  have hg := gK_of hA
  intro r_z k_z r0 hk
  have hk' : (KX.set 0 (0, 9, 15, [(2, 1, 0), (2, 3, 0), (2, 4, 0), (2, 36, 0), (0, 0, 100), (2, 20, 0), (2, 21, 0), (0, 0, 12), (2, 1, 0), (2, 5, 0), (0, (-2147483648), 2147483647), (2, 6, 0), (2, 7, 0), (2, 34, 0), (2, 8, 0)]) ++ [(1, 0, 100, [(0, (-2147483648), 2147483647)])])[if r_z = 46 then 36 else wX.2 r_z]? = some k_z := hk
  by_cases e_z : r_z = 46
  · rw [if_pos e_z] at hk'
    have ek : k_z = (1, 0, 100, [(0, (-2147483648), 2147483647)]) := (Option.some.inj hk').symm
    rw [ek]
    exact ⟨fun q_z => (by cases q_z), fun _ j_z _ _ => trivial⟩
  · rw [if_neg e_z] at hk'
    rcases kX_lt r_z with l | l
    · by_cases i0_z : wX.2 r_z = 0
      · have hr := kX_u0 r0 i0_z
        obtain ⟨g1, g2⟩ := hg r_z _ r0 (show KX[wX.2 r_z]? = some (0, 9, 15, [(2, 1, 0), (2, 3, 0), (2, 4, 0), (2, 19, 0), (0, 0, 100), (2, 20, 0), (2, 21, 0), (0, 0, 12), (2, 1, 0), (2, 5, 0), (0, (-2147483648), 2147483647), (2, 6, 0), (2, 7, 0), (2, 34, 0), (2, 8, 0)]) by rw [i0_z]; rfl)
        rw [i0_z] at hk'
        have ek : k_z = (0, 9, 15, [(2, 1, 0), (2, 3, 0), (2, 4, 0), (2, 36, 0), (0, 0, 100), (2, 20, 0), (2, 21, 0), (0, 0, 12), (2, 1, 0), (2, 5, 0), (0, (-2147483648), 2147483647), (2, 6, 0), (2, 7, 0), (2, 34, 0), (2, 8, 0)]) := (Option.some.inj hk').symm
        subst hr
        rw [ek]
        refine ⟨fun _ j_z => ?_, fun q_z => by cases q_z⟩
        have h5 := g1 rfl j_z
        match j_z, h5 with
        | 0, h5 => exact kT_to (a := 4) (by decide) h5
        | 1, h5 => exact kT_to (a := 6) (by decide) h5
        | 2, h5 => exact kT_to (a := 7) (by decide) h5
        | 3, _ =>
          refine ⟨rfl, ?_, ?_⟩
          · show 0 ≤ A 0 3; omega
          · show (if A 0 3 = 46 then 36 else wX.2 (A 0 3)) = 36
            rw [if_pos h3]
        | 4, _ => trivial
        | 5, h5 => exact kT_to (a := 23) (by decide) h5
        | 6, h5 => exact kT_to (a := 24) (by decide) h5
        | 7, _ => trivial
        | 8, h5 => exact kT_to (a := 4) (by decide) h5
        | 9, h5 => exact kT_to (a := 8) (by decide) h5
        | 10, _ => trivial
        | 11, h5 => exact kT_to (a := 9) (by decide) h5
        | 12, h5 => exact kT_to (a := 10) (by decide) h5
        | 13, h5 => exact kT_to (a := 37) (by decide) h5
        | 14, h5 => exact kT_to (a := 11) (by decide) h5
        | n_z + 15, _ => trivial
      · have e3 := kT_eq ⟨wX.2 r_z, l⟩ i0_z
        have hkX : KX[wX.2 r_z]? = some k_z := e3.symm.trans hk'
        obtain ⟨g1, g2⟩ := hg r_z k_z r0 hkX
        by_cases i5_z : wX.2 r_z = 5
        · have hr := kX_u5 r0 i5_z
          rw [i5_z] at hkX
          have ek : k_z = (0, 0, 18, [(2, 22, 0), (0, 0, 100), (2, 23, 0), (2, 24, 0), (2, 25, 0), (2, 26, 0), (2, 26, 0), (0, 0, 150), (2, 1, 0), (2, 27, 0), (1, (-9223372036854775808), 9223372036854775807), (1, (-9223372036854775808), 9223372036854775807), (2, 17, 0), (0, (-1), 100), (0, 0, 12), (2, 19, 0), (2, 28, 0), (2, 29, 0)]) := (Option.some.inj hkX).symm
          subst ek
          subst hr
          refine ⟨fun q_z j_z => ?_, fun q_z => by cases q_z⟩
          have h5 := g1 rfl j_z
          match j_z, h5 with
          | 0, h5 => exact kT_to (a := 25) (by decide) h5
          | 1, _ => trivial
          | 2, h5 => exact kT_to (a := 26) (by decide) h5
          | 3, h5 => exact kT_to (a := 27) (by decide) h5
          | 4, h5 => exact kT_to (a := 28) (by decide) h5
          | 5, h5 => exact kT_to (a := 29) (by decide) h5
          | 6, h5 => exact kT_to (a := 29) (by decide) h5
          | 7, _ => trivial
          | 8, h5 => exact kT_to (a := 4) (by decide) h5
          | 9, h5 => exact kT_to (a := 30) (by decide) h5
          | 10, _ => trivial
          | 11, _ => trivial
          | 12, h5 => exact kT_to (a := 20) (by decide) h5
          | 13, _ => trivial
          | 14, _ => trivial
          | 15, _ =>
            refine ⟨rfl, ?_, ?_⟩
            · show 0 ≤ A 72 15; omega
            · show (if A 72 15 = 46 then 36 else wX.2 (A 72 15)) = 19
              rw [h15]
              decide
          | 16, h5 => exact kT_to (a := 31) (by decide) h5
          | 17, h5 => exact kT_to (a := 32) (by decide) h5
          | n_z + 18, _ => trivial
        · have hd_z : ∀ j_z : Nat, ¬ ks_d k_z.2.2.2 j_z = 22 := fun j_z => by
            have h8 := kF_len ⟨wX.2 r_z, l⟩
            have ek : KX[wX.2 r_z]?.getD (0, 0, 0, []) = k_z := by rw [hkX]; rfl
            by_cases hj : j_z < 20
            · have h9 := kT_dec ⟨wX.2 r_z, l⟩ ⟨j_z, hj⟩ i0_z i5_z
              have h10 : ¬ ks_d ((KX[wX.2 r_z]?.getD (0, 0, 0, [])).2.2.2) j_z = 22 := h9
              rw [ek] at h10
              exact h10
            · have h11 : ((KX[wX.2 r_z]?.getD (0, 0, 0, [])).2.2.2).length ≤ 20 := h8
              rw [ek] at h11
              unfold ks_d
              rw [List.getElem?_eq_none (by omega)]
              decide
          exact ⟨fun q_z j_z => kT_to (hd_z j_z) (g1 q_z j_z), fun q_z j_z j0 j1 => kT_to (hd_z 0) (g2 q_z j_z j0 j1)⟩
    · have hlen : ((KX.set 0 (0, 9, 15, [(2, 1, 0), (2, 3, 0), (2, 4, 0), (2, 36, 0), (0, 0, 100), (2, 20, 0), (2, 21, 0), (0, 0, 12), (2, 1, 0), (2, 5, 0), (0, (-2147483648), 2147483647), (2, 6, 0), (2, 7, 0), (2, 34, 0), (2, 8, 0)]) ++ [(1, 0, 100, [(0, (-2147483648), 2147483647)])]) : List an_K).length = 37 := by decide +kernel
      rw [l, List.getElem?_eq_none (by omega)] at hk'
      cases hk'
theorem fx_turnT {n : Nat} {A : pm_A} {a1 : Int} {r : pm_R} (h : pm_call pmt (an_sh wX) n 115 [(2, 0), (0, a1)] A = some r) (hK : gK wT A) : gFk wT [4, 200, 201, 400, 10010, 10012, 10014, 10015, 10018, 10036] A r.2 := by
  rw [← shT] at h
  exact (ksT n 115 ([3, 1], 2, [4, 200, 201, 400, 10010, 10012, 10014, 10015, 10018, 10036]) (List.contains_iff_mem.mp (by decide +kernel)) [(2, 0), (0, a1)] A r ⟨⟨rfl, Int.le_refl 0, by decide⟩, (by show ¬ (0 : Nat) = 1; decide), trivial⟩ hK h).2.2
end

section
/-! what is told of all seeds is alike on both sides -/
theorem ls_pt {A B : pm_A} {c p : Int} (h : LSx A c = LSm B p) (a0 : 0 ≤ A c 1) (b0 : 0 ≤ B 1 p) : A c 1 = B 1 p ∧ ∀ t_z : Int, 0 ≤ t_z → t_z < B 1 p → A (A c 2) t_z = B 2 (200 * p + t_z) ∧ ∀ v_z : Int, 0 ≤ v_z → v_z < 12 → v_z < A c 0 → A (A c 3) (t_z * A c 0 + v_z) = B 3 (12 * (200 * p + t_z) + v_z) := by
  have hlen : A c 1 = B 1 p := by
    have h1 := congrArg List.length h
    rw [LSx_len, LSm_len] at h1
    omega
  refine ⟨hlen, fun t_z t0_z t1_z => ?_⟩
  have h2 : (LSx A c)[t_z.toNat]? = (LSm B p)[t_z.toNat]? := by rw [h]
  unfold LSx lsf LSm at h2
  rw [List.getElem?_map, List.getElem?_map, List.getElem?_range (by omega), List.getElem?_range (by omega)] at h2
  have h3 : (A (A c 2) ((t_z.toNat : Nat) : Int), xeX A c ((t_z.toNat : Nat) : Int)) = (B 2 (200 * p + ((t_z.toNat : Nat) : Int)), xe B p ((t_z.toNat : Nat) : Int)) := Option.some.inj h2
  rw [Int.toNat_of_nonneg t0_z] at h3
  refine ⟨congrArg Prod.fst h3, fun v_z v0_z v1_z v2_z => ?_⟩
  have h4 := congrFun (congrArg Prod.snd h3) ⟨v_z.toNat, by omega⟩
  have h5 : (if ((v_z.toNat : Nat) : Int) < A c 0 then A (A c 3) (t_z * A c 0 + ((v_z.toNat : Nat) : Int)) else 0) = B 3 (12 * (200 * p + t_z) + ((v_z.toNat : Nat) : Int)) := h4
  rw [Int.toNat_of_nonneg v0_z, if_pos v2_z] at h5
  exact h5
theorem lt_pt {A B : pm_A} {c p W : Int} {f : Fun12} (h1 : ltr A c f W) (h2 : ltM B p f) : LSx A c = LSm B p := by
  refine cr_Shr.eq (shrX h1.1 (fun q_z q0 q1_z => (h1.2.1 q_z q0 q1_z).1)) h2.1 (cr_vl_unique (fun x_z => ?_))
  have e1 := h1.2.2.2 x_z
  unfold VX at e1
  rw [← e1, ← h2.2.2 x_z]
def TL (AX AM : pm_A) : Prop := (AX 72 13 = -1 ∧ AM 0 29 = 0) ∨ (AM 0 29 = 1 ∧ (AX 72 13 = AM 0 30 ∧ AX 72 14 = AM 0 36) ∧ ∀ l : Int, 0 ≤ l → l < AM 0 30 → AX 104 l = AM 19 l ∧ AX 105 l = AM 20 l ∧ ∀ v_z : Int, 0 ≤ v_z → v_z < AM 0 36 → AX 106 (12 * l + v_z) = AM 21 (12 * l + v_z))
theorem TL.of {AX BX AM BM : pm_A} (h : TL AX AM) (e1 : BX 72 13 = AX 72 13 ∧ BX 72 14 = AX 72 14) (e2 : ∀ c_z j_z : Int, c_z = 104 ∨ c_z = 105 ∨ c_z = 106 → 0 ≤ j_z → BX c_z j_z = AX c_z j_z) (e3 : BM 0 29 = AM 0 29 ∧ BM 0 30 = AM 0 30 ∧ BM 0 36 = AM 0 36) (e4 : ∀ c_z j_z : Int, c_z = 19 ∨ c_z = 20 ∨ c_z = 21 → 0 ≤ j_z → BM c_z j_z = AM c_z j_z) : TL BX BM := by
  rcases h with ⟨h1, h2⟩ | ⟨h1, h2, h3⟩
  · exact Or.inl ⟨by rw [e1.1]; exact h1, by rw [e3.1]; exact h2⟩
  · refine Or.inr ⟨by rw [e3.1]; exact h1, ⟨by rw [e1.1, e3.2.1]; exact h2.1, by rw [e1.2, e3.2.2]; exact h2.2⟩, fun l l0 l1 => ?_⟩
    rw [e3.2.1] at l1
    rw [e3.2.2, e2 104 l (by omega) l0, e2 105 l (by omega) l0, e4 19 l (by omega) l0, e4 20 l (by omega) l0]
    obtain ⟨a1_z, a2, a3⟩ := h3 l l0 l1
    refine ⟨a1_z, a2, fun v_z v0_z v1_z => ?_⟩
    rw [e2 106 _ (by omega) (by omega), e4 21 _ (by omega) (by omega)]
    exact a3 v_z v0_z v1_z
theorem TL.m {AM BM : pm_A} {mt : List Nat} (hM : gFk wM mt AM BM) (a2 : avoid [29, 30, 36, 10019, 10020, 10021] mt = true) : (BM 0 29 = AM 0 29 ∧ BM 0 30 = AM 0 30 ∧ BM 0 36 = AM 0 36) ∧ ∀ c_z j_z : Int, c_z = 19 ∨ c_z = 20 ∨ c_z = 21 → 0 ≤ j_z → BM c_z j_z = AM c_z j_z := by
  have h0 : ∀ j_z : Int, j_z = 29 ∨ j_z = 30 ∨ j_z = 36 → BM 0 j_z = AM 0 j_z := fun j_z hj => hM 0 j_z (by omega) (by omega) (by
    rw [kMd j_z]
    refine avoid_n a2 ?_
    rcases hj with rfl | rfl | rfl <;> decide)
  refine ⟨⟨h0 29 (by omega), h0 30 (by omega), h0 36 (by omega)⟩, fun c_z j_z hc_z j0 => hM c_z j_z (by omega) j0 ?_⟩
  rcases hc_z with rfl | rfl | rfl
  · rw [kmA kn19 (by decide +kernel)]; exact avoid_n a2 (by decide)
  · rw [kmA kn20 (by decide +kernel)]; exact avoid_n a2 (by decide)
  · rw [kmA kn21 (by decide +kernel)]; exact avoid_n a2 (by decide)
theorem TL.k {AX BX AM BM : pm_A} {ms mt : List Nat} (h : TL AX AM) (hX : gFk wY ms AX BX) (hM : gFk wM mt AM BM) (a1 : avoid [513, 514, 10019, 10028, 10029] ms = true) (a2 : avoid [29, 30, 36, 10019, 10020, 10021] mt = true) : TL BX BM := by
  have hm_z := TL.m hM a2
  have x0_z : ∀ j_z : Int, j_z = 13 ∨ j_z = 14 → BX 72 j_z = AX 72 j_z := fun j_z hj => hX 72 j_z (by omega) (by omega) (by
    rw [kc_o (a := 0) kk72 (by decide) (shX_5 kk72)]
    refine avoid_n a1 ?_
    rcases hj with rfl | rfl <;> decide)
  refine h.of ⟨x0_z 13 (by omega), x0_z 14 (by omega)⟩ (fun c_z j_z hc_z j0 => hX c_z j_z (by omega) j0 ?_) hm_z.1 hm_z.2
  rcases hc_z with rfl | rfl | rfl
  · rw [kc_a rk104.1 (by decide) (shX_19 rk104.1)]; exact avoid_n a1 (by decide)
  · rw [kc_a rk104.2.1 (by decide) (shX_28 rk104.2.1)]; exact avoid_n a1 (by decide)
  · rw [kc_a rk104.2.2 (by decide) (shX_29 rk104.2.2)]; exact avoid_n a1 (by decide)
theorem kt_o {r : Int} {l b : Nat} {n : Int} (hk : wX.2 r = l) (hl : ¬ r = 46) (hs : an_sh wX r = (0, b, n)) (j : Int) : kcode wT r j = 100 * l + j.toNat := by
  unfold kcode
  rw [shT, hs]
  show 100 * wT.2 r + j.toNat = 100 * l + j.toNat
  have e_z : wT.2 r = l := by
    show (if r = 46 then 36 else wX.2 r) = l
    rw [if_neg hl]; exact hk
  rw [e_z]
theorem kt_a {r : Int} {l b : Nat} {n : Int} (hk : wX.2 r = l) (hl : ¬ r = 46) (hs : an_sh wX r = (1, b, n)) (j : Int) : kcode wT r j = 10000 + l := by
  unfold kcode
  rw [shT, hs]
  show 10000 + wT.2 r = 10000 + l
  have e_z : wT.2 r = l := by
    show (if r = 46 then 36 else wX.2 r) = l
    rw [if_neg hl]; exact hk
  rw [e_z]
theorem TL.turn {AX BX AM BM : pm_A} {ms mt : List Nat} (h : TL AX AM) (hX : gFk wT ms AX BX) (hM : gFk wM mt AM BM) (a1 : avoid [513, 514, 10019, 10028, 10029] ms = true) (a2 : avoid [29, 30, 36, 10019, 10020, 10021] mt = true) : TL BX BM := by
  have hm_z := TL.m hM a2
  have x0_z : ∀ j_z : Int, j_z = 13 ∨ j_z = 14 → BX 72 j_z = AX 72 j_z := fun j_z hj => hX 72 j_z (by omega) (by omega) (by
    rw [kt_o kk72 (by omega) (shX_5 kk72)]
    refine avoid_n a1 ?_
    rcases hj with rfl | rfl <;> decide)
  refine h.of ⟨x0_z 13 (by omega), x0_z 14 (by omega)⟩ (fun c_z j_z hc_z j0 => hX c_z j_z (by omega) j0 ?_) hm_z.1 hm_z.2
  rcases hc_z with rfl | rfl | rfl
  · rw [kt_a rk104.1 (by omega) (shX_19 rk104.1)]; exact avoid_n a1 (by decide)
  · rw [kt_a rk104.2.1 (by omega) (shX_28 rk104.2.1)]; exact avoid_n a1 (by decide)
  · rw [kt_a rk104.2.2 (by omega) (shX_29 rk104.2.2)]; exact avoid_n a1 (by decide)
theorem tl_first : TL (wA WX) A0M := Or.inl ⟨by decide +kernel, by decide +kernel⟩
theorem tl_all {s : cx_Sd 12} {ks : List (Fin 12)} {AX AM : pm_A} {q r : pm_R} (h : XRs s ks AX AM) (ht : TL AX AM) (hq : xlP2 s ks AX (bgW AX 1) (AX 1 0) q) (hr : mlE s (AM 0 7) (AM 0 8) (fun o_z => ∃ n_z, allA s (AM 0 7 + AM 0 8) (AM 0 7) n_z (firstL s ks (AM 0 7).toNat) [ks] 0 0 o_z) AM r) : TL q.2 r.2 := by
  have h7 := h.1.2.2.2.1
  have p7_z := fM_0_7 h.1.2.2.1.1 (r := 0) (by omega) km0
  have p8 := fM_0_8 h.1.2.2.1.1 (r := 0) (by omega) km0
  have eW : bgW AX 1 = AM 0 7 + AM 0 8 := by unfold bgW; rw [h7, h.1.2.2.2.2]
  rw [eW, h7] at hq
  obtain ⟨C_z, z_z, hE, e1, e2, _⟩ := hq
  have u_z : ∀ r_z j_z : Int, ¬ r_z = 0 → q.2 r_z j_z = C_z r_z j_z := fun r_z j_z hr2 => by rw [e2, upd_ne hr2]
  rcases hE with ⟨_, htd, ⟨n_z, ho⟩, _⟩ | ⟨La_z, Rh, B_z, ⟨n_z, ho⟩, _, hxa, hpc, hre⟩
  · rcases hr with ⟨_, _, _, e3, e4_z⟩ | ⟨L2_z, R2, D_z, ⟨m_z, hm_z⟩, _⟩
    · exact ht.of ⟨by rw [u_z 72 13 (by omega)]; exact htd.1.1, by rw [u_z 72 14 (by omega)]; exact htd.1.2⟩ (fun c_z j_z hc_z j0 => by rw [u_z c_z j_z (by omega)]; exact htd.2 c_z j_z (by omega) (by omega)) e3 e4_z
    · have := allA_u ho hm_z
      cases this
  · rcases hr with ⟨_, ⟨m_z, hm_z⟩, _⟩ | ⟨L2_z, R2, D_z, ⟨m_z, hm_z⟩, ⟨hS_z, hg⟩, hl, _, _, ⟨e29, e30, e36⟩, htM⟩
    · have := allA_u ho hm_z
      cases this
    · have h5 := Option.some.inj (allA_u ho hm_z)
      injection h5 with h6 _
      rw [← h6] at hS_z hl e30 htM
      obtain ⟨_, ⟨hCg, _, f13, f14_z⟩, htX⟩ := hre
      simp only at hCg f13 f14_z htX
      have hB1 := hpc.2.1.1.1
      have hBw := hpc.1.2
      refine Or.inr ⟨e29, ⟨by rw [u_z 72 13 (by omega), e30]; exact f13.trans hB1, by rw [u_z 72 14 (by omega), e36]; exact f14_z.trans hBw⟩, fun l l0 l1 => ?_⟩
      rw [e30] at l1
      have hlt : l.toNat < La_z.length := by omega
      have hget_z : La_z[l.toNat]? = some (La_z[l.toNat]'hlt) := List.getElem?_eq_getElem hlt
      have hx := hpc.2.1.2.1 _ _ hget_z
      have hm2 := hS_z.2.1.2.1 _ _ hget_z
      rw [Int.toNat_of_nonneg l0] at hx hm2
      have hk2 : 0 ≤ 107 + 3 * l ∧ wX.2 (107 + 3 * l) = 2 := ⟨by omega, kkLt l0 (by omega)⟩
      have mx_z := fX_2_1 hxa.1.1 hk2.1 hk2.2
      have mm := eM_1 hg (r := 1) (by omega) kn1 (j := 50 + l) (by omega) (by omega)
      have sh2 : B_z (107 + 3 * l) 2 = 108 + 3 * l := by
        have h8 := hxa.1.2.1.2.1 _ hk2.1 hk2.2
        omega
      have sh3 : B_z (107 + 3 * l) 3 = 109 + 3 * l := by
        have h8 := hxa.1.2.2.2.1 _ hk2.1 hk2.2
        omega
      have hpt := ls_pt (lt_pt hx hm2) mx_z.1 mm.1
      rw [sh2, sh3] at hpt
      have hw := hx.2.2.1
      have hone := hm2.2.1.1
      rw [LSm_len] at hone
      obtain ⟨a1_z, a2, a3⟩ := htX l l0 (by omega)
      obtain ⟨b1, b2, b3⟩ := htM l l0 (by omega)
      refine ⟨?_, ?_, fun v_z v0_z v1_z => ?_⟩
      · rw [u_z 104 l (by omega), a1_z, b1]; exact hpt.1
      · rw [u_z 105 l (by omega), a2, b2, hpt.1]
        exact smP_c _ (fun q_z q0 q1_z => (hpt.2 q_z q0 (by omega)).1)
      · rw [e36] at v1_z
        rw [u_z 106 _ (by omega), a3 v_z v0_z (by omega), b3 v_z v0_z (by omega), hpt.1]
        exact mnP_c _ (fun q_z q0 q1_z => (hpt.2 q_z q0 (by omega)).2 v_z v0_z (by omega) (by omega))
/-! what on both sides -/
theorem sq_Xwhat : pm_srt o_X9_what = true := by decide +kernel
theorem sq_tell : pm_srt o_X0_tell = true := by decide +kernel
theorem sq_Mwhat : pm_srt o_X10_what = true := by decide +kernel
def wha (L W : Int) (T S E : Int → Int) (i w z : Int) : Prop := (w = 0 ∧ z = L) ∨ ((¬ w = 0) ∧ (¬ (0 ≤ i ∧ i < L)) ∧ z = -1) ∨ ((0 ≤ i ∧ i < L) ∧ ((w = 1 ∧ z = T i) ∨ (w = 2 ∧ z = S i) ∨ ((10 ≤ w ∧ w < 10 + W) ∧ z = E (12 * i + (w - 10))) ∨ ((¬ w = 0) ∧ (¬ w = 1) ∧ (¬ w = 2) ∧ (¬ (10 ≤ w ∧ w < 10 + W)) ∧ z = -1)))
theorem tell_ex {A : pm_A} {i w : Int} (hA : gH wX A) (hT : AT A) : Cl pmt (an_sh wX) 15 [(2, 72), (0, i), (0, w)] A (fun r_z => ∃ z_z, r_z = (some (1, z_z), A) ∧ wha (A 72 13) (A 72 14) (A 104) (A 105) (A 106) i w z_z) := by
  have b13 := fX_5_13 hA (r := 72) (by omega) kk72
  have b14 := fX_5_14 hA (r := 72) (by omega) kk72
  have e15_z := hT.2.1.1
  have e16_z := hT.2.1.2.1
  have e17_z := hT.2.1.2.2
  refine Cl.of (Nat.le_of_ble_eq_true rfl) ?_
  refine wq_ok (full := o_X0_tell) sq_tell (fr := []) (cuts := []) (J := fun _ _ => False) (fun _ _ h_z => h_z.elim) 80 0 _ ?_
  refine ⟨fun h0 => ?_, fun h0 => ?_⟩
  · refine ⟨fun h1 => ?_, fun h1 => ?_⟩
    · exact ⟨rfl, _, rfl, Or.inr (Or.inl ⟨h0, by omega, rfl⟩)⟩
    refine ⟨oX_5 (by omega) kk72 13 rfl, ?_⟩
    refine ⟨fun h2 => ?_, fun h2 => ?_⟩
    · refine ⟨fun h3 => ?_, fun h3 => ?_⟩
      · refine ⟨fun h4 => ?_, fun h4 => ?_⟩
        · refine ⟨fun h5 => ?_, fun h5 => ?_⟩
          · exact ⟨rfl, _, rfl, Or.inr (Or.inr ⟨⟨h1, h2⟩, Or.inr (Or.inr (Or.inr ⟨h0, h3, h4, by omega, rfl⟩))⟩)⟩
          refine ⟨oX_5 (by omega) kk72 14 rfl, ?_⟩
          refine ⟨⟨by omega, by omega⟩, ?_⟩
          refine ⟨fun h6 => ?_, fun h6 => ?_⟩
          · exact ⟨rfl, _, rfl, Or.inr (Or.inr ⟨⟨h1, h2⟩, Or.inr (Or.inr (Or.inr ⟨h0, h3, h4, by omega, rfl⟩))⟩)⟩
          · refine ⟨oX_5 (by omega) kk72 17 rfl, ?_⟩
            refine ⟨⟨by omega, by omega⟩, ?_⟩
            refine ⟨⟨by omega, by omega⟩, ?_⟩
            refine ⟨⟨by omega, by omega⟩, ?_⟩
            refine ⟨aX_29 (by rw [e17_z]; omega) (by rw [e17_z]; exact rk104.2.2) (by omega) (by omega), ?_⟩
            refine ⟨rfl, _, rfl, Or.inr (Or.inr ⟨⟨h1, h2⟩, Or.inr (Or.inr (Or.inl ⟨⟨h5, h6⟩, ?_⟩))⟩)⟩
            rw [e17_z, show i * 12 + w - 10 = 12 * i + (w - 10) by omega]
        · refine ⟨oX_5 (by omega) kk72 16 rfl, ?_⟩
          refine ⟨aX_28 (by rw [e16_z]; omega) (by rw [e16_z]; exact rk104.2.1) h1 (by omega), ?_⟩
          refine ⟨rfl, _, rfl, Or.inr (Or.inr ⟨⟨h1, h2⟩, Or.inr (Or.inl ⟨h4, ?_⟩)⟩)⟩
          rw [e16_z]
      · refine ⟨oX_5 (by omega) kk72 15 rfl, ?_⟩
        refine ⟨aX_19 (by rw [e15_z]; omega) (by rw [e15_z]; exact rk104.1) h1 (by omega), ?_⟩
        refine ⟨rfl, _, rfl, Or.inr (Or.inr ⟨⟨h1, h2⟩, Or.inl ⟨h3, ?_⟩⟩)⟩
        rw [e15_z]
    · exact ⟨rfl, _, rfl, Or.inr (Or.inl ⟨h0, by omega, rfl⟩)⟩
  · refine ⟨oX_5 (by omega) kk72 13 rfl, ?_⟩
    exact ⟨rfl, _, rfl, Or.inl ⟨h0, rfl⟩⟩
theorem xwhat_ex {A : pm_A} {i w : Int} (hS : StE A) (hT : AT A) : Cl pmt (an_sh wX) 120 [(2, 0), (0, i), (0, w)] A (fun r_z => ∃ z_z, r_z = (some (1, z_z), A) ∧ wha (A 72 13) (A 72 14) (A 104) (A 105) (A 106) i w z_z) := by
  have a9 := hS.2.1.1.2.2.2.1
  refine Cl.of (Nat.le_of_ble_eq_true rfl) ?_
  refine wq_ok (full := o_X9_what) sq_Xwhat (fr := []) (cuts := []) (J := fun _ _ => False) (fun _ _ h_z => h_z.elim) 20 0 _ ?_
  refine ⟨oX_0 z0 kk0 9 rfl, ?_⟩
  refine ⟨rX_5 (by rw [a9]; omega) (by rw [a9]; exact kk72), ?_⟩
  rw [a9]
  refine (tell_ex hS.1 hT).imp ?_
  rintro r_z ⟨z_z, rfl, hz⟩
  exact ⟨rfl, z_z, rfl, hz⟩
theorem mwhat_ex {A : pm_A} {i w : Int} (hg : gH wM A) (h30 : A 0 29 = 1 → A 0 30 ≤ 100 ∧ A 0 36 ≤ 12) : Cl pmt (an_sh wM) 203 [(2, 0), (0, i), (0, w)] A (fun r_z => ∃ z_z, r_z = (some (1, z_z), A) ∧ ((A 0 29 = 0 ∧ z_z = -1) ∨ ((¬ A 0 29 = 0) ∧ wha (A 0 30) (A 0 36) (A 19) (A 20) (A 21) i w z_z))) := by
  have b29 := fM_0_29 hg (r := 0) (by omega) km0
  have b30 := fM_0_30 hg (r := 0) (by omega) km0
  have b36 := fM_0_36 hg (r := 0) (by omega) km0
  have c31_z := pM_31 hg
  have c32_z := pM_32 hg
  have c33_z := pM_33 hg
  refine Cl.of (Nat.le_of_ble_eq_true rfl) ?_
  refine wq_ok (full := o_X10_what) sq_Mwhat (fr := []) (cuts := []) (J := fun _ _ => False) (fun _ _ h_z => h_z.elim) 80 0 _ ?_
  refine ⟨oM_0 (by omega) km0 29 rfl, ?_⟩
  refine ⟨fun h9 => ?_, fun h9 => ?_⟩
  · have hb_z := h30 (by omega)
    refine ⟨fun h0 => ?_, fun h0 => ?_⟩
    · refine ⟨fun h1 => ?_, fun h1 => ?_⟩
      · exact ⟨rfl, _, rfl, Or.inr ⟨h9, Or.inr (Or.inl ⟨h0, by omega, rfl⟩)⟩⟩
      refine ⟨oM_0 (by omega) km0 30 rfl, ?_⟩
      refine ⟨fun h2 => ?_, fun h2 => ?_⟩
      · refine ⟨fun h3 => ?_, fun h3 => ?_⟩
        · refine ⟨fun h4 => ?_, fun h4 => ?_⟩
          · refine ⟨fun h5 => ?_, fun h5 => ?_⟩
            · exact ⟨rfl, _, rfl, Or.inr ⟨h9, Or.inr (Or.inr ⟨⟨h1, h2⟩, Or.inr (Or.inr (Or.inr ⟨h0, h3, h4, by omega, rfl⟩))⟩)⟩⟩
            refine ⟨oM_0 (by omega) km0 36 rfl, ?_⟩
            refine ⟨⟨by omega, by omega⟩, ?_⟩
            refine ⟨fun h6 => ?_, fun h6 => ?_⟩
            · exact ⟨rfl, _, rfl, Or.inr ⟨h9, Or.inr (Or.inr ⟨⟨h1, h2⟩, Or.inr (Or.inr (Or.inr ⟨h0, h3, h4, by omega, rfl⟩))⟩)⟩⟩
            · refine ⟨oM_0 (by omega) km0 33 rfl, ?_⟩
              refine ⟨⟨by omega, by omega⟩, ?_⟩
              refine ⟨⟨by omega, by omega⟩, ?_⟩
              refine ⟨⟨by omega, by omega⟩, ?_⟩
              refine ⟨aM_21 (r := A 0 33) (by rw [c33_z]; omega) (by rw [c33_z]; exact kn21) (by omega) (by omega), ?_⟩
              refine ⟨rfl, _, rfl, Or.inr ⟨h9, Or.inr (Or.inr ⟨⟨h1, h2⟩, Or.inr (Or.inr (Or.inl ⟨⟨h5, h6⟩, ?_⟩))⟩)⟩⟩
              rw [c33_z, show 12 * i + w - 10 = 12 * i + (w - 10) by omega]
          · refine ⟨oM_0 (by omega) km0 32 rfl, ?_⟩
            refine ⟨aM_20 (r := A 0 32) (by rw [c32_z]; omega) (by rw [c32_z]; exact kn20) h1 (by omega), ?_⟩
            refine ⟨rfl, _, rfl, Or.inr ⟨h9, Or.inr (Or.inr ⟨⟨h1, h2⟩, Or.inr (Or.inl ⟨h4, ?_⟩)⟩)⟩⟩
            rw [c32_z]
        · refine ⟨oM_0 (by omega) km0 31 rfl, ?_⟩
          refine ⟨aM_19 (r := A 0 31) (by rw [c31_z]; omega) (by rw [c31_z]; exact kn19) h1 (by omega), ?_⟩
          refine ⟨rfl, _, rfl, Or.inr ⟨h9, Or.inr (Or.inr ⟨⟨h1, h2⟩, Or.inl ⟨h3, ?_⟩⟩)⟩⟩
          rw [c31_z]
      · exact ⟨rfl, _, rfl, Or.inr ⟨h9, Or.inr (Or.inl ⟨h0, by omega, rfl⟩)⟩⟩
    · refine ⟨oM_0 (by omega) km0 30 rfl, ?_⟩
      exact ⟨rfl, _, rfl, Or.inr ⟨h9, Or.inl ⟨h0, rfl⟩⟩⟩
  · exact ⟨rfl, _, rfl, Or.inl ⟨by omega, rfl⟩⟩
theorem rl_what {AX AM : pm_A} {i w : Int} {q r : pm_R} (ht : TL AX AM) (hq : ∃ z_z, q = (some (1, z_z), AX) ∧ wha (AX 72 13) (AX 72 14) (AX 104) (AX 105) (AX 106) i w z_z) (hr : ∃ z_z, r = (some (1, z_z), AM) ∧ ((AM 0 29 = 0 ∧ z_z = -1) ∨ ((¬ AM 0 29 = 0) ∧ wha (AM 0 30) (AM 0 36) (AM 19) (AM 20) (AM 21) i w z_z))) : q.1 = r.1 := by
  obtain ⟨y_z, rfl, hy⟩ := hq
  obtain ⟨z_z, rfl, hz⟩ := hr
  have key_z : y_z = z_z := by
    rcases ht with ⟨h1, h2⟩ | ⟨h1, ⟨h2, h3⟩, h4⟩
    · rcases hz with ⟨_, e_z⟩ | ⟨n_z, _⟩
      · rcases hy with ⟨_, e2⟩ | ⟨_, _, e2⟩ | ⟨h5, _⟩
        · omega
        · omega
        · omega
      · exact absurd h2 n_z
    · rcases hz with ⟨e_z, _⟩ | ⟨_, hz⟩
      · omega
      · rw [h2, h3] at hy
        rcases hy with ⟨a1_z, a2⟩ | ⟨a1_z, a2, a3⟩ | ⟨a1_z, a2⟩
        · rcases hz with ⟨b1, b2⟩ | ⟨b1, b2, b3⟩ | ⟨b1, b2⟩
          · omega
          · omega
          · omega
        · rcases hz with ⟨b1, b2⟩ | ⟨b1, b2, b3⟩ | ⟨b1, b2⟩
          · omega
          · omega
          · exact absurd b1 a2
        · rcases hz with ⟨b1, b2⟩ | ⟨b1, b2, b3⟩ | ⟨b1, b2⟩
          · omega
          · exact absurd a1_z b2
          · obtain ⟨t1_z, t2_z, t3_z⟩ := h4 i a1_z.1 a1_z.2
            rcases a2 with ⟨c1_z, c2_z⟩ | ⟨c1_z, c2_z⟩ | ⟨c1_z, c2_z⟩ | ⟨c0_z, c1_z, c2_z, c3_z, c4_z⟩
            · rcases b2 with ⟨d1_z, d2_z⟩ | ⟨d1_z, d2_z⟩ | ⟨d1_z, d2_z⟩ | ⟨d0_z, d1_z, d2_z, d3_z, d4_z⟩
              · rw [c2_z, d2_z, t1_z]
              · omega
              · omega
              · omega
            · rcases b2 with ⟨d1_z, d2_z⟩ | ⟨d1_z, d2_z⟩ | ⟨d1_z, d2_z⟩ | ⟨d0_z, d1_z, d2_z, d3_z, d4_z⟩
              · omega
              · rw [c2_z, d2_z, t2_z]
              · omega
              · omega
            · rcases b2 with ⟨d1_z, d2_z⟩ | ⟨d1_z, d2_z⟩ | ⟨d1_z, d2_z⟩ | ⟨d0_z, d1_z, d2_z, d3_z, d4_z⟩
              · omega
              · omega
              · rw [c2_z, d2_z, t3_z (w - 10) (by omega) (by omega)]
              · omega
            · rcases b2 with ⟨d1_z, d2_z⟩ | ⟨d1_z, d2_z⟩ | ⟨d1_z, d2_z⟩ | ⟨d0_z, d1_z, d2_z, d3_z, d4_z⟩
              · omega
              · omega
              · omega
              · omega
  rw [key_z]
theorem TL.b {AX AM : pm_A} (h : TL AX AM) (hX : gH wX AX) : AM 0 29 = 1 → AM 0 30 ≤ 100 ∧ AM 0 36 ≤ 12 := fun e_z => by
  have b13 := fX_5_13 hX (r := 72) (by omega) kk72
  have b14 := fX_5_14 hX (r := 72) (by omega) kk72
  rcases h with ⟨_, h2⟩ | ⟨_, ⟨h2, h3⟩, _⟩
  · omega
  · omega
end
