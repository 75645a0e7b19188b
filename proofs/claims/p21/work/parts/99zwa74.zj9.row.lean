section
/-! the row of places is alike on both sides -/
theorem kk48 : wX.2 48 = 21 := by decide
def fl12 (A : pm_A) (r : Int) (q : pm_R) : Prop := q.1 = none ∧ gH wX q.2 ∧ (∀ r_z j_z : Int, ¬ r_z = r → q.2 r_z j_z = A r_z j_z) ∧ ∀ j_z : Int, 0 ≤ j_z → j_z < 12 → q.2 r j_z = 0
theorem fl12_5 {A : pm_A} {r : Int} (hr0 : 0 ≤ r) (hrk : wX.2 r = 21) : ∀ (m_z : Nat) (i_z : Int) (B_z : pm_A), (12 - i_z).toNat < m_z → 0 ≤ i_z → i_z ≤ 12 → gH wX B_z → (∀ r_z j_z : Int, ¬ r_z = r → B_z r_z j_z = A r_z j_z) → (∀ j_z : Int, 0 ≤ j_z → j_z < i_z → B_z r j_z = 0) → Tm pmt (an_sh wX) o_J7_fill_53178 5 ([(2, r), (0, 0), (0, i_z), (0, 12)], [], B_z) (fl12 A r) := by
  intro m_z
  induction m_z with
  | zero => intro i_z B_z h_z; omega
  | succ m_z ih_z =>
    intro i_z B_z hm_z hi0_z hi1 hB_z hF hz
    refine wq_ok srt_fill (fr := []) (cuts := [5]) (J := fun pc st_z => pc = 5 ∧ i_z < 12 ∧ st_z = ([(2, r), (0, 0), (0, i_z + 1), (0, 12)], [], pm_upd B_z r i_z 0)) ?_ 20 5 _ ?_
    · rintro pc st_z ⟨rfl, hi_z, rfl⟩
      refine ih_z (i_z + 1) _ (by omega) (by omega) (by omega) (uX_21 hB_z hrk (by omega) (by omega)) (fun r_z j_z hr => by rw [upd_ne hr]; exact hF r_z j_z hr) (fun j_z j0 j1 => ?_)
      by_cases e_z : j_z = i_z
      · rw [e_z, upd_at]
      · rw [upd_n2 e_z]; exact hz j_z j0 (by omega)
    · refine ⟨fun h_z => ⟨rfl, hB_z, hF, fun j_z j0 j1 => hz j_z j0 (by omega)⟩, fun h_z => ?_⟩
      refine ⟨tX_21 hr0 hrk hi0_z (by omega) rfl, ?_⟩
      refine ⟨⟨by omega, by omega⟩, ?_⟩
      exact ⟨rfl, h_z, rfl⟩
theorem fl12_ct {A : pm_A} {r : Int} (hA : gH wX A) (hr0 : 0 ≤ r) (hrk : wX.2 r = 21) : Cl pmt (an_sh wX) 1 [(2, r), (0, 0)] A (fl12 A r) := by
  refine Cl.of (Nat.le_of_ble_eq_true rfl) ?_
  have e_z := shX_21 hrk
  have st0 : pm_step (an_sh wX) (pm_call pmt (an_sh wX) 0) (4, 22, 0, 0, 0, 0, []) ([(2, r), (0, 0), (0, 0), (9, 0)], [(2, r)], A) = some (.inl (4, ([(2, r), (0, 0), (0, 0), (9, 0)], [(0, 12)], A))) := by
    simp only [pm_step, k_r]
    rw [k_if_t ⟨hr0, by rw [e_z], by rw [e_z], by rw [e_z]; simp only; omega⟩, e_z]
  refine wq_ok (full := o_J7_fill_53178) srt_fill (fr := []) (cuts := [3]) (J := fun pc st_z => pc = 3 ∧ st_z = ([(2, r), (0, 0), (0, 0), (9, 0)], [(2, r)], A)) ?_ 10 0 _ ?_
  · rintro pc st_z ⟨rfl, rfl⟩
    refine Tm.step srt_fill (q := (3, 4, 22, 0, 0, 0, 0, [])) rfl st0 ?_
    refine wq_ok srt_fill (fr := []) (cuts := [5]) (J := fun pc st_z => pc = 5 ∧ st_z = ([(2, r), (0, 0), (0, 0), (0, 12)], [], A)) ?_ 10 4 _ ?_
    · rintro pc st_z ⟨rfl, rfl⟩
      exact fl12_5 hr0 hrk _ 0 A (Nat.lt_succ_self _) (by omega) (by omega) hA (fun _ _ _ => rfl) (fun j_z j0 j1 => by omega)
    · exact ⟨rfl, rfl⟩
  · exact ⟨rfl, rfl⟩
def rwQ (A : pm_A) (f c n i k : Int) (r : pm_R) : Prop := (r = (some (0, 0), A) ∧ ¬ okR n i k) ∨ (okR n i k ∧ r.1 = some (0, 1) ∧ r.2 0 f = n ∧ ∀ j_z : Int, 0 ≤ j_z → j_z < 12 → r.2 c j_z = if j_z = i then k else if n = A 0 f then A c j_z else 0)
theorem xrow_53 {A B : pm_A} {n i k : Int} (ho : okR n i k) (hB : gH wX B) (e6 : B 0 6 = 48) (e7 : B 0 7 = n) (h : ∀ j_z : Int, 0 ≤ j_z → j_z < 12 → B 48 j_z = if n = A 0 7 then A 48 j_z else 0) : Tm pmt (an_sh wX) o_X9_row 53 ([(2, 0), (0, n), (0, i), (0, k)], [], B) (rwQ A 7 48 n i k) := by
  have ho2 := ho
  unfold okR at ho2
  refine wq_ok srt_Xrow (fr := []) (cuts := []) (J := fun _ _ => False) (fun _ _ h_z => h_z.elim) 12 53 _ ?_
  refine ⟨oX_0 (by omega) kk0 6 rfl, ?_⟩
  refine ⟨tX_21 (by rw [e6]; omega) (by rw [e6]; exact kk48) (by omega) (by omega) rfl, ?_⟩
  refine ⟨rfl, Or.inr ⟨ho, rfl, ?_, fun j_z j0 j1 => ?_⟩⟩
  · show pm_upd B (B 0 6) i k 0 7 = n
    rw [e6, upd_o (by omega)]; exact e7
  · show pm_upd B (B 0 6) i k 48 j_z = _
    rw [e6]
    by_cases e_z : j_z = i
    · rw [if_pos e_z, e_z, upd_at]
    · rw [if_neg e_z, upd_n2 e_z]; exact h j_z j0 j1
theorem xrow_ex {A : pm_A} {n i k : Int} (hA : gH wX A) (e6 : A 0 6 = 48) : Cl pmt (an_sh wX) 105 [(2, 0), (0, n), (0, i), (0, k)] A (rwQ A 7 48 n i k) := by
  refine Cl.of (Nat.le_of_ble_eq_true rfl) ?_
  refine wq_ok (full := o_X9_row) srt_Xrow (fr := []) (cuts := [53]) (J := fun pc st_z => pc = 53 ∧ okR n i k ∧ ∃ B_z, (gH wX B_z ∧ B_z 0 6 = 48 ∧ B_z 0 7 = n) ∧ (∀ j_z : Int, 0 ≤ j_z → j_z < 12 → B_z 48 j_z = if n = A 0 7 then A 48 j_z else 0) ∧ st_z = ([(2, 0), (0, n), (0, i), (0, k)], [], B_z)) ?_ 40 0 _ ?_
  · rintro pc st_z ⟨rfl, ho, B_z, ⟨hB_z, b6, b7⟩, hb_z, rfl⟩
    exact xrow_53 ho hB_z b6 b7 hb_z
  have no_z : ¬ okR n i k → rwQ A 7 48 n i k (some (0, 0), A) := fun h_z => Or.inl ⟨rfl, h_z⟩
  refine ⟨fun h0 => ?_, fun h0 => ?_⟩
  · exact ⟨rfl, no_z (by unfold okR; omega)⟩
  refine ⟨fun h1 => ?_, fun h1 => ?_⟩
  · exact ⟨rfl, no_z (by unfold okR; omega)⟩
  refine ⟨fun h2 => ?_, fun h2 => ?_⟩
  · exact ⟨rfl, no_z (by unfold okR; omega)⟩
  refine ⟨fun h3 => ?_, fun h3 => ?_⟩
  · exact ⟨rfl, no_z (by unfold okR; omega)⟩
  refine ⟨fun h4 => ?_, fun h4 => ?_⟩
  · exact ⟨rfl, no_z (by unfold okR; omega)⟩
  refine ⟨fun h5 => ?_, fun h5 => ?_⟩
  · have ho : okR n i k := ⟨⟨by omega, by omega⟩, ⟨by omega, by omega⟩, by omega, by omega⟩
    refine ⟨oX_0 (by omega) kk0 7 rfl, ?_⟩
    refine ⟨fun h6 => ?_, fun h6 => ?_⟩
    · exact ⟨rfl, ho, A, ⟨hA, e6, h6.symm⟩, fun j_z _ _ => by rw [if_pos h6], rfl⟩
    · refine ⟨oX_0 (by omega) kk0 7 rfl, ?_⟩
      refine ⟨oX_0 (by omega) kk0 6 rfl, ?_⟩
      refine ⟨rfl, ?_⟩
      have hB_z : gH wX (pm_upd A 0 7 n) := gH_upd hA (k := (0, 9, 15, [(2, 1, 0), (2, 3, 0), (2, 4, 0), (2, 19, 0), (0, 0, 100), (2, 20, 0), (2, 21, 0), (0, 0, 12), (2, 1, 0), (2, 5, 0), (0, (-2147483648), 2147483647), (2, 6, 0), (2, 7, 0), (2, 34, 0), (2, 8, 0)])) (by rw [kk0]; rfl) (fun _ j_z a_z ha_z ej => by
        have : j_z = 7 := by omega
        subst this
        cases ha_z
        exact ⟨rfl, by simp only; omega, by simp only; omega⟩) (fun q_z => by cases q_z)
      have u6 : pm_upd A 0 7 n 0 6 = 48 := by rw [upd_n2 (by omega)]; exact e6
      rw [u6]
      refine (fl12_ct hB_z (by omega) kk48).imp ?_
      rintro ⟨r1_z, C_z⟩ ⟨g1, g2, g3_z, g4⟩
      simp only at g1 g2 g3_z g4
      subst g1
      exact ⟨rfl, ho, C_z, ⟨g2, by rw [g3_z 0 6 (by omega)]; exact u6, by rw [g3_z 0 7 (by omega), upd_at]⟩, fun j_z j0 j1 => by rw [if_neg h6]; exact g4 j_z j0 j1, rfl⟩
  · exact ⟨rfl, no_z (by unfold okR; omega)⟩
theorem mrow_63 {A B : pm_A} {n i k : Int} {w4 : pm_V} (ho : okR n i k) (hB : gH wM B) (h : ∀ j_z : Int, 0 ≤ j_z → j_z < 12 → B 30 j_z = if n = A 0 46 then A 30 j_z else 0) : Tm pmt (an_sh wM) o_X10_row 63 ([(2, 0), (0, n), (0, i), (0, k), w4], [], B) (rwQ A 46 30 n i k) := by
  have ho2 := ho
  unfold okR at ho2
  have u47 : pm_upd B 0 46 n 0 47 = 30 := by rw [upd_n2 (by omega)]; exact pM_47 hB
  refine wq_ok srt_Mrow2 (fr := []) (cuts := []) (J := fun _ _ => False) (fun _ _ h_z => h_z.elim) 20 63 _ ?_
  refine ⟨oM_0 (by omega) km0 46 rfl, ?_⟩
  refine ⟨oM_0 (by omega) km0 47 rfl, ?_⟩
  refine ⟨tM_30 (r := pm_upd B 0 46 n 0 47) (by rw [u47]; omega) (by rw [u47]; exact kn30) (by omega) (by omega) rfl, ?_⟩
  refine ⟨rfl, Or.inr ⟨ho, rfl, ?_, fun j_z j0 j1 => ?_⟩⟩
  · show pm_upd (pm_upd B 0 46 n) (pm_upd B 0 46 n 0 47) i k 0 46 = n
    rw [u47, upd_o (by omega), upd_at]
  · show pm_upd (pm_upd B 0 46 n) (pm_upd B 0 46 n 0 47) i k 30 j_z = _
    rw [u47]
    by_cases e_z : j_z = i
    · rw [if_pos e_z, e_z, upd_at]
    · rw [if_neg e_z, upd_n2 e_z, upd_o (by omega)]; exact h j_z j0 j1
theorem mrow_42 {A : pm_A} {n i k : Int} (ho : okR n i k) (hn : ¬ n = A 0 46) : ∀ (m_z : Nat) (j_z : Int) (B_z : pm_A), (12 - j_z).toNat < m_z → 0 ≤ j_z → j_z ≤ 12 → gH wM B_z → (∀ u_z : Int, 0 ≤ u_z → u_z < j_z → B_z 30 u_z = 0) → Tm pmt (an_sh wM) o_X10_row 42 ([(2, 0), (0, n), (0, i), (0, k), (0, j_z)], [], B_z) (rwQ A 46 30 n i k) := by
  intro m_z
  induction m_z with
  | zero => intro j_z B_z h_z; omega
  | succ m_z ih_z =>
    intro j_z B_z hm_z j0 j1 hB_z hz
    have c47_z := pM_47 hB_z
    refine wq_ok srt_Mrow2 (fr := []) (cuts := [42, 63]) (J := fun pc st_z => (pc = 63 ∧ 12 ≤ j_z ∧ st_z = ([(2, 0), (0, n), (0, i), (0, k), (0, j_z)], [], B_z)) ∨ (pc = 42 ∧ j_z < 12 ∧ st_z = ([(2, 0), (0, n), (0, i), (0, k), (0, j_z + 1)], [], pm_upd B_z (B_z 0 47) j_z 0))) ?_ 20 42 _ ?_
    · rintro pc st_z (⟨rfl, h_z, rfl⟩ | ⟨rfl, h_z, rfl⟩)
      · exact mrow_63 ho hB_z (fun u_z u0_z u1_z => by rw [if_neg hn]; exact hz u_z u0_z (by omega))
      · rw [c47_z]
        refine ih_z (j_z + 1) _ (by omega) (by omega) (by omega) (uM_30 hB_z kn30 (by omega) (by omega)) (fun u_z u0_z u1_z => ?_)
        by_cases e_z : u_z = j_z
        · rw [e_z, upd_at]
        · rw [upd_n2 e_z]; exact hz u_z u0_z (by omega)
    · refine ⟨fun h_z => ?_, fun h_z => ?_⟩
      · exact Or.inl ⟨rfl, h_z, rfl⟩
      · refine ⟨oM_0 (by omega) km0 47 rfl, ?_⟩
        refine ⟨tM_30 (r := B_z 0 47) (by rw [c47_z]; omega) (by rw [c47_z]; exact kn30) (by omega) (by omega) rfl, ?_⟩
        refine ⟨⟨by omega, by omega⟩, ?_⟩
        exact Or.inr ⟨rfl, h_z, rfl⟩
theorem mrow_ex {A : pm_A} {n i k : Int} (hA : gH wM A) : Cl pmt (an_sh wM) 179 [(2, 0), (0, n), (0, i), (0, k)] A (rwQ A 46 30 n i k) := by
  refine Cl.of (Nat.le_of_ble_eq_true rfl) ?_
  refine wq_ok (full := o_X10_row) srt_Mrow2 (fr := []) (cuts := [42, 63]) (J := fun pc st_z => okR n i k ∧ ((pc = 63 ∧ n = A 0 46 ∧ st_z = ([(2, 0), (0, n), (0, i), (0, k), (9, 0)], [], A)) ∨ (pc = 42 ∧ (¬ n = A 0 46) ∧ st_z = ([(2, 0), (0, n), (0, i), (0, k), (0, 0)], [], A)))) ?_ 40 0 _ ?_
  · rintro pc st_z ⟨ho, (⟨rfl, h_z, rfl⟩ | ⟨rfl, h_z, rfl⟩)⟩
    · exact mrow_63 ho hA (fun j_z _ _ => by rw [if_pos h_z])
    · exact mrow_42 ho h_z _ 0 A (Nat.lt_succ_self _) (by omega) (by omega) hA (fun u_z u0_z u1_z => by omega)
  have no_z : ¬ okR n i k → rwQ A 46 30 n i k (some (0, 0), A) := fun h_z => Or.inl ⟨rfl, h_z⟩
  refine ⟨fun h0 => ?_, fun h0 => ?_⟩
  · exact ⟨rfl, no_z (by unfold okR; omega)⟩
  refine ⟨fun h1 => ?_, fun h1 => ?_⟩
  · exact ⟨rfl, no_z (by unfold okR; omega)⟩
  refine ⟨fun h2 => ?_, fun h2 => ?_⟩
  · exact ⟨rfl, no_z (by unfold okR; omega)⟩
  refine ⟨fun h3 => ?_, fun h3 => ?_⟩
  · exact ⟨rfl, no_z (by unfold okR; omega)⟩
  refine ⟨fun h4 => ?_, fun h4 => ?_⟩
  · exact ⟨rfl, no_z (by unfold okR; omega)⟩
  refine ⟨fun h5 => ?_, fun h5 => ?_⟩
  · have ho : okR n i k := ⟨⟨by omega, by omega⟩, ⟨by omega, by omega⟩, by omega, by omega⟩
    refine ⟨oM_0 (by omega) km0 46 rfl, ?_⟩
    refine ⟨fun h6 => ?_, fun h6 => ?_⟩
    · exact ⟨ho, Or.inl ⟨rfl, h6, rfl⟩⟩
    · exact ⟨ho, Or.inr ⟨rfl, h6, rfl⟩⟩
  · exact ⟨rfl, no_z (by unfold okR; omega)⟩
def RW (AX AM : pm_A) : Prop := AX 0 6 = 48 ∧ AX 0 7 = AM 0 46 ∧ ∀ j_z : Int, 0 ≤ j_z → j_z < 12 → AX 48 j_z = AM 30 j_z
theorem RW.k {AX BX AM BM : pm_A} {ms mt : List Nat} (h : RW AX AM) (hX : gFk wY ms AX BX) (hM : gFk wM mt AM BM) (a1 : avoid [6, 7, 10021] ms = true) (a2 : avoid [46, 10030] mt = true) : RW BX BM := by
  have x0_z : ∀ j_z : Int, j_z = 6 ∨ j_z = 7 → BX 0 j_z = AX 0 j_z := fun j_z hj => hX 0 j_z (by omega) (by omega) (by
    rw [kc_o (a := 0) kk0 (by decide) (shX_0 kk0)]
    refine avoid_n a1 ?_
    rcases hj with rfl | rfl <;> decide)
  refine ⟨by rw [x0_z 6 (by omega)]; exact h.1, ?_, fun j_z j0 j1 => ?_⟩
  · rw [x0_z 7 (by omega), hM 0 46 (by omega) (by omega) (by rw [kMd 46]; exact avoid_n a2 (by decide))]
    exact h.2.1
  · rw [hX 48 j_z (by omega) j0 (by rw [kc_a kk48 (by decide) (shX_21 kk48)]; exact avoid_n a1 (by decide)), hM 30 j_z (by omega) j0 (by rw [kmA kn30 (by decide +kernel)]; exact avoid_n a2 (by decide))]
    exact h.2.2 j_z j0 j1
theorem rw_row {AX AM : pm_A} {n i k : Int} {q r : pm_R} {ms : List Nat} (h : RW AX AM) (hX : gFk wY ms AX q.2) (a1 : avoid [6] ms = true) (hq : rwQ AX 7 48 n i k q) (hr : rwQ AM 46 30 n i k r) : RW q.2 r.2 := by
  rcases hq with ⟨rfl, n1_z⟩ | ⟨o1, _, q2_z, q3_z⟩
  · rcases hr with ⟨rfl, _⟩ | ⟨o2, _⟩
    · exact h
    · exact absurd o2 n1_z
  · rcases hr with ⟨_, n1_z⟩ | ⟨_, _, r2_z, r3_z⟩
    · exact absurd o1 n1_z
    · refine ⟨?_, by rw [q2_z, r2_z], fun j_z j0 j1 => ?_⟩
      · rw [hX 0 6 (by omega) (by omega) (by rw [kc_o (a := 0) kk0 (by decide) (shX_0 kk0)]; exact avoid_n a1 (by decide))]
        exact h.1
      · rw [q3_z j_z j0 j1, r3_z j_z j0 j1, h.2.1, h.2.2 j_z j0 j1]
theorem rw_first : RW (wA WX) A0M := ⟨by decide +kernel, by decide +kernel, fun j_z j0 j1 => all_int (P := fun x_z => wA WX 48 x_z = A0M 30 x_z) (n := 12) (by decide +kernel) j0 (by omega)⟩
theorem rl_order {s : cx_Sd 12} {ks : List (Fin 12)} {AX AM : pm_A} {q r : pm_R} (h : XRs s ks AX AM) (hw : RW AX AM) (hq : orP s ks AX q) (hr : moP s ks AM (orZ s ks (AM 30) (AM 0 46) (AM 0 7 + AM 0 8) (AM 0 7)) r) : q.1 = r.1 := by
  obtain ⟨_, z_z, e1, hz⟩ := hq
  obtain ⟨_, y_z, e2, hy⟩ := hr
  have h12 := fX_0_7 h.1.1.1 (r := 0) (by omega) kk0
  have eW : bgW AX 1 = AM 0 7 + AM 0 8 := by unfold bgW; rw [h.1.2.2.2.1, h.1.2.2.2.2]
  rw [hw.1, eW, h.1.2.2.2.1] at hz
  rw [← hw.2.1] at hy
  have hzy : z_z = y_z := orZ_one (fun i_z i0_z i1_z => hw.2.2 i_z i0_z (by omega)) (fun i_z i0_z i1_z => by
    have h5 := eX_21 h.1.1.1 (r := 48) (by omega) kk48 i0_z (show i_z < 12 by omega)
    omega) h12.1 hz hy
  rw [e1, e2, hzy]
end

section
-- ===== end of PART A; then your names; then what follows =====
/-! THE CLAIM OUT OF ONE WALK OF THE LAW'S BODY. Your part is whole_start (and what it stands on); all else here is the same for every law, but numbers. -/
def R_law : String := "SeedBenchLaw"
def lw_P (b : Addr) (xs : List Int32) (args : Array Value) (s : State) : Prop := args = #[.ref b] ∧ s.IntsAt b xs ∧ xs.length ≤ 2048 ∧ (Jvm.Cond.and given_1 narrow_1).before args s = true
def lw_Q (_ : Array Value) (s : State) (o : Outcome) (t : State) : Prop := o = .returned (some (.int 1)) ∧ Framed s o t [] 600000 7302250
def lw_Z (below : List Frame) (a : Array Value) (s : State) : State → Prop := fun t => ∃ o, t.status = .running ∧ Ended t below o ∧ lw_Q a s o t
/-- the law's own end, with 1 on the stack, nothing written that was there before, its room as the claim has it -/
theorem lw_ret {p : Program} {l : Launch} {e : Env} {s : State} {m : MethodId} {below : List Frame} {meth : Method} {c : Code} {b : Nat} (hx : p.tables.exec = Jvm.exec) (hb : c.code = code) (hr : meth.sig.returnType = ret) (hlocks : meth.locks = false) {pc : Nat} {H : Heap} {ls : Array Slot} (hdg : decode code pc = .ok (.ireturn, 1)) : W p l e room_1 s m #[Value.ref b] below meth c H [] 600000 7302250 (lw_Z below #[Value.ref b] s) (F0 m pc ls [.int 1]) := by
  intro T hT X
  obtain ⟨fs, hret, hrun, hended, hW, hframe⟩ := X.leave (v := some (.int 1)) (hlocks := hlocks) (fun h => by rw [hr] at h; cases h)
  have hmeth' : T.vm.method? m = some meth := X.method'
  refine ⟨T.setFrames fs, ?_, .returned (some (.int 1)), hrun, hended, rfl, ⟨_, rfl⟩, hW, hframe⟩
  jvm_step X.here [X.here.top, hx, hb, hdg, hmeth', hr, ret, narrow_b1]
  (try refine ⟨rfl, ?_⟩); (try refine ⟨rfl, ?_⟩)
  first | (intro acts; rw [hret _ acts rfl rfl rfl]) | rw [hret _ _ rfl rfl rfl]
  exact Steps.refl _
/-- what holds at the law's entry: the machine, the code, the tables' words (any of lw_tbl by 'hts w (by decide +kernel)'), the script of L ints xs at the cell b, what the Statement gives of the start (any of its parts by flat_of_before) -/
def lw_At (p : Program) (s : State) (m : MethodId) (meth : Method) (c : Code) (b L : Nat) (xs : Nat → Int32) : Prop :=
  p.tables.exec = Jvm.exec ∧ c.code = code ∧ meth.sig.returnType = ret ∧ c.maxLocals = 4 ∧ s.vm.findClass R_law = some m.cls ∧ (∀ w ∈ lw_tbl, w.before #[Value.ref b] s = true) ∧ va_X b L xs s s.heap ∧ b < s.heap.size ∧ meth.locks = false ∧ (Jvm.Cond.and given_1 narrow_1).before #[Value.ref b] s = true
/-! THE LAW'S OWN: array classes, tables, what stays beside a call -/
theorem lw_prim {s : State} {args : Array Value} {ty : FieldType} (h : (Cond.arrayClass ty).before args s = true) (hp : ∀ C, ty ≠ .object C) : ∃ cA : ClassId, ArrOfT s cA ty ∧ va_RA s cA ty := by
  obtain ⟨cA, kA, comp, h1, h2, h3⟩ := Cond.arrayClass_spec h
  refine ⟨cA, fun n z => ⟨fun k h => (by cases h), kA, h2, comp, h3⟩, ?_⟩
  cases ty with
  | object C => exact absurd rfl (hp C)
  | _ => exact h1
theorem lw_refs {s : State} {C : String} (h : va_AO C s) : ∃ cA : ClassId, ArrOfT s cA (.object C) ∧ va_RA s cA (.object C) := by
  obtain ⟨comp, c, k, h1, h2, h3, h4, h5⟩ := Cond.arrayOver_spec h
  exact ⟨c, fun n z => ⟨fun k h => (by cases h), k, h3, comp, h4⟩, k, comp, h3, h4, h1, h5⟩
theorem lw_tables {s : State} {b : Nat} (hts : ∀ w ∈ lw_tbl, w.before #[Value.ref b] s = true) : ∃ (D : va_G) (cy : Nat → ClassId), rx_K D vwCl (tyl cy) nwl ocl s := by
  have hg : ∀ w ∈ gT, w.before #[Value.ref b] s = true := fun w hw => hts w (List.mem_filter.mp hw).1
  have ht : ∀ w ∈ tables_1, w.before #[Value.ref b] s = true := fun w hw => hts w (List.mem_append_right _ hw)
  have hC : ∀ k : Nat, ∃ (cC : ClassId) (iS : Nat → Nat), ∀ q : vw_C, vwCl[k]? = some q → u_Kn s q.1 q.2.1 q.2.2 cC iS := by
    intro k
    match k with
    | 0 =>
      obtain ⟨cC, iS, h⟩ := u_known (C := RX0) (T := TX0) (N := 18) (n := 18) hg in_X0 (hg (.instantiable "SeedBench$Atlas" 18) (gm_1 (List.mem_of_getElem? (i := 154) rfl) rfl))
      exact ⟨cC, iS, fun q hq => by cases hq; exact h⟩
    | 1 =>
      obtain ⟨cC, iS, h⟩ := u_known (C := RX1) (T := TX1) (N := 6) (n := 6) hg in_X1 (hg (.instantiable "SeedBench$Book" 6) (gm_1 (List.mem_of_getElem? (i := 220) rfl) rfl))
      exact ⟨cC, iS, fun q hq => by cases hq; exact h⟩
    | 2 =>
      obtain ⟨cC, iS, h⟩ := u_known (C := RX2) (T := TX2) (N := 5) (n := 5) hg in_X2 (hg (.instantiable "SeedBench$Draft" 5) (gm_1 (List.mem_of_getElem? (i := 96) rfl) rfl))
      exact ⟨cC, iS, fun q hq => by cases hq; exact h⟩
    | 3 =>
      obtain ⟨cC, iS, h⟩ := u_known (C := RX3) (T := TX3) (N := 3) (n := 3) hg in_X3 (hg (.instantiable "SeedBench$Guide" 3) (gm_2 (List.mem_of_getElem? (i := 43) rfl) rfl))
      exact ⟨cC, iS, fun q hq => by cases hq; exact h⟩
    | 4 =>
      obtain ⟨cC, iS, h⟩ := u_known (C := RX4) (T := TX4) (N := 6) (n := 6) hg in_X4 (hg (.instantiable "SeedBench$Kinds" 6) (gm_2 (List.mem_of_getElem? (i := 13) rfl) rfl))
      exact ⟨cC, iS, fun q hq => by cases hq; exact h⟩
    | 5 =>
      obtain ⟨cC, iS, h⟩ := u_known (C := RX5) (T := TX5) (N := 7) (n := 7) hg in_X5 (hg (.instantiable "SeedBench$Mill" 7) (gm_1 (List.mem_of_getElem? (i := 122) rfl) rfl))
      exact ⟨cC, iS, fun q hq => by cases hq; exact h⟩
    | 6 =>
      obtain ⟨cC, iS, h⟩ := u_known (C := RX6) (T := TX6) (N := 2) (n := 2) hg in_X6 (hg (.instantiable "SeedBench$Ring" 2) (gm_2 (List.mem_of_getElem? (i := 49) rfl) rfl))
      exact ⟨cC, iS, fun q hq => by cases hq; exact h⟩
    | 7 =>
      obtain ⟨cC, iS, h⟩ := u_known (C := RX7) (T := TX7) (N := 6) (n := 6) hg in_X7 (hg (.instantiable "SeedBench$Seed" 6) (gm_1 (List.mem_of_getElem? (i := 26) rfl) rfl))
      exact ⟨cC, iS, fun q hq => by cases hq; exact h⟩
    | 8 =>
      obtain ⟨cC, iS, h⟩ := u_known (C := RX8) (T := TX8) (N := 4) (n := 4) hg in_X8 (hg (.instantiable "SeedBench$Share" 4) (gm_1 (List.mem_of_getElem? (i := 33) rfl) rfl))
      exact ⟨cC, iS, fun q hq => by cases hq; exact h⟩
    | 9 =>
      obtain ⟨cC, iS, h⟩ := u_known (C := RX9) (T := TX9) (N := 15) (n := 15) hg in_X9 (hg (.instantiable "SeedBench" 15) (gm_1 (List.mem_of_getElem? (i := 18) rfl) rfl))
      exact ⟨cC, iS, fun q hq => by cases hq; exact h⟩
    | 10 =>
      obtain ⟨cC, iS, h⟩ := u_known (C := RX10) (T := TX10) (N := 58) (n := 58) hg in_X10 (hg (.instantiable "SeedBenchModel" 58) (gm_4 (List.mem_of_getElem? (i := 132) rfl) rfl))
      exact ⟨cC, iS, fun q hq => by cases hq; exact h⟩
    | k + 11 => exact ⟨0, fun _ => 0, fun q hq => by cases hq⟩
  obtain ⟨c0, a0⟩ := lw_prim (ty := .int) (hg _ (gm_1 (List.mem_of_getElem? (i := 61) rfl) rfl)) (fun C h => by cases h)
  obtain ⟨c1, a1⟩ := lw_prim (ty := .long) (hg _ (gm_1 (List.mem_of_getElem? (i := 62) rfl) rfl)) (fun C h => by cases h)
  obtain ⟨c2, a2⟩ := lw_prim (ty := .boolean) (hg _ (gm_1 (List.mem_of_getElem? (i := 218) rfl) rfl)) (fun C h => by cases h)
  have o3 : va_AO "SeedBench$Ring" s := va_AO.of (ht _ (List.mem_append_right _ (List.mem_append_left _ (List.mem_of_getElem? (i := 41) rfl))))
  have o4 : va_AO "SeedBench$Seed" s := va_AO.of (ht _ (List.mem_append_left _ (List.mem_of_getElem? (i := 152) rfl)))
  have o5 : va_AO "SeedBench$Share" s := va_AO.of (ht _ (List.mem_append_left _ (List.mem_of_getElem? (i := 32) rfl)))
  obtain ⟨c3, a3⟩ := lw_refs o3
  obtain ⟨c4, a4⟩ := lw_refs o4
  obtain ⟨c5, a5⟩ := lw_refs o5
  refine ⟨(fun k => Classical.choose (hC k), fun k => Classical.choose (Classical.choose_spec (hC k))), fun t => match t with
    | 0 => c0
    | 1 => c1
    | 2 => c2
    | 3 => c3
    | 4 => c4
    | _ => c5, ⟨fun k q hq => Classical.choose_spec (Classical.choose_spec (hC k)) q hq, ?_⟩, ?_, ?_⟩
  · intro k q hq
    match k, hq with
    | 0, hq => cases hq; exact a0
    | 1, hq => cases hq; exact a1
    | 2, hq => cases hq; exact a2
    | 3, hq => cases hq; exact a3
    | 4, hq => cases hq; exact a4
    | 5, hq => cases hq; exact a5
    | k + 6, hq => cases hq
  · refine fun w hw => ?_
    have key : ∀ w ∈ nwl, va_Nw (Cond.methodLinkNest w.1 w.2.1 w.2.2.1 w.2.2.2) s := by
      unfold nwl
      refine List.forall_mem_cons.mpr ⟨va_Nw.of rfl (ht (.methodLinkNest "SeedBench$Seed" 28 ⟨"SeedBench$Share", "<init>", "()V"⟩ "SeedBench") (List.mem_append_left _ (List.mem_of_getElem? (i := 34) rfl))), ?_⟩
      refine List.forall_mem_cons.mpr ⟨va_Nw.of rfl (ht (.methodLinkNest "SeedBench" 18 ⟨"SeedBench$Draft", "<init>", "()V"⟩ "SeedBench") (List.mem_append_left _ (List.mem_of_getElem? (i := 97) rfl))), ?_⟩
      refine List.forall_mem_cons.mpr ⟨va_Nw.of rfl (ht (.methodLinkNest "SeedBench" 25 ⟨"SeedBench$Mill", "<init>", "()V"⟩ "SeedBench") (List.mem_append_left _ (List.mem_of_getElem? (i := 123) rfl))), ?_⟩
      refine List.forall_mem_cons.mpr ⟨va_Nw.of rfl (ht (.methodLinkNest "SeedBench$Mill" 11 ⟨"SeedBench$Share", "<init>", "()V"⟩ "SeedBench") (List.mem_append_left _ (List.mem_of_getElem? (i := 128) rfl))), ?_⟩
      refine List.forall_mem_cons.mpr ⟨va_Nw.of rfl (ht (.methodLinkNest "SeedBench$Atlas" 61 ⟨"SeedBench$Share", "<init>", "()V"⟩ "SeedBench") (List.mem_append_left _ (List.mem_of_getElem? (i := 162) rfl))), ?_⟩
      refine List.forall_mem_cons.mpr ⟨va_Nw.of rfl (ht (.methodLinkNest "SeedBench" 53 ⟨"SeedBench$Book", "<init>", "()V"⟩ "SeedBench") (List.mem_append_left _ (List.mem_of_getElem? (i := 221) rfl))), ?_⟩
      refine List.forall_mem_cons.mpr ⟨va_Nw.of rfl (ht (.methodLinkNest "SeedBench" 60 ⟨"SeedBench$Kinds", "<init>", "()V"⟩ "SeedBench") (List.mem_append_right _ (List.mem_append_left _ (List.mem_of_getElem? (i := 14) rfl)))), ?_⟩
      refine List.forall_mem_cons.mpr ⟨va_Nw.of rfl (ht (.methodLinkNest "SeedBench" 73 ⟨"SeedBench$Guide", "<init>", "()V"⟩ "SeedBench") (List.mem_append_right _ (List.mem_append_left _ (List.mem_of_getElem? (i := 44) rfl)))), ?_⟩
      refine List.forall_mem_cons.mpr ⟨va_Nw.of rfl (ht (.methodLinkNest "SeedBench$Guide" 17 ⟨"SeedBench$Ring", "<init>", "()V"⟩ "SeedBench") (List.mem_append_right _ (List.mem_append_left _ (List.mem_of_getElem? (i := 50) rfl)))), ?_⟩
      refine List.forall_mem_cons.mpr ⟨va_Nw.of rfl (ht (.methodLinkNest "SeedBench" 90 ⟨"SeedBench$Ring", "<init>", "()V"⟩ "SeedBench") (List.mem_append_right _ (List.mem_append_left _ (List.mem_of_getElem? (i := 92) rfl)))), ?_⟩
      refine List.forall_mem_cons.mpr ⟨va_Nw.of rfl (ht (.methodLinkNest "SeedBench$Mill" 49 ⟨"SeedBench", "isTableTurnable", "([IIII)Z"⟩ "SeedBench") (List.mem_append_right _ (List.mem_append_left _ (List.mem_of_getElem? (i := 209) rfl)))), ?_⟩
      refine List.forall_mem_cons.mpr ⟨va_Nw.of rfl (ht (.methodLinkNest "SeedBench$Mill" 68 ⟨"SeedBench", "turnTable", "([IIII)V"⟩ "SeedBench") (List.mem_append_right _ (List.mem_append_right _ (List.mem_append_left _ (List.mem_of_getElem? (i := 23) rfl))))), ?_⟩
      refine List.forall_mem_cons.mpr ⟨va_Nw.of rfl (ht (.methodLinkNest "SeedBench$Atlas" 88 ⟨"SeedBench", "turnTable", "([IIII)V"⟩ "SeedBench") (List.mem_append_right _ (List.mem_append_right _ (List.mem_append_left _ (List.mem_of_getElem? (i := 129) rfl))))), ?_⟩
      refine List.forall_mem_cons.mpr ⟨va_Nw.of rfl (ht (.methodLinkNest "SeedBench$Kinds" 62 ⟨"SeedBench", "turnTable", "([IIII)V"⟩ "SeedBench") (List.mem_append_right _ (List.mem_append_right _ (List.mem_append_left _ (List.mem_of_getElem? (i := 198) rfl))))), ?_⟩
      exact fun _ h => absurd h List.not_mem_nil
    exact key w hw
  · intro C hC
    unfold ocl at hC
    simp only [List.mem_cons, List.not_mem_nil, or_false] at hC
    rcases hC with rfl | rfl | rfl
    · exact o3
    · exact o4
    · exact o5
theorem lw_apart {A : Nat → Prop} {cX cM : va_W} (hD : va_D A (cX ++ cM)) {i j : Nat} {x y : Nat × va_E} (hx : cX[i]? = some x) (hy : cM[j]? = some y) : x.1 ≠ y.1 := by
  intro h
  have hi : i < cX.length := (List.getElem?_eq_some_iff.mp hx).1
  have := hD.1 i (cX.length + j) x y (by rw [List.getElem?_append_left hi]; exact hx) (by rw [List.getElem?_append_right (by omega), Nat.add_sub_cancel_left]; exact hy) h
  omega
theorem lw_left {D : va_G} {cl : List vw_C} {cX cM : va_W} {H : Heap} (hP : va_P D cl (cX ++ cM) H) : va_P D cl cX H := fun k q hq => hP k q (by rw [List.getElem?_append_left (List.getElem?_eq_some_iff.mp hq).1]; exact hq)
theorem lw_right {D : va_G} {cl : List vw_C} {cX cM : va_W} {H : Heap} (hP : va_P D cl (cX ++ cM) H) : va_P D cl cM H := fun k q hq => hP (cX.length + k) q (by rw [List.getElem?_append_right (by omega), Nat.add_sub_cancel_left]; exact hq)
theorem lw_leftD {A : Nat → Prop} {cX cM : va_W} (hD : va_D A (cX ++ cM)) : va_D A cX :=
  ⟨fun i j p q hi hj h => hD.1 i j p q (by rw [List.getElem?_append_left (List.getElem?_eq_some_iff.mp hi).1]; exact hi) (by rw [List.getElem?_append_left (List.getElem?_eq_some_iff.mp hj).1]; exact hj) h, fun k q hk => hD.2 k q (by rw [List.getElem?_append_left (List.getElem?_eq_some_iff.mp hk).1]; exact hk)⟩
theorem lw_rightD {A : Nat → Prop} {cX cM : va_W} (hD : va_D A (cX ++ cM)) : va_D A cM :=
  ⟨fun i j p q hi hj h => by
    have := hD.1 (cX.length + i) (cX.length + j) p q (by rw [List.getElem?_append_right (by omega), Nat.add_sub_cancel_left]; exact hi) (by rw [List.getElem?_append_right (by omega), Nat.add_sub_cancel_left]; exact hj) h
    omega, fun k q hk => hD.2 (cX.length + k) q (by rw [List.getElem?_append_right (by omega), Nat.add_sub_cancel_left]; exact hk)⟩
/-- a call on the cells of the right leaves those of the left -/
theorem lw_join {A : Nat → Prop} {D : va_G} {cl : List vw_C} {cX cM cM' : va_W} {H H1 : Heap} (hP : va_P D cl (cX ++ cM) H) (hD : va_D A (cX ++ cM)) (hk : ∀ q : Nat, q < H.size → ¬ va_A cM H.size q → H1[q]? = H[q]?) (hF : ∀ q, va_A cM H.size q → A q) (hP1 : va_P D cl cM' H1) (hD1 : va_D (va_A cM H.size) cM') : va_P D cl (cX ++ cM') H1 ∧ va_D A (cX ++ cM') := by
  have hPx := lw_left hP
  have apart : ∀ (k : Nat) (q : Nat × va_E), cX[k]? = some q → q.1 < H.size ∧ ¬ va_A cM H.size q.1 := by
    intro k q hq
    have hl := (hPx k q hq).lt
    refine ⟨hl, fun h => ?_⟩
    rcases h with ⟨k2, e, h⟩ | h
    · exact lw_apart hD hq h rfl
    · omega
  refine ⟨va_P.app (fun k q hq => ?_) hP1, va_D.app (lw_leftD hD) (hD1.weaken (fun k q _ h => hF q.1 h)) (fun i j x y hx hy hxy => ?_)⟩
  · obtain ⟨g1, g2⟩ := apart k q hq
    exact (hPx k q hq).kept (hk q.1 g1 g2)
  · exact (apart i x hx).2 (by rw [hxy]; exact hD1.2 j y hy)
/-- a call on the cells of the left leaves those of the right -/
theorem lw_keep {A : Nat → Prop} {D : va_G} {cl : List vw_C} {cX cM : va_W} {H H1 : Heap} (hP : va_P D cl (cX ++ cM) H) (hD : va_D A (cX ++ cM)) (hk : ∀ q : Nat, q < H.size → ¬ va_A cX H.size q → H1[q]? = H[q]?) : va_P D cl cM H1 := by
  have hPm := lw_right hP
  intro k q hq
  have hl := (hPm k q hq).lt
  refine (hPm k q hq).kept (hk q.1 hl (fun h => ?_))
  rcases h with ⟨k2, e, h⟩ | h
  · exact lw_apart hD h hq rfl
  · omega
theorem lw_behind {G : rx_G} {p : Program} {l : Launch} {e : Env} {R : Room} {s : State} {m : MethodId} {args : Array Value} {below : List Frame} {meth : Method} {c : Code} {H : Heap} {locs : List Loc} {cells slots : Nat} {Q : State → Prop} {pc : Nat} {ls : Array Slot} {rest st0 : List Value} {a : Array Value} {A0 A1 : Nat → Prop} {H0 : Heap} {mc ms : Nat} {free : Addr → Prop} {ρ : List Nat} {r : rx_R}
    (hr : va_Run p l e R s m args below meth c H locs cells slots mc ms (F0 m pc ls st0) rest (rx_Q G ρ r A1 a) free) (hS : va_S A0 H0 H locs) (hA : ∀ q, q < H.size → A1 q → A0 q) (hf : ∀ q, free q → A0 q)
    (kk : ∀ (v : Option Value) (tl : List Nat) (cws : va_W) (H1 : Heap) (locs1 : List Loc), rx_o (ρ ++ tl) G.sg r.1 v → rx_w (ρ ++ tl) G.sg G.cy r.2 cws → va_P G.D G.cl cws H1 → va_D A1 cws → (∀ q : Nat, q < H.size → ¬ A1 q → H1[q]? = H[q]?) → va_S A0 H0 H1 locs1 → W p l e R s m args below meth c H1 locs1 (cells + mc) (slots + ms) Q (F0 m (pc + 3) ls (v.toList ++ rest))) : W p l e R s m args below meth c H locs cells slots Q (F0 m pc ls st0) := by
  intro T hT X
  obtain ⟨v, st₀, t, T', L, h0, X', hL, e1, e2, ⟨⟨v', tl, cws, hv, hp, hb, hP, hD⟩, hz, hk⟩, st⟩ := hr T hT X
  cases hv
  rw [h0] at hz hk
  obtain ⟨t2, a1, b1⟩ := kk v tl cws T'.heap (locs ++ L) hp hb (by rw [e1]; exact hP) hD (fun q h1 h2 => by rw [e1]; exact hk q h1 h2)
    ⟨Nat.le_trans hS.1 (by rw [e1]; exact hz), fun q h1 h2 => by rw [e1, hk q (Nat.lt_of_lt_of_le h1 hS.1) (fun z => h2 (hA q (Nat.lt_of_lt_of_le h1 hS.1) z))]; exact hS.2.1 q h1 h2, fun q hq => by
      rcases List.mem_append.mp hq with h | h
      · exact hS.2.2 q h
      · exact hf _ (hL q h)⟩ T' rfl X'
  exact ⟨t2, st t2 a1, b1⟩
/-- the law, as a method of its own -/
abbrev lwM (nm : String) : rx_M := (⟨"SeedBenchLaw", nm, "([I)Z"⟩, code, 4, ret, room_1, [])
abbrev lwσ : Nat → Int32 := fun _ => 0
abbrev lA (s : State) : Nat → Prop := fun q => s.heap.size ≤ q
theorem lw_X {p : Program} {l : Launch} {s : State} {m : MethodId} {meth : Method} {c : Code} {b L : Nat} {xs : Nat → Int32} {D : va_G} {cy : Nat → ClassId} (C0 : lw_At p s m meth c b L xs) (hK : rx_K D vwCl (tyl cy) nwl ocl s) : rx_X (gG l D cy lwσ) (lwM meth.name) p s m #[Value.ref b] meth c (lA s) := by
  obtain ⟨hx, hb, hr, hml, hown, hts, hX, hbl, hlocks, hgv⟩ := C0
  exact ⟨hx, hb, hml, hr, hown, fun w hw => hts w (List.mem_filter.mp hw).1, hlocks, rfl, hK, fun _ h => h⟩
theorem lw_oI {ρ : List Nat} {σ : Nat → Int32} {x : Int32} {v : Option Value} (h : rx_o ρ σ (some (.int x)) v) : v = some (.int x) := by
  cases v with
  | none => exact h.elim
  | some w => exact congrArg some h
theorem lw_oL {ρ : List Nat} {σ : Nat → Int32} {x : Int64} {v : Option Value} (h : rx_o ρ σ (some (.long x)) v) : v = some (.long x) := by
  cases v with
  | none => exact h.elim
  | some w => exact congrArg some h
theorem lw_oN {ρ : List Nat} {σ : Nat → Int32} {v : Option Value} (h : rx_o ρ σ none v) : v = none := by
  cases v with
  | none => rfl
  | some w => exact h.elim
theorem lw_lo (k : Int32) : (-2147483648 : Int) ≤ k.toInt := by have := Int32.le_toInt k; omega
theorem lw_hi (k : Int32) : k.toInt ≤ 2147483647 := by have := Int32.toInt_lt k; omega
theorem lw_cmp0 (x : Int64) : lg_cmp x x = 0 := by
  unfold lg_cmp
  have : ¬ x > x := fun h => absurd h (Int64.lt_irrefl)
  simp [this]
theorem lw_joinL {A : Nat → Prop} {D : va_G} {cl : List vw_C} {cX cX' cM : va_W} {H H1 : Heap} (hP : va_P D cl (cX ++ cM) H) (hD : va_D A (cX ++ cM)) (hk : ∀ q : Nat, q < H.size → ¬ va_A cX H.size q → H1[q]? = H[q]?) (hF : ∀ q, va_A cX H.size q → A q) (hP1 : va_P D cl cX' H1) (hD1 : va_D (va_A cX H.size) cX') : va_P D cl (cX' ++ cM) H1 ∧ va_D A (cX' ++ cM) := by
  have hPm := lw_right hP
  have apart : ∀ (k : Nat) (q : Nat × va_E), cM[k]? = some q → q.1 < H.size ∧ ¬ va_A cX H.size q.1 := by
    intro k q hq
    have hl := (hPm k q hq).lt
    refine ⟨hl, fun h => ?_⟩
    rcases h with ⟨k2, e, h⟩ | h
    · exact lw_apart hD h hq rfl
    · omega
  refine ⟨va_P.app hP1 (fun k q hq => ?_), va_D.app (hD1.weaken (fun k q _ h => hF q.1 h)) (lw_rightD hD) (fun i j x y hx hy hxy => ?_)⟩
  · obtain ⟨g1, g2⟩ := apart k q hq
    exact (hPm k q hq).kept (hk q.1 g1 g2)
  · exact (apart j y hy).2 (by rw [← hxy]; exact hD1.2 i x hx)
theorem lw_in {A : Nat → Prop} {H0 : Heap} {cws : va_W} {H : Heap} {locs : List Loc} (hD : va_D (fun q => H0.size ≤ q) cws) (hS : va_S A H0 H locs) : ∀ q, va_A cws H.size q → H0.size ≤ q := by
  intro q hq
  rcases hq with ⟨k, e, hk⟩ | hq
  · exact hD.2 k (q, e) hk
  · exact Nat.le_trans hS.1 hq
theorem lw_recv {ρ : List Nat} {σ : Nat → Int32} {cy : Nat → ClassId} {W0 : rx_W} {cws : va_W} {b ci : Nat} {fs : List Value} {C : vw_C} {D : va_G} {cl : List vw_C} {TY : List (ClassId × FieldType)} {s : State} {H : Heap} {As : List Value} (hw : rx_w ρ σ cy W0 cws) (hb : ρ[0]? = some b) (h0 : W0[0]? = some (.inl (ci, fs))) (hK : va_K D cl TY s) (hP : va_P D cl cws H) (hc : cl[ci]? = some C) : ∃ (b' : Nat) (As' : List Value) (C' : vw_C) (cell : Cell), (Value.ref b :: As) = .ref b' :: As' ∧ cl[ci]? = some C' ∧ H[b']? = some cell ∧ cell.vm.isStatics = false ∧ s.vm.findClass C'.1 = some cell.cls := by
  obtain ⟨ce, f1, cfs, f2, f3⟩ := hw.at h0 hb
  subst f2
  obtain ⟨cell, q1, q2, q3⟩ := va_recv hK hP hc f1
  exact ⟨b, As, C, cell, rfl, hc, q1, q2, q3⟩
/-- what a call of the plain machine says of the real one -/
theorem lw_met {l : Launch} {D : va_G} {cy : Nat → ClassId} {w : an_W} {n mid : Nat} {a : List pm_V} {A : pm_A} {r : pm_R} (hc : pm_call pmt (an_sh w) n mid a A = some r) {ws : rx_W} {va : List Value} (hw : pw (an_sh w) A ws) (ha : pl a va) : ∃ r' : rx_R, po r.1 r'.1 ∧ pw (an_sh w) r.2 r'.2 ∧ ∀ (ρ : List Nat) (cws : va_W) (sz : Nat) (ca : List Value), rx_w ρ lwσ cy ws cws → rx_l ρ lwσ va ca → Met l (mt mid).1 (rx_ws (gG l D cy lwσ) (mt mid)) (mt mid).2.2.2.2.1 (rx_Pc (gG l D cy lwσ) ca cws sz) (rx_Q (gG l D cy lwσ) ρ r' (va_A cws sz)) (mt mid).2.2.2.2.1.cells (mt mid).2.2.2.2.1.slots (va_A cws sz) := by
  obtain ⟨r', h1, h2, h3⟩ := sim_all pmt_fit n mid a A r hc va ws ha hw
  exact ⟨r', h2, h3, fun ρ cws sz ca hwc hac => (rx_sound mt_all n).1 mid va ws r' h1 ρ cws sz ca hwc hac⟩
def lwZ (mid : Nat) : Prop := (mt mid).2.2.2.2.1.cells = 0 ∧ (mt mid).2.2.2.2.1.slots = 0
/-- both objects stand on the heap, as the plain worlds say -/
def lwJ (AX AM : pm_A) (D : va_G) (cy : Nat → ClassId) (s : State) (qx qm : Nat) (H : Heap) (locs : List Loc) : Prop := ∃ (ρx ρm : List Nat) (cX cM : va_W) (wsX wsM : rx_W), rx_w ρx lwσ cy wsX cX ∧ pw (an_sh wX) AX wsX ∧ rx_w ρm lwσ cy wsM cM ∧ pw (an_sh wM) AM wsM ∧ ρx[0]? = some qx ∧ ρm[0]? = some qm ∧ va_P D vwCl (cX ++ cM) H ∧ va_D (lA s) (cX ++ cM) ∧ va_S (lA s) s.heap H locs
theorem pl_ints : ∀ is : List Int32, pl (is.map (fun i => ((0, i.toInt) : pm_V))) (is.map Value.int)
  | [] => trivial
  | i :: is => ⟨⟨i, rfl, rfl⟩, pl_ints is⟩
theorem rl_ints {ρ : List Nat} {σ : Nat → Int32} : ∀ is : List Int32, rx_l ρ σ (is.map Value.int) (is.map Value.int)
  | [] => trivial
  | i :: is => ⟨rfl, rl_ints is⟩
theorem at0 {ρ t : List Nat} {q : Nat} (h : ρ[0]? = some q) : (ρ ++ t)[0]? = some q := by
  rw [List.getElem?_append_left (List.getElem?_eq_some_iff.mp h).1]; exact h
/-- an answer on the stack -/
def lwV (o : Option pm_V) (v : Option Value) : Prop := ∃ k z, o = some (k, z) ∧ ((k = 0 ∧ ∃ i : Int32, v = some (.int i) ∧ i.toInt = z) ∨ (k = 1 ∧ ∃ i : Int64, v = some (.long i) ∧ i.toInt = z))
theorem lwV_of {ρ : List Nat} {o : Option pm_V} {o' v : Option Value} {k : Nat} {z : Int} (hk : k = 0 ∨ k = 1) (e : o = some (k, z)) (h : po o o') (h' : rx_o ρ lwσ o' v) : lwV o v := by
  subst e
  refine ⟨k, z, rfl, ?_⟩
  match o', v, h, h' with
  | some x, some y, h, h' =>
    rcases hk with rfl | rfl
    · obtain ⟨i, rfl, hi⟩ := h
      exact Or.inl ⟨rfl, i, congrArg some h', hi⟩
    · obtain ⟨i, rfl, hi⟩ := h
      exact Or.inr ⟨rfl, i, congrArg some h', hi⟩
theorem lwV_i {o : Option pm_V} {v : Option Value} {z : Int} (h : lwV o v) (e : o = some (0, z)) : ∃ i : Int32, v = some (.int i) ∧ i.toInt = z := by
  obtain ⟨k, z', e', h⟩ := h
  rw [e] at e'
  cases e'
  rcases h with ⟨_, h⟩ | ⟨h, _⟩
  · exact h
  · cases h
theorem lwV_l {o : Option pm_V} {v : Option Value} {z : Int} (h : lwV o v) (e : o = some (1, z)) : ∃ i : Int64, v = some (.long i) ∧ i.toInt = z := by
  obtain ⟨k, z', e', h⟩ := h
  rw [e] at e'
  cases e'
  rcases h with ⟨h, _⟩ | ⟨_, h⟩
  · cases h
  · exact h
theorem lw_shX : an_sh wX 0 = (0, 9, 15) := by decide
theorem lw_shM : an_sh wM 0 = (0, 10, 58) := by decide
theorem lw_cX {p : Program} {l : Launch} {e : Env} {s : State} {m : MethodId} {below : List Frame} {meth : Method} {c : Code} {b L : Nat} {xs : Nat → Int32} {D : va_G} {cy : Nat → ClassId} {Q : State → Prop} {pc mid n : Nat} (lk : rx_Lk (gG l D cy lwσ) mt (lwM meth.name) pc mid n 9 true) (hz : lwZ mid) (C0 : lw_At p s m meth c b L xs) (hK : rx_K D vwCl (tyl cy) nwl ocl s) {AX AM : pm_A} {qx qm : Nat} {H : Heap} {locs : List Loc} (hJ : lwJ AX AM D cy s qx qm H locs) (is : List Int32) {rest : List Value} {ls : Array Slot} (hls : ls.size = 4) (hn : is.length + 1 = n) (hr : (rest.map fun v => v.category).sum ≤ 8) {fu : Nat} {r : pm_R} (hc : pm_call pmt (an_sh wX) fu mid ((2, 0) :: is.map (fun i => (0, i.toInt))) AX = some r) {k : Nat} {z : Int} (hk : k = 0 ∨ k = 1) (ez : r.1 = some (k, z))
    (kk : ∀ (v : Option Value) (H1 : Heap) (locs1 : List Loc), lwV r.1 v → lwJ r.2 AM D cy s qx qm H1 locs1 → W p l e room_1 s m #[Value.ref b] below meth c H1 locs1 600000 7302250 Q (F0 m (pc + 3) ls (v.toList ++ rest))) : W p l e room_1 s m #[Value.ref b] below meth c H locs 600000 7302250 Q (F0 m pc ls ((Value.ref qx :: is.map Value.int).reverse ++ rest)) := by
  obtain ⟨ρx, ρm, cX, cM, wsX, wsM, hwx, hpx, hwm, hpm, hqx, hqm, hP, hD, hS⟩ := hJ
  obtain ⟨r', ho, hp', hM⟩ := lw_met (l := l) (D := D) (cy := cy) hc hpx (va := .ref 0 :: is.map Value.int) ⟨Or.inr ⟨Int.le_refl _, rfl⟩, pl_ints is⟩
  obtain ⟨fs, f1, _, _⟩ := pw_obj hpx (r := 0) (Int.le_refl _) (by rw [lw_shX])
  rw [lw_shX] at f1
  have hrun := lk p e s m #[Value.ref b] below meth c (lA s) H locs 600000 7302250 ls (.ref qx :: is.map Value.int) rest _ _ _ (lw_X (l := l) C0 hK) hls (hM ρx cX H.size (.ref qx :: is.map Value.int) hwx ⟨⟨qx, hqx, rfl⟩, rl_ints is⟩) (rx_Pc.blind _ _ _ _) (fun U hU hW => ⟨rfl, by rw [hU], by rw [hU]; exact lw_left hP, hK.warm hW, (lw_leftD hD).weaken (fun _ _ _ _ => trivial)⟩) (by rw [List.length_cons, List.length_map]; exact hn) (fun _ => lw_recv hwx hqx f1 hK.1 (lw_left hP) rfl) hr (by rw [hz.1]; exact Nat.le_refl 600000) (by rw [hz.2]; exact Nat.le_refl 7302250)
  refine lw_behind hrun hS (fun q _ hq => lw_in (lw_leftD hD) hS q hq) (lw_in (lw_leftD hD) hS) (fun v t1 cX' H1 locs1 ho1 hw1 hP1 hD1 hk1 hS1 => ?_)
  rw [hz.1, hz.2]
  obtain ⟨hP2, hD2⟩ := lw_joinL hP hD hk1 (lw_in (lw_leftD hD) hS) hP1 hD1
  exact kk v H1 locs1 (lwV_of hk ez ho ho1) ⟨ρx ++ t1, ρm, cX', cM, r'.2, wsM, hw1, hp', hwm, hpm, at0 hqx, hqm, hP2, hD2, hS1⟩
theorem lw_cM {p : Program} {l : Launch} {e : Env} {s : State} {m : MethodId} {below : List Frame} {meth : Method} {c : Code} {b L : Nat} {xs : Nat → Int32} {D : va_G} {cy : Nat → ClassId} {Q : State → Prop} {pc mid n : Nat} (lk : rx_Lk (gG l D cy lwσ) mt (lwM meth.name) pc mid n 10 true) (hz : lwZ mid) (C0 : lw_At p s m meth c b L xs) (hK : rx_K D vwCl (tyl cy) nwl ocl s) {AX AM : pm_A} {qx qm : Nat} {H : Heap} {locs : List Loc} (hJ : lwJ AX AM D cy s qx qm H locs) (is : List Int32) {rest : List Value} {ls : Array Slot} (hls : ls.size = 4) (hn : is.length + 1 = n) (hr : (rest.map fun v => v.category).sum ≤ 8) {fu : Nat} {r : pm_R} (hc : pm_call pmt (an_sh wM) fu mid ((2, 0) :: is.map (fun i => (0, i.toInt))) AM = some r) {k : Nat} {z : Int} (hk : k = 0 ∨ k = 1) (ez : r.1 = some (k, z))
    (kk : ∀ (v : Option Value) (H1 : Heap) (locs1 : List Loc), lwV r.1 v → lwJ AX r.2 D cy s qx qm H1 locs1 → W p l e room_1 s m #[Value.ref b] below meth c H1 locs1 600000 7302250 Q (F0 m (pc + 3) ls (v.toList ++ rest))) : W p l e room_1 s m #[Value.ref b] below meth c H locs 600000 7302250 Q (F0 m pc ls ((Value.ref qm :: is.map Value.int).reverse ++ rest)) := by
  obtain ⟨ρx, ρm, cX, cM, wsX, wsM, hwx, hpx, hwm, hpm, hqx, hqm, hP, hD, hS⟩ := hJ
  obtain ⟨r', ho, hp', hM⟩ := lw_met (l := l) (D := D) (cy := cy) hc hpm (va := .ref 0 :: is.map Value.int) ⟨Or.inr ⟨Int.le_refl _, rfl⟩, pl_ints is⟩
  obtain ⟨fs, f1, _, _⟩ := pw_obj hpm (r := 0) (Int.le_refl _) (by rw [lw_shM])
  rw [lw_shM] at f1
  have hPm := lw_right hP
  have hDm := lw_rightD hD
  have hrun := lk p e s m #[Value.ref b] below meth c (lA s) H locs 600000 7302250 ls (.ref qm :: is.map Value.int) rest _ _ _ (lw_X (l := l) C0 hK) hls (hM ρm cM H.size (.ref qm :: is.map Value.int) hwm ⟨⟨qm, hqm, rfl⟩, rl_ints is⟩) (rx_Pc.blind _ _ _ _) (fun U hU hW => ⟨rfl, by rw [hU], by rw [hU]; exact hPm, hK.warm hW, hDm.weaken (fun _ _ _ _ => trivial)⟩) (by rw [List.length_cons, List.length_map]; exact hn) (fun _ => lw_recv hwm hqm f1 hK.1 hPm rfl) hr (by rw [hz.1]; exact Nat.le_refl 600000) (by rw [hz.2]; exact Nat.le_refl 7302250)
  refine lw_behind hrun hS (fun q _ hq => lw_in hDm hS q hq) (lw_in hDm hS) (fun v t1 cM' H1 locs1 ho1 hw1 hP1 hD1 hk1 hS1 => ?_)
  rw [hz.1, hz.2]
  obtain ⟨hP2, hD2⟩ := lw_join hP hD hk1 (lw_in hDm hS) hP1 hD1
  exact kk v H1 locs1 (lwV_of hk ez ho ho1) ⟨ρx, ρm ++ t1, cX, cM', wsX, r'.2, hwx, hpx, hw1, hp', hqx, at0 hqm, hP2, hD2, hS1⟩
theorem i32_r (k : Int32) : r32 k.toInt := ⟨lw_lo k, lw_hi k⟩
theorem i32_nat {i : Nat} (h : i < 2147483648) : (Int32.ofNat i).toInt = (i : Int) := Int32.toInt_ofNat_of_lt h
theorem i32_addk {i : Nat} {k : Int32} {j : Nat} (h : i < 100000) (hk : k.toInt = (j : Int)) (hj : j < 100) : (Int32.ofNat i + k).toInt = ((i + j : Nat) : Int) := by
  have := pp_bi_ok 0 (i32_nat (show i < 2147483648 by omega)) hk
  rw [show o_bi 0 (Int32.ofNat i) k = Int32.ofNat i + k from rfl] at this
  rw [this]
  show w32 ((i : Int) + (j : Int)) = _
  rw [w32_in (by omega) (by omega)]
  omega
theorem lw_vin {i L : Nat} {k : Int32} {j : Nat} (hL : L ≤ 2048) (hk : k.toInt = (j : Int)) (hj : j < 4) (h : i + 4 ≤ L) : vp_in (Int32.ofNat i + k) L := by
  have e := i32_addk (i := i) (k := k) (j := j) (by omega) hk (by omega)
  unfold vp_in
  rintro (q | q)
  · rw [Int32.lt_iff_toInt_lt, e] at q
    have : (0 : Int32).toInt = 0 := rfl
    omega
  · have : (Int32.ofNat i + k).toNatClampNeg = i + j := by
      show (Int32.ofNat i + k).toInt.toNat = i + j
      rw [e]; omega
    omega
theorem lw_vin0 {i L : Nat} (hL : L ≤ 2048) (h : i + 4 ≤ L) : vp_in (Int32.ofNat i) L := by
  have e := i32_nat (i := i) (by omega)
  unfold vp_in
  rintro (q | q)
  · rw [Int32.lt_iff_toInt_lt, e] at q
    have : (0 : Int32).toInt = 0 := rfl
    omega
  · have : (Int32.ofNat i).toNatClampNeg = i := by
      show (Int32.ofNat i).toInt.toNat = i
      rw [e]; omega
    omega
theorem lw_gt {i L : Nat} (hL : L ≤ 2048) (hi : i ≤ 4096) : (Int32.ofNat L - 4 < Int32.ofNat i) ↔ L < i + 4 := by
  have e := i32_nat (i := i) (by omega)
  have e2 : (Int32.ofNat L - 4).toInt = (L : Int) - 4 := by
    have := pp_bi_ok 1 (i32_nat (show L < 2147483648 by omega)) (show (4 : Int32).toInt = (4 : Int) from rfl)
    rw [show o_bi 1 (Int32.ofNat L) 4 = Int32.ofNat L - 4 from rfl] at this
    rw [this]
    show w32 ((L : Int) - 4) = _
    rw [w32_in (by omega) (by omega)]
  rw [Int32.lt_iff_toInt_lt, e, e2]
  omega
abbrev ya (xs : Nat → Int32) (i : Nat) (k : Int32) : Int32 := xs ((Int32.ofNat i + k).toNatClampNeg)
end
