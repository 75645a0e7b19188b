/-! the draft's places and held are alike on both sides -/
def DD (AX AM : pm_A) : Prop := AX 0 1 = 24 ∧ AX 24 0 = AM 0 12 ∧ AX 24 1 = AM 0 13
theorem kYd (j : Int) : kcode wY 24 j = 300 + j.toNat := by
  rw [kc_0 (show (an_sh wY 24).1 = 0 by decide +kernel), show wY.2 24 = 3 by decide +kernel]
theorem kMd (j : Int) : kcode wM 0 j = j.toNat := by
  rw [kc_0 (show (an_sh wM 0).1 = 0 by decide +kernel), show wM.2 0 = 0 by decide]; omega
theorem DD.kX {AX BX AM : pm_A} {ms : List Nat} (h : DD AX AM) (hF : gFk wY ms AX BX) (n1 : ms.contains 1 = false) (n2 : ms.contains 300 = false) (n3 : ms.contains 301 = false) : DD BX AM := by
  obtain ⟨p1, p2, p3⟩ := h
  refine ⟨?_, ?_, ?_⟩
  · rw [hF 0 1 (by omega) (by omega) (by rw [(kY 1).1]; exact nin n1)]; exact p1
  · rw [hF 24 0 (by omega) (by omega) (by rw [kYd 0]; exact nin n2)]; exact p2
  · rw [hF 24 1 (by omega) (by omega) (by rw [kYd 1]; exact nin n3)]; exact p3
theorem DD.kM {AX AM BM : pm_A} {ms : List Nat} (h : DD AX AM) (hF : gFk wM ms AM BM) (n1 : ms.contains 12 = false) (n2 : ms.contains 13 = false) : DD AX BM := by
  obtain ⟨p1, p2, p3⟩ := h
  refine ⟨p1, ?_, ?_⟩
  · rw [hF 0 12 (by omega) (by omega) (by rw [kMd 12]; exact nin n1)]; exact p2
  · rw [hF 0 13 (by omega) (by omega) (by rw [kMd 13]; exact nin n2)]; exact p3
theorem dd_first : DD (wA WX) A0M := ⟨by decide +kernel, by decide +kernel, by decide +kernel⟩
def okA (c hd i j v : Int) : Prop := (0 ≤ i ∧ i < c + hd) ∧ (0 ≤ j ∧ j < c) ∧ -9 ≤ v ∧ v ≤ 9
theorem srt_XisCell : pm_srt o_X9_isCell = true := by decide +kernel
theorem xcell_ex {A : pm_A} {c hd i j : Int} (c0 : 0 ≤ c) (c6 : c ≤ 6) (d0 : 0 ≤ hd) (d6 : hd ≤ 6) : Cl pmt (an_sh wX) 95 [(0, c), (0, hd), (0, i), (0, j)] A (bp A ((0 ≤ i ∧ i < c + hd) ∧ (0 ≤ j ∧ j < c))) := by
  refine Cl.of (Nat.le_of_ble_eq_true rfl) ?_
  refine wq_ok (full := o_X9_isCell) srt_XisCell (fr := []) (cuts := []) (J := fun _ _ => False) ?_ 19 0 _ ?_
  · intro pc st h; exact h.elim
  · refine ⟨fun h0 => ?_, fun h0 => ?_⟩
    · exact ⟨rfl, rfl, 0, rfl, Or.inr ⟨rfl, by omega⟩⟩
    · refine ⟨⟨by omega, by omega⟩, ?_⟩
      refine ⟨fun h1 => ?_, fun h1 => ?_⟩
      · exact ⟨rfl, rfl, 0, rfl, Or.inr ⟨rfl, by omega⟩⟩
      · refine ⟨fun h2 => ?_, fun h2 => ?_⟩
        · exact ⟨rfl, rfl, 0, rfl, Or.inr ⟨rfl, by omega⟩⟩
        · refine ⟨fun h3 => ?_, fun h3 => ?_⟩
          · exact ⟨rfl, rfl, 0, rfl, Or.inr ⟨rfl, by omega⟩⟩
          · exact ⟨rfl, rfl, 1, rfl, Or.inl ⟨rfl, by omega⟩⟩
theorem srt_Xarrows : pm_srt o_X9_arrows = true := by decide +kernel
theorem xarrows_ex {A : pm_A} {i j v : Int} (hA : gH wX A) : Cl pmt (an_sh wX) 84 [(2, 0), (0, i), (0, j), (0, v)] A (ab (okA (A (A 0 1) 0) (A (A 0 1) 1) i j v)) := by
  have d0 := fX_0_1 hA (r := 0) (by omega) kk0
  have b0 := fX_3_0 hA d0.1 d0.2
  have b1 := fX_3_1 hA d0.1 d0.2
  refine Cl.of (Nat.le_of_ble_eq_true rfl) ?_
  refine wq_ok (full := o_X9_arrows) srt_Xarrows (fr := []) (cuts := [19]) (J := fun pc st => (pc = 19 ∧ ∃ x : Int, ((x = 1 ∧ ((0 ≤ i ∧ i < A (A 0 1) 0 + A (A 0 1) 1) ∧ (0 ≤ j ∧ j < A (A 0 1) 0))) ∨ (x = 0 ∧ ¬ ((0 ≤ i ∧ i < A (A 0 1) 0 + A (A 0 1) 1) ∧ (0 ≤ j ∧ j < A (A 0 1) 0)))) ∧ st = ([(2, 0), (0, i), (0, j), (0, v)], [(0, x)], A))) ?_ 13 0 _ ?_
  · rintro pc st (⟨rfl, x, hx, rfl⟩)
    refine wq_ok srt_Xarrows (fr := []) (cuts := []) (J := fun _ _ => False) ?_ 23 19 _ ?_
    · intro pc st h; exact h.elim
    · refine ⟨fun h0 => ?_, fun h0 => ?_⟩
      · exact ⟨rfl, Or.inl ⟨rfl, fun q => by unfold okA at q; omega⟩⟩
      · refine ⟨fun h1 => ?_, fun h1 => ?_⟩
        · exact ⟨rfl, Or.inl ⟨rfl, fun q => by unfold okA at q; omega⟩⟩
        · refine ⟨fun h2 => ?_, fun h2 => ?_⟩
          · refine ⟨oX_0 (Int.le_refl 0) kk0 1 rfl, ?_⟩
            refine ⟨oX_3 (fX_0_1 hA (Int.le_refl 0) kk0).1 (fX_0_1 hA (Int.le_refl 0) kk0).2 2 rfl, ?_⟩
            refine ⟨⟨by omega, by omega⟩, ?_⟩
            refine ⟨⟨by omega, by omega⟩, ?_⟩
            refine ⟨tX_16 (fX_3_2 hA (fX_0_1 hA (Int.le_refl 0) kk0).1 (fX_0_1 hA (Int.le_refl 0) kk0).2).1 (fX_3_2 hA (fX_0_1 hA (Int.le_refl 0) kk0).1 (fX_0_1 hA (Int.le_refl 0) kk0).2).2 (by omega) (by omega) rfl, ?_⟩
            exact ⟨rfl, Or.inr ⟨rfl, ⟨by omega, by omega⟩, ⟨by omega, by omega⟩, by omega, by omega⟩⟩
          · exact ⟨rfl, Or.inl ⟨rfl, fun q => by unfold okA at q; omega⟩⟩
  · refine ⟨oX_0 (Int.le_refl 0) kk0 1 rfl, ?_⟩
    refine ⟨oX_3 (fX_0_1 hA (Int.le_refl 0) kk0).1 (fX_0_1 hA (Int.le_refl 0) kk0).2 0 rfl, ?_⟩
    refine ⟨oX_0 (Int.le_refl 0) kk0 1 rfl, ?_⟩
    refine ⟨oX_3 (fX_0_1 hA (Int.le_refl 0) kk0).1 (fX_0_1 hA (Int.le_refl 0) kk0).2 1 rfl, ?_⟩
    refine ⟨rfl, ?_⟩
    refine (xcell_ex (c := A (A 0 1) 0) (hd := A (A 0 1) 1) (i := i) (j := j) b0.1 b0.2 b1.1 b1.2).imp ?_
    rintro ⟨r1, C⟩ ⟨q1, x, q2, hx⟩
    simp only at q1 q2
    subst q1
    subst q2
    exact ⟨rfl, x, hx, rfl⟩
theorem marrows_ex {A : pm_A} {i j v : Int} (hA : gH wM A) : Cl pmt (an_sh wM) 126 [(2, 0), (0, i), (0, j), (0, v)] A (ab (okA (A 0 12) (A 0 13) i j v)) := by
  have b0 := fM_0_12 hA (r := 0) (by omega) km0
  have b1 := fM_0_13 hA (r := 0) (by omega) km0
  have c14 := pM_14 hA
  refine Cl.of (Nat.le_of_ble_eq_true rfl) ?_
  refine wq_ok (full := o_X10_arrows) srt_Marrows (fr := []) (cuts := []) (J := fun _ _ => False) ?_ 39 0 _ ?_
  · intro pc st h; exact h.elim
  · refine ⟨oM_0 (by omega) km0 12 rfl, ?_⟩
    refine ⟨fun h0 => ?_, fun h0 => ?_⟩
    · exact ⟨rfl, Or.inl ⟨rfl, fun q => by unfold okA at q; omega⟩⟩
    · refine ⟨fun h1 => ?_, fun h1 => ?_⟩
      · exact ⟨rfl, Or.inl ⟨rfl, fun q => by unfold okA at q; omega⟩⟩
      · refine ⟨oM_0 (by omega) km0 12 rfl, ?_⟩
        refine ⟨oM_0 (by omega) km0 13 rfl, ?_⟩
        refine ⟨⟨by omega, by omega⟩, ?_⟩
        refine ⟨fun h2 => ?_, fun h2 => ?_⟩
        · exact ⟨rfl, Or.inl ⟨rfl, fun q => by unfold okA at q; omega⟩⟩
        · refine ⟨fun h3 => ?_, fun h3 => ?_⟩
          · exact ⟨rfl, Or.inl ⟨rfl, fun q => by unfold okA at q; omega⟩⟩
          · refine ⟨oM_0 (by omega) km0 12 rfl, ?_⟩
            refine ⟨fun h4 => ?_, fun h4 => ?_⟩
            · exact ⟨rfl, Or.inl ⟨rfl, fun q => by unfold okA at q; omega⟩⟩
            · refine ⟨fun h5 => ?_, fun h5 => ?_⟩
              · exact ⟨rfl, Or.inl ⟨rfl, fun q => by unfold okA at q; omega⟩⟩
              · refine ⟨fun h6 => ?_, fun h6 => ?_⟩
                · refine ⟨oM_0 (by omega) km0 14 rfl, ?_⟩
                  refine ⟨⟨by omega, by omega⟩, ?_⟩
                  refine ⟨⟨by omega, by omega⟩, ?_⟩
                  refine ⟨tM_7 (r := A 0 14) (by rw [c14]; omega) (by rw [c14]; exact kn7) (by omega) (by omega) rfl, ?_⟩
                  exact ⟨rfl, Or.inr ⟨rfl, ⟨by omega, by omega⟩, ⟨by omega, by omega⟩, by omega, by omega⟩⟩
                · exact ⟨rfl, Or.inl ⟨rfl, fun q => by unfold okA at q; omega⟩⟩
def rxP (A : pm_A) (d n m : Int) (r : pm_R) : Prop := r.1 = none ∧ gH wX r.2 ∧ gFr wX rs_M A r.2 ∧ bnd r.2 (A d 2) 0 ∧ r.2 d 0 = n ∧ r.2 d 1 = m
theorem xrestart_ex {A : pm_A} {d n m : Int} (hA : gH wX A) (hd0 : 0 ≤ d) (hdk : wX.2 d = 3) (h0 : 0 ≤ n) (h1 : n ≤ 6) (h2 : 0 ≤ m) (h3 : m ≤ 6) : Cl pmt (an_sh wX) 25 [(2, d), (0, n), (0, m)] A (rxP A d n m) := by
  have t0 := fX_3_2 hA hd0 hdk
  have hB := (rs_put (rs_put hA hdk h0 h1).1 hdk h2 h3).2
  have hF : gFr wX rs_M A (pm_upd (pm_upd A d 0 n) d 1 m) := by
    refine gFr_upd (gFr_upd (fun _ _ _ _ _ => rfl) ?_) ?_
    · unfold mcode; rw [shX_3 hdk]; show 200 ∈ rs_M; decide
    · unfold mcode; rw [shX_3 hdk]; show 201 ∈ rs_M; decide
  have e2 : pm_upd (pm_upd A d 0 n) d 1 m d 2 = A d 2 := by rw [upd_n2 (by decide), upd_n2 (by decide)]
  refine Cl.of (Nat.le_of_ble_eq_true rfl) ?_
  refine wq_ok (full := o_X2_restart) srt_restart (fr := []) (cuts := []) (J := fun pc st => False) (fun _ _ h => h.elim) 20 0 _ ?_
  refine ⟨oX_3 hd0 hdk 0 rfl, ?_⟩
  refine ⟨oX_3 hd0 hdk 1 rfl, ?_⟩
  refine ⟨oX_3 hd0 hdk 2 rfl, ?_⟩
  refine ⟨rfl, ?_⟩
  refine (fill_ct (r := pm_upd (pm_upd A d 0 n) d 1 m d 2) hB (by rw [e2]; exact t0.1) (by rw [e2]; exact t0.2)).imp ?_
  rintro ⟨r1, C⟩ ⟨q1, q2, q3, q4⟩
  simp only at q1 q2 q3 q4
  subst q1
  rw [e2] at q4
  have k0 : C d 0 = n := by
    rw [q3 d 0 hd0 (by omega) (by unfold mcode; rw [shX_3 hdk]; show ¬ 200 ∈ [10016]; decide), upd_n2 (by decide), upd_at]
  have k1 : C d 1 = m := by
    rw [q3 d 1 hd0 (by omega) (by unfold mcode; rw [shX_3 hdk]; show ¬ 201 ∈ [10016]; decide), upd_at]
  exact ⟨rfl, q2, gFr_tr hF q3 (fun x hx => by
    cases hx with
    | head => exact List.Mem.tail _ (List.Mem.tail _ (List.Mem.head _))
    | tail _ q => cases q), q4, k0, k1⟩
theorem xrestart_k {A : pm_A} {n m : Int} (hA : gH wX A) (hK : gK wY A) (h0 : 0 ≤ n) (h1 : n ≤ 6) (h2 : 0 ≤ m) (h3 : m ≤ 6) : Cl pmt (an_sh wX) 25 [(2, 24), (0, n), (0, m)] A (fun r => rxP A 24 n m r ∧ gK wY r.2) := by
  obtain ⟨k, r, c1, q⟩ := xrestart_ex hA (d := 24) (by omega) (by decide +kernel) h0 h1 h2 h3
  have c2 := c1
  rw [← shY] at c2
  exact ⟨k, r, c1, q, (ksX k 25 ([6, 1, 1], 0, [300, 301, 10016]) (List.contains_iff_mem.mp (by decide +kernel)) [(2, 24), (0, n), (0, m)] A r ⟨⟨rfl, (by show (0 : Int) ≤ 24; omega), by decide +kernel⟩, (by show ¬ (0 : Nat) = 1; decide), (by show ¬ (0 : Nat) = 1; decide), trivial⟩ hK c2).2.1⟩
def xtP (A : pm_A) (n m : Int) (r : pm_R) : Prop := (r.1 = some (0, 0) ∧ r.2 = A ∧ ¬ okT n m) ∨ (r.1 = some (0, 1) ∧ okT n m ∧ r.2 24 0 = n ∧ r.2 24 1 = m)
theorem xtable_ex {A : pm_A} {n m : Int} (hA : gH wX A) (hK : gK wY A) (e1 : A 0 1 = 24) : Cl pmt (an_sh wX) 111 [(2, 0), (0, n), (0, m)] A (xtP A n m) := by
  have d0 := fX_0_1 hA (r := 0) (by omega) kk0
  refine Cl.of (Nat.le_of_ble_eq_true rfl) ?_
  refine wq_ok (full := o_X9_table) srt_Xtable (fr := []) (cuts := []) (J := fun _ _ => False) (fun _ _ h => h.elim) 25 0 _ ?_
  refine ⟨fun h0 => ?_, fun h0 => ?_⟩
  · exact ⟨rfl, Or.inl ⟨rfl, rfl, fun ho => by unfold okT at ho; omega⟩⟩
  refine ⟨fun h1 => ?_, fun h1 => ?_⟩
  · exact ⟨rfl, Or.inl ⟨rfl, rfl, fun ho => by unfold okT at ho; omega⟩⟩
  refine ⟨fun h2 => ?_, fun h2 => ?_⟩
  · exact ⟨rfl, Or.inl ⟨rfl, rfl, fun ho => by unfold okT at ho; omega⟩⟩
  refine ⟨fun h3 => ?_, fun h3 => ?_⟩
  · refine ⟨oX_0 (by omega) kk0 1 rfl, ?_⟩
    refine ⟨rX_3 d0.1 d0.2, ?_⟩
    rw [e1]
    refine (xrestart_k hA hK (n := n) (m := m) (by omega) (by omega) (by omega) (by omega)).imp ?_
    rintro ⟨r1, C⟩ ⟨⟨g1, g2, g3, g4, g5, g6⟩, _⟩
    simp only at g1 g5 g6
    subst g1
    exact ⟨rfl, Or.inr ⟨rfl, ⟨⟨by omega, by omega⟩, by omega, by omega⟩, g5, g6⟩⟩
  · exact ⟨rfl, Or.inl ⟨rfl, rfl, fun ho => by unfold okT at ho; omega⟩⟩
def msSX : List Nat := [4, 100, 101, 200, 201, 10010, 10011, 10014, 10015, 10016, 10017]
def cSX : ks_C := [(56, [3, 1], []), (57, [3, 1], [3]), (60, [3, 1], [37]), (61, [3, 1], [1, 37]), (62, [3, 1], [12]), (63, [3, 1], [3, 12]), (66, [3, 1], [6, 12]), (69, [3, 1], [19, 12]), (72, [3, 1], []), (73, [3, 1], [3]), (76, [3, 1], [6]), (79, [3, 1], [1]), (82, [3, 1], []), (83, [3, 1], [1]), (84, [3, 1], []), (85, [3, 1], [3]), (88, [3, 1], []), (89, [3, 1], [1])]
theorem suf_X {n : Nat} {B : pm_A} {k : Int} {r : pm_R} (hK : gK wY B) (h : pm_run pmt (an_sh wX) n o_X9_seed (pm_seek 56 o_X9_seed) ([(2, 0), (0, k)], [], B) = some r) : gFk wY msSX B r.2 := by
  rw [← shY] at h
  exact (ks_run (w := wY) (CT := ctX) (Q := ([], 2, msSX)) (C := cSX) srt_seed (by decide +kernel) n (fun m _ => ksX m) 56 _ ([(2, 0), (0, k)], [], B) r rfl ⟨⟨⟨rfl, Int.le_refl 0, by decide⟩, (by show ¬ (0 : Nat) = 1; decide), trivial⟩, trivial, hK, fun _ _ _ _ _ => rfl⟩ h).2.2
def msSM : List Nat := [7, 8, 10, 10001, 10002, 10003, 10005, 10007, 10008, 10009, 10010, 10011]
def cSM : ks_C := [(44, [3, 1, 1, 1, 1, 1, 1, 1, 1, 1], [1]), (45, [3, 1, 1, 1, 1, 1, 1, 1, 1, 1], []), (46, [3, 1, 1, 1, 1, 1, 1, 1, 1, 1], [1]), (48, [3, 1, 1, 1, 1, 1, 1, 1, 1, 1], []), (50, [3, 1, 1, 1, 1, 1, 1, 1, 1, 1], [1]), (51, [3, 1, 1, 1, 1, 1, 1, 1, 1, 1], [1, 1]), (54, [3, 1, 1, 1, 1, 1, 1, 1, 1, 1], []), (56, [3, 1, 1, 1, 1, 1, 1, 1, 1, 1], [1]), (57, [3, 1, 1, 1, 1, 1, 1, 1, 1, 1], [1, 1]), (58, [3, 1, 1, 1, 1, 1, 1, 1, 1, 1], [1]), (60, [3, 1, 1, 1, 1, 1, 1, 1, 1, 1], []), (62, [3, 1, 1, 1, 1, 1, 1, 1, 1, 1], [1]), (63, [3, 1, 1, 1, 1, 1, 1, 1, 1, 1], [1, 1]), (66, [3, 1, 1, 1, 1, 1, 1, 1, 1, 1], []), (68, [3, 1, 1, 1, 1, 1, 1, 1, 1, 1], [1]), (69, [3, 1, 1, 1, 1, 1, 1, 1, 1, 1], [1, 1]), (70, [3, 1, 1, 1, 1, 1, 1, 1, 1, 1], [1]), (72, [3, 1, 1, 1, 1, 1, 1, 1, 1, 1], []), (74, [3, 1, 1, 1, 1, 1, 1, 1, 1, 1], [1]), (75, [3, 1, 1, 1, 1, 1, 1, 1, 1, 1], [1, 1]), (78, [3, 1, 1, 1, 1, 1, 1, 1, 1, 1], []), (79, [3, 1, 1, 1, 1, 1, 1, 1, 1, 1], [3]), (80, [3, 1, 1, 1, 1, 1, 1, 1, 1, 1], [1, 3]), (82, [3, 1, 1, 1, 1, 1, 1, 1, 1, 1], [1, 1, 3]), (84, [3, 1, 1, 1, 1, 1, 1, 1, 1, 1], [1, 1, 1, 3]), (87, [3, 1, 1, 1, 1, 1, 1, 1, 1, 1], [1]), (90, [3, 1, 1, 1, 1, 1, 1, 1, 1, 1], []), (91, [3, 1, 1, 1, 1, 1, 1, 1, 1, 1], [3]), (92, [3, 1, 1, 1, 1, 1, 1, 1, 1, 1], [1, 3]), (94, [3, 1, 1, 1, 1, 1, 1, 1, 1, 1], [1, 1, 3]), (96, [3, 1, 1, 1, 1, 1, 1, 1, 1, 1], [1, 1, 1, 3]), (99, [3, 1, 1, 1, 1, 1, 1, 1, 1, 1], [1]), (102, [3, 1, 1, 1, 1, 1, 1, 1, 1, 1], []), (103, [3, 1, 1, 1, 1, 1, 1, 1, 1, 1], [3]), (104, [3, 1, 1, 1, 1, 1, 1, 1, 1, 1], [1, 3]), (106, [3, 1, 1, 1, 1, 1, 1, 1, 1, 1], [1, 1, 3]), (108, [3, 1, 1, 1, 1, 1, 1, 1, 1, 1], [1, 1, 1, 3]), (111, [3, 1, 1, 1, 1, 1, 1, 1, 1, 1], [1]), (114, [3, 1, 1, 1, 1, 1, 1, 1, 1, 1], []), (117, [3, 1, 1, 1, 1, 1, 1, 1, 1, 1], []), (118, [3, 1, 1, 1, 1, 1, 1, 1, 1, 1], [3]), (119, [3, 1, 1, 1, 1, 1, 1, 1, 1, 1], [1, 3]), (121, [3, 1, 1, 1, 1, 1, 1, 1, 1, 1], [1, 1, 3]), (123, [3, 1, 1, 1, 1, 1, 1, 1, 1, 1], [1, 1, 1, 3]), (126, [3, 1, 1, 1, 1, 1, 1, 1, 1, 1], [1]), (128, [3, 1, 1, 1, 1, 1, 1, 1, 1, 1], []), (129, [3, 1, 1, 1, 1, 1, 1, 1, 1, 1], [3]), (130, [3, 1, 1, 1, 1, 1, 1, 1, 1, 1], [1, 3]), (132, [3, 1, 1, 1, 1, 1, 1, 1, 1, 1], [1, 1, 3]), (134, [3, 1, 1, 1, 1, 1, 1, 1, 1, 1], [1, 1, 1, 3]), (137, [3, 1, 1, 1, 1, 1, 1, 1, 1, 1], [1]), (139, [3, 1, 1, 1, 1, 1, 1, 1, 1, 1], []), (140, [3, 1, 1, 1, 1, 1, 1, 1, 1, 1], [3]), (141, [3, 1, 1, 1, 1, 1, 1, 1, 1, 1], [1, 3]), (143, [3, 1, 1, 1, 1, 1, 1, 1, 1, 1], [1, 1, 3]), (145, [3, 1, 1, 1, 1, 1, 1, 1, 1, 1], [1, 1, 1, 3]), (148, [3, 1, 1, 1, 1, 1, 1, 1, 1, 1], [1]), (150, [3, 1, 1, 1, 1, 1, 1, 1, 1, 1], []), (151, [3, 1, 1, 1, 1, 1, 1, 1, 1, 1], [3]), (153, [3, 1, 1, 1, 1, 1, 1, 1, 1, 1], [1, 3]), (155, [3, 1, 1, 1, 1, 1, 1, 1, 1, 1], [1, 1, 3]), (158, [3, 1, 1, 1, 1, 1, 1, 1, 1, 1], []), (159, [3, 1, 1, 1, 1, 1, 1, 1, 1, 1], [3]), (161, [3, 1, 1, 1, 1, 1, 1, 1, 1, 1], [1, 3]), (163, [3, 1, 1, 1, 1, 1, 1, 1, 1, 1], [1, 1, 3]), (166, [3, 1, 1, 1, 1, 1, 1, 1, 1, 1], []), (167, [3, 1, 1, 1, 1, 1, 1, 1, 1, 1], [3]), (169, [3, 1, 1, 1, 1, 1, 1, 1, 1, 1], [1, 3]), (171, [3, 1, 1, 1, 1, 1, 1, 1, 1, 1], [1, 1, 3]), (174, [3, 1, 1, 1, 1, 1, 1, 1, 1, 1], []), (177, [3, 1, 1, 1, 1, 1, 1, 1, 1, 1], []), (180, [3, 1, 1, 1, 1, 1, 1, 1, 1, 1], []), (183, [3, 1, 1, 1, 1, 1, 1, 1, 1, 1], []), (186, [3, 1, 1, 1, 1, 1, 1, 1, 1, 1], []), (189, [3, 1, 1, 1, 1, 1, 1, 1, 1, 1], []), (192, [3, 1, 1, 1, 1, 1, 1, 1, 1, 1], []), (193, [3, 1, 1, 1, 1, 1, 1, 1, 1, 1], [3]), (196, [3, 1, 1, 1, 1, 1, 1, 1, 1, 1], [1]), (199, [3, 1, 1, 1, 1, 1, 1, 1, 1, 1], []), (200, [3, 1, 1, 1, 1, 1, 1, 1, 1, 1], [1]), (203, [3, 1, 1, 1, 1, 1, 1, 1, 1, 1], []), (204, [3, 1, 1, 1, 1, 1, 1, 1, 1, 1], [1])]
theorem suf_M {n : Nat} {B : pm_A} {sl x : Int} {r : pm_R} (hK : gK wM B) (h : pm_run pmt (an_sh wM) n o_X10_seed (pm_seek 44 o_X10_seed) ([(2, 0), (0, sl), (0, x), (9, 0), (9, 0), (9, 0), (9, 0), (9, 0), (9, 0), (9, 0)], [(0, 1)], B) = some r) : gFk wM msSM B r.2 := by
  have z : ¬ ((0 : Nat) = 1) := by decide
  have y : ¬ ((9 : Nat) = 1) := by decide
  exact (ks_run (w := wM) (CT := ctM) (Q := ([], 2, msSM)) (C := cSM) srt_Mseed (by decide +kernel) n (fun m _ => ksM m) 44 _ ([(2, 0), (0, sl), (0, x), (9, 0), (9, 0), (9, 0), (9, 0), (9, 0), (9, 0), (9, 0)], [(0, 1)], B) r rfl ⟨⟨⟨rfl, Int.le_refl 0, by decide⟩, z, z, y, y, y, y, y, y, y, trivial⟩, ⟨z, trivial⟩, hK, fun _ _ _ _ _ => rfl⟩ h).2.2
def okSd (s n : Int) (F : Int → Int) : Prop := (s = 0 ∨ s = 1) ∧ cntF F 100 = n - 3 ∧ n ≤ 9
def xsP (A : pm_A) (s n : Int) (F : Int → Int) (r : pm_R) : Prop := (¬ okSd s n F ∧ r.2 = A) ∨ (okSd s n F ∧ r.2 24 0 = n - 3 ∧ r.2 24 1 = 0)
theorem sxd_37 {A : pm_A} {n s : Int} {F : Int → Int} (hA : gH wX A) (hK : gK wY A) (e1 : A 0 1 = 24) (hs : s = 0 ∨ s = 1) (h : rgX A (A (A 0 13) s) n F) (hS : rgS n F) (hc : cntF F 100 = n - 3) (h9 : n ≤ 9) : Tm pmt (an_sh wX) o_X9_seed 37 ([(2, 0), (0, s)], [], A) (xsP A s n F) := by
  have p0 := fX_0_13 hA (Int.le_refl 0) kk0
  have g0 := eX_34 hA p0.1 p0.2 (j := s) (by omega) (by omega)
  have en : A (A (A 0 13) s) 0 = n := h.1
  have hn := hS.1
  have d0 := fX_0_1 hA (r := 0) (by omega) kk0
  refine wq_ok srt_seed (fr := []) (cuts := [56]) (J := fun pc st => pc = 56 ∧ ∃ C, (rxP A 24 (n - 3) 0 (none, C) ∧ gK wY C) ∧ st = ([(2, 0), (0, s)], [], C)) ?_ 30 37 _ ?_
  · rintro pc st ⟨rfl, C, ⟨⟨_, q2, q3, q4, q5, q6⟩, q7⟩, rfl⟩
    simp only at q2 q3 q4 q5 q6
    have e2 : C 0 1 = 24 := by
      rw [q3 0 1 (by omega) (by omega) (by unfold mcode; rw [shX_0 kk0]; show ¬ 901 ∈ rs_M; decide)]; exact e1
    have e3 : C 24 2 = A 24 2 := q3 24 2 (by omega) (by omega) (by unfold mcode; rw [shX_3 (show wX.2 24 = 3 by decide +kernel)]; show ¬ 202 ∈ rs_M; decide)
    obtain ⟨k, r, c1, _⟩ := sd_56 (A := C) (B := C) (s := 0) (k := s) (Int.le_refl 0) kk0 (by omega) (by omega) q2 (fun _ _ _ _ _ => rfl) (by rw [e2, e3]; exact q4)
    have f := suf_X q7 c1
    refine ⟨k, r, c1, Or.inr ⟨⟨hs, hc, h9⟩, ?_, ?_⟩⟩
    · rw [f 24 0 (by omega) (by omega) (by rw [kYd 0]; exact nin rfl)]; exact q5
    · rw [f 24 1 (by omega) (by omega) (by rw [kYd 1]; exact nin rfl)]; exact q6
  · refine ⟨oX_0 (Int.le_refl 0) kk0 1 rfl, ?_⟩
    refine ⟨oX_0 (Int.le_refl 0) kk0 13 rfl, ?_⟩
    refine ⟨aX_34 p0.1 p0.2 (by omega) (by omega), ?_⟩
    refine ⟨oX_9 g0.1 g0.2 0 rfl, ?_⟩
    refine ⟨⟨by omega, by omega⟩, ?_⟩
    refine ⟨rX_3 d0.1 d0.2, ?_⟩
    rw [e1, en]
    refine (xrestart_k hA hK (n := n - 3) (m := 0) (by omega) (by omega) (by omega) (by omega)).imp ?_
    rintro ⟨r1, C⟩ ⟨q, q7⟩
    obtain rfl : r1 = none := q.1
    exact ⟨rfl, C, ⟨q, q7⟩, rfl⟩
theorem xseed_ex {A : pm_A} {n s : Int} {F : Int → Int} (hA : gH wX A) (hK : gK wY A) (e1 : A 0 1 = 24) (h : s = 0 ∨ s = 1 → rgX A (A (A 0 13) s) n F ∧ rgS n F) : Cl pmt (an_sh wX) 107 [(2, 0), (0, s)] A (xsP A s n F) := by
  have p0 := fX_0_13 hA (Int.le_refl 0) kk0
  have h7 : s = 0 ∨ s = 1 → Tm pmt (an_sh wX) o_X9_seed 7 ([(2, 0), (0, s)], [], A) (xsP A s n F) := fun hs => by
    have e0 := eX_34 hA p0.1 p0.2 (j := s) (by omega) (by omega)
    have en : A (A (A 0 13) s) 0 = n := (h hs).1.1
    have hn := (h hs).2.1
    refine wq_ok srt_seed (fr := []) (cuts := [16]) (J := fun pc st => (pc = 16 ∧ ∃ z : Int, ((z = 1 ∧ cntF F 100 = n - 3) ∨ (z = 0 ∧ ¬ cntF F 100 = n - 3)) ∧ st = ([(2, 0), (0, s)], [(0, z)], A))) ?_ 9 7 _ ?_
    · rintro pc st (⟨rfl, z, hz, rfl⟩)
      refine wq_ok srt_seed (fr := []) (cuts := [37]) (J := fun pc st => (pc = 37 ∧ (¬ z = 0) ∧ (((A (A (A 0 13) s) 0) - 3) ≤ 6) ∧ st = ([(2, 0), (0, s)], [], A))) ?_ 16 16 _ ?_
      · rintro pc st (⟨rfl, h0, h1, rfl⟩)
        exact sxd_37 hA hK e1 hs (h hs).1 (h hs).2 (by rcases hz with ⟨_, e⟩ | ⟨e, _⟩; exact e; omega) (by omega)
      · refine ⟨fun h0 => ?_, fun h0 => ?_⟩
        · exact ⟨rfl, Or.inl ⟨fun q => absurd q.2.1 (by rcases hz with ⟨e, _⟩ | ⟨_, e⟩; omega; exact e), rfl⟩⟩
        · refine ⟨oX_0 (Int.le_refl 0) kk0 13 rfl, ?_⟩
          refine ⟨aX_34 (fX_0_13 hA (Int.le_refl 0) kk0).1 (fX_0_13 hA (Int.le_refl 0) kk0).2 (by omega) (by omega), ?_⟩
          refine ⟨oX_9 (eX_34 hA (fX_0_13 hA (Int.le_refl 0) kk0).1 (fX_0_13 hA (Int.le_refl 0) kk0).2 (j := s) (by omega) (by omega)).1 (eX_34 hA (fX_0_13 hA (Int.le_refl 0) kk0).1 (fX_0_13 hA (Int.le_refl 0) kk0).2 (j := s) (by omega) (by omega)).2 0 rfl, ?_⟩
          refine ⟨⟨by omega, by omega⟩, ?_⟩
          refine ⟨fun h1 => ?_, fun h1 => ?_⟩
          · exact ⟨rfl, h0, h1, rfl⟩
          · exact ⟨rfl, Or.inl ⟨fun q => by have := q.2.2; omega, rfl⟩⟩
    · refine ⟨oX_0 (Int.le_refl 0) kk0 13 rfl, ?_⟩
      refine ⟨aX_34 (fX_0_13 hA (Int.le_refl 0) kk0).1 (fX_0_13 hA (Int.le_refl 0) kk0).2 (by omega) (by omega), ?_⟩
      refine ⟨rX_9 (eX_34 hA (fX_0_13 hA (Int.le_refl 0) kk0).1 (fX_0_13 hA (Int.le_refl 0) kk0).2 (j := s) (by omega) (by omega)).1 (eX_34 hA (fX_0_13 hA (Int.le_refl 0) kk0).1 (fX_0_13 hA (Int.le_refl 0) kk0).2 (j := s) (by omega) (by omega)).2, ?_⟩
      refine (xcut_ex e0.1 e0.2 (h hs).1 (h hs).2).imp ?_
      rintro ⟨r1, C⟩ ⟨q1, z, q2, hz⟩
      simp only at q1 q2
      subst q1
      subst q2
      exact ⟨rfl, z, hz, rfl⟩
  refine Cl.of (Nat.le_of_ble_eq_true rfl) ?_
  refine wq_ok (full := o_X9_seed) srt_seed (fr := []) (cuts := [4]) (J := fun pc st => (pc = 4 ∧ ∃ x : Int, ((x = 1 ∧ (s = 0 ∨ s = 1)) ∨ (x = 0 ∧ ¬ (s = 0 ∨ s = 1))) ∧ st = ([(2, 0), (0, s)], [(0, x)], A))) ?_ 6 0 _ ?_
  · rintro pc st (⟨rfl, x, hx, rfl⟩)
    refine wq_ok srt_seed (fr := []) (cuts := [7]) (J := fun pc st => (pc = 7 ∧ (¬ x = 0) ∧ st = ([(2, 0), (0, s)], [], A))) ?_ 7 4 _ ?_
    · rintro pc st (⟨rfl, h0, rfl⟩)
      exact h7 (by rcases hx with ⟨_, e⟩ | ⟨e, _⟩; exact e; omega)
    · refine ⟨fun h0 => ?_, fun h0 => ?_⟩
      · exact ⟨rfl, Or.inl ⟨fun q => absurd q.1 (by rcases hx with ⟨e, _⟩ | ⟨_, e⟩; omega; exact e), rfl⟩⟩
      · exact ⟨rfl, h0, rfl⟩
  · refine ⟨rfl, ?_⟩
    refine (xa_isSlot).imp ?_
    rintro ⟨r1, C⟩ ⟨q1, x, q2, hx⟩
    simp only at q1 q2
    subst q1
    subst q2
    exact ⟨rfl, x, hx, rfl⟩
def msP (A : pm_A) (sl : Int) (r : pm_R) : Prop := (¬ okSd sl (A 31 sl) (fcs A sl) ∧ r.2 = A) ∨ (okSd sl (A 31 sl) (fcs A sl) ∧ r.2 0 12 = A 31 sl - 3 ∧ r.2 0 13 = 0)
theorem smd_36 {A : pm_A} {sl : Int} (h : RI A) (ho : okSd sl (A 31 sl) (fcs A sl)) : Tm pmt (an_sh wM) o_X10_seed 36 ([(2, 0), (0, sl), (0, A 31 sl), (9, 0), (9, 0), (9, 0), (9, 0), (9, 0), (9, 0), (9, 0)], [], A) (msP A sl) := by
  have hs := ho.1
  have b31 := eM_31 h.g (r := 31) (by omega) kn31 (j := sl) (by omega) (by omega)
  have hc := ho.2.1
  have h9 := ho.2.2
  have h44 : ∀ B, sdF A B → B 0 12 = A 31 sl - 3 → B 0 13 = 0 → (∀ j : Int, 0 ≤ j → j < 72 → B 7 j = 0) → Tm pmt (an_sh wM) o_X10_seed 44 ([(2, 0), (0, sl), (0, A 31 sl), (9, 0), (9, 0), (9, 0), (9, 0), (9, 0), (9, 0), (9, 0)], [(0, 1)], B) (msP A sl) := fun B q3 q4 q5 q6 => by
    have t : Tm pmt (an_sh wM) o_X10_seed 44 ([(2, 0), (0, sl), (0, A 31 sl), (9, 0), (9, 0), (9, 0), (9, 0), (9, 0), (9, 0), (9, 0)], [(0, 1)], B) ri_post := by
      refine wq_ok srt_Mseed (fr := []) (cuts := [48]) (J := fun pc st => (pc = 48 ∧ st = ([(2, 0), (0, sl), (0, A 31 sl), (0, 1), (0, 0), (9, 0), (9, 0), (9, 0), (9, 0), (9, 0)], [], B))) ?_ 8 44 _ ?_
      · rintro pc st (⟨rfl, rfl⟩)
        exact sde_48 h hs (by omega) (by omega) _ 0 _ _ _ _ _ B (Nat.lt_succ_self _) (by omega) (by omega) ⟨q3, fun i j i0 i1 j0 j1 => by rw [q6 (6 * i + j) (by omega) (by omega)]; exact ⟨by omega, Or.inl rfl⟩⟩
      · exact ⟨rfl, rfl⟩
    obtain ⟨k, r, c1, _⟩ := t
    have f := suf_M (gK_of q3.1) c1
    refine ⟨k, r, c1, Or.inr ⟨ho, ?_, ?_⟩⟩
    · rw [f 0 12 (by omega) (by omega) (by rw [kMd 12]; exact nin rfl)]; exact q4
    · rw [f 0 13 (by omega) (by omega) (by rw [kMd 13]; exact nin rfl)]; exact q5
  refine wq_ok srt_Mseed (fr := []) (cuts := [44]) (J := fun pc st => (pc = 44 ∧ ∃ B, sdF A B ∧ B 0 12 = A 31 sl - 3 ∧ B 0 13 = 0 ∧ (∀ j : Int, 0 ≤ j → j < 72 → B 7 j = 0) ∧ st = ([(2, 0), (0, sl), (0, A 31 sl), (9, 0), (9, 0), (9, 0), (9, 0), (9, 0), (9, 0), (9, 0)], [(0, 1)], B))) ?_ 10 36 _ ?_
  · rintro pc st (⟨rfl, B, q3, q4, q5, q6, rfl⟩)
    exact h44 B q3 q4 q5 q6
  · refine ⟨⟨by omega, by omega⟩, ?_⟩
    refine ⟨rM_0 (by omega) km0, ?_⟩
    refine (table_ex h.g (A 31 sl - 3) 0).imp ?_
    rintro ⟨r1, B⟩ (⟨q1, q2, q3⟩ | ⟨q1, q2, q3, q4, q5, q6⟩)
    · exact absurd (show okT (A 31 sl - 3) 0 from ⟨⟨by omega, by omega⟩, by omega, by omega⟩) q3
    · simp only at q1 q3 q4 q5 q6
      subst q1
      exact ⟨rfl, B, q3, q4, q5, q6, rfl⟩
theorem mseed_ex {A : pm_A} {sl : Int} (h : RI A) : Cl pmt (an_sh wM) 183 [(2, 0), (0, sl)] A (msP A sl) := by
  have c48 := pM_48 h.g
  have e48 : A (A 0 48) sl = A 31 sl := by rw [c48]
  have h8 : sl = 0 ∨ sl = 1 → Tm pmt (an_sh wM) o_X10_seed 8 ([(2, 0), (0, sl), (9, 0), (9, 0), (9, 0), (9, 0), (9, 0), (9, 0), (9, 0), (9, 0)], [], A) (msP A sl) := fun hs => by
    have b31 := eM_31 h.g (r := 31) (by omega) kn31 (j := sl) (by omega) (by omega)
    refine wq_ok srt_Mseed (fr := []) (cuts := [13]) (J := fun pc st => (pc = 13 ∧ ∃ y : Int, ((y = 1 ∧ cntF (fcs A sl) 100 = A 31 sl - 3) ∨ (y = 0 ∧ ¬ cntF (fcs A sl) 100 = A 31 sl - 3)) ∧ st = ([(2, 0), (0, sl), (9, 0), (9, 0), (9, 0), (9, 0), (9, 0), (9, 0), (9, 0), (9, 0)], [(0, y)], A))) ?_ 7 8 _ ?_
    · rintro pc st (⟨rfl, y, hy, rfl⟩)
      refine wq_ok srt_Mseed (fr := []) (cuts := [36]) (J := fun pc st => (pc = 36 ∧ (¬ y = 0) ∧ (¬ (A (A 0 48) sl) = 10) ∧ st = ([(2, 0), (0, sl), (0, A (A 0 48) sl), (9, 0), (9, 0), (9, 0), (9, 0), (9, 0), (9, 0), (9, 0)], [], A))) ?_ 17 13 _ ?_
      · rintro pc st (⟨rfl, h0, h1, rfl⟩)
        rw [c48]
        exact smd_36 h ⟨hs, (by rcases hy with ⟨_, e⟩ | ⟨e, _⟩; exact e; omega), by omega⟩
      · refine ⟨fun h0 => ?_, fun h0 => ?_⟩
        · exact ⟨rfl, Or.inl ⟨fun q => absurd q.2.1 (by rcases hy with ⟨e, _⟩ | ⟨_, e⟩; omega; exact e), rfl⟩⟩
        · refine ⟨oM_0 (by omega) km0 48 rfl, ?_⟩
          refine ⟨aM_31 (r := A 0 48) (by rw [c48]; omega) (by rw [c48]; exact kn31) (by omega) (by omega), ?_⟩
          have e1 : A (A 0 48) sl = A 31 sl := by rw [c48]
          refine ⟨fun h1 => ?_, fun h1 => ?_⟩
          · refine ⟨oM_0 (by omega) km0 48 rfl, ?_⟩
            refine ⟨aM_31 (r := A 0 48) (by rw [c48]; omega) (by rw [c48]; exact kn31) (by omega) (by omega), ?_⟩
            have e2 : A (A 0 48) sl = A 31 sl := by rw [c48]
            exact ⟨rfl, h0, h1, rfl⟩
          · exact ⟨rfl, Or.inl ⟨fun q => by have := q.2.2; omega, rfl⟩⟩
    · refine ⟨rM_0 (by omega) km0, ?_⟩
      refine (isCutting_ex h.g (by omega) (by omega)).imp ?_
      rintro ⟨r1, C⟩ ⟨q1, y, q2, hy⟩
      simp only at q1 q2
      subst q1
      subst q2
      exact ⟨rfl, y, hy, rfl⟩
  refine Cl.of (Nat.le_of_ble_eq_true rfl) ?_
  refine wq_ok (full := o_X10_seed) srt_Mseed (fr := []) (cuts := [5]) (J := fun pc st => (pc = 5 ∧ ∃ x : Int, ((x = 1 ∧ (sl = 0 ∨ sl = 1)) ∨ (x = 0 ∧ ¬ (sl = 0 ∨ sl = 1))) ∧ st = ([(2, 0), (0, sl), (9, 0), (9, 0), (9, 0), (9, 0), (9, 0), (9, 0), (9, 0), (9, 0)], [(0, x)], A))) ?_ 7 0 _ ?_
  · rintro pc st (⟨rfl, x, hx, rfl⟩)
    refine wq_ok srt_Mseed (fr := []) (cuts := [8]) (J := fun pc st => (pc = 8 ∧ (¬ x = 0) ∧ st = ([(2, 0), (0, sl), (9, 0), (9, 0), (9, 0), (9, 0), (9, 0), (9, 0), (9, 0), (9, 0)], [], A))) ?_ 7 5 _ ?_
    · rintro pc st (⟨rfl, h0, rfl⟩)
      exact h8 (by rcases hx with ⟨_, e⟩ | ⟨e, _⟩; exact e; omega)
    · refine ⟨fun h0 => ?_, fun h0 => ?_⟩
      · exact ⟨rfl, Or.inl ⟨fun q => absurd q.1 (by rcases hx with ⟨e, _⟩ | ⟨_, e⟩; omega; exact e), rfl⟩⟩
      · exact ⟨rfl, h0, rfl⟩
  · refine ⟨rM_0 (by omega) km0, ?_⟩
    refine (MisSlot_ex).imp ?_
    rintro ⟨r1, C⟩ ⟨q1, x, q2, hx⟩
    simp only at q1 q2
    subst q1
    subst q2
    exact ⟨rfl, x, hx, rfl⟩
theorem dd_table {AX AM : pm_A} {n m : Int} {q r : pm_R} (h : DD AX AM) (hF : gFk wY [300, 301, 10016] AX q.2) (hq : xtP AX n m q) (hr : tb_post AM n m r) : DD q.2 r.2 := by
  rcases hq with ⟨_, q2, no⟩ | ⟨_, ok, q3, q4⟩
  · rcases hr with ⟨_, r2, _⟩ | ⟨_, ok, _⟩
    · rw [q2, r2]; exact h
    · exact absurd ok no
  · rcases hr with ⟨_, _, no⟩ | ⟨_, _, _, r4, r5, _⟩
    · exact absurd ok no
    · refine ⟨?_, by rw [q3, r4], by rw [q4, r5]⟩
      rw [hF 0 1 (by omega) (by omega) (by rw [(kY 1).1]; exact nin rfl)]; exact h.1
theorem dd_seed {AX AM : pm_A} {s : Int} {q r : pm_R} {ms : List Nat} (h : DD AX AM) (hF : gFk wY ms AX q.2) (n1 : ms.contains 1 = false) (hq : xsP AX s (AM 31 s) (fcs AM s) q) (hr : msP AM s r) : DD q.2 r.2 := by
  rcases hq with ⟨no, q2⟩ | ⟨ok, q3, q4⟩
  · rcases hr with ⟨_, r2⟩ | ⟨ok, _⟩
    · rw [q2, r2]; exact h
    · exact absurd ok no
  · rcases hr with ⟨no, _⟩ | ⟨_, r4, r5⟩
    · exact absurd ok no
    · refine ⟨?_, by rw [q3, r4], by rw [q4, r5]⟩
      rw [hF 0 1 (by omega) (by omega) (by rw [(kY 1).1]; exact nin n1)]; exact h.1
