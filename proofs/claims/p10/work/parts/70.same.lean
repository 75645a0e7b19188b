/-! Seed.hasTable, Seed.isSameAs -/
theorem srt_hasTable : pm_srt o_X7_hasTable = true := by decide +kernel
def bool_post (A : pm_A) (r : pm_R) : Prop := ∃ x, r = (some (0, x), A) ∧ 0 ≤ x ∧ x ≤ 1
def ht_H (A : pm_A) (s o c : Int) : Prop := gH wX A ∧ (0 ≤ s ∧ wX.2 s = 1) ∧ (0 ≤ o ∧ wX.2 o = 10) ∧ (0 ≤ c ∧ wX.2 c = 13) ∧ ∀ i, 0 ≤ i → i < A s 0 → 0 ≤ A c i
theorem ht_40 {A : pm_A} {s o c i row : Int} (hh : ht_H A s o c) (H3 : ∀ st, (∃ v5 v6, st = ([(2, s), (2, o), (0, 0), (2, c), (0, i + 1), v5, v6], [], A)) → Tm pmt (an_sh wX) o_X7_hasTable 3 st (bool_post A)) (hi0 : 0 ≤ i) (hi1 : i < 12) (hr0 : 0 ≤ row) (hr1 : row ≤ 11) : ∀ (m : Nat) (j : Int), 0 ≤ j → j ≤ 6 → (6 - j).toNat < m → Tm pmt (an_sh wX) o_X7_hasTable 40 ([(2, s), (2, o), (0, 0), (2, c), (0, i), (0, row), (0, j)], [], A) (bool_post A) := by
  obtain ⟨hA, ⟨hs0, hsk⟩, ⟨ho0, hok⟩, ⟨hc0, hck⟩, hp⟩ := hh
  have p0 := fX_1_0 hA hs0 hsk
  have t0 := fX_1_2 hA hs0 hsk
  intro m
  induction m with
  | zero => intro j _ _ h; omega
  | succ m ih =>
    intro j hj0 hj1 hm
    refine wq_ok srt_hasTable (fr := []) (cuts := [3, 40]) (J := fun pc st => (pc = 40 ∧ j < 6 ∧ st = ([(2, s), (2, o), (0, 0), (2, c), (0, i), (0, row), (0, j + 1)], [], A)) ∨ (pc = 3 ∧ ∃ v5 v6, st = ([(2, s), (2, o), (0, 0), (2, c), (0, i + 1), v5, v6], [], A))) ?_ 60 40 _ ?_
    · rintro pc st (⟨rfl, h, rfl⟩ | ⟨rfl, h⟩)
      · exact ih (j + 1) (by omega) (by omega) (by omega)
      · exact H3 st h
    · refine ⟨oX_1 hs0 hsk 0 rfl, ?_⟩
      refine ⟨fun h => ?_, fun h => ?_⟩
      · refine ⟨⟨by omega, by omega⟩, ?_⟩
        exact Or.inr ⟨rfl, _, _, rfl⟩
      · have cj := hp j hj0 (by omega)
        have cj2 := eX_13 hA hc0 hck hj0 (show j < 6 by omega)
        refine ⟨oX_1 hs0 hsk 2 rfl, ?_⟩
        refine ⟨⟨by omega, by omega⟩, ?_⟩
        refine ⟨⟨by omega, by omega⟩, ?_⟩
        refine ⟨aX_10 t0.1 t0.2 (by omega) (by omega), ?_⟩
        refine ⟨⟨by omega, by omega⟩, ?_⟩
        refine ⟨⟨by omega, by omega⟩, ?_⟩
        refine ⟨aX_13 hc0 hck hj0 (by omega), ?_⟩
        refine ⟨⟨by omega, by omega⟩, ?_⟩
        refine ⟨aX_10 ho0 hok (by omega) (by omega), ?_⟩
        refine ⟨fun h2 => ?_, fun h2 => ?_⟩
        · refine ⟨⟨by omega, by omega⟩, ?_⟩
          exact Or.inl ⟨rfl, by omega, rfl⟩
        · exact ⟨rfl, 0, rfl, by omega, by omega⟩
theorem ht_3 {A : pm_A} {s o c : Int} (hh : ht_H A s o c) : ∀ (m : Nat) (i : Int) (st : pm_S), 0 ≤ i → i ≤ 12 → (12 - i).toNat < m → (∃ v5 v6, st = ([(2, s), (2, o), (0, 0), (2, c), (0, i), v5, v6], [], A)) → Tm pmt (an_sh wX) o_X7_hasTable 3 st (bool_post A) := by
  have hh0 := hh
  obtain ⟨hA, ⟨hs0, hsk⟩, ⟨ho0, hok⟩, ⟨hc0, hck⟩, hp⟩ := hh
  have p0 := fX_1_0 hA hs0 hsk
  have h0 := fX_1_1 hA hs0 hsk
  intro m
  induction m with
  | zero => intro i st _ _ h; omega
  | succ m ih =>
    rintro i st hi0 hi1 hm ⟨v5, v6, rfl⟩
    refine wq_ok srt_hasTable (fr := []) (cuts := [40]) (J := fun pc st => pc = 40 ∧ i < 12 ∧ ∃ row : Int, 0 ≤ row ∧ row ≤ 11 ∧ st = ([(2, s), (2, o), (0, 0), (2, c), (0, i), (0, row), (0, 0)], [], A)) ?_ 60 3 _ ?_
    · rintro pc st ⟨rfl, h, row, r0, r1, rfl⟩
      exact ht_40 hh0 (fun st h => ih (i + 1) st (by omega) (by omega) (by omega) h) hi0 h r0 r1 _ 0 (by omega) (by omega) (Nat.lt_succ_self _)
    · refine ⟨oX_1 hs0 hsk 0 rfl, ?_⟩
      refine ⟨oX_1 hs0 hsk 1 rfl, ?_⟩
      refine ⟨⟨by omega, by omega⟩, ?_⟩
      refine ⟨fun h => ?_, fun h => ?_⟩
      · exact ⟨rfl, 1, rfl, by omega, by omega⟩
      · refine ⟨oX_1 hs0 hsk 0 rfl, ?_⟩
        refine ⟨fun h2 => ?_, fun h2 => ?_⟩
        · exact ⟨rfl, by omega, i, by omega, by omega, rfl⟩
        · have ci := hp i hi0 (by omega)
          have ci2 := eX_13 hA hc0 hck hi0 (show i < 6 by omega)
          refine ⟨aX_13 hc0 hck hi0 (by omega), ?_⟩
          exact ⟨rfl, by omega, A c i, ci, by omega, rfl⟩
theorem hasTable_ct {A : pm_A} {s o c : Int} (hh : ht_H A s o c) : Cl pmt (an_sh wX) 68 [(2, s), (2, o), (0, 0), (2, c)] A (bool_post A) := by
  refine Cl.of (Nat.le_of_ble_eq_true rfl) ?_
  refine wq_ok (full := o_X7_hasTable) srt_hasTable (fr := []) (cuts := [3]) (J := fun pc st => pc = 3 ∧ ∃ v5 v6, st = ([(2, s), (2, o), (0, 0), (2, c), (0, 0), v5, v6], [], A)) ?_ 10 0 _ ?_
  · rintro pc st ⟨rfl, h⟩
    exact ht_3 hh _ 0 st (by omega) (by omega) (Nat.lt_succ_self _) h
  · exact ⟨rfl, _, _, rfl⟩
theorem srt_isSameAs : pm_srt o_X7_isSameAs = true := by decide +kernel
def sm_post (A0 : pm_A) (r : pm_R) : Prop := ∃ x, r.1 = some (0, x) ∧ 0 ≤ x ∧ x ≤ 1 ∧ gH wX r.2 ∧ gFr wX [10013] A0 r.2
def sm_I (A0 : pm_A) (s o i : Int) (st : pm_S) : Prop := ∃ B, st = ([(2, s), (2, o), (0, i)], [], B) ∧ gH wX B ∧ gFr wX [10013] A0 B ∧ 0 ≤ i ∧ i ≤ 6 ∧ ∀ j, 0 ≤ j → j < i → 0 ≤ B (B s 5) j
theorem sm_26 {A0 : pm_A} {s o : Int} (hs0 : 0 ≤ s) (hsk : wX.2 s = 1) (ho0 : 0 ≤ o) (hok : wX.2 o = 1) : ∀ (m : Nat) (i : Int) (st : pm_S), (6 - i).toNat < m → sm_I A0 s o i st → Tm pmt (an_sh wX) o_X7_isSameAs 26 st (sm_post A0) := by
  intro m
  induction m with
  | zero => intro i st h; omega
  | succ m ih =>
    rintro i st hm ⟨B, rfl, hB, hF, hi0, hi1, hp⟩
    have p0 := fX_1_0 hB hs0 hsk
    have l0 := fX_1_4 hB hs0 hsk
    have t0 := fX_1_5 hB hs0 hsk
    have q0 := fX_1_2 hB ho0 hok
    refine wq_ok srt_isSameAs (fr := []) (cuts := [26, 50]) (J := fun pc st => (pc = 50 ∧ i < 6 ∧ ∃ C x, st = ([(2, s), (2, o), (0, i)], [], pm_upd C (C s 5) i x) ∧ gH wX C ∧ gFr wX [10013] A0 C ∧ -1 ≤ x ∧ x ≤ 5 ∧ ∀ j, 0 ≤ j → j < i → 0 ≤ C (C s 5) j)) ?_ 60 26 _ ?_
    · rintro pc st ⟨rfl, hi, C, x, rfl, hC, hCF, x0, x1, hCp⟩
      have t1 := fX_1_5 hC hs0 hsk
      have es := shX_1 hsk
      have et := shX_13 t1.2
      have ne : ¬ s = C s 5 := fun q => by rw [← q, es] at et; cases et
      have hD : gH wX (pm_upd C (C s 5) i x) := uX_13 hC t1.2 x0 x1
      have hDF : gFr wX [10013] A0 (pm_upd C (C s 5) i x) := gFr_upd hCF (mX_13 t1.2 rfl)
      have d5 : pm_upd C (C s 5) i x s 5 = C s 5 := upd_ne ne
      have dx : pm_upd C (C s 5) i x (C s 5) i = x := upd_at
      have dj : ∀ j, 0 ≤ j → j < i → 0 ≤ pm_upd C (C s 5) i x (C s 5) j := fun j j0 j1 => by rw [upd_n2 (by omega)]; exact hCp j j0 j1
      generalize pm_upd C (C s 5) i x = D at hD hDF d5 dx dj
      refine wq_ok srt_isSameAs (fr := []) (cuts := [26]) (J := fun pc st => pc = 26 ∧ sm_I A0 s o (i + 1) st) ?_ 20 50 _ ?_
      · rintro pc st ⟨rfl, h⟩
        exact ih (i + 1) st (by omega) h
      · refine ⟨oX_1 hs0 hsk 5 rfl, ?_⟩
        refine ⟨aX_13 (by rw [d5]; exact t1.1) (by rw [d5]; exact t1.2) hi0 hi, ?_⟩
        refine ⟨fun h => ?_, fun h => ?_⟩
        · refine ⟨⟨by omega, by omega⟩, ?_⟩
          refine ⟨rfl, D, rfl, hD, hDF, by omega, by omega, fun j j0 j1 => ?_⟩
          rw [d5] at h ⊢
          by_cases e : j = i
          · rw [e, dx]; rw [dx] at h; omega
          · exact dj j j0 (by omega)
        · exact ⟨rfl, 0, rfl, by omega, by omega, hD, hDF⟩
    · refine ⟨oX_1 hs0 hsk 0 rfl, ?_⟩
      refine ⟨fun h => ?_, fun h => ?_⟩
      · refine ⟨oX_1 ho0 hok 2 rfl, ?_⟩
        refine ⟨oX_1 hs0 hsk 5 rfl, ?_⟩
        refine ⟨rX_1 hs0 hsk, ?_⟩
        refine (hasTable_ct (s := s) (o := B o 2) (c := B s 5) ⟨hB, ⟨hs0, hsk⟩, q0, t0, fun j j0 j1 => hp j j0 (by omega)⟩).imp ?_
        rintro r ⟨x, rfl, x0, x1⟩
        refine ⟨?_, x, rfl, x0, x1, hB, hF⟩
        show (Nat.beq 0 0 && (decide (x = 0) || decide (x = 1))) = true
        simp only [Bool.and_eq_true, Bool.or_eq_true, decide_eq_true_eq]
        exact ⟨rfl, by omega⟩
      · have li := eX_12 hB l0.1 l0.2 hi0 (show i < 6 by omega)
        refine ⟨oX_1 hs0 hsk 5 rfl, ?_⟩
        refine ⟨oX_1 hs0 hsk 4 rfl, ?_⟩
        refine ⟨aX_12 l0.1 l0.2 hi0 (by omega), ?_⟩
        refine ⟨rX_1 ho0 hok, ?_⟩
        refine Cl.gct q_X7_placeOf_0 (a := [(2, o), (2, B (B s 4) i)]) ⟨gv_ref ho0 hok, gv_ref li.1 li.2, trivial⟩ hB ?_
        rintro ⟨r, C⟩ hr hC1 hC2
        simp only at hr hC1 hC2
        match r, hr with
        | some v, ⟨hv, _⟩ =>
          obtain ⟨x, rfl⟩ := gI (a := (0, -1, 5)) rfl hv
          have hx := (gv0 (a := (0, -1, 5)) rfl).mp hv
          have e5 : C s 5 = B s 5 := hC2 s 5 hs0 (by omega) (fun h => by cases h)
          have t1 := fX_1_5 hC1 hs0 hsk
          refine ⟨tX_13 (by rw [← e5]; exact t1.1) (by rw [← e5]; exact t1.2) hi0 (by omega) rfl, ?_⟩
          refine ⟨rfl, by omega, C, x, ?_, hC1, gFr_tr hF hC2 (fun y hy => by cases hy), hx.2.1, hx.2.2, fun j j0 j1 => ?_⟩
          · rw [e5]
          · rw [e5, hC2 (B s 5) j t0.1 j0 (fun h => by cases h)]; exact hp j j0 j1
theorem q_X7_isSameAs_0 : gCt wX pmt 70 Q_X7_isSameAs_0 := by
  rintro l A ⟨hl, hA⟩
  match l, hl with
  | [x, y], ⟨h1, h2, _⟩ =>
    obtain ⟨s, rfl, hs0, hsk⟩ := gRf (a := (2, 1, 0)) rfl h1
    obtain ⟨o, rfl, ho0, hok⟩ := gRf (a := (2, 1, 0)) rfl h2
    have done : ∀ r, sm_post A r → gR wX Q_X7_isSameAs_0.2.1 r.1 ∧ gH wX r.2 ∧ gFr wX Q_X7_isSameAs_0.2.2 A r.2 := by
      rintro ⟨r, B⟩ ⟨x, e, k1, k2, k3, k4⟩
      simp only at e k3 k4
      subst e
      exact ⟨⟨⟨rfl, k1, k2⟩, Nat.lt_of_sub_eq_succ rfl⟩, k3, k4⟩
    refine Cl.imp (Q := sm_post A) ?_ done
    refine Cl.of (Nat.le_of_ble_eq_true rfl) ?_
    have no : sm_post A (some (0, 0), A) := ⟨0, rfl, by omega, by omega, hA, fun _ _ _ _ _ => rfl⟩
    refine wq_ok (full := o_X7_isSameAs) srt_isSameAs (fr := []) (cuts := [26]) (J := fun pc st => pc = 26 ∧ sm_I A s o 0 st) ?_ 40 0 _ ?_
    · rintro pc st ⟨rfl, h⟩
      exact sm_26 hs0 hsk ho0 hok _ 0 st (Nat.lt_succ_self _) h
    · refine ⟨oX_1 hs0 hsk 0 rfl, ?_⟩
      refine ⟨oX_1 ho0 hok 0 rfl, ?_⟩
      refine ⟨fun h => ?_, fun h => ?_⟩
      · exact ⟨rfl, no⟩
      · refine ⟨oX_1 hs0 hsk 1 rfl, ?_⟩
        refine ⟨oX_1 ho0 hok 1 rfl, ?_⟩
        refine ⟨fun h2 => ?_, fun h2 => ?_⟩
        · exact ⟨rfl, A, rfl, hA, fun _ _ _ _ _ => rfl, by omega, by omega, fun j j0 j1 => by omega⟩
        · exact ⟨rfl, no⟩
