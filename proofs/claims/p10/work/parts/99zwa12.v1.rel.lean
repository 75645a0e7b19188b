/-! what each call writes; the rings of both sides stay alike -/
theorem shY : an_sh wY = an_sh wX := by
  funext r
  unfold an_sh
  show (match (KX.set 8 (0, 3, 3, [(0, (-2147483648), 64), (2, 35, 0), (2, 36, 0)]) ++ [(0, 6, 2, [(0, 4, 10), (1, (-9223372036854775808), 9223372036854775807)])])[if r = 419 then 36 else wX.2 r]? with
    | some k => (k.1, k.2.1, k.2.2.1)
    | none => (2, 0, 0)) = match KX[wX.2 r]? with
    | some k => (k.1, k.2.1, k.2.2.1)
    | none => (2, 0, 0)
  by_cases e : r = 419
  · subst e
    decide
  · rw [if_neg e]
    have key : ∀ i : Nat, i < 36 → (match (KX.set 8 (0, 3, 3, [(0, (-2147483648), 64), (2, 35, 0), (2, 36, 0)]) ++ [(0, 6, 2, [(0, 4, 10), (1, (-9223372036854775808), 9223372036854775807)])])[i]? with
      | some k => (k.1, k.2.1, k.2.2.1)
      | none => (2, 0, 0)) = match KX[i]? with
      | some k => (k.1, k.2.1, k.2.2.1)
      | none => (2, 0, 0) := by
      intro i hi
      have : ∀ j : Fin 36, (match (KX.set 8 (0, 3, 3, [(0, (-2147483648), 64), (2, 35, 0), (2, 36, 0)]) ++ [(0, 6, 2, [(0, 4, 10), (1, (-9223372036854775808), 9223372036854775807)])])[j.1]? with
        | some k => (k.1, k.2.1, k.2.2.1)
        | none => ((2, 0, 0) : Nat × Nat × Int)) = match KX[j.1]? with
        | some k => (k.1, k.2.1, k.2.2.1)
        | none => (2, 0, 0) := by decide +kernel
      exact this ⟨i, hi⟩
    by_cases l : wX.2 r < 36
    · exact key _ l
    · have hw : wX.2 r = 9999 := by
        show (if r < 0 then 9999 else kdXl.getD r.toNat 9999) = 9999
        have l : ¬ (if r < 0 then 9999 else kdXl.getD r.toNat 9999) < 36 := l
        by_cases r0 : r < 0
        · rw [if_pos r0]
        · rw [if_neg r0] at l ⊢
          by_cases lr : r.toNat < kdXl.length
          · have hall : kdXl.all (fun x => decide (x < 36)) = true := by decide +kernel
            have hm := List.all_eq_true.mp hall (kdXl[r.toNat]) (List.getElem_mem lr)
            rw [List.getD_eq_getElem?_getD, List.getElem?_eq_getElem lr] at l
            exact absurd (of_decide_eq_true hm) l
          · exact getD_ge (by omega)
      rw [hw]
      rfl
theorem fx_table {n : Nat} {A : pm_A} {a1 a2 : Int} {r : pm_R} (h : pm_call pmt (an_sh wX) n 111 [(2, 0), (0, a1), (0, a2)] A = some r) (hK : gK wY A) : gK wY r.2 ∧ gFk wY [300, 301, 10016] A r.2 := by
  rw [← shY] at h
  exact (ksX n 111 ([3, 1, 1], 2, [300, 301, 10016]) (List.contains_iff_mem.mp (by decide +kernel)) [(2, 0), (0, a1), (0, a2)] A r ⟨⟨rfl, Int.le_refl 0, by decide⟩, (by show ¬ (0 : Nat) = 1; decide), (by show ¬ (0 : Nat) = 1; decide), trivial⟩ hK h).2
theorem fm_table {n : Nat} {A : pm_A} {a1 a2 : Int} {r : pm_R} (h : pm_call pmt (an_sh wM) n 187 [(2, 0), (0, a1), (0, a2)] A = some r) (hK : gK wM A) : gK wM r.2 ∧ gFk wM [12, 13, 10007] A r.2 := by
  exact (ksM n 187 ([3, 1, 1], 2, [12, 13, 10007]) (List.contains_iff_mem.mp (by decide +kernel)) [(2, 0), (0, a1), (0, a2)] A r ⟨⟨rfl, Int.le_refl 0, by decide⟩, (by show ¬ (0 : Nat) = 1; decide), (by show ¬ (0 : Nat) = 1; decide), trivial⟩ hK h).2
theorem fx_arrows {n : Nat} {A : pm_A} {a1 a2 a3 : Int} {r : pm_R} (h : pm_call pmt (an_sh wX) n 84 [(2, 0), (0, a1), (0, a2), (0, a3)] A = some r) (hK : gK wY A) : gK wY r.2 ∧ gFk wY [10016] A r.2 := by
  rw [← shY] at h
  exact (ksX n 84 ([3, 1, 1, 1], 2, [10016]) (List.contains_iff_mem.mp (by decide +kernel)) [(2, 0), (0, a1), (0, a2), (0, a3)] A r ⟨⟨rfl, Int.le_refl 0, by decide⟩, (by show ¬ (0 : Nat) = 1; decide), (by show ¬ (0 : Nat) = 1; decide), (by show ¬ (0 : Nat) = 1; decide), trivial⟩ hK h).2
theorem fm_arrows {n : Nat} {A : pm_A} {a1 a2 a3 : Int} {r : pm_R} (h : pm_call pmt (an_sh wM) n 126 [(2, 0), (0, a1), (0, a2), (0, a3)] A = some r) (hK : gK wM A) : gK wM r.2 ∧ gFk wM [10007] A r.2 := by
  exact (ksM n 126 ([3, 1, 1, 1], 2, [10007]) (List.contains_iff_mem.mp (by decide +kernel)) [(2, 0), (0, a1), (0, a2), (0, a3)] A r ⟨⟨rfl, Int.le_refl 0, by decide⟩, (by show ¬ (0 : Nat) = 1; decide), (by show ¬ (0 : Nat) = 1; decide), (by show ¬ (0 : Nat) = 1; decide), trivial⟩ hK h).2
theorem fx_begin {n : Nat} {A : pm_A} {r : pm_R} (h : pm_call pmt (an_sh wX) n 87 [(2, 0)] A = some r) (hK : gK wY A) : gK wY r.2 ∧ gFk wY [4, 100, 101, 200, 201, 10010, 10011, 10014, 10015, 10017] A r.2 := by
  rw [← shY] at h
  exact (ksX n 87 ([3], 2, [4, 100, 101, 200, 201, 10010, 10011, 10014, 10015, 10017]) (List.contains_iff_mem.mp (by decide +kernel)) [(2, 0)] A r ⟨⟨rfl, Int.le_refl 0, by decide⟩, trivial⟩ hK h).2
theorem fm_begin {n : Nat} {A : pm_A} {r : pm_R} (h : pm_call pmt (an_sh wM) n 129 [(2, 0)] A = some r) (hK : gK wM A) : gK wM r.2 ∧ gFk wM [7, 8, 10, 10001, 10002, 10003, 10005, 10008, 10009, 10010, 10011] A r.2 := by
  exact (ksM n 129 ([3], 2, [7, 8, 10, 10001, 10002, 10003, 10005, 10008, 10009, 10010, 10011]) (List.contains_iff_mem.mp (by decide +kernel)) [(2, 0)] A r ⟨⟨rfl, Int.le_refl 0, by decide⟩, trivial⟩ hK h).2
theorem fx_size {n : Nat} {A : pm_A} {a1 : Int} {r : pm_R} (h : pm_call pmt (an_sh wX) n 108 [(2, 0), (0, a1)] A = some r) (hK : gK wY A) : gK wY r.2 ∧ gFk wY [] A r.2 := by
  rw [← shY] at h
  exact (ksX n 108 ([3, 1], 2, []) (List.contains_iff_mem.mp (by decide +kernel)) [(2, 0), (0, a1)] A r ⟨⟨rfl, Int.le_refl 0, by decide⟩, (by show ¬ (0 : Nat) = 1; decide), trivial⟩ hK h).2
theorem fm_size {n : Nat} {A : pm_A} {a1 : Int} {r : pm_R} (h : pm_call pmt (an_sh wM) n 184 [(2, 0), (0, a1)] A = some r) (hK : gK wM A) : gK wM r.2 ∧ gFk wM [] A r.2 := by
  exact (ksM n 184 ([3, 1], 2, []) (List.contains_iff_mem.mp (by decide +kernel)) [(2, 0), (0, a1)] A r ⟨⟨rfl, Int.le_refl 0, by decide⟩, (by show ¬ (0 : Nat) = 1; decide), trivial⟩ hK h).2
theorem fx_turn {n : Nat} {A : pm_A} {a1 : Int} {r : pm_R} (h : pm_call pmt (an_sh wX) n 115 [(2, 0), (0, a1)] A = some r) (hK : gK wY A) : gK wY r.2 ∧ gFk wY [4, 200, 201, 400, 10010, 10012, 10014, 10015, 10018, 10019] A r.2 := by
  rw [← shY] at h
  exact (ksX n 115 ([3, 1], 2, [4, 200, 201, 400, 10010, 10012, 10014, 10015, 10018, 10019]) (List.contains_iff_mem.mp (by decide +kernel)) [(2, 0), (0, a1)] A r ⟨⟨rfl, Int.le_refl 0, by decide⟩, (by show ¬ (0 : Nat) = 1; decide), trivial⟩ hK h).2
theorem fm_turn {n : Nat} {A : pm_A} {a1 : Int} {r : pm_R} (h : pm_call pmt (an_sh wM) n 198 [(2, 0), (0, a1)] A = some r) (hK : gK wM A) : gK wM r.2 ∧ gFk wM [4, 5, 10, 10001, 10002, 10003, 10004, 10005, 10006, 10012] A r.2 := by
  exact (ksM n 198 ([3, 1], 2, [4, 5, 10, 10001, 10002, 10003, 10004, 10005, 10006, 10012]) (List.contains_iff_mem.mp (by decide +kernel)) [(2, 0), (0, a1)] A r ⟨⟨rfl, Int.le_refl 0, by decide⟩, (by show ¬ (0 : Nat) = 1; decide), trivial⟩ hK h).2
theorem fx_back {n : Nat} {A : pm_A} {r : pm_R} (h : pm_call pmt (an_sh wX) n 86 [(2, 0)] A = some r) (hK : gK wY A) : gK wY r.2 ∧ gFk wY [4, 200, 201, 400, 10010, 10012, 10014, 10015, 10018] A r.2 := by
  rw [← shY] at h
  exact (ksX n 86 ([3], 2, [4, 200, 201, 400, 10010, 10012, 10014, 10015, 10018]) (List.contains_iff_mem.mp (by decide +kernel)) [(2, 0)] A r ⟨⟨rfl, Int.le_refl 0, by decide⟩, trivial⟩ hK h).2
theorem fm_back {n : Nat} {A : pm_A} {r : pm_R} (h : pm_call pmt (an_sh wM) n 128 [(2, 0)] A = some r) (hK : gK wM A) : gK wM r.2 ∧ gFk wM [4, 5, 10, 10001, 10002, 10003, 10004, 10005, 10012] A r.2 := by
  exact (ksM n 128 ([3], 2, [4, 5, 10, 10001, 10002, 10003, 10004, 10005, 10012]) (List.contains_iff_mem.mp (by decide +kernel)) [(2, 0)] A r ⟨⟨rfl, Int.le_refl 0, by decide⟩, trivial⟩ hK h).2
theorem fx_b {n : Nat} {A : pm_A} {a1 a2 : Int} {r : pm_R} (h : pm_call pmt (an_sh wX) n 85 [(2, 0), (0, a1), (0, a2)] A = some r) (hK : gK wY A) : gK wY r.2 ∧ gFk wY [] A r.2 := by
  rw [← shY] at h
  exact (ksX n 85 ([3, 1, 1], 2, []) (List.contains_iff_mem.mp (by decide +kernel)) [(2, 0), (0, a1), (0, a2)] A r ⟨⟨rfl, Int.le_refl 0, by decide⟩, (by show ¬ (0 : Nat) = 1; decide), (by show ¬ (0 : Nat) = 1; decide), trivial⟩ hK h).2
theorem fm_b {n : Nat} {A : pm_A} {a1 a2 : Int} {r : pm_R} (h : pm_call pmt (an_sh wM) n 127 [(2, 0), (0, a1), (0, a2)] A = some r) (hK : gK wM A) : gK wM r.2 ∧ gFk wM [] A r.2 := by
  exact (ksM n 127 ([3, 1, 1], 2, []) (List.contains_iff_mem.mp (by decide +kernel)) [(2, 0), (0, a1), (0, a2)] A r ⟨⟨rfl, Int.le_refl 0, by decide⟩, (by show ¬ (0 : Nat) = 1; decide), (by show ¬ (0 : Nat) = 1; decide), trivial⟩ hK h).2
theorem fx_terms {n : Nat} {A : pm_A} {a1 : Int} {r : pm_R} (h : pm_call pmt (an_sh wX) n 114 [(2, 0), (0, a1)] A = some r) (hK : gK wY A) : gK wY r.2 ∧ gFk wY [] A r.2 := by
  rw [← shY] at h
  exact (ksX n 114 ([3, 1], 2, []) (List.contains_iff_mem.mp (by decide +kernel)) [(2, 0), (0, a1)] A r ⟨⟨rfl, Int.le_refl 0, by decide⟩, (by show ¬ (0 : Nat) = 1; decide), trivial⟩ hK h).2
theorem fm_terms {n : Nat} {A : pm_A} {a1 : Int} {r : pm_R} (h : pm_call pmt (an_sh wM) n 194 [(2, 0), (0, a1)] A = some r) (hK : gK wM A) : gK wM r.2 ∧ gFk wM [] A r.2 := by
  exact (ksM n 194 ([3, 1], 2, []) (List.contains_iff_mem.mp (by decide +kernel)) [(2, 0), (0, a1)] A r ⟨⟨rfl, Int.le_refl 0, by decide⟩, (by show ¬ (0 : Nat) = 1; decide), trivial⟩ hK h).2
theorem fx_term {n : Nat} {A : pm_A} {a1 a2 a3 : Int} {r : pm_R} (h : pm_call pmt (an_sh wX) n 113 [(2, 0), (0, a1), (0, a2), (0, a3)] A = some r) (hK : gK wY A) : gK wY r.2 ∧ gFk wY [] A r.2 := by
  rw [← shY] at h
  exact (ksX n 113 ([3, 1, 1, 1], 3, []) (List.contains_iff_mem.mp (by decide +kernel)) [(2, 0), (0, a1), (0, a2), (0, a3)] A r ⟨⟨rfl, Int.le_refl 0, by decide⟩, (by show ¬ (0 : Nat) = 1; decide), (by show ¬ (0 : Nat) = 1; decide), (by show ¬ (0 : Nat) = 1; decide), trivial⟩ hK h).2
theorem fm_term {n : Nat} {A : pm_A} {a1 a2 a3 : Int} {r : pm_R} (h : pm_call pmt (an_sh wM) n 193 [(2, 0), (0, a1), (0, a2), (0, a3)] A = some r) (hK : gK wM A) : gK wM r.2 ∧ gFk wM [] A r.2 := by
  exact (ksM n 193 ([3, 1, 1, 1], 3, []) (List.contains_iff_mem.mp (by decide +kernel)) [(2, 0), (0, a1), (0, a2), (0, a3)] A r ⟨⟨rfl, Int.le_refl 0, by decide⟩, (by show ¬ (0 : Nat) = 1; decide), (by show ¬ (0 : Nat) = 1; decide), (by show ¬ (0 : Nat) = 1; decide), trivial⟩ hK h).2
theorem fx_least {n : Nat} {A : pm_A} {a1 a2 : Int} {r : pm_R} (h : pm_call pmt (an_sh wX) n 100 [(2, 0), (0, a1), (0, a2)] A = some r) (hK : gK wY A) : gK wY r.2 ∧ gFk wY [] A r.2 := by
  rw [← shY] at h
  exact (ksX n 100 ([3, 1, 1], 2, []) (List.contains_iff_mem.mp (by decide +kernel)) [(2, 0), (0, a1), (0, a2)] A r ⟨⟨rfl, Int.le_refl 0, by decide⟩, (by show ¬ (0 : Nat) = 1; decide), (by show ¬ (0 : Nat) = 1; decide), trivial⟩ hK h).2
theorem fm_least {n : Nat} {A : pm_A} {a1 a2 : Int} {r : pm_R} (h : pm_call pmt (an_sh wM) n 162 [(2, 0), (0, a1), (0, a2)] A = some r) (hK : gK wM A) : gK wM r.2 ∧ gFk wM [] A r.2 := by
  exact (ksM n 162 ([3, 1, 1], 2, []) (List.contains_iff_mem.mp (by decide +kernel)) [(2, 0), (0, a1), (0, a2)] A r ⟨⟨rfl, Int.le_refl 0, by decide⟩, (by show ¬ (0 : Nat) = 1; decide), (by show ¬ (0 : Nat) = 1; decide), trivial⟩ hK h).2
theorem fx_ones {n : Nat} {A : pm_A} {a1 : Int} {r : pm_R} (h : pm_call pmt (an_sh wX) n 101 [(2, 0), (0, a1)] A = some r) (hK : gK wY A) : gK wY r.2 ∧ gFk wY [] A r.2 := by
  rw [← shY] at h
  exact (ksX n 101 ([3, 1], 3, []) (List.contains_iff_mem.mp (by decide +kernel)) [(2, 0), (0, a1)] A r ⟨⟨rfl, Int.le_refl 0, by decide⟩, (by show ¬ (0 : Nat) = 1; decide), trivial⟩ hK h).2
theorem fm_ones {n : Nat} {A : pm_A} {a1 : Int} {r : pm_R} (h : pm_call pmt (an_sh wM) n 169 [(2, 0), (0, a1)] A = some r) (hK : gK wM A) : gK wM r.2 ∧ gFk wM [] A r.2 := by
  exact (ksM n 169 ([3, 1], 3, []) (List.contains_iff_mem.mp (by decide +kernel)) [(2, 0), (0, a1)] A r ⟨⟨rfl, Int.le_refl 0, by decide⟩, (by show ¬ (0 : Nat) = 1; decide), trivial⟩ hK h).2
theorem fx_keep {n : Nat} {A : pm_A} {a1 : Int} {r : pm_R} (h : pm_call pmt (an_sh wX) n 99 [(2, 0), (0, a1)] A = some r) (hK : gK wY A) : gK wY r.2 ∧ gFk wY [100, 101, 200, 201, 10010, 10011, 10014, 10015] A r.2 := by
  rw [← shY] at h
  exact (ksX n 99 ([3, 1], 2, [100, 101, 200, 201, 10010, 10011, 10014, 10015]) (List.contains_iff_mem.mp (by decide +kernel)) [(2, 0), (0, a1)] A r ⟨⟨rfl, Int.le_refl 0, by decide⟩, (by show ¬ (0 : Nat) = 1; decide), trivial⟩ hK h).2
theorem fm_keep {n : Nat} {A : pm_A} {a1 : Int} {r : pm_R} (h : pm_call pmt (an_sh wM) n 160 [(2, 0), (0, a1)] A = some r) (hK : gK wM A) : gK wM r.2 ∧ gFk wM [10001, 10002, 10003, 10013, 10014, 10015] A r.2 := by
  exact (ksM n 160 ([3, 1], 2, [10001, 10002, 10003, 10013, 10014, 10015]) (List.contains_iff_mem.mp (by decide +kernel)) [(2, 0), (0, a1)] A r ⟨⟨rfl, Int.le_refl 0, by decide⟩, (by show ¬ (0 : Nat) = 1; decide), trivial⟩ hK h).2
theorem fx_same {n : Nat} {A : pm_A} {a1 : Int} {r : pm_R} (h : pm_call pmt (an_sh wX) n 106 [(2, 0), (0, a1)] A = some r) (hK : gK wY A) : gK wY r.2 ∧ gFk wY [10013] A r.2 := by
  rw [← shY] at h
  exact (ksX n 106 ([3, 1], 2, [10013]) (List.contains_iff_mem.mp (by decide +kernel)) [(2, 0), (0, a1)] A r ⟨⟨rfl, Int.le_refl 0, by decide⟩, (by show ¬ (0 : Nat) = 1; decide), trivial⟩ hK h).2
theorem fm_same {n : Nat} {A : pm_A} {a1 : Int} {r : pm_R} (h : pm_call pmt (an_sh wM) n 180 [(2, 0), (0, a1)] A = some r) (hK : gK wM A) : gK wM r.2 ∧ gFk wM [10016] A r.2 := by
  exact (ksM n 180 ([3, 1], 2, [10016]) (List.contains_iff_mem.mp (by decide +kernel)) [(2, 0), (0, a1)] A r ⟨⟨rfl, Int.le_refl 0, by decide⟩, (by show ¬ (0 : Nat) = 1; decide), trivial⟩ hK h).2
theorem fx_all {n : Nat} {A : pm_A} {r : pm_R} (h : pm_call pmt (an_sh wX) n 83 [(2, 0)] A = some r) (hK : gK wY A) : gK wY r.2 ∧ gFk wY [10, 100, 101, 200, 201, 501, 507, 510, 511, 513, 514, 10010, 10012, 10014, 10015, 10017, 10018, 10019, 10023, 10024, 10025, 10026, 10027, 10028, 10029] A r.2 := by
  rw [← shY] at h
  exact (ksX n 83 ([3], 2, [10, 100, 101, 200, 201, 501, 507, 510, 511, 513, 514, 10010, 10012, 10014, 10015, 10017, 10018, 10019, 10023, 10024, 10025, 10026, 10027, 10028, 10029]) (List.contains_iff_mem.mp (by decide +kernel)) [(2, 0)] A r ⟨⟨rfl, Int.le_refl 0, by decide⟩, trivial⟩ hK h).2
theorem fm_all {n : Nat} {A : pm_A} {r : pm_R} (h : pm_call pmt (an_sh wM) n 123 [(2, 0)] A = some r) (hK : gK wM A) : gK wM r.2 ∧ gFk wM [4, 5, 24, 25, 26, 29, 30, 36, 10001, 10002, 10003, 10004, 10005, 10012, 10016, 10017, 10018, 10019, 10020, 10021, 10022, 10023] A r.2 := by
  exact (ksM n 123 ([3], 2, [4, 5, 24, 25, 26, 29, 30, 36, 10001, 10002, 10003, 10004, 10005, 10012, 10016, 10017, 10018, 10019, 10020, 10021, 10022, 10023]) (List.contains_iff_mem.mp (by decide +kernel)) [(2, 0)] A r ⟨⟨rfl, Int.le_refl 0, by decide⟩, trivial⟩ hK h).2
theorem fx_what {n : Nat} {A : pm_A} {a1 a2 : Int} {r : pm_R} (h : pm_call pmt (an_sh wX) n 120 [(2, 0), (0, a1), (0, a2)] A = some r) (hK : gK wY A) : gK wY r.2 ∧ gFk wY [] A r.2 := by
  rw [← shY] at h
  exact (ksX n 120 ([3, 1, 1], 3, []) (List.contains_iff_mem.mp (by decide +kernel)) [(2, 0), (0, a1), (0, a2)] A r ⟨⟨rfl, Int.le_refl 0, by decide⟩, (by show ¬ (0 : Nat) = 1; decide), (by show ¬ (0 : Nat) = 1; decide), trivial⟩ hK h).2
theorem fm_what {n : Nat} {A : pm_A} {a1 a2 : Int} {r : pm_R} (h : pm_call pmt (an_sh wM) n 203 [(2, 0), (0, a1), (0, a2)] A = some r) (hK : gK wM A) : gK wM r.2 ∧ gFk wM [] A r.2 := by
  exact (ksM n 203 ([3, 1, 1], 3, []) (List.contains_iff_mem.mp (by decide +kernel)) [(2, 0), (0, a1), (0, a2)] A r ⟨⟨rfl, Int.le_refl 0, by decide⟩, (by show ¬ (0 : Nat) = 1; decide), (by show ¬ (0 : Nat) = 1; decide), trivial⟩ hK h).2
theorem fx_finite {n : Nat} {A : pm_A} {r : pm_R} (h : pm_call pmt (an_sh wX) n 90 [(2, 0)] A = some r) (hK : gK wY A) : gK wY r.2 ∧ gFk wY [605, 700, 701, 704, 705, 10010, 10030, 10031, 10032, 10033] A r.2 := by
  rw [← shY] at h
  exact (ksX n 90 ([3], 2, [605, 700, 701, 704, 705, 10010, 10030, 10031, 10032, 10033]) (List.contains_iff_mem.mp (by decide +kernel)) [(2, 0)] A r ⟨⟨rfl, Int.le_refl 0, by decide⟩, trivial⟩ hK h).2
theorem fm_finite {n : Nat} {A : pm_A} {r : pm_R} (h : pm_call pmt (an_sh wM) n 141 [(2, 0)] A = some r) (hK : gK wM A) : gK wM r.2 ∧ gFk wM [40, 41, 42, 10001, 10002, 10003, 10005, 10012, 10022, 10024, 10025, 10026, 10027, 10028, 10029] A r.2 := by
  exact (ksM n 141 ([3], 2, [40, 41, 42, 10001, 10002, 10003, 10005, 10012, 10022, 10024, 10025, 10026, 10027, 10028, 10029]) (List.contains_iff_mem.mp (by decide +kernel)) [(2, 0)] A r ⟨⟨rfl, Int.le_refl 0, by decide⟩, trivial⟩ hK h).2
theorem fx_step {n : Nat} {A : pm_A} {a1 : Int} {r : pm_R} (h : pm_call pmt (an_sh wX) n 110 [(2, 0), (0, a1)] A = some r) (hK : gK wY A) : gK wY r.2 ∧ gFk wY [] A r.2 := by
  rw [← shY] at h
  exact (ksX n 110 ([3, 1], 2, []) (List.contains_iff_mem.mp (by decide +kernel)) [(2, 0), (0, a1)] A r ⟨⟨rfl, Int.le_refl 0, by decide⟩, (by show ¬ (0 : Nat) = 1; decide), trivial⟩ hK h).2
theorem fm_step {n : Nat} {A : pm_A} {a1 : Int} {r : pm_R} (h : pm_call pmt (an_sh wM) n 185 [(2, 0), (0, a1)] A = some r) (hK : gK wM A) : gK wM r.2 ∧ gFk wM [] A r.2 := by
  exact (ksM n 185 ([3, 1], 2, []) (List.contains_iff_mem.mp (by decide +kernel)) [(2, 0), (0, a1)] A r ⟨⟨rfl, Int.le_refl 0, by decide⟩, (by show ¬ (0 : Nat) = 1; decide), trivial⟩ hK h).2
theorem fx_tables {n : Nat} {A : pm_A} {r : pm_R} (h : pm_call pmt (an_sh wX) n 112 [(2, 0)] A = some r) (hK : gK wY A) : gK wY r.2 ∧ gFk wY [] A r.2 := by
  rw [← shY] at h
  exact (ksX n 112 ([3], 2, []) (List.contains_iff_mem.mp (by decide +kernel)) [(2, 0)] A r ⟨⟨rfl, Int.le_refl 0, by decide⟩, trivial⟩ hK h).2
theorem fm_tables {n : Nat} {A : pm_A} {r : pm_R} (h : pm_call pmt (an_sh wM) n 189 [(2, 0)] A = some r) (hK : gK wM A) : gK wM r.2 ∧ gFk wM [] A r.2 := by
  exact (ksM n 189 ([3], 2, []) (List.contains_iff_mem.mp (by decide +kernel)) [(2, 0)] A r ⟨⟨rfl, Int.le_refl 0, by decide⟩, trivial⟩ hK h).2
theorem fx_row {n : Nat} {A : pm_A} {a1 a2 a3 : Int} {r : pm_R} (h : pm_call pmt (an_sh wX) n 105 [(2, 0), (0, a1), (0, a2), (0, a3)] A = some r) (hK : gK wY A) : gK wY r.2 ∧ gFk wY [7, 10021] A r.2 := by
  rw [← shY] at h
  exact (ksX n 105 ([3, 1, 1, 1], 2, [7, 10021]) (List.contains_iff_mem.mp (by decide +kernel)) [(2, 0), (0, a1), (0, a2), (0, a3)] A r ⟨⟨rfl, Int.le_refl 0, by decide⟩, (by show ¬ (0 : Nat) = 1; decide), (by show ¬ (0 : Nat) = 1; decide), (by show ¬ (0 : Nat) = 1; decide), trivial⟩ hK h).2
theorem fm_row {n : Nat} {A : pm_A} {a1 a2 a3 : Int} {r : pm_R} (h : pm_call pmt (an_sh wM) n 179 [(2, 0), (0, a1), (0, a2), (0, a3)] A = some r) (hK : gK wM A) : gK wM r.2 ∧ gFk wM [46, 10030] A r.2 := by
  exact (ksM n 179 ([3, 1, 1, 1], 2, [46, 10030]) (List.contains_iff_mem.mp (by decide +kernel)) [(2, 0), (0, a1), (0, a2), (0, a3)] A r ⟨⟨rfl, Int.le_refl 0, by decide⟩, (by show ¬ (0 : Nat) = 1; decide), (by show ¬ (0 : Nat) = 1; decide), (by show ¬ (0 : Nat) = 1; decide), trivial⟩ hK h).2
theorem fx_order {n : Nat} {A : pm_A} {r : pm_R} (h : pm_call pmt (an_sh wX) n 102 [(2, 0)] A = some r) (hK : gK wY A) : gK wY r.2 ∧ gFk wY [100, 101, 200, 201, 400, 10010, 10011, 10012, 10013, 10014, 10015, 10018] A r.2 := by
  rw [← shY] at h
  exact (ksX n 102 ([3], 2, [100, 101, 200, 201, 400, 10010, 10011, 10012, 10013, 10014, 10015, 10018]) (List.contains_iff_mem.mp (by decide +kernel)) [(2, 0)] A r ⟨⟨rfl, Int.le_refl 0, by decide⟩, trivial⟩ hK h).2
theorem fm_order {n : Nat} {A : pm_A} {r : pm_R} (h : pm_call pmt (an_sh wM) n 170 [(2, 0)] A = some r) (hK : gK wM A) : gK wM r.2 ∧ gFk wM [4, 5, 10001, 10002, 10003, 10004, 10005, 10012, 10016, 10022] A r.2 := by
  exact (ksM n 170 ([3], 2, [4, 5, 10001, 10002, 10003, 10004, 10005, 10012, 10016, 10022]) (List.contains_iff_mem.mp (by decide +kernel)) [(2, 0)] A r ⟨⟨rfl, Int.le_refl 0, by decide⟩, trivial⟩ hK h).2
theorem fx_ring {n : Nat} {A : pm_A} {a1 a2 : Int} {r : pm_R} (h : pm_call pmt (an_sh wX) n 103 [(2, 0), (0, a1), (0, a2)] A = some r) (hK : gK wY A) : gK wY r.2 ∧ gFk wY [900, 901] A r.2 := by
  rw [← shY] at h
  exact (ksX n 103 ([3, 1, 1], 2, [900, 901]) (List.contains_iff_mem.mp (by decide +kernel)) [(2, 0), (0, a1), (0, a2)] A r ⟨⟨rfl, Int.le_refl 0, by decide⟩, (by show ¬ (0 : Nat) = 1; decide), (by show ¬ (0 : Nat) = 1; decide), trivial⟩ hK h).2
theorem fm_ring {n : Nat} {A : pm_A} {a1 a2 : Int} {r : pm_R} (h : pm_call pmt (an_sh wM) n 177 [(2, 0), (0, a1), (0, a2)] A = some r) (hK : gK wM A) : gK wM r.2 ∧ gFk wM [10031, 10032] A r.2 := by
  exact (ksM n 177 ([3, 1, 1], 2, [10031, 10032]) (List.contains_iff_mem.mp (by decide +kernel)) [(2, 0), (0, a1), (0, a2)] A r ⟨⟨rfl, Int.le_refl 0, by decide⟩, (by show ¬ (0 : Nat) = 1; decide), (by show ¬ (0 : Nat) = 1; decide), trivial⟩ hK h).2
theorem fx_fence {n : Nat} {A : pm_A} {a1 a2 a3 : Int} {r : pm_R} (h : pm_call pmt (an_sh wX) n 89 [(2, 0), (0, a1), (0, a2), (0, a3)] A = some r) (hK : gK wY A) : gK wY r.2 ∧ gFk wY [901] A r.2 := by
  rw [← shY] at h
  exact (ksX n 89 ([3, 1, 1, 1], 2, [901]) (List.contains_iff_mem.mp (by decide +kernel)) [(2, 0), (0, a1), (0, a2), (0, a3)] A r ⟨⟨rfl, Int.le_refl 0, by decide⟩, (by show ¬ (0 : Nat) = 1; decide), (by show ¬ (0 : Nat) = 1; decide), (by show ¬ (0 : Nat) = 1; decide), trivial⟩ hK h).2
theorem fm_fence {n : Nat} {A : pm_A} {a1 a2 a3 : Int} {r : pm_R} (h : pm_call pmt (an_sh wM) n 138 [(2, 0), (0, a1), (0, a2), (0, a3)] A = some r) (hK : gK wM A) : gK wM r.2 ∧ gFk wM [10032] A r.2 := by
  exact (ksM n 138 ([3, 1, 1, 1], 2, [10032]) (List.contains_iff_mem.mp (by decide +kernel)) [(2, 0), (0, a1), (0, a2), (0, a3)] A r ⟨⟨rfl, Int.le_refl 0, by decide⟩, (by show ¬ (0 : Nat) = 1; decide), (by show ¬ (0 : Nat) = 1; decide), (by show ¬ (0 : Nat) = 1; decide), trivial⟩ hK h).2
theorem fx_flip {n : Nat} {A : pm_A} {a1 a2 a3 : Int} {r : pm_R} (h : pm_call pmt (an_sh wX) n 91 [(2, 0), (0, a1), (0, a2), (0, a3)] A = some r) (hK : gK wY A) : gK wY r.2 ∧ gFk wY [901] A r.2 := by
  rw [← shY] at h
  exact (ksX n 91 ([3, 1, 1, 1], 2, [901]) (List.contains_iff_mem.mp (by decide +kernel)) [(2, 0), (0, a1), (0, a2), (0, a3)] A r ⟨⟨rfl, Int.le_refl 0, by decide⟩, (by show ¬ (0 : Nat) = 1; decide), (by show ¬ (0 : Nat) = 1; decide), (by show ¬ (0 : Nat) = 1; decide), trivial⟩ hK h).2
theorem fm_flip {n : Nat} {A : pm_A} {a1 a2 a3 : Int} {r : pm_R} (h : pm_call pmt (an_sh wM) n 143 [(2, 0), (0, a1), (0, a2), (0, a3)] A = some r) (hK : gK wM A) : gK wM r.2 ∧ gFk wM [10032] A r.2 := by
  exact (ksM n 143 ([3, 1, 1, 1], 2, [10032]) (List.contains_iff_mem.mp (by decide +kernel)) [(2, 0), (0, a1), (0, a2), (0, a3)] A r ⟨⟨rfl, Int.le_refl 0, by decide⟩, (by show ¬ (0 : Nat) = 1; decide), (by show ¬ (0 : Nat) = 1; decide), (by show ¬ (0 : Nat) = 1; decide), trivial⟩ hK h).2
theorem fx_ringOf {n : Nat} {A : pm_A} {a1 a2 : Int} {r : pm_R} (h : pm_call pmt (an_sh wX) n 104 [(2, 0), (0, a1), (0, a2)] A = some r) (hK : gK wY A) : gK wY r.2 ∧ gFk wY [] A r.2 := by
  rw [← shY] at h
  exact (ksX n 104 ([3, 1, 1], 2, []) (List.contains_iff_mem.mp (by decide +kernel)) [(2, 0), (0, a1), (0, a2)] A r ⟨⟨rfl, Int.le_refl 0, by decide⟩, (by show ¬ (0 : Nat) = 1; decide), (by show ¬ (0 : Nat) = 1; decide), trivial⟩ hK h).2
theorem fm_ringOf {n : Nat} {A : pm_A} {a1 a2 : Int} {r : pm_R} (h : pm_call pmt (an_sh wM) n 178 [(2, 0), (0, a1), (0, a2)] A = some r) (hK : gK wM A) : gK wM r.2 ∧ gFk wM [] A r.2 := by
  exact (ksM n 178 ([3, 1, 1], 2, []) (List.contains_iff_mem.mp (by decide +kernel)) [(2, 0), (0, a1), (0, a2)] A r ⟨⟨rfl, Int.le_refl 0, by decide⟩, (by show ¬ (0 : Nat) = 1; decide), (by show ¬ (0 : Nat) = 1; decide), trivial⟩ hK h).2
theorem fx_frieze {n : Nat} {A : pm_A} {a1 a2 a3 : Int} {r : pm_R} (h : pm_call pmt (an_sh wX) n 92 [(2, 0), (0, a1), (0, a2), (0, a3)] A = some r) (hK : gK wY A) : gK wY r.2 ∧ gFk wY [] A r.2 := by
  rw [← shY] at h
  exact (ksX n 92 ([3, 1, 1, 1], 3, []) (List.contains_iff_mem.mp (by decide +kernel)) [(2, 0), (0, a1), (0, a2), (0, a3)] A r ⟨⟨rfl, Int.le_refl 0, by decide⟩, (by show ¬ (0 : Nat) = 1; decide), (by show ¬ (0 : Nat) = 1; decide), (by show ¬ (0 : Nat) = 1; decide), trivial⟩ hK h).2
theorem fm_frieze {n : Nat} {A : pm_A} {a1 a2 a3 : Int} {r : pm_R} (h : pm_call pmt (an_sh wM) n 145 [(2, 0), (0, a1), (0, a2), (0, a3)] A = some r) (hK : gK wM A) : gK wM r.2 ∧ gFk wM [] A r.2 := by
  exact (ksM n 145 ([3, 1, 1, 1], 3, []) (List.contains_iff_mem.mp (by decide +kernel)) [(2, 0), (0, a1), (0, a2), (0, a3)] A r ⟨⟨rfl, Int.le_refl 0, by decide⟩, (by show ¬ (0 : Nat) = 1; decide), (by show ¬ (0 : Nat) = 1; decide), (by show ¬ (0 : Nat) = 1; decide), trivial⟩ hK h).2
theorem fx_way {n : Nat} {A : pm_A} {r : pm_R} (h : pm_call pmt (an_sh wX) n 119 [(2, 0)] A = some r) (hK : gK wY A) : gK wY r.2 ∧ gFk wY [605, 800, 3600, 3601, 10030, 10031, 10032, 10033, 10035] A r.2 := by
  rw [← shY] at h
  exact (ksX n 119 ([3], 2, [605, 800, 3600, 3601, 10030, 10031, 10032, 10033, 10035]) (List.contains_iff_mem.mp (by decide +kernel)) [(2, 0)] A r ⟨⟨rfl, Int.le_refl 0, by decide⟩, trivial⟩ hK h).2
theorem fm_way {n : Nat} {A : pm_A} {r : pm_R} (h : pm_call pmt (an_sh wM) n 202 [(2, 0)] A = some r) (hK : gK wM A) : gK wM r.2 ∧ gFk wM [54, 55, 10032, 10033, 10034, 10035, 10036, 10037, 10038] A r.2 := by
  exact (ksM n 202 ([3], 2, [54, 55, 10032, 10033, 10034, 10035, 10036, 10037, 10038]) (List.contains_iff_mem.mp (by decide +kernel)) [(2, 0)] A r ⟨⟨rfl, Int.le_refl 0, by decide⟩, trivial⟩ hK h).2
theorem fx_goes {n : Nat} {A : pm_A} {a1 : Int} {r : pm_R} (h : pm_call pmt (an_sh wX) n 93 [(2, 0), (0, a1)] A = some r) (hK : gK wY A) : gK wY r.2 ∧ gFk wY [] A r.2 := by
  rw [← shY] at h
  exact (ksX n 93 ([3, 1], 2, []) (List.contains_iff_mem.mp (by decide +kernel)) [(2, 0), (0, a1)] A r ⟨⟨rfl, Int.le_refl 0, by decide⟩, (by show ¬ (0 : Nat) = 1; decide), trivial⟩ hK h).2
theorem fm_goes {n : Nat} {A : pm_A} {a1 : Int} {r : pm_R} (h : pm_call pmt (an_sh wM) n 146 [(2, 0), (0, a1)] A = some r) (hK : gK wM A) : gK wM r.2 ∧ gFk wM [] A r.2 := by
  exact (ksM n 146 ([3, 1], 2, []) (List.contains_iff_mem.mp (by decide +kernel)) [(2, 0), (0, a1)] A r ⟨⟨rfl, Int.le_refl 0, by decide⟩, (by show ¬ (0 : Nat) = 1; decide), trivial⟩ hK h).2
theorem fx_seed {n : Nat} {A : pm_A} {a1 : Int} {r : pm_R} (h : pm_call pmt (an_sh wX) n 107 [(2, 0), (0, a1)] A = some r) (hK : gK wY A) : gK wY r.2 ∧ gFk wY [4, 100, 101, 200, 201, 300, 301, 10010, 10011, 10014, 10015, 10016, 10017] A r.2 := by
  rw [← shY] at h
  exact (ksX n 107 ([3, 1], 2, [4, 100, 101, 200, 201, 300, 301, 10010, 10011, 10014, 10015, 10016, 10017]) (List.contains_iff_mem.mp (by decide +kernel)) [(2, 0), (0, a1)] A r ⟨⟨rfl, Int.le_refl 0, by decide⟩, (by show ¬ (0 : Nat) = 1; decide), trivial⟩ hK h).2
theorem fm_seed {n : Nat} {A : pm_A} {a1 : Int} {r : pm_R} (h : pm_call pmt (an_sh wM) n 183 [(2, 0), (0, a1)] A = some r) (hK : gK wM A) : gK wM r.2 ∧ gFk wM [7, 8, 10, 12, 13, 10001, 10002, 10003, 10005, 10007, 10008, 10009, 10010, 10011] A r.2 := by
  exact (ksM n 183 ([3, 1], 2, [7, 8, 10, 12, 13, 10001, 10002, 10003, 10005, 10007, 10008, 10009, 10010, 10011]) (List.contains_iff_mem.mp (by decide +kernel)) [(2, 0), (0, a1)] A r ⟨⟨rfl, Int.le_refl 0, by decide⟩, (by show ¬ (0 : Nat) = 1; decide), trivial⟩ hK h).2
theorem fx_count {n : Nat} {A : pm_A} {a1 : Int} {r : pm_R} (h : pm_call pmt (an_sh wX) n 88 [(2, 0), (0, a1)] A = some r) (hK : gK wY A) : gK wY r.2 ∧ gFk wY [] A r.2 := by
  rw [← shY] at h
  exact (ksX n 88 ([3, 1], 2, []) (List.contains_iff_mem.mp (by decide +kernel)) [(2, 0), (0, a1)] A r ⟨⟨rfl, Int.le_refl 0, by decide⟩, (by show ¬ (0 : Nat) = 1; decide), trivial⟩ hK h).2
theorem fm_count {n : Nat} {A : pm_A} {a1 : Int} {r : pm_R} (h : pm_call pmt (an_sh wM) n 135 [(2, 0), (0, a1)] A = some r) (hK : gK wM A) : gK wM r.2 ∧ gFk wM [] A r.2 := by
  exact (ksM n 135 ([3, 1], 2, []) (List.contains_iff_mem.mp (by decide +kernel)) [(2, 0), (0, a1)] A r ⟨⟨rfl, Int.le_refl 0, by decide⟩, (by show ¬ (0 : Nat) = 1; decide), trivial⟩ hK h).2
/-- the rings of both sides are alike -/
def RR (AX AM : pm_A) : Prop := gK wY AX ∧ (AX 0 13 = 416 ∧ AX 416 0 = 512 ∧ AX 416 1 = 513) ∧ rgX AX 512 (AM 31 0) (fcs AM 0) ∧ rgX AX 513 (AM 31 1) (fcs AM 1)
theorem rgX_same {A B : pm_A} {r n : Int} {F G : Int → Int} (h : rgX A r n F) (e0 : B r 0 = A r 0) (e1 : B r 1 = A r 1) (hF : ∀ f : Int, 0 ≤ f → f < 100 → G f = F f) : rgX B r n G := by
  obtain ⟨h0, V, h1, h2, h3⟩ := h
  exact ⟨by rw [e0]; exact h0, V, by rw [e1]; exact h1, h2, fun a b a0 ab b9 => by rw [hF _ (by omega) (by omega)]; exact h3 a b a0 ab b9⟩
theorem kY (j : Int) : kcode wY 0 j = j.toNat ∧ kcode wY 416 j = 10034 ∧ kcode wY 512 j = 900 + j.toNat ∧ kcode wY 513 j = 900 + j.toNat := by
  refine ⟨?_, ?_, ?_, ?_⟩
  · rw [kc_0 (show (an_sh wY 0).1 = 0 by decide +kernel), show wY.2 0 = 0 by decide]; omega
  · rw [kc_1 (show (an_sh wY 416).1 = 1 by decide +kernel), show wY.2 416 = 34 by decide +kernel]
  · rw [kc_0 (show (an_sh wY 512).1 = 0 by decide +kernel), show wY.2 512 = 9 by decide +kernel]
  · rw [kc_0 (show (an_sh wY 513).1 = 0 by decide +kernel), show wY.2 513 = 9 by decide +kernel]
theorem kM_ (j : Int) : kcode wM 31 j = 10031 ∧ kcode wM 32 j = 10032 := by
  refine ⟨?_, ?_⟩
  · rw [kc_1 (show (an_sh wM 31).1 = 1 by decide +kernel), show wM.2 31 = 31 by decide]
  · rw [kc_1 (show (an_sh wM 32).1 = 1 by decide +kernel), show wM.2 32 = 32 by decide]
theorem nin {ms : List Nat} {c : Nat} (h : ms.contains c = false) : ¬ c ∈ ms := fun q => by rw [List.contains_iff_mem.mpr q] at h; cases h
theorem RR.kX {AX BX AM : pm_A} {ms : List Nat} (h : RR AX AM) (hK : gK wY BX) (hF : gFk wY ms AX BX) (n1 : ms.contains 13 = false) (n2 : ms.contains 10034 = false) (n3 : ms.contains 900 = false) (n4 : ms.contains 901 = false) : RR BX AM := by
  obtain ⟨_, ⟨p1, p2, p3⟩, r0, r1⟩ := h
  refine ⟨hK, ⟨?_, ?_, ?_⟩, rgX_same r0 ?_ ?_ (fun _ _ _ => rfl), rgX_same r1 ?_ ?_ (fun _ _ _ => rfl)⟩
  · rw [hF 0 13 (by omega) (by omega) (by rw [(kY 13).1]; exact nin n1)]; exact p1
  · rw [hF 416 0 (by omega) (by omega) (by rw [(kY 0).2.1]; exact nin n2)]; exact p2
  · rw [hF 416 1 (by omega) (by omega) (by rw [(kY 1).2.1]; exact nin n2)]; exact p3
  · exact hF 512 0 (by omega) (by omega) (by rw [(kY 0).2.2.1]; exact nin n3)
  · exact hF 512 1 (by omega) (by omega) (by rw [(kY 1).2.2.1]; exact nin n4)
  · exact hF 513 0 (by omega) (by omega) (by rw [(kY 0).2.2.2]; exact nin n3)
  · exact hF 513 1 (by omega) (by omega) (by rw [(kY 1).2.2.2]; exact nin n4)
theorem RR.kM {AX AM BM : pm_A} {ms : List Nat} (h : RR AX AM) (hF : gFk wM ms AM BM) (n1 : ms.contains 10031 = false) (n2 : ms.contains 10032 = false) : RR AX BM := by
  obtain ⟨hK, hp, r0, r1⟩ := h
  have e31 : ∀ j : Int, 0 ≤ j → BM 31 j = AM 31 j := fun j j0 => hF 31 j (by omega) j0 (by rw [(kM_ j).1]; exact nin n1)
  have e32 : ∀ j : Int, 0 ≤ j → BM 32 j = AM 32 j := fun j j0 => hF 32 j (by omega) j0 (by rw [(kM_ j).2]; exact nin n2)
  refine ⟨hK, hp, ?_, ?_⟩
  · rw [e31 0 (by omega)]; exact rgX_same r0 rfl rfl (fun f f0 _ => e32 _ (by omega))
  · rw [e31 1 (by omega)]; exact rgX_same r1 rfl rfl (fun f f0 _ => e32 _ (by omega))
theorem RR.at {AX AM : pm_A} (h : RR AX AM) {s : Int} (hs : s = 0 ∨ s = 1) : rgX AX (AX (AX 0 13) s) (AM 31 s) (fcs AM s) := by
  obtain ⟨_, ⟨p1, p2, p3⟩, r0, r1⟩ := h
  rw [p1]
  rcases hs with rfl | rfl
  · rw [p2]; exact r0
  · rw [p3]; exact r1
/-- one ring is another one, on both sides -/
theorem RR.put {AX BX AM BM : pm_A} {s : Int} (h : RR AX AM) (hs : s = 0 ∨ s = 1) (hK : gK wY BX) (hX : ∀ r j : Int, r ≠ AX (AX 0 13) s → BX r j = AX r j) (hr : rgX BX (AX (AX 0 13) s) (BM 31 s) (fcs BM s)) (h31 : ∀ t : Int, t ≠ s → BM 31 t = AM 31 t) (h32 : ∀ j : Int, (j < 100 * s ∨ 100 * s + 100 ≤ j) → BM 32 j = AM 32 j) : RR BX BM := by
  obtain ⟨_, ⟨p1, p2, p3⟩, r0, r1⟩ := h
  rw [p1] at hX hr
  rcases hs with rfl | rfl
  · rw [p2] at hX hr
    refine ⟨hK, ⟨by rw [hX 0 13 (by omega)]; exact p1, by rw [hX 416 0 (by omega)]; exact p2, by rw [hX 416 1 (by omega)]; exact p3⟩, hr, ?_⟩
    rw [h31 1 (by omega)]
    exact rgX_same r1 (hX 513 0 (by omega)) (hX 513 1 (by omega)) (fun f f0 f1 => h32 _ (by omega))
  · rw [p3] at hX hr
    refine ⟨hK, ⟨by rw [hX 0 13 (by omega)]; exact p1, by rw [hX 416 0 (by omega)]; exact p2, by rw [hX 416 1 (by omega)]; exact p3⟩, ?_, hr⟩
    rw [h31 0 (by omega)]
    exact rgX_same r0 (hX 512 0 (by omega)) (hX 512 1 (by omega)) (fun f f0 f1 => h32 _ (by omega))
def xrP (A : pm_A) (s n : Int) (q : pm_R) : Prop := (q = (some (0, 0), A) ∧ ¬ okG s n) ∨ (okG s n ∧ q = (some (0, 1), pm_upd (pm_upd A (A (A 0 13) s) 0 n) (A (A 0 13) s) 1 0))
theorem xring_ex {A : pm_A} {s n : Int} (hA : gH wX A) : Cl pmt (an_sh wX) 103 [(2, 0), (0, s), (0, n)] A (xrP A s n) := by
  have p0 := fX_0_13 hA (Int.le_refl 0) kk0
  have h30 : okG s n → ∀ B, B = pm_upd A (A (A 0 13) s) 0 n → Tm pmt (an_sh wX) o_X9_ring 30 ([(2, 0), (0, s), (0, n)], [], B) (xrP A s n) := fun ho B hBe => by
    have ho2 := ho
    unfold okG at ho2
    have e0 := eX_34 hA p0.1 p0.2 (j := s) (by omega) (by omega)
    have hB : gH wX B := by
      rw [hBe]
      exact gH_upd hA (k := (0, 6, 2, [(0, 4, 10), (1, (-9223372036854775808), 9223372036854775807)])) (by rw [e0.2]; rfl) (fun _ j a ha hj => by
        have : j = 0 := by omega
        subst this
        cases ha
        exact ⟨rfl, by simp only; omega, by simp only; omega⟩) (fun q => by cases q)
    have z1 : A (A 0 13) s ≠ 0 := fun e => by have := e0.2; rw [e] at this; exact absurd this (by decide)
    have z2 : A (A 0 13) s ≠ A 0 13 := fun e => by have := e0.2; rw [e, p0.2] at this; exact absurd this (by decide)
    have b13 : B 0 13 = A 0 13 := by rw [hBe, upd_o (fun q => z1 q.1.symm)]
    have bs : B (B 0 13) s = A (A 0 13) s := by rw [b13, hBe, upd_o (fun q => z2 q.1.symm)]
    have r0 := fX_0_13 hB (r := 0) (by omega) kk0
    have e1 := eX_34 hB r0.1 r0.2 (j := s) (by omega) (by omega)
    refine wq_ok srt_Xring (fr := []) (cuts := []) (J := fun _ _ => False) (fun _ _ h => h.elim) 12 30 _ ?_
    refine ⟨oX_0 (by omega) kk0 13 rfl, ?_⟩
    refine ⟨aX_34 r0.1 r0.2 (by omega) (by omega), ?_⟩
    refine ⟨oX_9 e1.1 e1.2 1 rfl, ?_⟩
    exact ⟨rfl, Or.inr ⟨ho, by rw [bs, hBe]⟩⟩
  refine Cl.of (Nat.le_of_ble_eq_true rfl) ?_
  refine wq_ok (full := o_X9_ring) srt_Xring (fr := []) (cuts := [4]) (J := fun pc st => pc = 4 ∧ ∃ x : Int, ((x = 1 ∧ (s = 0 ∨ s = 1)) ∨ (x = 0 ∧ ¬ (s = 0 ∨ s = 1))) ∧ st = ([(2, 0), (0, s), (0, n)], [(0, x)], A)) ?_ 10 0 _ ?_
  · rintro pc st ⟨rfl, x, hx, rfl⟩
    have no : ¬ okG s n → xrP A s n (some (0, 0), A) := fun h => Or.inl ⟨rfl, h⟩
    refine wq_ok srt_Xring (fr := []) (cuts := [30]) (J := fun pc st => pc = 30 ∧ okG s n ∧ st = ([(2, 0), (0, s), (0, n)], [], pm_upd A (A (A 0 13) s) 0 n)) ?_ 25 4 _ ?_
    · rintro pc st ⟨rfl, ho, rfl⟩
      exact h30 ho _ rfl
    refine ⟨fun h0 => ?_, fun h0 => ?_⟩
    · exact ⟨rfl, no (by unfold okG; omega)⟩
    refine ⟨fun h1 => ?_, fun h1 => ?_⟩
    · exact ⟨rfl, no (by unfold okG; omega)⟩
    refine ⟨fun h2 => ?_, fun h2 => ?_⟩
    · have hs : s = 0 ∨ s = 1 := by omega
      have e0 := eX_34 hA p0.1 p0.2 (j := s) (by omega) (by omega)
      refine ⟨oX_0 (by omega) kk0 13 rfl, ?_⟩
      refine ⟨aX_34 p0.1 p0.2 (by omega) (by omega), ?_⟩
      refine ⟨oX_9 e0.1 e0.2 0 rfl, ?_⟩
      exact ⟨rfl, ⟨hs, by omega, by omega⟩, rfl⟩
    · exact ⟨rfl, no (by unfold okG; omega)⟩
  · refine ⟨rfl, ?_⟩
    refine (xa_isSlot).imp ?_
    rintro ⟨r1, C⟩ ⟨q1, x, q2, hx⟩
    simp only at q1 q2
    subst q1
    subst q2
    exact ⟨rfl, x, hx, rfl⟩
theorem rr_ring {AX AM : pm_A} {s n : Int} {q r : pm_R} (h : RR AX AM) (hK : gK wY q.2) (hq : xrP AX s n q) (hr : rngP AM s n r) : RR q.2 r.2 ∧ q.1 = r.1 := by
  rcases hq with ⟨rfl, no⟩ | ⟨ok, rfl⟩
  · rcases hr with ⟨rfl, _⟩ | ⟨ok, _⟩
    · exact ⟨h, rfl⟩
    · exact absurd ok no
  · rcases hr with ⟨_, no⟩ | ⟨_, e1, e2, e3, e4, e5⟩
    · exact absurd ok no
    · refine ⟨h.put ok.1 hK (fun x j hx => by
        show pm_upd (pm_upd AX (AX (AX 0 13) s) 0 n) (AX (AX 0 13) s) 1 0 x j = AX x j
        rw [upd_o (fun e => hx e.1), upd_o (fun e => hx e.1)]) ⟨?_, 0, ?_, by decide, fun a b a0 ab b9 => ?_⟩ e4 e5, e1.symm⟩
      · show pm_upd (pm_upd AX (AX (AX 0 13) s) 0 n) (AX (AX 0 13) s) 1 0 (AX (AX 0 13) s) 0 = r.2 31 s
        rw [upd_o (by omega), upd_at, e2]
      · show pm_upd (pm_upd AX (AX (AX 0 13) s) 0 n) (AX (AX 0 13) s) 1 0 (AX (AX 0 13) s) 1 = ((0 : Nat) : Int)
        rw [upd_at]; rfl
      · rw [Nat.zero_testBit]
        refine ⟨fun e => (by cases e), fun e => ?_⟩
        have := e3 (10 * a + b) (by omega) (by omega)
        unfold fcs at e
        omega
theorem rr_fence {AX AM : pm_A} {s a b : Int} {q r : pm_R} (h : RR AX AM) (hM : RI AM) (hK : gK wY q.2) (hq : (q = (some (0, -1), AX) ∧ ¬ (s = 0 ∨ s = 1)) ∨ ((s = 0 ∨ s = 1) ∧ xfP AX (AX (AX 0 13) s) (AM 31 s) (fcs AM s) a b q)) (hr : fncP AM s a b r) : RR q.2 r.2 ∧ q.1 = r.1 := by
  rcases hq with ⟨rfl, no⟩ | ⟨hs, hq⟩
  · rcases hr with ⟨rfl, _⟩ | ⟨ok, _⟩
    · exact ⟨h, rfl⟩
    · exact absurd ok.1 no
  · rcases hq with ⟨rfl, no⟩ | ⟨ok, ⟨V, e1, e2⟩, e3⟩
    · rcases hr with ⟨rfl, _⟩ | ⟨ok, _⟩
      · exact ⟨h, rfl⟩
      · exact absurd ok.2 no
    · rcases hr with ⟨_, no⟩ | ⟨_, d1, d2⟩
      · exact absurd ⟨hs, ok⟩ no
      · have hn := (hM.2.2 s hs).1
        have k1 := ok.1
        unfold inC at k1
        have kk := fcd_c (a := a) (b := b) (by omega) (by omega) (by omega) (by omega)
        have ef : fcs r.2 s = stF (fcs AM s) (fcd a b) := by
          funext x
          rw [d1]
          unfold fcs stF
          by_cases e : x = fcd a b
          · rw [e, upd_at, if_pos rfl]
          · rw [upd_o (by omega), if_neg e]
        have h31 : ∀ t, r.2 31 t = AM 31 t := fun t => by rw [d1, upd_o (by omega)]
        refine ⟨h.put hs hK (fun x j hx => by rw [e1, upd_o (fun e => hx e.1)]) ⟨?_, V, by rw [e1, upd_at], by rw [ef]; exact e2⟩ (fun t _ => h31 t) (fun j hj => by rw [d1, upd_o (by omega)]), ?_⟩
        · rw [e1, upd_o (by omega), h31]; exact (h.at hs).1
        · rw [e3, d2, ef]
theorem rr_flip {AX AM : pm_A} {s a b : Int} {q r : pm_R} (h : RR AX AM) (hM : RI AM) (hK : gK wY q.2) (hq : (q = (some (0, -1), AX) ∧ ¬ (s = 0 ∨ s = 1)) ∨ ((s = 0 ∨ s = 1) ∧ xlP AX (AX (AX 0 13) s) (AM 31 s) (fcs AM s) a b q)) (hr : flpP AM s a b r) : RR q.2 r.2 ∧ q.1 = r.1 := by
  rcases hq with ⟨rfl, no⟩ | ⟨hs, hq⟩
  · rcases hr with ⟨rfl, _⟩ | ⟨ok, _⟩
    · exact ⟨h, rfl⟩
    · exact absurd ok.1 no
  · rcases hq with ⟨rfl, no⟩ | ⟨ok, i, o, ho, ⟨V, e1, e2⟩, e3⟩
    · rcases hr with ⟨rfl, _⟩ | ⟨ok, _⟩
      · exact ⟨h, rfl⟩
      · exact absurd ok.2 no
    · rcases hr with ⟨_, no⟩ | ⟨_, i', o', ho', d1, d2⟩
      · exact absurd ⟨hs, ok⟩ no
      · have hS := hM.2.2 s hs
        have hn := hS.1
        have k1 := ok.2
        unfold inC at k1
        have kk := fcd_c (a := a) (b := b) (by omega) (by omega) (by omega) (by omega)
        obtain ⟨rfl, rfl⟩ := oth_uniq hS kk.2.2.1 kk.2.2.2 ok.2.2.2.2 ho ho'
        have cb := cod_b hS kk.2.2.1 kk.2.2.2 ok.2.2.2.2 ho
        have ef : fcs r.2 s = flF (fcs AM s) (fcd a b) (cod i o) := by rw [d1]; exact fl_fcs kk.2.2.1 kk.2.2.2 cb.1 cb.2.1
        have h31 : ∀ t, r.2 31 t = AM 31 t := fun t => by rw [d1, upd_o (by omega), upd_o (by omega)]
        refine ⟨h.put hs hK (fun x j hx => by rw [e1, upd_o (fun e => hx e.1)]) ⟨?_, V, by rw [e1, upd_at], by rw [ef]; exact e2⟩ (fun t _ => h31 t) (fun j hj => by rw [d1, upd_o (by omega), upd_o (by omega)]), ?_⟩
        · rw [e1, upd_o (by omega), h31]; exact (h.at hs).1
        · rw [e3, d2]
theorem gk_first : gK wY (wA WX) := gK_of (wo_all (w := wY) (by decide +kernel) (fun r h => by
  have hl : WX.length = 514 := by decide +kernel
  have hk : kdXl.length = 514 := by decide +kernel
  have e : wY.2 r = 9999 := by
    show (if r = 419 then 36 else wX.2 r) = 9999
    rw [if_neg (by omega)]
    show (if r < 0 then 9999 else kdXl.getD r.toNat 9999) = 9999
    rw [if_neg (by omega), getD_ge (by omega)]
  rw [e]; rfl)).2
theorem RR.kM2 {AX AM BM : pm_A} (h : RR AX AM) (e31 : ∀ s : Int, BM 31 s = AM 31 s) (e32 : ∀ j : Int, 0 ≤ j → j < 200 → BM 32 j = AM 32 j) : RR AX BM := by
  obtain ⟨hK, hp, r0, r1⟩ := h
  refine ⟨hK, hp, ?_, ?_⟩
  · rw [e31 0]; exact rgX_same r0 rfl rfl (fun f f0 _ => e32 _ (by omega) (by omega))
  · rw [e31 1]; exact rgX_same r1 rfl rfl (fun f f0 _ => e32 _ (by omega) (by omega))
theorem rr_first : RR (wA WX) A0M := by
  have z : ∀ s : Int, s = 0 ∨ s = 1 → A0M 31 s = 4 := fun s hs => by rcases hs with rfl | rfl <;> decide +kernel
  have rg : ∀ r : Int, wA WX r 0 = 4 → wA WX r 1 = 0 → ∀ s : Int, s = 0 ∨ s = 1 → rgX (wA WX) r (A0M 31 s) (fcs A0M s) := fun r h0 h1 s hs => ⟨by rw [h0, z s hs], 0, by rw [h1]; rfl, by decide, fun a b a0 ab b9 => by
    rw [Nat.zero_testBit]
    refine ⟨fun e => (by cases e), fun e => ?_⟩
    have : fcs A0M s (10 * a + b) = 0 := rfl
    omega⟩
  exact ⟨gk_first, ⟨by decide +kernel, by decide +kernel, by decide +kernel⟩, rg 512 (by decide +kernel) (by decide +kernel) 0 (Or.inl rfl), rg 513 (by decide +kernel) (by decide +kernel) 1 (Or.inr rfl)⟩
