/-! codes of cells (as drafts zj1 and x1 have them; never together with those) -/
theorem kMd (j : Int) : kcode wM 0 j = j.toNat := by
  rw [kc_0 (show (an_sh wM 0).1 = 0 by decide +kernel), show wM.2 0 = 0 by decide]; omega
theorem kc_o {r : Int} {l a b : Nat} {n : Int} (hk : wX.2 r = l) (hl : ¬ l = 9) (hs : an_sh wX r = (0, b, n)) (j : Int) : kcode wY r j = 100 * l + j.toNat := by
  unfold kcode
  rw [shY, hs]
  show 100 * wY.2 r + j.toNat = 100 * l + j.toNat
  have e_z : wY.2 r = l := by
    show (if r = 419 then 36 else wX.2 r) = l
    rw [if_neg (fun e_z => hl ?_)]
    · exact hk
    · rw [e_z] at hk
      have : wX.2 419 = 9 := by decide
      omega
  rw [e_z]
theorem kc_a {r : Int} {l b : Nat} {n : Int} (hk : wX.2 r = l) (hl : ¬ l = 9) (hs : an_sh wX r = (1, b, n)) (j : Int) : kcode wY r j = 10000 + l := by
  unfold kcode
  rw [shY, hs]
  show 10000 + wY.2 r = 10000 + l
  have e_z : wY.2 r = l := by
    show (if r = 419 then 36 else wX.2 r) = l
    rw [if_neg (fun e_z => hl ?_)]
    · exact hk
    · rw [e_z] at hk
      have : wX.2 419 = 9 := by decide
      omega
  rw [e_z]
def avoid (bad ms : List Nat) : Bool := ms.all (fun c_z => !bad.contains c_z)
theorem avoid_n {bad ms : List Nat} (h : avoid bad ms = true) {c : Nat} (hc : bad.contains c = true) : ¬ c ∈ ms := fun q_z => by
  have h1 := List.all_eq_true.mp h c q_z
  rw [hc] at h1
  cases h1
theorem codz {l n : Nat} {bad : List Nat} (h : (List.range n).all (fun j => bad.contains (100 * l + j)) = true) {j : Int} (j0 : 0 ≤ j) (j1 : j < n) : bad.contains (100 * l + j.toNat) = true := List.all_eq_true.mp h j.toNat (List.mem_range.2 (by omega))
