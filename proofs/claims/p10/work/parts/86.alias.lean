/-! which shares are which: the bench is cell 0, the mill 28, the seed 1, the walker 49, the atlas 72, its seed 79 -/
theorem srt_settle : pm_srt o_X5_settle = true := by decide +kernel
/-- the shares that seed, walker and mill have among them -/
def pc (A : pm_A) (i : Int) : Int := if i < 6 then A 4 i else if i < 12 then A 52 (i - 6) else A 28 0
def pool (A : pm_A) : Prop := (∀ i, 0 ≤ i → i ≤ 12 → pc A i < 72 ∧ ¬ pc A i = 32 ∧ ¬ pc A i = 35) ∧ ∀ i j, 0 ≤ i → i ≤ 12 → 0 ≤ j → j ≤ 12 → ¬ i = j → ¬ pc A i = pc A j
def AL (A : pm_A) : Prop := (A 0 0 = 1 ∧ A 0 2 = 28 ∧ A 0 8 = 49 ∧ A 0 9 = 72 ∧ A 1 4 = 4 ∧ A 49 4 = 52 ∧ A 72 8 = 79 ∧ A 72 0 = 73 ∧ A 79 4 = 82 ∧ A 28 1 = 32 ∧ A 28 2 = 35) ∧ (∀ q, 0 ≤ q → wX.2 q = 2 → A q 2 = q + 1) ∧ (∀ x, 0 ≤ x → x < 100 → 72 < A 73 x) ∧ (∀ i, 0 ≤ i → i < 6 → 72 < A 82 i) ∧ pool A
def al_C : List Nat := [0, 8, 500, 501, 502, 704, 802, 900, 902, 908, 909, 10012, 10022]
theorem al_nm {ms : List Nat} (hm : ms.all (fun x => !al_C.contains x) = true) {c : Nat} (hc : al_C.contains c = true) : ¬ c ∈ ms := fun q => by
  have := List.all_eq_true.mp hm c q
  rw [hc] at this
  cases this
theorem kk0 : wX.2 0 = 0 := by decide
theorem kk1 : wX.2 1 = 1 := by decide
theorem kk4 : wX.2 4 = 12 := by decide
theorem kk28 : wX.2 28 = 4 := by decide
theorem kk49 : wX.2 49 = 1 := by decide
theorem kk52 : wX.2 52 = 12 := by decide
theorem kk72 : wX.2 72 = 5 := by decide
theorem kk73 : wX.2 73 = 22 := by decide
theorem kk79 : wX.2 79 = 1 := by decide
theorem kk82 : wX.2 82 = 12 := by decide
theorem pool_eq {A C : pm_A} (h : ∀ i, 0 ≤ i → i ≤ 12 → pc C i = pc A i) (hp : pool A) : pool C := by
  refine ⟨fun i i0 i1 => ?_, fun i j i0 i1 j0 j1 hij => ?_⟩
  · rw [h i i0 i1]; exact hp.1 i i0 i1
  · rw [h i i0 i1, h j j0 j1]; exact hp.2 i j i0 i1 j0 j1 hij
theorem al_keep {A C : pm_A} {ms : List Nat} (hF : gFr wX ms A C) (hm : ms.all (fun x => !al_C.contains x) = true) (h : AL A) : AL C := by
  obtain ⟨⟨a1, a2, a3, a4, a5, a6, a7, a8, a9, a10, a11⟩, b, c, d, e⟩ := h
  have c0 : ∀ j : Int, 0 ≤ j → al_C.contains (100 * 9 + j.toNat) = true → C 0 j = A 0 j := fun j j0 hj => hF 0 j (by omega) j0 (by unfold mcode; rw [shX_0 kk0]; exact al_nm hm hj)
  have c7 : ∀ r : Int, 0 ≤ r → wX.2 r = 1 → C r 4 = A r 4 := fun r r0 hk => hF r 4 r0 (by omega) (by unfold mcode; rw [shX_1 hk]; exact al_nm hm (c := 704) rfl)
  have c12 : ∀ r i : Int, 0 ≤ r → wX.2 r = 12 → 0 ≤ i → C r i = A r i := fun r i r0 hk i0 => hF r i r0 i0 (by unfold mcode; rw [shX_12 hk]; show ¬ (10000 + wX.2 r : Nat) ∈ ms; rw [hk]; exact al_nm hm rfl)
  have c28 : ∀ j : Int, 0 ≤ j → al_C.contains (100 * 5 + j.toNat) = true → C 28 j = A 28 j := fun j j0 hj => hF 28 j (by omega) j0 (by unfold mcode; rw [shX_4 kk28]; exact al_nm hm hj)
  have c72 : ∀ j : Int, 0 ≤ j → al_C.contains (100 * 0 + j.toNat) = true → C 72 j = A 72 j := fun j j0 hj => hF 72 j (by omega) j0 (by unfold mcode; rw [shX_5 kk72]; exact al_nm hm hj)
  refine ⟨⟨?_, ?_, ?_, ?_, ?_, ?_, ?_, ?_, ?_, ?_, ?_⟩, fun q q0 qk => ?_, fun x x0 x1 => ?_, fun i i0 i1 => ?_, pool_eq (fun i i0 i1 => ?_) e⟩
  · rw [c0 0 (by omega) rfl]; exact a1
  · rw [c0 2 (by omega) rfl]; exact a2
  · rw [c0 8 (by omega) rfl]; exact a3
  · rw [c0 9 (by omega) rfl]; exact a4
  · rw [c7 1 (by omega) kk1]; exact a5
  · rw [c7 49 (by omega) kk49]; exact a6
  · rw [c72 8 (by omega) rfl]; exact a7
  · rw [c72 0 (by omega) rfl]; exact a8
  · rw [c7 79 (by omega) kk79]; exact a9
  · rw [c28 1 (by omega) rfl]; exact a10
  · rw [c28 2 (by omega) rfl]; exact a11
  · rw [hF q 2 q0 (by omega) (by unfold mcode; rw [shX_2 qk]; exact al_nm hm (c := 802) rfl)]; exact b q q0 qk
  · rw [hF 73 x (by omega) x0 (by unfold mcode; rw [shX_22 kk73]; show ¬ (10000 + wX.2 73 : Nat) ∈ ms; rw [kk73]; exact al_nm hm rfl)]; exact c x x0 x1
  · rw [c12 82 i (by omega) kk82 i0]; exact d i i0 i1
  · unfold pc
    by_cases h6 : i < 6
    · rw [if_pos h6, if_pos h6]; exact c12 4 i (by omega) kk4 i0
    · rw [if_neg h6, if_neg h6]
      by_cases h12 : i < 12
      · rw [if_pos h12, if_pos h12]; exact c12 52 _ (by omega) kk52 (by omega)
      · rw [if_neg h12, if_neg h12]; exact c28 0 (by omega) rfl
/-- seed and walker: s with its row of letters, whose shares begin at o in pc -/
def own (s L o : Int) : Prop := (s = 1 ∧ L = 4 ∧ o = 0) ∨ (s = 49 ∧ L = 52 ∧ o = 6)
theorem own_k {s L o : Int} (h : own s L o) : (0 ≤ s ∧ wX.2 s = 1) ∧ (0 ≤ L ∧ wX.2 L = 12) ∧ (0 ≤ o ∧ o ≤ 6) := by
  rcases h with ⟨rfl, rfl, rfl⟩ | ⟨rfl, rfl, rfl⟩
  · exact ⟨⟨by omega, kk1⟩, ⟨by omega, kk4⟩, by omega, by omega⟩
  · exact ⟨⟨by omega, kk49⟩, ⟨by omega, kk52⟩, by omega, by omega⟩
theorem own_L {A : pm_A} {s L o : Int} (h : own s L o) (hA : AL A) : A s 4 = L := by
  obtain ⟨⟨a1, a2, a3, a4, a5, a6, _⟩, _⟩ := hA
  rcases h with ⟨rfl, rfl, rfl⟩ | ⟨rfl, rfl, rfl⟩
  · exact a5
  · exact a6
theorem own_pc {A : pm_A} {s L o k : Int} (h : own s L o) (k0 : 0 ≤ k) (k1 : k ≤ 5) : pc A (o + k) = A L k := by
  unfold pc
  rcases h with ⟨rfl, rfl, rfl⟩ | ⟨rfl, rfl, rfl⟩
  · rw [if_pos (by omega), Int.zero_add]
  · rw [if_neg (by omega), if_pos (by omega)]
    have : (6 + k - 6 : Int) = k := by omega
    rw [this]
theorem pc_12 (A : pm_A) : pc A 12 = A 28 0 := by
  unfold pc; rw [if_neg (by omega), if_neg (by omega)]
/-- what exchange wants -/
theorem al_ex {A : pm_A} {s L o k : Int} (hA : gH wX A) (h : AL A) (ho : own s L o) (k0 : 0 ≤ k) (k1 : k ≤ 5) : ex_H A 28 s k := by
  have ok := own_k ho
  have eL := own_L ho h
  have eA := eX_12 hA ok.2.1.1 ok.2.1.2 k0 (show k < 6 by omega)
  have f0 := fX_4_0 hA (by omega) kk28
  obtain ⟨⟨a1, a2, a3, a4, a5, a6, a7, a8, a9, a10, a11⟩, b, c, d, e⟩ := h
  have o1 := fX_4_1 hA (r := 28) (by omega) kk28
  have o2 := fX_4_2 hA (r := 28) (by omega) kk28
  have p1 := e.1 (o + k) (by omega) (by omega)
  have p2 := e.2 (o + k) 12 (by omega) (by omega) (by omega) (by omega) (by omega)
  rw [own_pc ho k0 k1] at p1 p2
  rw [pc_12] at p2
  refine ⟨hA, ⟨by omega, kk28⟩, ok.1, ⟨k0, k1⟩, fun j j0 j1 => ?_⟩
  rw [eL, b _ eA.1 eA.2]
  have : j = 0 ∨ j = 1 ∨ j = 2 := by omega
  rcases this with rfl | rfl | rfl
  · rw [b _ f0.1 f0.2]; omega
  · rw [b _ o1.1 o1.2, a10]; omega
  · rw [b _ o2.1 o2.2, a11]; omega
/-- for the atlas's seed -/
theorem al_ex2 {A : pm_A} {k : Int} (hA : gH wX A) (h : AL A) (k0 : 0 ≤ k) (k1 : k ≤ 5) : ex_H A 28 79 k := by
  have eA := eX_12 hA (r := 82) (by omega) kk82 k0 (show k < 6 by omega)
  have f0 := fX_4_0 hA (r := 28) (by omega) kk28
  obtain ⟨⟨a1, a2, a3, a4, a5, a6, a7, a8, a9, a10, a11⟩, b, c, d, e⟩ := h
  have o1 := fX_4_1 hA (r := 28) (by omega) kk28
  have o2 := fX_4_2 hA (r := 28) (by omega) kk28
  have p1 := e.1 12 (by omega) (by omega)
  rw [pc_12] at p1
  have d0 := d k k0 (by omega)
  refine ⟨hA, ⟨by omega, kk28⟩, ⟨by omega, kk79⟩, ⟨k0, k1⟩, fun j j0 j1 => ?_⟩
  rw [a9, b _ eA.1 eA.2]
  have : j = 0 ∨ j = 1 ∨ j = 2 := by omega
  rcases this with rfl | rfl | rfl
  · rw [b _ f0.1 f0.2]; omega
  · rw [b _ o1.1 o1.2, a10]; omega
  · rw [b _ o2.1 o2.2, a11]; omega
