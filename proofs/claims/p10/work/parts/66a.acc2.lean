/-! accesses, by kind -/
theorem oX_0 {r : Int} (h0 : 0 ≤ r) (hk : wX.2 r = 0) (j : Nat) (hj : Nat.blt j 15 = true) : 0 ≤ r ∧ (an_sh wX r).1 = 0 ∧ (an_sh wX r).2.1 = 9 ∧ (j : Int) < (an_sh wX r).2.2 := by
  rw [shX_0 hk]; exact ⟨h0, rfl, rfl, by have : j < 15 := Nat.le_of_ble_eq_true hj; simp only; omega⟩
theorem rX_0 {r : Int} (h0 : 0 ≤ r) (hk : wX.2 r = 0) : decide (0 ≤ r ∧ (an_sh wX r).1 = 0 ∧ (an_sh wX r).2.1 = 9) = true := by
  rw [decide_eq_true_eq, shX_0 hk]; exact ⟨h0, rfl, rfl⟩
theorem oX_1 {r : Int} (h0 : 0 ≤ r) (hk : wX.2 r = 1) (j : Nat) (hj : Nat.blt j 6 = true) : 0 ≤ r ∧ (an_sh wX r).1 = 0 ∧ (an_sh wX r).2.1 = 7 ∧ (j : Int) < (an_sh wX r).2.2 := by
  rw [shX_1 hk]; exact ⟨h0, rfl, rfl, by have : j < 6 := Nat.le_of_ble_eq_true hj; simp only; omega⟩
theorem rX_1 {r : Int} (h0 : 0 ≤ r) (hk : wX.2 r = 1) : decide (0 ≤ r ∧ (an_sh wX r).1 = 0 ∧ (an_sh wX r).2.1 = 7) = true := by
  rw [decide_eq_true_eq, shX_1 hk]; exact ⟨h0, rfl, rfl⟩
theorem oX_2 {r : Int} (h0 : 0 ≤ r) (hk : wX.2 r = 2) (j : Nat) (hj : Nat.blt j 4 = true) : 0 ≤ r ∧ (an_sh wX r).1 = 0 ∧ (an_sh wX r).2.1 = 8 ∧ (j : Int) < (an_sh wX r).2.2 := by
  rw [shX_2 hk]; exact ⟨h0, rfl, rfl, by have : j < 4 := Nat.le_of_ble_eq_true hj; simp only; omega⟩
theorem rX_2 {r : Int} (h0 : 0 ≤ r) (hk : wX.2 r = 2) : decide (0 ≤ r ∧ (an_sh wX r).1 = 0 ∧ (an_sh wX r).2.1 = 8) = true := by
  rw [decide_eq_true_eq, shX_2 hk]; exact ⟨h0, rfl, rfl⟩
theorem oX_3 {r : Int} (h0 : 0 ≤ r) (hk : wX.2 r = 3) (j : Nat) (hj : Nat.blt j 5 = true) : 0 ≤ r ∧ (an_sh wX r).1 = 0 ∧ (an_sh wX r).2.1 = 2 ∧ (j : Int) < (an_sh wX r).2.2 := by
  rw [shX_3 hk]; exact ⟨h0, rfl, rfl, by have : j < 5 := Nat.le_of_ble_eq_true hj; simp only; omega⟩
theorem rX_3 {r : Int} (h0 : 0 ≤ r) (hk : wX.2 r = 3) : decide (0 ≤ r ∧ (an_sh wX r).1 = 0 ∧ (an_sh wX r).2.1 = 2) = true := by
  rw [decide_eq_true_eq, shX_3 hk]; exact ⟨h0, rfl, rfl⟩
theorem oX_4 {r : Int} (h0 : 0 ≤ r) (hk : wX.2 r = 4) (j : Nat) (hj : Nat.blt j 7 = true) : 0 ≤ r ∧ (an_sh wX r).1 = 0 ∧ (an_sh wX r).2.1 = 5 ∧ (j : Int) < (an_sh wX r).2.2 := by
  rw [shX_4 hk]; exact ⟨h0, rfl, rfl, by have : j < 7 := Nat.le_of_ble_eq_true hj; simp only; omega⟩
theorem rX_4 {r : Int} (h0 : 0 ≤ r) (hk : wX.2 r = 4) : decide (0 ≤ r ∧ (an_sh wX r).1 = 0 ∧ (an_sh wX r).2.1 = 5) = true := by
  rw [decide_eq_true_eq, shX_4 hk]; exact ⟨h0, rfl, rfl⟩
theorem oX_5 {r : Int} (h0 : 0 ≤ r) (hk : wX.2 r = 5) (j : Nat) (hj : Nat.blt j 18 = true) : 0 ≤ r ∧ (an_sh wX r).1 = 0 ∧ (an_sh wX r).2.1 = 0 ∧ (j : Int) < (an_sh wX r).2.2 := by
  rw [shX_5 hk]; exact ⟨h0, rfl, rfl, by have : j < 18 := Nat.le_of_ble_eq_true hj; simp only; omega⟩
theorem rX_5 {r : Int} (h0 : 0 ≤ r) (hk : wX.2 r = 5) : decide (0 ≤ r ∧ (an_sh wX r).1 = 0 ∧ (an_sh wX r).2.1 = 0) = true := by
  rw [decide_eq_true_eq, shX_5 hk]; exact ⟨h0, rfl, rfl⟩
theorem oX_6 {r : Int} (h0 : 0 ≤ r) (hk : wX.2 r = 6) (j : Nat) (hj : Nat.blt j 6 = true) : 0 ≤ r ∧ (an_sh wX r).1 = 0 ∧ (an_sh wX r).2.1 = 1 ∧ (j : Int) < (an_sh wX r).2.2 := by
  rw [shX_6 hk]; exact ⟨h0, rfl, rfl, by have : j < 6 := Nat.le_of_ble_eq_true hj; simp only; omega⟩
theorem rX_6 {r : Int} (h0 : 0 ≤ r) (hk : wX.2 r = 6) : decide (0 ≤ r ∧ (an_sh wX r).1 = 0 ∧ (an_sh wX r).2.1 = 1) = true := by
  rw [decide_eq_true_eq, shX_6 hk]; exact ⟨h0, rfl, rfl⟩
theorem oX_7 {r : Int} (h0 : 0 ≤ r) (hk : wX.2 r = 7) (j : Nat) (hj : Nat.blt j 6 = true) : 0 ≤ r ∧ (an_sh wX r).1 = 0 ∧ (an_sh wX r).2.1 = 4 ∧ (j : Int) < (an_sh wX r).2.2 := by
  rw [shX_7 hk]; exact ⟨h0, rfl, rfl, by have : j < 6 := Nat.le_of_ble_eq_true hj; simp only; omega⟩
theorem rX_7 {r : Int} (h0 : 0 ≤ r) (hk : wX.2 r = 7) : decide (0 ≤ r ∧ (an_sh wX r).1 = 0 ∧ (an_sh wX r).2.1 = 4) = true := by
  rw [decide_eq_true_eq, shX_7 hk]; exact ⟨h0, rfl, rfl⟩
theorem oX_8 {r : Int} (h0 : 0 ≤ r) (hk : wX.2 r = 8) (j : Nat) (hj : Nat.blt j 3 = true) : 0 ≤ r ∧ (an_sh wX r).1 = 0 ∧ (an_sh wX r).2.1 = 3 ∧ (j : Int) < (an_sh wX r).2.2 := by
  rw [shX_8 hk]; exact ⟨h0, rfl, rfl, by have : j < 3 := Nat.le_of_ble_eq_true hj; simp only; omega⟩
theorem rX_8 {r : Int} (h0 : 0 ≤ r) (hk : wX.2 r = 8) : decide (0 ≤ r ∧ (an_sh wX r).1 = 0 ∧ (an_sh wX r).2.1 = 3) = true := by
  rw [decide_eq_true_eq, shX_8 hk]; exact ⟨h0, rfl, rfl⟩
theorem oX_9 {r : Int} (h0 : 0 ≤ r) (hk : wX.2 r = 9) (j : Nat) (hj : Nat.blt j 2 = true) : 0 ≤ r ∧ (an_sh wX r).1 = 0 ∧ (an_sh wX r).2.1 = 6 ∧ (j : Int) < (an_sh wX r).2.2 := by
  rw [shX_9 hk]; exact ⟨h0, rfl, rfl, by have : j < 2 := Nat.le_of_ble_eq_true hj; simp only; omega⟩
theorem rX_9 {r : Int} (h0 : 0 ≤ r) (hk : wX.2 r = 9) : decide (0 ≤ r ∧ (an_sh wX r).1 = 0 ∧ (an_sh wX r).2.1 = 6) = true := by
  rw [decide_eq_true_eq, shX_9 hk]; exact ⟨h0, rfl, rfl⟩
theorem aX_10 {r i : Int} (h0 : 0 ≤ r) (hk : wX.2 r = 10) (hi0 : 0 ≤ i) (hi1 : i < 72) : 0 ≤ r ∧ (an_sh wX r).1 = 1 ∧ (an_sh wX r).2.1 = 0 ∧ 0 ≤ i ∧ i < (an_sh wX r).2.2 := by
  rw [shX_10 hk]; exact ⟨h0, rfl, rfl, hi0, hi1⟩
theorem tX_10 {r i : Int} {v : pm_V} (h0 : 0 ≤ r) (hk : wX.2 r = 10) (hi0 : 0 ≤ i) (hi1 : i < 72) (hv : pm_okt 0 v = true) : 0 ≤ r ∧ (an_sh wX r).1 = 1 ∧ (an_sh wX r).2.1 = 0 ∧ 0 ≤ i ∧ i < (an_sh wX r).2.2 ∧ pm_okt 0 v = true := by
  rw [shX_10 hk]; exact ⟨h0, rfl, rfl, hi0, hi1, hv⟩
theorem uX_10 {A : pm_A} (h : gH wX A) {r : Int} (hk : wX.2 r = 10) {i x : Int} (h1 : (-2147483648) ≤ x) (h2 : x ≤ 2147483647) : gH wX (pm_upd A r i x) := gH_upd h (k := (1, 0, 72, [(0, (-2147483648), 2147483647)])) (by rw [hk]; rfl) (fun q => by cases q) (fun _ a ha => by cases ha; exact ⟨rfl, h1, h2⟩)
theorem mX_10 {r j : Int} (hk : wX.2 r = 10) {ms : List Nat} (hm : ms.contains 10010 = true) : mcode wX r j ∈ ms := by
  unfold mcode; rw [shX_10 hk]; simp only; rw [hk]; exact List.contains_iff_mem.mp hm
theorem aX_11 {r i : Int} (h0 : 0 ≤ r) (hk : wX.2 r = 11) (hi0 : 0 ≤ i) (hi1 : i < 6) : 0 ≤ r ∧ (an_sh wX r).1 = 1 ∧ (an_sh wX r).2.1 = 1 ∧ 0 ≤ i ∧ i < (an_sh wX r).2.2 := by
  rw [shX_11 hk]; exact ⟨h0, rfl, rfl, hi0, hi1⟩
theorem tX_11 {r i : Int} {v : pm_V} (h0 : 0 ≤ r) (hk : wX.2 r = 11) (hi0 : 0 ≤ i) (hi1 : i < 6) (hv : pm_okt 1 v = true) : 0 ≤ r ∧ (an_sh wX r).1 = 1 ∧ (an_sh wX r).2.1 = 1 ∧ 0 ≤ i ∧ i < (an_sh wX r).2.2 ∧ pm_okt 1 v = true := by
  rw [shX_11 hk]; exact ⟨h0, rfl, rfl, hi0, hi1, hv⟩
theorem uX_11 {A : pm_A} (h : gH wX A) {r : Int} (hk : wX.2 r = 11) {i x : Int} (h1 : (-9223372036854775808) ≤ x) (h2 : x ≤ 9223372036854775807) : gH wX (pm_upd A r i x) := gH_upd h (k := (1, 1, 6, [(1, (-9223372036854775808), 9223372036854775807)])) (by rw [hk]; rfl) (fun q => by cases q) (fun _ a ha => by cases ha; exact ⟨rfl, h1, h2⟩)
theorem mX_11 {r j : Int} (hk : wX.2 r = 11) {ms : List Nat} (hm : ms.contains 10011 = true) : mcode wX r j ∈ ms := by
  unfold mcode; rw [shX_11 hk]; simp only; rw [hk]; exact List.contains_iff_mem.mp hm
theorem aX_12 {r i : Int} (h0 : 0 ≤ r) (hk : wX.2 r = 12) (hi0 : 0 ≤ i) (hi1 : i < 6) : 0 ≤ r ∧ (an_sh wX r).1 = 1 ∧ (an_sh wX r).2.1 = 5 ∧ 0 ≤ i ∧ i < (an_sh wX r).2.2 := by
  rw [shX_12 hk]; exact ⟨h0, rfl, rfl, hi0, hi1⟩
theorem mX_12 {r j : Int} (hk : wX.2 r = 12) {ms : List Nat} (hm : ms.contains 10012 = true) : mcode wX r j ∈ ms := by
  unfold mcode; rw [shX_12 hk]; simp only; rw [hk]; exact List.contains_iff_mem.mp hm
theorem aX_13 {r i : Int} (h0 : 0 ≤ r) (hk : wX.2 r = 13) (hi0 : 0 ≤ i) (hi1 : i < 6) : 0 ≤ r ∧ (an_sh wX r).1 = 1 ∧ (an_sh wX r).2.1 = 0 ∧ 0 ≤ i ∧ i < (an_sh wX r).2.2 := by
  rw [shX_13 hk]; exact ⟨h0, rfl, rfl, hi0, hi1⟩
theorem tX_13 {r i : Int} {v : pm_V} (h0 : 0 ≤ r) (hk : wX.2 r = 13) (hi0 : 0 ≤ i) (hi1 : i < 6) (hv : pm_okt 0 v = true) : 0 ≤ r ∧ (an_sh wX r).1 = 1 ∧ (an_sh wX r).2.1 = 0 ∧ 0 ≤ i ∧ i < (an_sh wX r).2.2 ∧ pm_okt 0 v = true := by
  rw [shX_13 hk]; exact ⟨h0, rfl, rfl, hi0, hi1, hv⟩
theorem uX_13 {A : pm_A} (h : gH wX A) {r : Int} (hk : wX.2 r = 13) {i x : Int} (h1 : (-1) ≤ x) (h2 : x ≤ 5) : gH wX (pm_upd A r i x) := gH_upd h (k := (1, 0, 6, [(0, (-1), 5)])) (by rw [hk]; rfl) (fun q => by cases q) (fun _ a ha => by cases ha; exact ⟨rfl, h1, h2⟩)
theorem mX_13 {r j : Int} (hk : wX.2 r = 13) {ms : List Nat} (hm : ms.contains 10013 = true) : mcode wX r j ∈ ms := by
  unfold mcode; rw [shX_13 hk]; simp only; rw [hk]; exact List.contains_iff_mem.mp hm
theorem aX_14 {r i : Int} (h0 : 0 ≤ r) (hk : wX.2 r = 14) (hi0 : 0 ≤ i) (hi1 : i < 200) : 0 ≤ r ∧ (an_sh wX r).1 = 1 ∧ (an_sh wX r).2.1 = 1 ∧ 0 ≤ i ∧ i < (an_sh wX r).2.2 := by
  rw [shX_14 hk]; exact ⟨h0, rfl, rfl, hi0, hi1⟩
theorem tX_14 {r i : Int} {v : pm_V} (h0 : 0 ≤ r) (hk : wX.2 r = 14) (hi0 : 0 ≤ i) (hi1 : i < 200) (hv : pm_okt 1 v = true) : 0 ≤ r ∧ (an_sh wX r).1 = 1 ∧ (an_sh wX r).2.1 = 1 ∧ 0 ≤ i ∧ i < (an_sh wX r).2.2 ∧ pm_okt 1 v = true := by
  rw [shX_14 hk]; exact ⟨h0, rfl, rfl, hi0, hi1, hv⟩
theorem uX_14 {A : pm_A} (h : gH wX A) {r : Int} (hk : wX.2 r = 14) {i x : Int} (h1 : (-9223372036854775808) ≤ x) (h2 : x ≤ 9223372036854775807) : gH wX (pm_upd A r i x) := gH_upd h (k := (1, 1, 200, [(1, (-9223372036854775808), 9223372036854775807)])) (by rw [hk]; rfl) (fun q => by cases q) (fun _ a ha => by cases ha; exact ⟨rfl, h1, h2⟩)
theorem mX_14 {r j : Int} (hk : wX.2 r = 14) {ms : List Nat} (hm : ms.contains 10014 = true) : mcode wX r j ∈ ms := by
  unfold mcode; rw [shX_14 hk]; simp only; rw [hk]; exact List.contains_iff_mem.mp hm
theorem aX_15 {r i : Int} (h0 : 0 ≤ r) (hk : wX.2 r = 15) (hi0 : 0 ≤ i) (hi1 : i < 2400) : 0 ≤ r ∧ (an_sh wX r).1 = 1 ∧ (an_sh wX r).2.1 = 0 ∧ 0 ≤ i ∧ i < (an_sh wX r).2.2 := by
  rw [shX_15 hk]; exact ⟨h0, rfl, rfl, hi0, hi1⟩
theorem tX_15 {r i : Int} {v : pm_V} (h0 : 0 ≤ r) (hk : wX.2 r = 15) (hi0 : 0 ≤ i) (hi1 : i < 2400) (hv : pm_okt 0 v = true) : 0 ≤ r ∧ (an_sh wX r).1 = 1 ∧ (an_sh wX r).2.1 = 0 ∧ 0 ≤ i ∧ i < (an_sh wX r).2.2 ∧ pm_okt 0 v = true := by
  rw [shX_15 hk]; exact ⟨h0, rfl, rfl, hi0, hi1, hv⟩
theorem uX_15 {A : pm_A} (h : gH wX A) {r : Int} (hk : wX.2 r = 15) {i x : Int} (h1 : (-2147483648) ≤ x) (h2 : x ≤ 2147483647) : gH wX (pm_upd A r i x) := gH_upd h (k := (1, 0, 2400, [(0, (-2147483648), 2147483647)])) (by rw [hk]; rfl) (fun q => by cases q) (fun _ a ha => by cases ha; exact ⟨rfl, h1, h2⟩)
theorem mX_15 {r j : Int} (hk : wX.2 r = 15) {ms : List Nat} (hm : ms.contains 10015 = true) : mcode wX r j ∈ ms := by
  unfold mcode; rw [shX_15 hk]; simp only; rw [hk]; exact List.contains_iff_mem.mp hm
theorem aX_16 {r i : Int} (h0 : 0 ≤ r) (hk : wX.2 r = 16) (hi0 : 0 ≤ i) (hi1 : i < 72) : 0 ≤ r ∧ (an_sh wX r).1 = 1 ∧ (an_sh wX r).2.1 = 0 ∧ 0 ≤ i ∧ i < (an_sh wX r).2.2 := by
  rw [shX_16 hk]; exact ⟨h0, rfl, rfl, hi0, hi1⟩
theorem tX_16 {r i : Int} {v : pm_V} (h0 : 0 ≤ r) (hk : wX.2 r = 16) (hi0 : 0 ≤ i) (hi1 : i < 72) (hv : pm_okt 0 v = true) : 0 ≤ r ∧ (an_sh wX r).1 = 1 ∧ (an_sh wX r).2.1 = 0 ∧ 0 ≤ i ∧ i < (an_sh wX r).2.2 ∧ pm_okt 0 v = true := by
  rw [shX_16 hk]; exact ⟨h0, rfl, rfl, hi0, hi1, hv⟩
theorem uX_16 {A : pm_A} (h : gH wX A) {r : Int} (hk : wX.2 r = 16) {i x : Int} (h1 : (-2999) ≤ x) (h2 : x ≤ 2999) : gH wX (pm_upd A r i x) := gH_upd h (k := (1, 0, 72, [(0, (-2999), 2999)])) (by rw [hk]; rfl) (fun q => by cases q) (fun _ a ha => by cases ha; exact ⟨rfl, h1, h2⟩)
theorem mX_16 {r j : Int} (hk : wX.2 r = 16) {ms : List Nat} (hm : ms.contains 10016 = true) : mcode wX r j ∈ ms := by
  unfold mcode; rw [shX_16 hk]; simp only; rw [hk]; exact List.contains_iff_mem.mp hm
theorem aX_17 {r i : Int} (h0 : 0 ≤ r) (hk : wX.2 r = 17) (hi0 : 0 ≤ i) (hi1 : i < 6) : 0 ≤ r ∧ (an_sh wX r).1 = 1 ∧ (an_sh wX r).2.1 = 0 ∧ 0 ≤ i ∧ i < (an_sh wX r).2.2 := by
  rw [shX_17 hk]; exact ⟨h0, rfl, rfl, hi0, hi1⟩
theorem tX_17 {r i : Int} {v : pm_V} (h0 : 0 ≤ r) (hk : wX.2 r = 17) (hi0 : 0 ≤ i) (hi1 : i < 6) (hv : pm_okt 0 v = true) : 0 ≤ r ∧ (an_sh wX r).1 = 1 ∧ (an_sh wX r).2.1 = 0 ∧ 0 ≤ i ∧ i < (an_sh wX r).2.2 ∧ pm_okt 0 v = true := by
  rw [shX_17 hk]; exact ⟨h0, rfl, rfl, hi0, hi1, hv⟩
theorem uX_17 {A : pm_A} (h : gH wX A) {r : Int} (hk : wX.2 r = 17) {i x : Int} (h1 : 0 ≤ x) (h2 : x ≤ 5) : gH wX (pm_upd A r i x) := gH_upd h (k := (1, 0, 6, [(0, 0, 5)])) (by rw [hk]; rfl) (fun q => by cases q) (fun _ a ha => by cases ha; exact ⟨rfl, h1, h2⟩)
theorem mX_17 {r j : Int} (hk : wX.2 r = 17) {ms : List Nat} (hm : ms.contains 10017 = true) : mcode wX r j ∈ ms := by
  unfold mcode; rw [shX_17 hk]; simp only; rw [hk]; exact List.contains_iff_mem.mp hm
theorem aX_18 {r i : Int} (h0 : 0 ≤ r) (hk : wX.2 r = 18) (hi0 : 0 ≤ i) (hi1 : i < 12) : 0 ≤ r ∧ (an_sh wX r).1 = 1 ∧ (an_sh wX r).2.1 = 0 ∧ 0 ≤ i ∧ i < (an_sh wX r).2.2 := by
  rw [shX_18 hk]; exact ⟨h0, rfl, rfl, hi0, hi1⟩
theorem tX_18 {r i : Int} {v : pm_V} (h0 : 0 ≤ r) (hk : wX.2 r = 18) (hi0 : 0 ≤ i) (hi1 : i < 12) (hv : pm_okt 0 v = true) : 0 ≤ r ∧ (an_sh wX r).1 = 1 ∧ (an_sh wX r).2.1 = 0 ∧ 0 ≤ i ∧ i < (an_sh wX r).2.2 ∧ pm_okt 0 v = true := by
  rw [shX_18 hk]; exact ⟨h0, rfl, rfl, hi0, hi1, hv⟩
theorem uX_18 {A : pm_A} (h : gH wX A) {r : Int} (hk : wX.2 r = 18) {i x : Int} (h1 : (-2147483648) ≤ x) (h2 : x ≤ 2147483647) : gH wX (pm_upd A r i x) := gH_upd h (k := (1, 0, 12, [(0, (-2147483648), 2147483647)])) (by rw [hk]; rfl) (fun q => by cases q) (fun _ a ha => by cases ha; exact ⟨rfl, h1, h2⟩)
theorem mX_18 {r j : Int} (hk : wX.2 r = 18) {ms : List Nat} (hm : ms.contains 10018 = true) : mcode wX r j ∈ ms := by
  unfold mcode; rw [shX_18 hk]; simp only; rw [hk]; exact List.contains_iff_mem.mp hm
theorem aX_19 {r i : Int} (h0 : 0 ≤ r) (hk : wX.2 r = 19) (hi0 : 0 ≤ i) (hi1 : i < 100) : 0 ≤ r ∧ (an_sh wX r).1 = 1 ∧ (an_sh wX r).2.1 = 0 ∧ 0 ≤ i ∧ i < (an_sh wX r).2.2 := by
  rw [shX_19 hk]; exact ⟨h0, rfl, rfl, hi0, hi1⟩
theorem tX_19 {r i : Int} {v : pm_V} (h0 : 0 ≤ r) (hk : wX.2 r = 19) (hi0 : 0 ≤ i) (hi1 : i < 100) (hv : pm_okt 0 v = true) : 0 ≤ r ∧ (an_sh wX r).1 = 1 ∧ (an_sh wX r).2.1 = 0 ∧ 0 ≤ i ∧ i < (an_sh wX r).2.2 ∧ pm_okt 0 v = true := by
  rw [shX_19 hk]; exact ⟨h0, rfl, rfl, hi0, hi1, hv⟩
theorem uX_19 {A : pm_A} (h : gH wX A) {r : Int} (hk : wX.2 r = 19) {i x : Int} (h1 : (-2147483648) ≤ x) (h2 : x ≤ 2147483647) : gH wX (pm_upd A r i x) := gH_upd h (k := (1, 0, 100, [(0, (-2147483648), 2147483647)])) (by rw [hk]; rfl) (fun q => by cases q) (fun _ a ha => by cases ha; exact ⟨rfl, h1, h2⟩)
theorem mX_19 {r j : Int} (hk : wX.2 r = 19) {ms : List Nat} (hm : ms.contains 10019 = true) : mcode wX r j ∈ ms := by
  unfold mcode; rw [shX_19 hk]; simp only; rw [hk]; exact List.contains_iff_mem.mp hm
theorem aX_20 {r i : Int} (h0 : 0 ≤ r) (hk : wX.2 r = 20) (hi0 : 0 ≤ i) (hi1 : i < 4) : 0 ≤ r ∧ (an_sh wX r).1 = 1 ∧ (an_sh wX r).2.1 = 4 ∧ 0 ≤ i ∧ i < (an_sh wX r).2.2 := by
  rw [shX_20 hk]; exact ⟨h0, rfl, rfl, hi0, hi1⟩
theorem mX_20 {r j : Int} (hk : wX.2 r = 20) {ms : List Nat} (hm : ms.contains 10020 = true) : mcode wX r j ∈ ms := by
  unfold mcode; rw [shX_20 hk]; simp only; rw [hk]; exact List.contains_iff_mem.mp hm
theorem aX_21 {r i : Int} (h0 : 0 ≤ r) (hk : wX.2 r = 21) (hi0 : 0 ≤ i) (hi1 : i < 12) : 0 ≤ r ∧ (an_sh wX r).1 = 1 ∧ (an_sh wX r).2.1 = 0 ∧ 0 ≤ i ∧ i < (an_sh wX r).2.2 := by
  rw [shX_21 hk]; exact ⟨h0, rfl, rfl, hi0, hi1⟩
theorem tX_21 {r i : Int} {v : pm_V} (h0 : 0 ≤ r) (hk : wX.2 r = 21) (hi0 : 0 ≤ i) (hi1 : i < 12) (hv : pm_okt 0 v = true) : 0 ≤ r ∧ (an_sh wX r).1 = 1 ∧ (an_sh wX r).2.1 = 0 ∧ 0 ≤ i ∧ i < (an_sh wX r).2.2 ∧ pm_okt 0 v = true := by
  rw [shX_21 hk]; exact ⟨h0, rfl, rfl, hi0, hi1, hv⟩
theorem uX_21 {A : pm_A} (h : gH wX A) {r : Int} (hk : wX.2 r = 21) {i x : Int} (h1 : 0 ≤ x) (h2 : x ≤ 5) : gH wX (pm_upd A r i x) := gH_upd h (k := (1, 0, 12, [(0, 0, 5)])) (by rw [hk]; rfl) (fun q => by cases q) (fun _ a ha => by cases ha; exact ⟨rfl, h1, h2⟩)
theorem mX_21 {r j : Int} (hk : wX.2 r = 21) {ms : List Nat} (hm : ms.contains 10021 = true) : mcode wX r j ∈ ms := by
  unfold mcode; rw [shX_21 hk]; simp only; rw [hk]; exact List.contains_iff_mem.mp hm
theorem aX_22 {r i : Int} (h0 : 0 ≤ r) (hk : wX.2 r = 22) (hi0 : 0 ≤ i) (hi1 : i < 100) : 0 ≤ r ∧ (an_sh wX r).1 = 1 ∧ (an_sh wX r).2.1 = 5 ∧ 0 ≤ i ∧ i < (an_sh wX r).2.2 := by
  rw [shX_22 hk]; exact ⟨h0, rfl, rfl, hi0, hi1⟩
theorem mX_22 {r j : Int} (hk : wX.2 r = 22) {ms : List Nat} (hm : ms.contains 10022 = true) : mcode wX r j ∈ ms := by
  unfold mcode; rw [shX_22 hk]; simp only; rw [hk]; exact List.contains_iff_mem.mp hm
theorem aX_23 {r i : Int} (h0 : 0 ≤ r) (hk : wX.2 r = 23) (hi0 : 0 ≤ i) (hi1 : i < 900) : 0 ≤ r ∧ (an_sh wX r).1 = 1 ∧ (an_sh wX r).2.1 = 0 ∧ 0 ≤ i ∧ i < (an_sh wX r).2.2 := by
  rw [shX_23 hk]; exact ⟨h0, rfl, rfl, hi0, hi1⟩
theorem tX_23 {r i : Int} {v : pm_V} (h0 : 0 ≤ r) (hk : wX.2 r = 23) (hi0 : 0 ≤ i) (hi1 : i < 900) (hv : pm_okt 0 v = true) : 0 ≤ r ∧ (an_sh wX r).1 = 1 ∧ (an_sh wX r).2.1 = 0 ∧ 0 ≤ i ∧ i < (an_sh wX r).2.2 ∧ pm_okt 0 v = true := by
  rw [shX_23 hk]; exact ⟨h0, rfl, rfl, hi0, hi1, hv⟩
theorem uX_23 {A : pm_A} (h : gH wX A) {r : Int} (hk : wX.2 r = 23) {i x : Int} (h1 : 0 ≤ x) (h2 : x ≤ 99) : gH wX (pm_upd A r i x) := gH_upd h (k := (1, 0, 900, [(0, 0, 99)])) (by rw [hk]; rfl) (fun q => by cases q) (fun _ a ha => by cases ha; exact ⟨rfl, h1, h2⟩)
theorem mX_23 {r j : Int} (hk : wX.2 r = 23) {ms : List Nat} (hm : ms.contains 10023 = true) : mcode wX r j ∈ ms := by
  unfold mcode; rw [shX_23 hk]; simp only; rw [hk]; exact List.contains_iff_mem.mp hm
theorem aX_24 {r i : Int} (h0 : 0 ≤ r) (hk : wX.2 r = 24) (hi0 : 0 ≤ i) (hi1 : i < 900) : 0 ≤ r ∧ (an_sh wX r).1 = 1 ∧ (an_sh wX r).2.1 = 2 ∧ 0 ≤ i ∧ i < (an_sh wX r).2.2 := by
  rw [shX_24 hk]; exact ⟨h0, rfl, rfl, hi0, hi1⟩
theorem tX_24 {r i : Int} {v : pm_V} (h0 : 0 ≤ r) (hk : wX.2 r = 24) (hi0 : 0 ≤ i) (hi1 : i < 900) (hv : pm_okt 2 v = true) : 0 ≤ r ∧ (an_sh wX r).1 = 1 ∧ (an_sh wX r).2.1 = 2 ∧ 0 ≤ i ∧ i < (an_sh wX r).2.2 ∧ pm_okt 2 v = true := by
  rw [shX_24 hk]; exact ⟨h0, rfl, rfl, hi0, hi1, hv⟩
theorem uX_24 {A : pm_A} (h : gH wX A) {r : Int} (hk : wX.2 r = 24) {i x : Int} (h1 : 0 ≤ x) (h2 : x ≤ 1) : gH wX (pm_upd A r i x) := gH_upd h (k := (1, 2, 900, [(0, 0, 1)])) (by rw [hk]; rfl) (fun q => by cases q) (fun _ a ha => by cases ha; exact ⟨rfl, h1, h2⟩)
theorem mX_24 {r j : Int} (hk : wX.2 r = 24) {ms : List Nat} (hm : ms.contains 10024 = true) : mcode wX r j ∈ ms := by
  unfold mcode; rw [shX_24 hk]; simp only; rw [hk]; exact List.contains_iff_mem.mp hm
theorem aX_25 {r i : Int} (h0 : 0 ≤ r) (hk : wX.2 r = 25) (hi0 : 0 ≤ i) (hi1 : i < 10800) : 0 ≤ r ∧ (an_sh wX r).1 = 1 ∧ (an_sh wX r).2.1 = 0 ∧ 0 ≤ i ∧ i < (an_sh wX r).2.2 := by
  rw [shX_25 hk]; exact ⟨h0, rfl, rfl, hi0, hi1⟩
theorem tX_25 {r i : Int} {v : pm_V} (h0 : 0 ≤ r) (hk : wX.2 r = 25) (hi0 : 0 ≤ i) (hi1 : i < 10800) (hv : pm_okt 0 v = true) : 0 ≤ r ∧ (an_sh wX r).1 = 1 ∧ (an_sh wX r).2.1 = 0 ∧ 0 ≤ i ∧ i < (an_sh wX r).2.2 ∧ pm_okt 0 v = true := by
  rw [shX_25 hk]; exact ⟨h0, rfl, rfl, hi0, hi1, hv⟩
theorem uX_25 {A : pm_A} (h : gH wX A) {r : Int} (hk : wX.2 r = 25) {i x : Int} (h1 : (-2147483648) ≤ x) (h2 : x ≤ 2147483647) : gH wX (pm_upd A r i x) := gH_upd h (k := (1, 0, 10800, [(0, (-2147483648), 2147483647)])) (by rw [hk]; rfl) (fun q => by cases q) (fun _ a ha => by cases ha; exact ⟨rfl, h1, h2⟩)
theorem mX_25 {r j : Int} (hk : wX.2 r = 25) {ms : List Nat} (hm : ms.contains 10025 = true) : mcode wX r j ∈ ms := by
  unfold mcode; rw [shX_25 hk]; simp only; rw [hk]; exact List.contains_iff_mem.mp hm
theorem aX_26 {r i : Int} (h0 : 0 ≤ r) (hk : wX.2 r = 26) (hi0 : 0 ≤ i) (hi1 : i < 150) : 0 ≤ r ∧ (an_sh wX r).1 = 1 ∧ (an_sh wX r).2.1 = 1 ∧ 0 ≤ i ∧ i < (an_sh wX r).2.2 := by
  rw [shX_26 hk]; exact ⟨h0, rfl, rfl, hi0, hi1⟩
theorem tX_26 {r i : Int} {v : pm_V} (h0 : 0 ≤ r) (hk : wX.2 r = 26) (hi0 : 0 ≤ i) (hi1 : i < 150) (hv : pm_okt 1 v = true) : 0 ≤ r ∧ (an_sh wX r).1 = 1 ∧ (an_sh wX r).2.1 = 1 ∧ 0 ≤ i ∧ i < (an_sh wX r).2.2 ∧ pm_okt 1 v = true := by
  rw [shX_26 hk]; exact ⟨h0, rfl, rfl, hi0, hi1, hv⟩
theorem uX_26 {A : pm_A} (h : gH wX A) {r : Int} (hk : wX.2 r = 26) {i x : Int} (h1 : (-9223372036854775808) ≤ x) (h2 : x ≤ 9223372036854775807) : gH wX (pm_upd A r i x) := gH_upd h (k := (1, 1, 150, [(1, (-9223372036854775808), 9223372036854775807)])) (by rw [hk]; rfl) (fun q => by cases q) (fun _ a ha => by cases ha; exact ⟨rfl, h1, h2⟩)
theorem mX_26 {r j : Int} (hk : wX.2 r = 26) {ms : List Nat} (hm : ms.contains 10026 = true) : mcode wX r j ∈ ms := by
  unfold mcode; rw [shX_26 hk]; simp only; rw [hk]; exact List.contains_iff_mem.mp hm
theorem aX_27 {r i : Int} (h0 : 0 ≤ r) (hk : wX.2 r = 27) (hi0 : 0 ≤ i) (hi1 : i < 6) : 0 ≤ r ∧ (an_sh wX r).1 = 1 ∧ (an_sh wX r).2.1 = 0 ∧ 0 ≤ i ∧ i < (an_sh wX r).2.2 := by
  rw [shX_27 hk]; exact ⟨h0, rfl, rfl, hi0, hi1⟩
theorem tX_27 {r i : Int} {v : pm_V} (h0 : 0 ≤ r) (hk : wX.2 r = 27) (hi0 : 0 ≤ i) (hi1 : i < 6) (hv : pm_okt 0 v = true) : 0 ≤ r ∧ (an_sh wX r).1 = 1 ∧ (an_sh wX r).2.1 = 0 ∧ 0 ≤ i ∧ i < (an_sh wX r).2.2 ∧ pm_okt 0 v = true := by
  rw [shX_27 hk]; exact ⟨h0, rfl, rfl, hi0, hi1, hv⟩
theorem uX_27 {A : pm_A} (h : gH wX A) {r : Int} (hk : wX.2 r = 27) {i x : Int} (h1 : (-1) ≤ x) (h2 : x ≤ 99) : gH wX (pm_upd A r i x) := gH_upd h (k := (1, 0, 6, [(0, (-1), 99)])) (by rw [hk]; rfl) (fun q => by cases q) (fun _ a ha => by cases ha; exact ⟨rfl, h1, h2⟩)
theorem mX_27 {r j : Int} (hk : wX.2 r = 27) {ms : List Nat} (hm : ms.contains 10027 = true) : mcode wX r j ∈ ms := by
  unfold mcode; rw [shX_27 hk]; simp only; rw [hk]; exact List.contains_iff_mem.mp hm
theorem aX_28 {r i : Int} (h0 : 0 ≤ r) (hk : wX.2 r = 28) (hi0 : 0 ≤ i) (hi1 : i < 100) : 0 ≤ r ∧ (an_sh wX r).1 = 1 ∧ (an_sh wX r).2.1 = 1 ∧ 0 ≤ i ∧ i < (an_sh wX r).2.2 := by
  rw [shX_28 hk]; exact ⟨h0, rfl, rfl, hi0, hi1⟩
theorem tX_28 {r i : Int} {v : pm_V} (h0 : 0 ≤ r) (hk : wX.2 r = 28) (hi0 : 0 ≤ i) (hi1 : i < 100) (hv : pm_okt 1 v = true) : 0 ≤ r ∧ (an_sh wX r).1 = 1 ∧ (an_sh wX r).2.1 = 1 ∧ 0 ≤ i ∧ i < (an_sh wX r).2.2 ∧ pm_okt 1 v = true := by
  rw [shX_28 hk]; exact ⟨h0, rfl, rfl, hi0, hi1, hv⟩
theorem uX_28 {A : pm_A} (h : gH wX A) {r : Int} (hk : wX.2 r = 28) {i x : Int} (h1 : (-9223372036854775808) ≤ x) (h2 : x ≤ 9223372036854775807) : gH wX (pm_upd A r i x) := gH_upd h (k := (1, 1, 100, [(1, (-9223372036854775808), 9223372036854775807)])) (by rw [hk]; rfl) (fun q => by cases q) (fun _ a ha => by cases ha; exact ⟨rfl, h1, h2⟩)
theorem mX_28 {r j : Int} (hk : wX.2 r = 28) {ms : List Nat} (hm : ms.contains 10028 = true) : mcode wX r j ∈ ms := by
  unfold mcode; rw [shX_28 hk]; simp only; rw [hk]; exact List.contains_iff_mem.mp hm
theorem aX_29 {r i : Int} (h0 : 0 ≤ r) (hk : wX.2 r = 29) (hi0 : 0 ≤ i) (hi1 : i < 1200) : 0 ≤ r ∧ (an_sh wX r).1 = 1 ∧ (an_sh wX r).2.1 = 0 ∧ 0 ≤ i ∧ i < (an_sh wX r).2.2 := by
  rw [shX_29 hk]; exact ⟨h0, rfl, rfl, hi0, hi1⟩
theorem tX_29 {r i : Int} {v : pm_V} (h0 : 0 ≤ r) (hk : wX.2 r = 29) (hi0 : 0 ≤ i) (hi1 : i < 1200) (hv : pm_okt 0 v = true) : 0 ≤ r ∧ (an_sh wX r).1 = 1 ∧ (an_sh wX r).2.1 = 0 ∧ 0 ≤ i ∧ i < (an_sh wX r).2.2 ∧ pm_okt 0 v = true := by
  rw [shX_29 hk]; exact ⟨h0, rfl, rfl, hi0, hi1, hv⟩
theorem uX_29 {A : pm_A} (h : gH wX A) {r : Int} (hk : wX.2 r = 29) {i x : Int} (h1 : (-2147483648) ≤ x) (h2 : x ≤ 2147483647) : gH wX (pm_upd A r i x) := gH_upd h (k := (1, 0, 1200, [(0, (-2147483648), 2147483647)])) (by rw [hk]; rfl) (fun q => by cases q) (fun _ a ha => by cases ha; exact ⟨rfl, h1, h2⟩)
theorem mX_29 {r j : Int} (hk : wX.2 r = 29) {ms : List Nat} (hm : ms.contains 10029 = true) : mcode wX r j ∈ ms := by
  unfold mcode; rw [shX_29 hk]; simp only; rw [hk]; exact List.contains_iff_mem.mp hm
theorem aX_30 {r i : Int} (h0 : 0 ≤ r) (hk : wX.2 r = 30) (hi0 : 0 ≤ i) (hi1 : i < 3000) : 0 ≤ r ∧ (an_sh wX r).1 = 1 ∧ (an_sh wX r).2.1 = 1 ∧ 0 ≤ i ∧ i < (an_sh wX r).2.2 := by
  rw [shX_30 hk]; exact ⟨h0, rfl, rfl, hi0, hi1⟩
theorem tX_30 {r i : Int} {v : pm_V} (h0 : 0 ≤ r) (hk : wX.2 r = 30) (hi0 : 0 ≤ i) (hi1 : i < 3000) (hv : pm_okt 1 v = true) : 0 ≤ r ∧ (an_sh wX r).1 = 1 ∧ (an_sh wX r).2.1 = 1 ∧ 0 ≤ i ∧ i < (an_sh wX r).2.2 ∧ pm_okt 1 v = true := by
  rw [shX_30 hk]; exact ⟨h0, rfl, rfl, hi0, hi1, hv⟩
theorem uX_30 {A : pm_A} (h : gH wX A) {r : Int} (hk : wX.2 r = 30) {i x : Int} (h1 : (-9223372036854775808) ≤ x) (h2 : x ≤ 9223372036854775807) : gH wX (pm_upd A r i x) := gH_upd h (k := (1, 1, 3000, [(1, (-9223372036854775808), 9223372036854775807)])) (by rw [hk]; rfl) (fun q => by cases q) (fun _ a ha => by cases ha; exact ⟨rfl, h1, h2⟩)
theorem mX_30 {r j : Int} (hk : wX.2 r = 30) {ms : List Nat} (hm : ms.contains 10030 = true) : mcode wX r j ∈ ms := by
  unfold mcode; rw [shX_30 hk]; simp only; rw [hk]; exact List.contains_iff_mem.mp hm
theorem aX_31 {r i : Int} (h0 : 0 ≤ r) (hk : wX.2 r = 31) (hi0 : 0 ≤ i) (hi1 : i < 3000) : 0 ≤ r ∧ (an_sh wX r).1 = 1 ∧ (an_sh wX r).2.1 = 0 ∧ 0 ≤ i ∧ i < (an_sh wX r).2.2 := by
  rw [shX_31 hk]; exact ⟨h0, rfl, rfl, hi0, hi1⟩
theorem tX_31 {r i : Int} {v : pm_V} (h0 : 0 ≤ r) (hk : wX.2 r = 31) (hi0 : 0 ≤ i) (hi1 : i < 3000) (hv : pm_okt 0 v = true) : 0 ≤ r ∧ (an_sh wX r).1 = 1 ∧ (an_sh wX r).2.1 = 0 ∧ 0 ≤ i ∧ i < (an_sh wX r).2.2 ∧ pm_okt 0 v = true := by
  rw [shX_31 hk]; exact ⟨h0, rfl, rfl, hi0, hi1, hv⟩
theorem uX_31 {A : pm_A} (h : gH wX A) {r : Int} (hk : wX.2 r = 31) {i x : Int} (h1 : (-1) ≤ x) (h2 : x ≤ 2999) : gH wX (pm_upd A r i x) := gH_upd h (k := (1, 0, 3000, [(0, (-1), 2999)])) (by rw [hk]; rfl) (fun q => by cases q) (fun _ a ha => by cases ha; exact ⟨rfl, h1, h2⟩)
theorem mX_31 {r j : Int} (hk : wX.2 r = 31) {ms : List Nat} (hm : ms.contains 10031 = true) : mcode wX r j ∈ ms := by
  unfold mcode; rw [shX_31 hk]; simp only; rw [hk]; exact List.contains_iff_mem.mp hm
theorem aX_32 {r i : Int} (h0 : 0 ≤ r) (hk : wX.2 r = 32) (hi0 : 0 ≤ i) (hi1 : i < 3000) : 0 ≤ r ∧ (an_sh wX r).1 = 1 ∧ (an_sh wX r).2.1 = 0 ∧ 0 ≤ i ∧ i < (an_sh wX r).2.2 := by
  rw [shX_32 hk]; exact ⟨h0, rfl, rfl, hi0, hi1⟩
theorem tX_32 {r i : Int} {v : pm_V} (h0 : 0 ≤ r) (hk : wX.2 r = 32) (hi0 : 0 ≤ i) (hi1 : i < 3000) (hv : pm_okt 0 v = true) : 0 ≤ r ∧ (an_sh wX r).1 = 1 ∧ (an_sh wX r).2.1 = 0 ∧ 0 ≤ i ∧ i < (an_sh wX r).2.2 ∧ pm_okt 0 v = true := by
  rw [shX_32 hk]; exact ⟨h0, rfl, rfl, hi0, hi1, hv⟩
theorem uX_32 {A : pm_A} (h : gH wX A) {r : Int} (hk : wX.2 r = 32) {i x : Int} (h1 : (-2147483648) ≤ x) (h2 : x ≤ 2147483647) : gH wX (pm_upd A r i x) := gH_upd h (k := (1, 0, 3000, [(0, (-2147483648), 2147483647)])) (by rw [hk]; rfl) (fun q => by cases q) (fun _ a ha => by cases ha; exact ⟨rfl, h1, h2⟩)
theorem mX_32 {r j : Int} (hk : wX.2 r = 32) {ms : List Nat} (hm : ms.contains 10032 = true) : mcode wX r j ∈ ms := by
  unfold mcode; rw [shX_32 hk]; simp only; rw [hk]; exact List.contains_iff_mem.mp hm
theorem aX_33 {r i : Int} (h0 : 0 ≤ r) (hk : wX.2 r = 33) (hi0 : 0 ≤ i) (hi1 : i < 8192) : 0 ≤ r ∧ (an_sh wX r).1 = 1 ∧ (an_sh wX r).2.1 = 0 ∧ 0 ≤ i ∧ i < (an_sh wX r).2.2 := by
  rw [shX_33 hk]; exact ⟨h0, rfl, rfl, hi0, hi1⟩
theorem tX_33 {r i : Int} {v : pm_V} (h0 : 0 ≤ r) (hk : wX.2 r = 33) (hi0 : 0 ≤ i) (hi1 : i < 8192) (hv : pm_okt 0 v = true) : 0 ≤ r ∧ (an_sh wX r).1 = 1 ∧ (an_sh wX r).2.1 = 0 ∧ 0 ≤ i ∧ i < (an_sh wX r).2.2 ∧ pm_okt 0 v = true := by
  rw [shX_33 hk]; exact ⟨h0, rfl, rfl, hi0, hi1, hv⟩
theorem uX_33 {A : pm_A} (h : gH wX A) {r : Int} (hk : wX.2 r = 33) {i x : Int} (h1 : 0 ≤ x) (h2 : x ≤ 3000) : gH wX (pm_upd A r i x) := gH_upd h (k := (1, 0, 8192, [(0, 0, 3000)])) (by rw [hk]; rfl) (fun q => by cases q) (fun _ a ha => by cases ha; exact ⟨rfl, h1, h2⟩)
theorem mX_33 {r j : Int} (hk : wX.2 r = 33) {ms : List Nat} (hm : ms.contains 10033 = true) : mcode wX r j ∈ ms := by
  unfold mcode; rw [shX_33 hk]; simp only; rw [hk]; exact List.contains_iff_mem.mp hm
theorem aX_34 {r i : Int} (h0 : 0 ≤ r) (hk : wX.2 r = 34) (hi0 : 0 ≤ i) (hi1 : i < 2) : 0 ≤ r ∧ (an_sh wX r).1 = 1 ∧ (an_sh wX r).2.1 = 3 ∧ 0 ≤ i ∧ i < (an_sh wX r).2.2 := by
  rw [shX_34 hk]; exact ⟨h0, rfl, rfl, hi0, hi1⟩
theorem mX_34 {r j : Int} (hk : wX.2 r = 34) {ms : List Nat} (hm : ms.contains 10034 = true) : mcode wX r j ∈ ms := by
  unfold mcode; rw [shX_34 hk]; simp only; rw [hk]; exact List.contains_iff_mem.mp hm
theorem aX_35 {r i : Int} (h0 : 0 ≤ r) (hk : wX.2 r = 35) (hi0 : 0 ≤ i) (hi1 : i < 64) : 0 ≤ r ∧ (an_sh wX r).1 = 1 ∧ (an_sh wX r).2.1 = 0 ∧ 0 ≤ i ∧ i < (an_sh wX r).2.2 := by
  rw [shX_35 hk]; exact ⟨h0, rfl, rfl, hi0, hi1⟩
theorem tX_35 {r i : Int} {v : pm_V} (h0 : 0 ≤ r) (hk : wX.2 r = 35) (hi0 : 0 ≤ i) (hi1 : i < 64) (hv : pm_okt 0 v = true) : 0 ≤ r ∧ (an_sh wX r).1 = 1 ∧ (an_sh wX r).2.1 = 0 ∧ 0 ≤ i ∧ i < (an_sh wX r).2.2 ∧ pm_okt 0 v = true := by
  rw [shX_35 hk]; exact ⟨h0, rfl, rfl, hi0, hi1, hv⟩
theorem uX_35 {A : pm_A} (h : gH wX A) {r : Int} (hk : wX.2 r = 35) {i x : Int} (h1 : (-2147483648) ≤ x) (h2 : x ≤ 2147483647) : gH wX (pm_upd A r i x) := gH_upd h (k := (1, 0, 64, [(0, (-2147483648), 2147483647)])) (by rw [hk]; rfl) (fun q => by cases q) (fun _ a ha => by cases ha; exact ⟨rfl, h1, h2⟩)
theorem mX_35 {r j : Int} (hk : wX.2 r = 35) {ms : List Nat} (hm : ms.contains 10035 = true) : mcode wX r j ∈ ms := by
  unfold mcode; rw [shX_35 hk]; simp only; rw [hk]; exact List.contains_iff_mem.mp hm
theorem oM_0 {r : Int} (h0 : 0 ≤ r) (hk : wM.2 r = 0) (j : Nat) (hj : Nat.blt j 58 = true) : 0 ≤ r ∧ (an_sh wM r).1 = 0 ∧ (an_sh wM r).2.1 = 10 ∧ (j : Int) < (an_sh wM r).2.2 := by
  rw [shM_0 hk]; exact ⟨h0, rfl, rfl, by have : j < 58 := Nat.le_of_ble_eq_true hj; simp only; omega⟩
theorem rM_0 {r : Int} (h0 : 0 ≤ r) (hk : wM.2 r = 0) : decide (0 ≤ r ∧ (an_sh wM r).1 = 0 ∧ (an_sh wM r).2.1 = 10) = true := by
  rw [decide_eq_true_eq, shM_0 hk]; exact ⟨h0, rfl, rfl⟩
theorem aM_1 {r i : Int} (h0 : 0 ≤ r) (hk : wM.2 r = 1) (hi0 : 0 ≤ i) (hi1 : i < 152) : 0 ≤ r ∧ (an_sh wM r).1 = 1 ∧ (an_sh wM r).2.1 = 0 ∧ 0 ≤ i ∧ i < (an_sh wM r).2.2 := by
  rw [shM_1 hk]; exact ⟨h0, rfl, rfl, hi0, hi1⟩
theorem tM_1 {r i : Int} {v : pm_V} (h0 : 0 ≤ r) (hk : wM.2 r = 1) (hi0 : 0 ≤ i) (hi1 : i < 152) (hv : pm_okt 0 v = true) : 0 ≤ r ∧ (an_sh wM r).1 = 1 ∧ (an_sh wM r).2.1 = 0 ∧ 0 ≤ i ∧ i < (an_sh wM r).2.2 ∧ pm_okt 0 v = true := by
  rw [shM_1 hk]; exact ⟨h0, rfl, rfl, hi0, hi1, hv⟩
theorem uM_1 {A : pm_A} (h : gH wM A) {r : Int} (hk : wM.2 r = 1) {i x : Int} (h1 : 0 ≤ x) (h2 : x ≤ 200) : gH wM (pm_upd A r i x) := gH_upd h (k := (1, 0, 152, [(0, 0, 200)])) (by rw [hk]; rfl) (fun q => by cases q) (fun _ a ha => by cases ha; exact ⟨rfl, h1, h2⟩)
theorem mM_1 {r j : Int} (hk : wM.2 r = 1) {ms : List Nat} (hm : ms.contains 10001 = true) : mcode wM r j ∈ ms := by
  unfold mcode; rw [shM_1 hk]; simp only; rw [hk]; exact List.contains_iff_mem.mp hm
theorem aM_2 {r i : Int} (h0 : 0 ≤ r) (hk : wM.2 r = 2) (hi0 : 0 ≤ i) (hi1 : i < 30400) : 0 ≤ r ∧ (an_sh wM r).1 = 1 ∧ (an_sh wM r).2.1 = 1 ∧ 0 ≤ i ∧ i < (an_sh wM r).2.2 := by
  rw [shM_2 hk]; exact ⟨h0, rfl, rfl, hi0, hi1⟩
theorem tM_2 {r i : Int} {v : pm_V} (h0 : 0 ≤ r) (hk : wM.2 r = 2) (hi0 : 0 ≤ i) (hi1 : i < 30400) (hv : pm_okt 1 v = true) : 0 ≤ r ∧ (an_sh wM r).1 = 1 ∧ (an_sh wM r).2.1 = 1 ∧ 0 ≤ i ∧ i < (an_sh wM r).2.2 ∧ pm_okt 1 v = true := by
  rw [shM_2 hk]; exact ⟨h0, rfl, rfl, hi0, hi1, hv⟩
theorem uM_2 {A : pm_A} (h : gH wM A) {r : Int} (hk : wM.2 r = 2) {i x : Int} (h1 : (-9223372036854775808) ≤ x) (h2 : x ≤ 9223372036854775807) : gH wM (pm_upd A r i x) := gH_upd h (k := (1, 1, 30400, [(1, (-9223372036854775808), 9223372036854775807)])) (by rw [hk]; rfl) (fun q => by cases q) (fun _ a ha => by cases ha; exact ⟨rfl, h1, h2⟩)
theorem mM_2 {r j : Int} (hk : wM.2 r = 2) {ms : List Nat} (hm : ms.contains 10002 = true) : mcode wM r j ∈ ms := by
  unfold mcode; rw [shM_2 hk]; simp only; rw [hk]; exact List.contains_iff_mem.mp hm
theorem aM_3 {r i : Int} (h0 : 0 ≤ r) (hk : wM.2 r = 3) (hi0 : 0 ≤ i) (hi1 : i < 364800) : 0 ≤ r ∧ (an_sh wM r).1 = 1 ∧ (an_sh wM r).2.1 = 0 ∧ 0 ≤ i ∧ i < (an_sh wM r).2.2 := by
  rw [shM_3 hk]; exact ⟨h0, rfl, rfl, hi0, hi1⟩
theorem tM_3 {r i : Int} {v : pm_V} (h0 : 0 ≤ r) (hk : wM.2 r = 3) (hi0 : 0 ≤ i) (hi1 : i < 364800) (hv : pm_okt 0 v = true) : 0 ≤ r ∧ (an_sh wM r).1 = 1 ∧ (an_sh wM r).2.1 = 0 ∧ 0 ≤ i ∧ i < (an_sh wM r).2.2 ∧ pm_okt 0 v = true := by
  rw [shM_3 hk]; exact ⟨h0, rfl, rfl, hi0, hi1, hv⟩
theorem uM_3 {A : pm_A} (h : gH wM A) {r : Int} (hk : wM.2 r = 3) {i x : Int} (h1 : (-2147483648) ≤ x) (h2 : x ≤ 2147483647) : gH wM (pm_upd A r i x) := gH_upd h (k := (1, 0, 364800, [(0, (-2147483648), 2147483647)])) (by rw [hk]; rfl) (fun q => by cases q) (fun _ a ha => by cases ha; exact ⟨rfl, h1, h2⟩)
theorem mM_3 {r j : Int} (hk : wM.2 r = 3) {ms : List Nat} (hm : ms.contains 10003 = true) : mcode wM r j ∈ ms := by
  unfold mcode; rw [shM_3 hk]; simp only; rw [hk]; exact List.contains_iff_mem.mp hm
theorem aM_4 {r i : Int} (h0 : 0 ≤ r) (hk : wM.2 r = 4) (hi0 : 0 ≤ i) (hi1 : i < 12) : 0 ≤ r ∧ (an_sh wM r).1 = 1 ∧ (an_sh wM r).2.1 = 0 ∧ 0 ≤ i ∧ i < (an_sh wM r).2.2 := by
  rw [shM_4 hk]; exact ⟨h0, rfl, rfl, hi0, hi1⟩
theorem tM_4 {r i : Int} {v : pm_V} (h0 : 0 ≤ r) (hk : wM.2 r = 4) (hi0 : 0 ≤ i) (hi1 : i < 12) (hv : pm_okt 0 v = true) : 0 ≤ r ∧ (an_sh wM r).1 = 1 ∧ (an_sh wM r).2.1 = 0 ∧ 0 ≤ i ∧ i < (an_sh wM r).2.2 ∧ pm_okt 0 v = true := by
  rw [shM_4 hk]; exact ⟨h0, rfl, rfl, hi0, hi1, hv⟩
theorem uM_4 {A : pm_A} (h : gH wM A) {r : Int} (hk : wM.2 r = 4) {i x : Int} (h1 : (-2147483648) ≤ x) (h2 : x ≤ 2147483647) : gH wM (pm_upd A r i x) := gH_upd h (k := (1, 0, 12, [(0, (-2147483648), 2147483647)])) (by rw [hk]; rfl) (fun q => by cases q) (fun _ a ha => by cases ha; exact ⟨rfl, h1, h2⟩)
theorem mM_4 {r j : Int} (hk : wM.2 r = 4) {ms : List Nat} (hm : ms.contains 10004 = true) : mcode wM r j ∈ ms := by
  unfold mcode; rw [shM_4 hk]; simp only; rw [hk]; exact List.contains_iff_mem.mp hm
theorem aM_5 {r i : Int} (h0 : 0 ≤ r) (hk : wM.2 r = 5) (hi0 : 0 ≤ i) (hi1 : i < 72) : 0 ≤ r ∧ (an_sh wM r).1 = 1 ∧ (an_sh wM r).2.1 = 0 ∧ 0 ≤ i ∧ i < (an_sh wM r).2.2 := by
  rw [shM_5 hk]; exact ⟨h0, rfl, rfl, hi0, hi1⟩
theorem tM_5 {r i : Int} {v : pm_V} (h0 : 0 ≤ r) (hk : wM.2 r = 5) (hi0 : 0 ≤ i) (hi1 : i < 72) (hv : pm_okt 0 v = true) : 0 ≤ r ∧ (an_sh wM r).1 = 1 ∧ (an_sh wM r).2.1 = 0 ∧ 0 ≤ i ∧ i < (an_sh wM r).2.2 ∧ pm_okt 0 v = true := by
  rw [shM_5 hk]; exact ⟨h0, rfl, rfl, hi0, hi1, hv⟩
theorem uM_5 {A : pm_A} (h : gH wM A) {r : Int} (hk : wM.2 r = 5) {i x : Int} (h1 : (-2147483648) ≤ x) (h2 : x ≤ 2147483647) : gH wM (pm_upd A r i x) := gH_upd h (k := (1, 0, 72, [(0, (-2147483648), 2147483647)])) (by rw [hk]; rfl) (fun q => by cases q) (fun _ a ha => by cases ha; exact ⟨rfl, h1, h2⟩)
theorem mM_5 {r j : Int} (hk : wM.2 r = 5) {ms : List Nat} (hm : ms.contains 10005 = true) : mcode wM r j ∈ ms := by
  unfold mcode; rw [shM_5 hk]; simp only; rw [hk]; exact List.contains_iff_mem.mp hm
theorem aM_6 {r i : Int} (h0 : 0 ≤ r) (hk : wM.2 r = 6) (hi0 : 0 ≤ i) (hi1 : i < 101) : 0 ≤ r ∧ (an_sh wM r).1 = 1 ∧ (an_sh wM r).2.1 = 0 ∧ 0 ≤ i ∧ i < (an_sh wM r).2.2 := by
  rw [shM_6 hk]; exact ⟨h0, rfl, rfl, hi0, hi1⟩
theorem tM_6 {r i : Int} {v : pm_V} (h0 : 0 ≤ r) (hk : wM.2 r = 6) (hi0 : 0 ≤ i) (hi1 : i < 101) (hv : pm_okt 0 v = true) : 0 ≤ r ∧ (an_sh wM r).1 = 1 ∧ (an_sh wM r).2.1 = 0 ∧ 0 ≤ i ∧ i < (an_sh wM r).2.2 ∧ pm_okt 0 v = true := by
  rw [shM_6 hk]; exact ⟨h0, rfl, rfl, hi0, hi1, hv⟩
theorem uM_6 {A : pm_A} (h : gH wM A) {r : Int} (hk : wM.2 r = 6) {i x : Int} (h1 : 0 ≤ x) (h2 : x ≤ 5) : gH wM (pm_upd A r i x) := gH_upd h (k := (1, 0, 101, [(0, 0, 5)])) (by rw [hk]; rfl) (fun q => by cases q) (fun _ a ha => by cases ha; exact ⟨rfl, h1, h2⟩)
theorem mM_6 {r j : Int} (hk : wM.2 r = 6) {ms : List Nat} (hm : ms.contains 10006 = true) : mcode wM r j ∈ ms := by
  unfold mcode; rw [shM_6 hk]; simp only; rw [hk]; exact List.contains_iff_mem.mp hm
theorem aM_7 {r i : Int} (h0 : 0 ≤ r) (hk : wM.2 r = 7) (hi0 : 0 ≤ i) (hi1 : i < 72) : 0 ≤ r ∧ (an_sh wM r).1 = 1 ∧ (an_sh wM r).2.1 = 0 ∧ 0 ≤ i ∧ i < (an_sh wM r).2.2 := by
  rw [shM_7 hk]; exact ⟨h0, rfl, rfl, hi0, hi1⟩
theorem tM_7 {r i : Int} {v : pm_V} (h0 : 0 ≤ r) (hk : wM.2 r = 7) (hi0 : 0 ≤ i) (hi1 : i < 72) (hv : pm_okt 0 v = true) : 0 ≤ r ∧ (an_sh wM r).1 = 1 ∧ (an_sh wM r).2.1 = 0 ∧ 0 ≤ i ∧ i < (an_sh wM r).2.2 ∧ pm_okt 0 v = true := by
  rw [shM_7 hk]; exact ⟨h0, rfl, rfl, hi0, hi1, hv⟩
theorem uM_7 {A : pm_A} (h : gH wM A) {r : Int} (hk : wM.2 r = 7) {i x : Int} (h1 : (-2999) ≤ x) (h2 : x ≤ 2999) : gH wM (pm_upd A r i x) := gH_upd h (k := (1, 0, 72, [(0, (-2999), 2999)])) (by rw [hk]; rfl) (fun q => by cases q) (fun _ a ha => by cases ha; exact ⟨rfl, h1, h2⟩)
theorem mM_7 {r j : Int} (hk : wM.2 r = 7) {ms : List Nat} (hm : ms.contains 10007 = true) : mcode wM r j ∈ ms := by
  unfold mcode; rw [shM_7 hk]; simp only; rw [hk]; exact List.contains_iff_mem.mp hm
theorem aM_8 {r i : Int} (h0 : 0 ≤ r) (hk : wM.2 r = 8) (hi0 : 0 ≤ i) (hi1 : i < 6) : 0 ≤ r ∧ (an_sh wM r).1 = 1 ∧ (an_sh wM r).2.1 = 1 ∧ 0 ≤ i ∧ i < (an_sh wM r).2.2 := by
  rw [shM_8 hk]; exact ⟨h0, rfl, rfl, hi0, hi1⟩
theorem tM_8 {r i : Int} {v : pm_V} (h0 : 0 ≤ r) (hk : wM.2 r = 8) (hi0 : 0 ≤ i) (hi1 : i < 6) (hv : pm_okt 1 v = true) : 0 ≤ r ∧ (an_sh wM r).1 = 1 ∧ (an_sh wM r).2.1 = 1 ∧ 0 ≤ i ∧ i < (an_sh wM r).2.2 ∧ pm_okt 1 v = true := by
  rw [shM_8 hk]; exact ⟨h0, rfl, rfl, hi0, hi1, hv⟩
theorem uM_8 {A : pm_A} (h : gH wM A) {r : Int} (hk : wM.2 r = 8) {i x : Int} (h1 : (-9223372036854775808) ≤ x) (h2 : x ≤ 9223372036854775807) : gH wM (pm_upd A r i x) := gH_upd h (k := (1, 1, 6, [(1, (-9223372036854775808), 9223372036854775807)])) (by rw [hk]; rfl) (fun q => by cases q) (fun _ a ha => by cases ha; exact ⟨rfl, h1, h2⟩)
theorem mM_8 {r j : Int} (hk : wM.2 r = 8) {ms : List Nat} (hm : ms.contains 10008 = true) : mcode wM r j ∈ ms := by
  unfold mcode; rw [shM_8 hk]; simp only; rw [hk]; exact List.contains_iff_mem.mp hm
theorem aM_9 {r i : Int} (h0 : 0 ≤ r) (hk : wM.2 r = 9) (hi0 : 0 ≤ i) (hi1 : i < 6) : 0 ≤ r ∧ (an_sh wM r).1 = 1 ∧ (an_sh wM r).2.1 = 1 ∧ 0 ≤ i ∧ i < (an_sh wM r).2.2 := by
  rw [shM_9 hk]; exact ⟨h0, rfl, rfl, hi0, hi1⟩
theorem tM_9 {r i : Int} {v : pm_V} (h0 : 0 ≤ r) (hk : wM.2 r = 9) (hi0 : 0 ≤ i) (hi1 : i < 6) (hv : pm_okt 1 v = true) : 0 ≤ r ∧ (an_sh wM r).1 = 1 ∧ (an_sh wM r).2.1 = 1 ∧ 0 ≤ i ∧ i < (an_sh wM r).2.2 ∧ pm_okt 1 v = true := by
  rw [shM_9 hk]; exact ⟨h0, rfl, rfl, hi0, hi1, hv⟩
theorem uM_9 {A : pm_A} (h : gH wM A) {r : Int} (hk : wM.2 r = 9) {i x : Int} (h1 : (-9223372036854775808) ≤ x) (h2 : x ≤ 9223372036854775807) : gH wM (pm_upd A r i x) := gH_upd h (k := (1, 1, 6, [(1, (-9223372036854775808), 9223372036854775807)])) (by rw [hk]; rfl) (fun q => by cases q) (fun _ a ha => by cases ha; exact ⟨rfl, h1, h2⟩)
theorem mM_9 {r j : Int} (hk : wM.2 r = 9) {ms : List Nat} (hm : ms.contains 10009 = true) : mcode wM r j ∈ ms := by
  unfold mcode; rw [shM_9 hk]; simp only; rw [hk]; exact List.contains_iff_mem.mp hm
theorem aM_10 {r i : Int} (h0 : 0 ≤ r) (hk : wM.2 r = 10) (hi0 : 0 ≤ i) (hi1 : i < 6) : 0 ≤ r ∧ (an_sh wM r).1 = 1 ∧ (an_sh wM r).2.1 = 0 ∧ 0 ≤ i ∧ i < (an_sh wM r).2.2 := by
  rw [shM_10 hk]; exact ⟨h0, rfl, rfl, hi0, hi1⟩
theorem tM_10 {r i : Int} {v : pm_V} (h0 : 0 ≤ r) (hk : wM.2 r = 10) (hi0 : 0 ≤ i) (hi1 : i < 6) (hv : pm_okt 0 v = true) : 0 ≤ r ∧ (an_sh wM r).1 = 1 ∧ (an_sh wM r).2.1 = 0 ∧ 0 ≤ i ∧ i < (an_sh wM r).2.2 ∧ pm_okt 0 v = true := by
  rw [shM_10 hk]; exact ⟨h0, rfl, rfl, hi0, hi1, hv⟩
theorem uM_10 {A : pm_A} (h : gH wM A) {r : Int} (hk : wM.2 r = 10) {i x : Int} (h1 : (-2147483648) ≤ x) (h2 : x ≤ 2147483647) : gH wM (pm_upd A r i x) := gH_upd h (k := (1, 0, 6, [(0, (-2147483648), 2147483647)])) (by rw [hk]; rfl) (fun q => by cases q) (fun _ a ha => by cases ha; exact ⟨rfl, h1, h2⟩)
theorem mM_10 {r j : Int} (hk : wM.2 r = 10) {ms : List Nat} (hm : ms.contains 10010 = true) : mcode wM r j ∈ ms := by
  unfold mcode; rw [shM_10 hk]; simp only; rw [hk]; exact List.contains_iff_mem.mp hm
theorem aM_11 {r i : Int} (h0 : 0 ≤ r) (hk : wM.2 r = 11) (hi0 : 0 ≤ i) (hi1 : i < 6) : 0 ≤ r ∧ (an_sh wM r).1 = 1 ∧ (an_sh wM r).2.1 = 2 ∧ 0 ≤ i ∧ i < (an_sh wM r).2.2 := by
  rw [shM_11 hk]; exact ⟨h0, rfl, rfl, hi0, hi1⟩
theorem tM_11 {r i : Int} {v : pm_V} (h0 : 0 ≤ r) (hk : wM.2 r = 11) (hi0 : 0 ≤ i) (hi1 : i < 6) (hv : pm_okt 2 v = true) : 0 ≤ r ∧ (an_sh wM r).1 = 1 ∧ (an_sh wM r).2.1 = 2 ∧ 0 ≤ i ∧ i < (an_sh wM r).2.2 ∧ pm_okt 2 v = true := by
  rw [shM_11 hk]; exact ⟨h0, rfl, rfl, hi0, hi1, hv⟩
theorem uM_11 {A : pm_A} (h : gH wM A) {r : Int} (hk : wM.2 r = 11) {i x : Int} (h1 : 0 ≤ x) (h2 : x ≤ 1) : gH wM (pm_upd A r i x) := gH_upd h (k := (1, 2, 6, [(0, 0, 1)])) (by rw [hk]; rfl) (fun q => by cases q) (fun _ a ha => by cases ha; exact ⟨rfl, h1, h2⟩)
theorem mM_11 {r j : Int} (hk : wM.2 r = 11) {ms : List Nat} (hm : ms.contains 10011 = true) : mcode wM r j ∈ ms := by
  unfold mcode; rw [shM_11 hk]; simp only; rw [hk]; exact List.contains_iff_mem.mp hm
theorem aM_12 {r i : Int} (h0 : 0 ≤ r) (hk : wM.2 r = 12) (hi0 : 0 ≤ i) (hi1 : i < 72) : 0 ≤ r ∧ (an_sh wM r).1 = 1 ∧ (an_sh wM r).2.1 = 0 ∧ 0 ≤ i ∧ i < (an_sh wM r).2.2 := by
  rw [shM_12 hk]; exact ⟨h0, rfl, rfl, hi0, hi1⟩
theorem tM_12 {r i : Int} {v : pm_V} (h0 : 0 ≤ r) (hk : wM.2 r = 12) (hi0 : 0 ≤ i) (hi1 : i < 72) (hv : pm_okt 0 v = true) : 0 ≤ r ∧ (an_sh wM r).1 = 1 ∧ (an_sh wM r).2.1 = 0 ∧ 0 ≤ i ∧ i < (an_sh wM r).2.2 ∧ pm_okt 0 v = true := by
  rw [shM_12 hk]; exact ⟨h0, rfl, rfl, hi0, hi1, hv⟩
theorem uM_12 {A : pm_A} (h : gH wM A) {r : Int} (hk : wM.2 r = 12) {i x : Int} (h1 : (-2147483648) ≤ x) (h2 : x ≤ 2147483647) : gH wM (pm_upd A r i x) := gH_upd h (k := (1, 0, 72, [(0, (-2147483648), 2147483647)])) (by rw [hk]; rfl) (fun q => by cases q) (fun _ a ha => by cases ha; exact ⟨rfl, h1, h2⟩)
theorem mM_12 {r j : Int} (hk : wM.2 r = 12) {ms : List Nat} (hm : ms.contains 10012 = true) : mcode wM r j ∈ ms := by
  unfold mcode; rw [shM_12 hk]; simp only; rw [hk]; exact List.contains_iff_mem.mp hm
theorem aM_13 {r i : Int} (h0 : 0 ≤ r) (hk : wM.2 r = 13) (hi0 : 0 ≤ i) (hi1 : i < 4) : 0 ≤ r ∧ (an_sh wM r).1 = 1 ∧ (an_sh wM r).2.1 = 0 ∧ 0 ≤ i ∧ i < (an_sh wM r).2.2 := by
  rw [shM_13 hk]; exact ⟨h0, rfl, rfl, hi0, hi1⟩
theorem tM_13 {r i : Int} {v : pm_V} (h0 : 0 ≤ r) (hk : wM.2 r = 13) (hi0 : 0 ≤ i) (hi1 : i < 4) (hv : pm_okt 0 v = true) : 0 ≤ r ∧ (an_sh wM r).1 = 1 ∧ (an_sh wM r).2.1 = 0 ∧ 0 ≤ i ∧ i < (an_sh wM r).2.2 ∧ pm_okt 0 v = true := by
  rw [shM_13 hk]; exact ⟨h0, rfl, rfl, hi0, hi1, hv⟩
theorem uM_13 {A : pm_A} (h : gH wM A) {r : Int} (hk : wM.2 r = 13) {i x : Int} (h1 : 0 ≤ x) (h2 : x ≤ 6) : gH wM (pm_upd A r i x) := gH_upd h (k := (1, 0, 4, [(0, 0, 6)])) (by rw [hk]; rfl) (fun q => by cases q) (fun _ a ha => by cases ha; exact ⟨rfl, h1, h2⟩)
theorem mM_13 {r j : Int} (hk : wM.2 r = 13) {ms : List Nat} (hm : ms.contains 10013 = true) : mcode wM r j ∈ ms := by
  unfold mcode; rw [shM_13 hk]; simp only; rw [hk]; exact List.contains_iff_mem.mp hm
theorem aM_14 {r i : Int} (h0 : 0 ≤ r) (hk : wM.2 r = 14) (hi0 : 0 ≤ i) (hi1 : i < 4) : 0 ≤ r ∧ (an_sh wM r).1 = 1 ∧ (an_sh wM r).2.1 = 0 ∧ 0 ≤ i ∧ i < (an_sh wM r).2.2 := by
  rw [shM_14 hk]; exact ⟨h0, rfl, rfl, hi0, hi1⟩
theorem tM_14 {r i : Int} {v : pm_V} (h0 : 0 ≤ r) (hk : wM.2 r = 14) (hi0 : 0 ≤ i) (hi1 : i < 4) (hv : pm_okt 0 v = true) : 0 ≤ r ∧ (an_sh wM r).1 = 1 ∧ (an_sh wM r).2.1 = 0 ∧ 0 ≤ i ∧ i < (an_sh wM r).2.2 ∧ pm_okt 0 v = true := by
  rw [shM_14 hk]; exact ⟨h0, rfl, rfl, hi0, hi1, hv⟩
theorem uM_14 {A : pm_A} (h : gH wM A) {r : Int} (hk : wM.2 r = 14) {i x : Int} (h1 : 0 ≤ x) (h2 : x ≤ 6) : gH wM (pm_upd A r i x) := gH_upd h (k := (1, 0, 4, [(0, 0, 6)])) (by rw [hk]; rfl) (fun q => by cases q) (fun _ a ha => by cases ha; exact ⟨rfl, h1, h2⟩)
theorem mM_14 {r j : Int} (hk : wM.2 r = 14) {ms : List Nat} (hm : ms.contains 10014 = true) : mcode wM r j ∈ ms := by
  unfold mcode; rw [shM_14 hk]; simp only; rw [hk]; exact List.contains_iff_mem.mp hm
theorem aM_15 {r i : Int} (h0 : 0 ≤ r) (hk : wM.2 r = 15) (hi0 : 0 ≤ i) (hi1 : i < 288) : 0 ≤ r ∧ (an_sh wM r).1 = 1 ∧ (an_sh wM r).2.1 = 0 ∧ 0 ≤ i ∧ i < (an_sh wM r).2.2 := by
  rw [shM_15 hk]; exact ⟨h0, rfl, rfl, hi0, hi1⟩
theorem tM_15 {r i : Int} {v : pm_V} (h0 : 0 ≤ r) (hk : wM.2 r = 15) (hi0 : 0 ≤ i) (hi1 : i < 288) (hv : pm_okt 0 v = true) : 0 ≤ r ∧ (an_sh wM r).1 = 1 ∧ (an_sh wM r).2.1 = 0 ∧ 0 ≤ i ∧ i < (an_sh wM r).2.2 ∧ pm_okt 0 v = true := by
  rw [shM_15 hk]; exact ⟨h0, rfl, rfl, hi0, hi1, hv⟩
theorem uM_15 {A : pm_A} (h : gH wM A) {r : Int} (hk : wM.2 r = 15) {i x : Int} (h1 : (-2147483648) ≤ x) (h2 : x ≤ 2147483647) : gH wM (pm_upd A r i x) := gH_upd h (k := (1, 0, 288, [(0, (-2147483648), 2147483647)])) (by rw [hk]; rfl) (fun q => by cases q) (fun _ a ha => by cases ha; exact ⟨rfl, h1, h2⟩)
theorem mM_15 {r j : Int} (hk : wM.2 r = 15) {ms : List Nat} (hm : ms.contains 10015 = true) : mcode wM r j ∈ ms := by
  unfold mcode; rw [shM_15 hk]; simp only; rw [hk]; exact List.contains_iff_mem.mp hm
theorem aM_16 {r i : Int} (h0 : 0 ≤ r) (hk : wM.2 r = 16) (hi0 : 0 ≤ i) (hi1 : i < 6) : 0 ≤ r ∧ (an_sh wM r).1 = 1 ∧ (an_sh wM r).2.1 = 0 ∧ 0 ≤ i ∧ i < (an_sh wM r).2.2 := by
  rw [shM_16 hk]; exact ⟨h0, rfl, rfl, hi0, hi1⟩
theorem tM_16 {r i : Int} {v : pm_V} (h0 : 0 ≤ r) (hk : wM.2 r = 16) (hi0 : 0 ≤ i) (hi1 : i < 6) (hv : pm_okt 0 v = true) : 0 ≤ r ∧ (an_sh wM r).1 = 1 ∧ (an_sh wM r).2.1 = 0 ∧ 0 ≤ i ∧ i < (an_sh wM r).2.2 ∧ pm_okt 0 v = true := by
  rw [shM_16 hk]; exact ⟨h0, rfl, rfl, hi0, hi1, hv⟩
theorem uM_16 {A : pm_A} (h : gH wM A) {r : Int} (hk : wM.2 r = 16) {i x : Int} (h1 : (-1) ≤ x) (h2 : x ≤ 5) : gH wM (pm_upd A r i x) := gH_upd h (k := (1, 0, 6, [(0, (-1), 5)])) (by rw [hk]; rfl) (fun q => by cases q) (fun _ a ha => by cases ha; exact ⟨rfl, h1, h2⟩)
theorem mM_16 {r j : Int} (hk : wM.2 r = 16) {ms : List Nat} (hm : ms.contains 10016 = true) : mcode wM r j ∈ ms := by
  unfold mcode; rw [shM_16 hk]; simp only; rw [hk]; exact List.contains_iff_mem.mp hm
theorem aM_17 {r i : Int} (h0 : 0 ≤ r) (hk : wM.2 r = 17) (hi0 : 0 ≤ i) (hi1 : i < 900) : 0 ≤ r ∧ (an_sh wM r).1 = 1 ∧ (an_sh wM r).2.1 = 0 ∧ 0 ≤ i ∧ i < (an_sh wM r).2.2 := by
  rw [shM_17 hk]; exact ⟨h0, rfl, rfl, hi0, hi1⟩
theorem tM_17 {r i : Int} {v : pm_V} (h0 : 0 ≤ r) (hk : wM.2 r = 17) (hi0 : 0 ≤ i) (hi1 : i < 900) (hv : pm_okt 0 v = true) : 0 ≤ r ∧ (an_sh wM r).1 = 1 ∧ (an_sh wM r).2.1 = 0 ∧ 0 ≤ i ∧ i < (an_sh wM r).2.2 ∧ pm_okt 0 v = true := by
  rw [shM_17 hk]; exact ⟨h0, rfl, rfl, hi0, hi1, hv⟩
theorem uM_17 {A : pm_A} (h : gH wM A) {r : Int} (hk : wM.2 r = 17) {i x : Int} (h1 : 0 ≤ x) (h2 : x ≤ 100) : gH wM (pm_upd A r i x) := gH_upd h (k := (1, 0, 900, [(0, 0, 100)])) (by rw [hk]; rfl) (fun q => by cases q) (fun _ a ha => by cases ha; exact ⟨rfl, h1, h2⟩)
theorem mM_17 {r j : Int} (hk : wM.2 r = 17) {ms : List Nat} (hm : ms.contains 10017 = true) : mcode wM r j ∈ ms := by
  unfold mcode; rw [shM_17 hk]; simp only; rw [hk]; exact List.contains_iff_mem.mp hm
theorem aM_18 {r i : Int} (h0 : 0 ≤ r) (hk : wM.2 r = 18) (hi0 : 0 ≤ i) (hi1 : i < 10800) : 0 ≤ r ∧ (an_sh wM r).1 = 1 ∧ (an_sh wM r).2.1 = 0 ∧ 0 ≤ i ∧ i < (an_sh wM r).2.2 := by
  rw [shM_18 hk]; exact ⟨h0, rfl, rfl, hi0, hi1⟩
theorem tM_18 {r i : Int} {v : pm_V} (h0 : 0 ≤ r) (hk : wM.2 r = 18) (hi0 : 0 ≤ i) (hi1 : i < 10800) (hv : pm_okt 0 v = true) : 0 ≤ r ∧ (an_sh wM r).1 = 1 ∧ (an_sh wM r).2.1 = 0 ∧ 0 ≤ i ∧ i < (an_sh wM r).2.2 ∧ pm_okt 0 v = true := by
  rw [shM_18 hk]; exact ⟨h0, rfl, rfl, hi0, hi1, hv⟩
theorem uM_18 {A : pm_A} (h : gH wM A) {r : Int} (hk : wM.2 r = 18) {i x : Int} (h1 : (-2147483648) ≤ x) (h2 : x ≤ 2147483647) : gH wM (pm_upd A r i x) := gH_upd h (k := (1, 0, 10800, [(0, (-2147483648), 2147483647)])) (by rw [hk]; rfl) (fun q => by cases q) (fun _ a ha => by cases ha; exact ⟨rfl, h1, h2⟩)
theorem mM_18 {r j : Int} (hk : wM.2 r = 18) {ms : List Nat} (hm : ms.contains 10018 = true) : mcode wM r j ∈ ms := by
  unfold mcode; rw [shM_18 hk]; simp only; rw [hk]; exact List.contains_iff_mem.mp hm
theorem aM_19 {r i : Int} (h0 : 0 ≤ r) (hk : wM.2 r = 19) (hi0 : 0 ≤ i) (hi1 : i < 100) : 0 ≤ r ∧ (an_sh wM r).1 = 1 ∧ (an_sh wM r).2.1 = 0 ∧ 0 ≤ i ∧ i < (an_sh wM r).2.2 := by
  rw [shM_19 hk]; exact ⟨h0, rfl, rfl, hi0, hi1⟩
theorem tM_19 {r i : Int} {v : pm_V} (h0 : 0 ≤ r) (hk : wM.2 r = 19) (hi0 : 0 ≤ i) (hi1 : i < 100) (hv : pm_okt 0 v = true) : 0 ≤ r ∧ (an_sh wM r).1 = 1 ∧ (an_sh wM r).2.1 = 0 ∧ 0 ≤ i ∧ i < (an_sh wM r).2.2 ∧ pm_okt 0 v = true := by
  rw [shM_19 hk]; exact ⟨h0, rfl, rfl, hi0, hi1, hv⟩
theorem uM_19 {A : pm_A} (h : gH wM A) {r : Int} (hk : wM.2 r = 19) {i x : Int} (h1 : (-2147483648) ≤ x) (h2 : x ≤ 2147483647) : gH wM (pm_upd A r i x) := gH_upd h (k := (1, 0, 100, [(0, (-2147483648), 2147483647)])) (by rw [hk]; rfl) (fun q => by cases q) (fun _ a ha => by cases ha; exact ⟨rfl, h1, h2⟩)
theorem mM_19 {r j : Int} (hk : wM.2 r = 19) {ms : List Nat} (hm : ms.contains 10019 = true) : mcode wM r j ∈ ms := by
  unfold mcode; rw [shM_19 hk]; simp only; rw [hk]; exact List.contains_iff_mem.mp hm
theorem aM_20 {r i : Int} (h0 : 0 ≤ r) (hk : wM.2 r = 20) (hi0 : 0 ≤ i) (hi1 : i < 100) : 0 ≤ r ∧ (an_sh wM r).1 = 1 ∧ (an_sh wM r).2.1 = 1 ∧ 0 ≤ i ∧ i < (an_sh wM r).2.2 := by
  rw [shM_20 hk]; exact ⟨h0, rfl, rfl, hi0, hi1⟩
theorem tM_20 {r i : Int} {v : pm_V} (h0 : 0 ≤ r) (hk : wM.2 r = 20) (hi0 : 0 ≤ i) (hi1 : i < 100) (hv : pm_okt 1 v = true) : 0 ≤ r ∧ (an_sh wM r).1 = 1 ∧ (an_sh wM r).2.1 = 1 ∧ 0 ≤ i ∧ i < (an_sh wM r).2.2 ∧ pm_okt 1 v = true := by
  rw [shM_20 hk]; exact ⟨h0, rfl, rfl, hi0, hi1, hv⟩
theorem uM_20 {A : pm_A} (h : gH wM A) {r : Int} (hk : wM.2 r = 20) {i x : Int} (h1 : (-9223372036854775808) ≤ x) (h2 : x ≤ 9223372036854775807) : gH wM (pm_upd A r i x) := gH_upd h (k := (1, 1, 100, [(1, (-9223372036854775808), 9223372036854775807)])) (by rw [hk]; rfl) (fun q => by cases q) (fun _ a ha => by cases ha; exact ⟨rfl, h1, h2⟩)
theorem mM_20 {r j : Int} (hk : wM.2 r = 20) {ms : List Nat} (hm : ms.contains 10020 = true) : mcode wM r j ∈ ms := by
  unfold mcode; rw [shM_20 hk]; simp only; rw [hk]; exact List.contains_iff_mem.mp hm
theorem aM_21 {r i : Int} (h0 : 0 ≤ r) (hk : wM.2 r = 21) (hi0 : 0 ≤ i) (hi1 : i < 1200) : 0 ≤ r ∧ (an_sh wM r).1 = 1 ∧ (an_sh wM r).2.1 = 0 ∧ 0 ≤ i ∧ i < (an_sh wM r).2.2 := by
  rw [shM_21 hk]; exact ⟨h0, rfl, rfl, hi0, hi1⟩
theorem tM_21 {r i : Int} {v : pm_V} (h0 : 0 ≤ r) (hk : wM.2 r = 21) (hi0 : 0 ≤ i) (hi1 : i < 1200) (hv : pm_okt 0 v = true) : 0 ≤ r ∧ (an_sh wM r).1 = 1 ∧ (an_sh wM r).2.1 = 0 ∧ 0 ≤ i ∧ i < (an_sh wM r).2.2 ∧ pm_okt 0 v = true := by
  rw [shM_21 hk]; exact ⟨h0, rfl, rfl, hi0, hi1, hv⟩
theorem uM_21 {A : pm_A} (h : gH wM A) {r : Int} (hk : wM.2 r = 21) {i x : Int} (h1 : (-2147483648) ≤ x) (h2 : x ≤ 2147483647) : gH wM (pm_upd A r i x) := gH_upd h (k := (1, 0, 1200, [(0, (-2147483648), 2147483647)])) (by rw [hk]; rfl) (fun q => by cases q) (fun _ a ha => by cases ha; exact ⟨rfl, h1, h2⟩)
theorem mM_21 {r j : Int} (hk : wM.2 r = 21) {ms : List Nat} (hm : ms.contains 10021 = true) : mcode wM r j ∈ ms := by
  unfold mcode; rw [shM_21 hk]; simp only; rw [hk]; exact List.contains_iff_mem.mp hm
theorem aM_22 {r i : Int} (h0 : 0 ≤ r) (hk : wM.2 r = 22) (hi0 : 0 ≤ i) (hi1 : i < 72) : 0 ≤ r ∧ (an_sh wM r).1 = 1 ∧ (an_sh wM r).2.1 = 0 ∧ 0 ≤ i ∧ i < (an_sh wM r).2.2 := by
  rw [shM_22 hk]; exact ⟨h0, rfl, rfl, hi0, hi1⟩
theorem tM_22 {r i : Int} {v : pm_V} (h0 : 0 ≤ r) (hk : wM.2 r = 22) (hi0 : 0 ≤ i) (hi1 : i < 72) (hv : pm_okt 0 v = true) : 0 ≤ r ∧ (an_sh wM r).1 = 1 ∧ (an_sh wM r).2.1 = 0 ∧ 0 ≤ i ∧ i < (an_sh wM r).2.2 ∧ pm_okt 0 v = true := by
  rw [shM_22 hk]; exact ⟨h0, rfl, rfl, hi0, hi1, hv⟩
theorem uM_22 {A : pm_A} (h : gH wM A) {r : Int} (hk : wM.2 r = 22) {i x : Int} (h1 : (-2147483648) ≤ x) (h2 : x ≤ 2147483647) : gH wM (pm_upd A r i x) := gH_upd h (k := (1, 0, 72, [(0, (-2147483648), 2147483647)])) (by rw [hk]; rfl) (fun q => by cases q) (fun _ a ha => by cases ha; exact ⟨rfl, h1, h2⟩)
theorem mM_22 {r j : Int} (hk : wM.2 r = 22) {ms : List Nat} (hm : ms.contains 10022 = true) : mcode wM r j ∈ ms := by
  unfold mcode; rw [shM_22 hk]; simp only; rw [hk]; exact List.contains_iff_mem.mp hm
theorem aM_23 {r i : Int} (h0 : 0 ≤ r) (hk : wM.2 r = 23) (hi0 : 0 ≤ i) (hi1 : i < 6) : 0 ≤ r ∧ (an_sh wM r).1 = 1 ∧ (an_sh wM r).2.1 = 0 ∧ 0 ≤ i ∧ i < (an_sh wM r).2.2 := by
  rw [shM_23 hk]; exact ⟨h0, rfl, rfl, hi0, hi1⟩
theorem tM_23 {r i : Int} {v : pm_V} (h0 : 0 ≤ r) (hk : wM.2 r = 23) (hi0 : 0 ≤ i) (hi1 : i < 6) (hv : pm_okt 0 v = true) : 0 ≤ r ∧ (an_sh wM r).1 = 1 ∧ (an_sh wM r).2.1 = 0 ∧ 0 ≤ i ∧ i < (an_sh wM r).2.2 ∧ pm_okt 0 v = true := by
  rw [shM_23 hk]; exact ⟨h0, rfl, rfl, hi0, hi1, hv⟩
theorem uM_23 {A : pm_A} (h : gH wM A) {r : Int} (hk : wM.2 r = 23) {i x : Int} (h1 : 0 ≤ x) (h2 : x ≤ 100) : gH wM (pm_upd A r i x) := gH_upd h (k := (1, 0, 6, [(0, 0, 100)])) (by rw [hk]; rfl) (fun q => by cases q) (fun _ a ha => by cases ha; exact ⟨rfl, h1, h2⟩)
theorem mM_23 {r j : Int} (hk : wM.2 r = 23) {ms : List Nat} (hm : ms.contains 10023 = true) : mcode wM r j ∈ ms := by
  unfold mcode; rw [shM_23 hk]; simp only; rw [hk]; exact List.contains_iff_mem.mp hm
theorem aM_24 {r i : Int} (h0 : 0 ≤ r) (hk : wM.2 r = 24) (hi0 : 0 ≤ i) (hi1 : i < 108000) : 0 ≤ r ∧ (an_sh wM r).1 = 1 ∧ (an_sh wM r).2.1 = 0 ∧ 0 ≤ i ∧ i < (an_sh wM r).2.2 := by
  rw [shM_24 hk]; exact ⟨h0, rfl, rfl, hi0, hi1⟩
theorem tM_24 {r i : Int} {v : pm_V} (h0 : 0 ≤ r) (hk : wM.2 r = 24) (hi0 : 0 ≤ i) (hi1 : i < 108000) (hv : pm_okt 0 v = true) : 0 ≤ r ∧ (an_sh wM r).1 = 1 ∧ (an_sh wM r).2.1 = 0 ∧ 0 ≤ i ∧ i < (an_sh wM r).2.2 ∧ pm_okt 0 v = true := by
  rw [shM_24 hk]; exact ⟨h0, rfl, rfl, hi0, hi1, hv⟩
theorem uM_24 {A : pm_A} (h : gH wM A) {r : Int} (hk : wM.2 r = 24) {i x : Int} (h1 : (-2147483648) ≤ x) (h2 : x ≤ 2147483647) : gH wM (pm_upd A r i x) := gH_upd h (k := (1, 0, 108000, [(0, (-2147483648), 2147483647)])) (by rw [hk]; rfl) (fun q => by cases q) (fun _ a ha => by cases ha; exact ⟨rfl, h1, h2⟩)
theorem mM_24 {r j : Int} (hk : wM.2 r = 24) {ms : List Nat} (hm : ms.contains 10024 = true) : mcode wM r j ∈ ms := by
  unfold mcode; rw [shM_24 hk]; simp only; rw [hk]; exact List.contains_iff_mem.mp hm
theorem aM_25 {r i : Int} (h0 : 0 ≤ r) (hk : wM.2 r = 25) (hi0 : 0 ≤ i) (hi1 : i < 3000) : 0 ≤ r ∧ (an_sh wM r).1 = 1 ∧ (an_sh wM r).2.1 = 0 ∧ 0 ≤ i ∧ i < (an_sh wM r).2.2 := by
  rw [shM_25 hk]; exact ⟨h0, rfl, rfl, hi0, hi1⟩
theorem tM_25 {r i : Int} {v : pm_V} (h0 : 0 ≤ r) (hk : wM.2 r = 25) (hi0 : 0 ≤ i) (hi1 : i < 3000) (hv : pm_okt 0 v = true) : 0 ≤ r ∧ (an_sh wM r).1 = 1 ∧ (an_sh wM r).2.1 = 0 ∧ 0 ≤ i ∧ i < (an_sh wM r).2.2 ∧ pm_okt 0 v = true := by
  rw [shM_25 hk]; exact ⟨h0, rfl, rfl, hi0, hi1, hv⟩
theorem uM_25 {A : pm_A} (h : gH wM A) {r : Int} (hk : wM.2 r = 25) {i x : Int} (h1 : (-1) ≤ x) (h2 : x ≤ 2999) : gH wM (pm_upd A r i x) := gH_upd h (k := (1, 0, 3000, [(0, (-1), 2999)])) (by rw [hk]; rfl) (fun q => by cases q) (fun _ a ha => by cases ha; exact ⟨rfl, h1, h2⟩)
theorem mM_25 {r j : Int} (hk : wM.2 r = 25) {ms : List Nat} (hm : ms.contains 10025 = true) : mcode wM r j ∈ ms := by
  unfold mcode; rw [shM_25 hk]; simp only; rw [hk]; exact List.contains_iff_mem.mp hm
theorem aM_26 {r i : Int} (h0 : 0 ≤ r) (hk : wM.2 r = 26) (hi0 : 0 ≤ i) (hi1 : i < 3000) : 0 ≤ r ∧ (an_sh wM r).1 = 1 ∧ (an_sh wM r).2.1 = 0 ∧ 0 ≤ i ∧ i < (an_sh wM r).2.2 := by
  rw [shM_26 hk]; exact ⟨h0, rfl, rfl, hi0, hi1⟩
theorem tM_26 {r i : Int} {v : pm_V} (h0 : 0 ≤ r) (hk : wM.2 r = 26) (hi0 : 0 ≤ i) (hi1 : i < 3000) (hv : pm_okt 0 v = true) : 0 ≤ r ∧ (an_sh wM r).1 = 1 ∧ (an_sh wM r).2.1 = 0 ∧ 0 ≤ i ∧ i < (an_sh wM r).2.2 ∧ pm_okt 0 v = true := by
  rw [shM_26 hk]; exact ⟨h0, rfl, rfl, hi0, hi1, hv⟩
theorem uM_26 {A : pm_A} (h : gH wM A) {r : Int} (hk : wM.2 r = 26) {i x : Int} (h1 : (-2147483648) ≤ x) (h2 : x ≤ 2147483647) : gH wM (pm_upd A r i x) := gH_upd h (k := (1, 0, 3000, [(0, (-2147483648), 2147483647)])) (by rw [hk]; rfl) (fun q => by cases q) (fun _ a ha => by cases ha; exact ⟨rfl, h1, h2⟩)
theorem mM_26 {r j : Int} (hk : wM.2 r = 26) {ms : List Nat} (hm : ms.contains 10026 = true) : mcode wM r j ∈ ms := by
  unfold mcode; rw [shM_26 hk]; simp only; rw [hk]; exact List.contains_iff_mem.mp hm
theorem aM_27 {r i : Int} (h0 : 0 ≤ r) (hk : wM.2 r = 27) (hi0 : 0 ≤ i) (hi1 : i < 3001) : 0 ≤ r ∧ (an_sh wM r).1 = 1 ∧ (an_sh wM r).2.1 = 0 ∧ 0 ≤ i ∧ i < (an_sh wM r).2.2 := by
  rw [shM_27 hk]; exact ⟨h0, rfl, rfl, hi0, hi1⟩
theorem tM_27 {r i : Int} {v : pm_V} (h0 : 0 ≤ r) (hk : wM.2 r = 27) (hi0 : 0 ≤ i) (hi1 : i < 3001) (hv : pm_okt 0 v = true) : 0 ≤ r ∧ (an_sh wM r).1 = 1 ∧ (an_sh wM r).2.1 = 0 ∧ 0 ≤ i ∧ i < (an_sh wM r).2.2 ∧ pm_okt 0 v = true := by
  rw [shM_27 hk]; exact ⟨h0, rfl, rfl, hi0, hi1, hv⟩
theorem uM_27 {A : pm_A} (h : gH wM A) {r : Int} (hk : wM.2 r = 27) {i x : Int} (h1 : (-2147483648) ≤ x) (h2 : x ≤ 2147483647) : gH wM (pm_upd A r i x) := gH_upd h (k := (1, 0, 3001, [(0, (-2147483648), 2147483647)])) (by rw [hk]; rfl) (fun q => by cases q) (fun _ a ha => by cases ha; exact ⟨rfl, h1, h2⟩)
theorem mM_27 {r j : Int} (hk : wM.2 r = 27) {ms : List Nat} (hm : ms.contains 10027 = true) : mcode wM r j ∈ ms := by
  unfold mcode; rw [shM_27 hk]; simp only; rw [hk]; exact List.contains_iff_mem.mp hm
theorem aM_28 {r i : Int} (h0 : 0 ≤ r) (hk : wM.2 r = 28) (hi0 : 0 ≤ i) (hi1 : i < 4096) : 0 ≤ r ∧ (an_sh wM r).1 = 1 ∧ (an_sh wM r).2.1 = 0 ∧ 0 ≤ i ∧ i < (an_sh wM r).2.2 := by
  rw [shM_28 hk]; exact ⟨h0, rfl, rfl, hi0, hi1⟩
theorem tM_28 {r i : Int} {v : pm_V} (h0 : 0 ≤ r) (hk : wM.2 r = 28) (hi0 : 0 ≤ i) (hi1 : i < 4096) (hv : pm_okt 0 v = true) : 0 ≤ r ∧ (an_sh wM r).1 = 1 ∧ (an_sh wM r).2.1 = 0 ∧ 0 ≤ i ∧ i < (an_sh wM r).2.2 ∧ pm_okt 0 v = true := by
  rw [shM_28 hk]; exact ⟨h0, rfl, rfl, hi0, hi1, hv⟩
theorem uM_28 {A : pm_A} (h : gH wM A) {r : Int} (hk : wM.2 r = 28) {i x : Int} (h1 : (-1) ≤ x) (h2 : x ≤ 2999) : gH wM (pm_upd A r i x) := gH_upd h (k := (1, 0, 4096, [(0, (-1), 2999)])) (by rw [hk]; rfl) (fun q => by cases q) (fun _ a ha => by cases ha; exact ⟨rfl, h1, h2⟩)
theorem mM_28 {r j : Int} (hk : wM.2 r = 28) {ms : List Nat} (hm : ms.contains 10028 = true) : mcode wM r j ∈ ms := by
  unfold mcode; rw [shM_28 hk]; simp only; rw [hk]; exact List.contains_iff_mem.mp hm
theorem aM_29 {r i : Int} (h0 : 0 ≤ r) (hk : wM.2 r = 29) (hi0 : 0 ≤ i) (hi1 : i < 3000) : 0 ≤ r ∧ (an_sh wM r).1 = 1 ∧ (an_sh wM r).2.1 = 0 ∧ 0 ≤ i ∧ i < (an_sh wM r).2.2 := by
  rw [shM_29 hk]; exact ⟨h0, rfl, rfl, hi0, hi1⟩
theorem tM_29 {r i : Int} {v : pm_V} (h0 : 0 ≤ r) (hk : wM.2 r = 29) (hi0 : 0 ≤ i) (hi1 : i < 3000) (hv : pm_okt 0 v = true) : 0 ≤ r ∧ (an_sh wM r).1 = 1 ∧ (an_sh wM r).2.1 = 0 ∧ 0 ≤ i ∧ i < (an_sh wM r).2.2 ∧ pm_okt 0 v = true := by
  rw [shM_29 hk]; exact ⟨h0, rfl, rfl, hi0, hi1, hv⟩
theorem uM_29 {A : pm_A} (h : gH wM A) {r : Int} (hk : wM.2 r = 29) {i x : Int} (h1 : (-1) ≤ x) (h2 : x ≤ 2999) : gH wM (pm_upd A r i x) := gH_upd h (k := (1, 0, 3000, [(0, (-1), 2999)])) (by rw [hk]; rfl) (fun q => by cases q) (fun _ a ha => by cases ha; exact ⟨rfl, h1, h2⟩)
theorem mM_29 {r j : Int} (hk : wM.2 r = 29) {ms : List Nat} (hm : ms.contains 10029 = true) : mcode wM r j ∈ ms := by
  unfold mcode; rw [shM_29 hk]; simp only; rw [hk]; exact List.contains_iff_mem.mp hm
theorem aM_30 {r i : Int} (h0 : 0 ≤ r) (hk : wM.2 r = 30) (hi0 : 0 ≤ i) (hi1 : i < 12) : 0 ≤ r ∧ (an_sh wM r).1 = 1 ∧ (an_sh wM r).2.1 = 0 ∧ 0 ≤ i ∧ i < (an_sh wM r).2.2 := by
  rw [shM_30 hk]; exact ⟨h0, rfl, rfl, hi0, hi1⟩
theorem tM_30 {r i : Int} {v : pm_V} (h0 : 0 ≤ r) (hk : wM.2 r = 30) (hi0 : 0 ≤ i) (hi1 : i < 12) (hv : pm_okt 0 v = true) : 0 ≤ r ∧ (an_sh wM r).1 = 1 ∧ (an_sh wM r).2.1 = 0 ∧ 0 ≤ i ∧ i < (an_sh wM r).2.2 ∧ pm_okt 0 v = true := by
  rw [shM_30 hk]; exact ⟨h0, rfl, rfl, hi0, hi1, hv⟩
theorem uM_30 {A : pm_A} (h : gH wM A) {r : Int} (hk : wM.2 r = 30) {i x : Int} (h1 : 0 ≤ x) (h2 : x ≤ 5) : gH wM (pm_upd A r i x) := gH_upd h (k := (1, 0, 12, [(0, 0, 5)])) (by rw [hk]; rfl) (fun q => by cases q) (fun _ a ha => by cases ha; exact ⟨rfl, h1, h2⟩)
theorem mM_30 {r j : Int} (hk : wM.2 r = 30) {ms : List Nat} (hm : ms.contains 10030 = true) : mcode wM r j ∈ ms := by
  unfold mcode; rw [shM_30 hk]; simp only; rw [hk]; exact List.contains_iff_mem.mp hm
theorem aM_31 {r i : Int} (h0 : 0 ≤ r) (hk : wM.2 r = 31) (hi0 : 0 ≤ i) (hi1 : i < 2) : 0 ≤ r ∧ (an_sh wM r).1 = 1 ∧ (an_sh wM r).2.1 = 0 ∧ 0 ≤ i ∧ i < (an_sh wM r).2.2 := by
  rw [shM_31 hk]; exact ⟨h0, rfl, rfl, hi0, hi1⟩
theorem tM_31 {r i : Int} {v : pm_V} (h0 : 0 ≤ r) (hk : wM.2 r = 31) (hi0 : 0 ≤ i) (hi1 : i < 2) (hv : pm_okt 0 v = true) : 0 ≤ r ∧ (an_sh wM r).1 = 1 ∧ (an_sh wM r).2.1 = 0 ∧ 0 ≤ i ∧ i < (an_sh wM r).2.2 ∧ pm_okt 0 v = true := by
  rw [shM_31 hk]; exact ⟨h0, rfl, rfl, hi0, hi1, hv⟩
theorem uM_31 {A : pm_A} (h : gH wM A) {r : Int} (hk : wM.2 r = 31) {i x : Int} (h1 : 4 ≤ x) (h2 : x ≤ 10) : gH wM (pm_upd A r i x) := gH_upd h (k := (1, 0, 2, [(0, 4, 10)])) (by rw [hk]; rfl) (fun q => by cases q) (fun _ a ha => by cases ha; exact ⟨rfl, h1, h2⟩)
theorem mM_31 {r j : Int} (hk : wM.2 r = 31) {ms : List Nat} (hm : ms.contains 10031 = true) : mcode wM r j ∈ ms := by
  unfold mcode; rw [shM_31 hk]; simp only; rw [hk]; exact List.contains_iff_mem.mp hm
theorem aM_32 {r i : Int} (h0 : 0 ≤ r) (hk : wM.2 r = 32) (hi0 : 0 ≤ i) (hi1 : i < 200) : 0 ≤ r ∧ (an_sh wM r).1 = 1 ∧ (an_sh wM r).2.1 = 2 ∧ 0 ≤ i ∧ i < (an_sh wM r).2.2 := by
  rw [shM_32 hk]; exact ⟨h0, rfl, rfl, hi0, hi1⟩
theorem tM_32 {r i : Int} {v : pm_V} (h0 : 0 ≤ r) (hk : wM.2 r = 32) (hi0 : 0 ≤ i) (hi1 : i < 200) (hv : pm_okt 2 v = true) : 0 ≤ r ∧ (an_sh wM r).1 = 1 ∧ (an_sh wM r).2.1 = 2 ∧ 0 ≤ i ∧ i < (an_sh wM r).2.2 ∧ pm_okt 2 v = true := by
  rw [shM_32 hk]; exact ⟨h0, rfl, rfl, hi0, hi1, hv⟩
theorem uM_32 {A : pm_A} (h : gH wM A) {r : Int} (hk : wM.2 r = 32) {i x : Int} (h1 : 0 ≤ x) (h2 : x ≤ 1) : gH wM (pm_upd A r i x) := gH_upd h (k := (1, 2, 200, [(0, 0, 1)])) (by rw [hk]; rfl) (fun q => by cases q) (fun _ a ha => by cases ha; exact ⟨rfl, h1, h2⟩)
theorem mM_32 {r j : Int} (hk : wM.2 r = 32) {ms : List Nat} (hm : ms.contains 10032 = true) : mcode wM r j ∈ ms := by
  unfold mcode; rw [shM_32 hk]; simp only; rw [hk]; exact List.contains_iff_mem.mp hm
theorem aM_33 {r i : Int} (h0 : 0 ≤ r) (hk : wM.2 r = 33) (hi0 : 0 ≤ i) (hi1 : i < 100) : 0 ≤ r ∧ (an_sh wM r).1 = 1 ∧ (an_sh wM r).2.1 = 0 ∧ 0 ≤ i ∧ i < (an_sh wM r).2.2 := by
  rw [shM_33 hk]; exact ⟨h0, rfl, rfl, hi0, hi1⟩
theorem tM_33 {r i : Int} {v : pm_V} (h0 : 0 ≤ r) (hk : wM.2 r = 33) (hi0 : 0 ≤ i) (hi1 : i < 100) (hv : pm_okt 0 v = true) : 0 ≤ r ∧ (an_sh wM r).1 = 1 ∧ (an_sh wM r).2.1 = 0 ∧ 0 ≤ i ∧ i < (an_sh wM r).2.2 ∧ pm_okt 0 v = true := by
  rw [shM_33 hk]; exact ⟨h0, rfl, rfl, hi0, hi1, hv⟩
theorem uM_33 {A : pm_A} (h : gH wM A) {r : Int} (hk : wM.2 r = 33) {i x : Int} (h1 : (-1) ≤ x) (h2 : x ≤ 34) : gH wM (pm_upd A r i x) := gH_upd h (k := (1, 0, 100, [(0, (-1), 34)])) (by rw [hk]; rfl) (fun q => by cases q) (fun _ a ha => by cases ha; exact ⟨rfl, h1, h2⟩)
theorem mM_33 {r j : Int} (hk : wM.2 r = 33) {ms : List Nat} (hm : ms.contains 10033 = true) : mcode wM r j ∈ ms := by
  unfold mcode; rw [shM_33 hk]; simp only; rw [hk]; exact List.contains_iff_mem.mp hm
theorem aM_34 {r i : Int} (h0 : 0 ≤ r) (hk : wM.2 r = 34) (hi0 : 0 ≤ i) (hi1 : i < 35) : 0 ≤ r ∧ (an_sh wM r).1 = 1 ∧ (an_sh wM r).2.1 = 0 ∧ 0 ≤ i ∧ i < (an_sh wM r).2.2 := by
  rw [shM_34 hk]; exact ⟨h0, rfl, rfl, hi0, hi1⟩
theorem tM_34 {r i : Int} {v : pm_V} (h0 : 0 ≤ r) (hk : wM.2 r = 34) (hi0 : 0 ≤ i) (hi1 : i < 35) (hv : pm_okt 0 v = true) : 0 ≤ r ∧ (an_sh wM r).1 = 1 ∧ (an_sh wM r).2.1 = 0 ∧ 0 ≤ i ∧ i < (an_sh wM r).2.2 ∧ pm_okt 0 v = true := by
  rw [shM_34 hk]; exact ⟨h0, rfl, rfl, hi0, hi1, hv⟩
theorem uM_34 {A : pm_A} (h : gH wM A) {r : Int} (hk : wM.2 r = 34) {i x : Int} (h1 : 0 ≤ x) (h2 : x ≤ 99) : gH wM (pm_upd A r i x) := gH_upd h (k := (1, 0, 35, [(0, 0, 99)])) (by rw [hk]; rfl) (fun q => by cases q) (fun _ a ha => by cases ha; exact ⟨rfl, h1, h2⟩)
theorem mM_34 {r j : Int} (hk : wM.2 r = 34) {ms : List Nat} (hm : ms.contains 10034 = true) : mcode wM r j ∈ ms := by
  unfold mcode; rw [shM_34 hk]; simp only; rw [hk]; exact List.contains_iff_mem.mp hm
theorem aM_35 {r i : Int} (h0 : 0 ≤ r) (hk : wM.2 r = 35) (hi0 : 0 ≤ i) (hi1 : i < 1430) : 0 ≤ r ∧ (an_sh wM r).1 = 1 ∧ (an_sh wM r).2.1 = 1 ∧ 0 ≤ i ∧ i < (an_sh wM r).2.2 := by
  rw [shM_35 hk]; exact ⟨h0, rfl, rfl, hi0, hi1⟩
theorem tM_35 {r i : Int} {v : pm_V} (h0 : 0 ≤ r) (hk : wM.2 r = 35) (hi0 : 0 ≤ i) (hi1 : i < 1430) (hv : pm_okt 1 v = true) : 0 ≤ r ∧ (an_sh wM r).1 = 1 ∧ (an_sh wM r).2.1 = 1 ∧ 0 ≤ i ∧ i < (an_sh wM r).2.2 ∧ pm_okt 1 v = true := by
  rw [shM_35 hk]; exact ⟨h0, rfl, rfl, hi0, hi1, hv⟩
theorem uM_35 {A : pm_A} (h : gH wM A) {r : Int} (hk : wM.2 r = 35) {i x : Int} (h1 : (-9223372036854775808) ≤ x) (h2 : x ≤ 9223372036854775807) : gH wM (pm_upd A r i x) := gH_upd h (k := (1, 1, 1430, [(1, (-9223372036854775808), 9223372036854775807)])) (by rw [hk]; rfl) (fun q => by cases q) (fun _ a ha => by cases ha; exact ⟨rfl, h1, h2⟩)
theorem mM_35 {r j : Int} (hk : wM.2 r = 35) {ms : List Nat} (hm : ms.contains 10035 = true) : mcode wM r j ∈ ms := by
  unfold mcode; rw [shM_35 hk]; simp only; rw [hk]; exact List.contains_iff_mem.mp hm
theorem aM_36 {r i : Int} (h0 : 0 ≤ r) (hk : wM.2 r = 36) (hi0 : 0 ≤ i) (hi1 : i < 1430) : 0 ≤ r ∧ (an_sh wM r).1 = 1 ∧ (an_sh wM r).2.1 = 0 ∧ 0 ≤ i ∧ i < (an_sh wM r).2.2 := by
  rw [shM_36 hk]; exact ⟨h0, rfl, rfl, hi0, hi1⟩
theorem tM_36 {r i : Int} {v : pm_V} (h0 : 0 ≤ r) (hk : wM.2 r = 36) (hi0 : 0 ≤ i) (hi1 : i < 1430) (hv : pm_okt 0 v = true) : 0 ≤ r ∧ (an_sh wM r).1 = 1 ∧ (an_sh wM r).2.1 = 0 ∧ 0 ≤ i ∧ i < (an_sh wM r).2.2 ∧ pm_okt 0 v = true := by
  rw [shM_36 hk]; exact ⟨h0, rfl, rfl, hi0, hi1, hv⟩
theorem uM_36 {A : pm_A} (h : gH wM A) {r : Int} (hk : wM.2 r = 36) {i x : Int} (h1 : (-2147483648) ≤ x) (h2 : x ≤ 2147483647) : gH wM (pm_upd A r i x) := gH_upd h (k := (1, 0, 1430, [(0, (-2147483648), 2147483647)])) (by rw [hk]; rfl) (fun q => by cases q) (fun _ a ha => by cases ha; exact ⟨rfl, h1, h2⟩)
theorem mM_36 {r j : Int} (hk : wM.2 r = 36) {ms : List Nat} (hm : ms.contains 10036 = true) : mcode wM r j ∈ ms := by
  unfold mcode; rw [shM_36 hk]; simp only; rw [hk]; exact List.contains_iff_mem.mp hm
theorem aM_37 {r i : Int} (h0 : 0 ≤ r) (hk : wM.2 r = 37) (hi0 : 0 ≤ i) (hi1 : i < 64) : 0 ≤ r ∧ (an_sh wM r).1 = 1 ∧ (an_sh wM r).2.1 = 0 ∧ 0 ≤ i ∧ i < (an_sh wM r).2.2 := by
  rw [shM_37 hk]; exact ⟨h0, rfl, rfl, hi0, hi1⟩
theorem tM_37 {r i : Int} {v : pm_V} (h0 : 0 ≤ r) (hk : wM.2 r = 37) (hi0 : 0 ≤ i) (hi1 : i < 64) (hv : pm_okt 0 v = true) : 0 ≤ r ∧ (an_sh wM r).1 = 1 ∧ (an_sh wM r).2.1 = 0 ∧ 0 ≤ i ∧ i < (an_sh wM r).2.2 ∧ pm_okt 0 v = true := by
  rw [shM_37 hk]; exact ⟨h0, rfl, rfl, hi0, hi1, hv⟩
theorem uM_37 {A : pm_A} (h : gH wM A) {r : Int} (hk : wM.2 r = 37) {i x : Int} (h1 : (-2147483648) ≤ x) (h2 : x ≤ 2147483647) : gH wM (pm_upd A r i x) := gH_upd h (k := (1, 0, 64, [(0, (-2147483648), 2147483647)])) (by rw [hk]; rfl) (fun q => by cases q) (fun _ a ha => by cases ha; exact ⟨rfl, h1, h2⟩)
theorem mM_37 {r j : Int} (hk : wM.2 r = 37) {ms : List Nat} (hm : ms.contains 10037 = true) : mcode wM r j ∈ ms := by
  unfold mcode; rw [shM_37 hk]; simp only; rw [hk]; exact List.contains_iff_mem.mp hm
theorem aM_38 {r i : Int} (h0 : 0 ≤ r) (hk : wM.2 r = 38) (hi0 : 0 ≤ i) (hi1 : i < 200) : 0 ≤ r ∧ (an_sh wM r).1 = 1 ∧ (an_sh wM r).2.1 = 2 ∧ 0 ≤ i ∧ i < (an_sh wM r).2.2 := by
  rw [shM_38 hk]; exact ⟨h0, rfl, rfl, hi0, hi1⟩
theorem tM_38 {r i : Int} {v : pm_V} (h0 : 0 ≤ r) (hk : wM.2 r = 38) (hi0 : 0 ≤ i) (hi1 : i < 200) (hv : pm_okt 2 v = true) : 0 ≤ r ∧ (an_sh wM r).1 = 1 ∧ (an_sh wM r).2.1 = 2 ∧ 0 ≤ i ∧ i < (an_sh wM r).2.2 ∧ pm_okt 2 v = true := by
  rw [shM_38 hk]; exact ⟨h0, rfl, rfl, hi0, hi1, hv⟩
theorem uM_38 {A : pm_A} (h : gH wM A) {r : Int} (hk : wM.2 r = 38) {i x : Int} (h1 : 0 ≤ x) (h2 : x ≤ 1) : gH wM (pm_upd A r i x) := gH_upd h (k := (1, 2, 200, [(0, 0, 1)])) (by rw [hk]; rfl) (fun q => by cases q) (fun _ a ha => by cases ha; exact ⟨rfl, h1, h2⟩)
theorem mM_38 {r j : Int} (hk : wM.2 r = 38) {ms : List Nat} (hm : ms.contains 10038 = true) : mcode wM r j ∈ ms := by
  unfold mcode; rw [shM_38 hk]; simp only; rw [hk]; exact List.contains_iff_mem.mp hm
