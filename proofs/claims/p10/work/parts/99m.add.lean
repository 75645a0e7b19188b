theorem uM_0_0 {A : pm_A} (h : gH wM A) {x : Int} (h1 : (-2147483648) ≤ x) (h2 : x ≤ 2147483647) : gH wM (pm_upd A 0 0 x) := gH_upd h (k := (0, 10, 58, [(0, (-2147483648), 2147483647), (2, 1, 0), (2, 2, 0), (2, 3, 0), (0, 0, 1), (1, (-9223372036854775808), 9223372036854775807), (2, 4, 0), (0, 0, 6), (0, 0, 6), (2, 5, 0), (0, 0, 100), (2, 6, 0), (0, 0, 6), (0, 0, 6), (2, 7, 0), (2, 8, 0), (2, 9, 0), (2, 10, 0), (2, 11, 0), (2, 12, 0), (2, 13, 0), (2, 14, 0), (2, 15, 0), (2, 16, 0), (0, 0, 150), (0, (-2147483648), 2147483647), (0, 0, 101), (2, 17, 0), (2, 18, 0), (0, 0, 1), (0, 0, 100), (2, 19, 0), (2, 20, 0), (2, 21, 0), (2, 22, 0), (2, 23, 0), (0, 0, 12), (2, 24, 0), (2, 25, 0), (2, 26, 0), (0, 0, 3000), (0, (-2147483648), 2147483647), (0, 0, 3000), (2, 27, 0), (2, 28, 0), (2, 29, 0), (0, 0, 12), (2, 30, 0), (2, 31, 0), (2, 32, 0), (2, 33, 0), (2, 34, 0), (2, 35, 0), (2, 36, 0), (0, 0, 1430), (0, 0, 64), (2, 37, 0), (2, 38, 0)])) (by rw [km0]; rfl) (fun _ j a hj ej => by
  have e : j = 0 := by omega
  subst e
  cases hj
  exact ⟨rfl, h1, h2⟩) (fun q => by cases q)
theorem uM_0_4 {A : pm_A} (h : gH wM A) {x : Int} (h1 : 0 ≤ x) (h2 : x ≤ 1) : gH wM (pm_upd A 0 4 x) := gH_upd h (k := (0, 10, 58, [(0, (-2147483648), 2147483647), (2, 1, 0), (2, 2, 0), (2, 3, 0), (0, 0, 1), (1, (-9223372036854775808), 9223372036854775807), (2, 4, 0), (0, 0, 6), (0, 0, 6), (2, 5, 0), (0, 0, 100), (2, 6, 0), (0, 0, 6), (0, 0, 6), (2, 7, 0), (2, 8, 0), (2, 9, 0), (2, 10, 0), (2, 11, 0), (2, 12, 0), (2, 13, 0), (2, 14, 0), (2, 15, 0), (2, 16, 0), (0, 0, 150), (0, (-2147483648), 2147483647), (0, 0, 101), (2, 17, 0), (2, 18, 0), (0, 0, 1), (0, 0, 100), (2, 19, 0), (2, 20, 0), (2, 21, 0), (2, 22, 0), (2, 23, 0), (0, 0, 12), (2, 24, 0), (2, 25, 0), (2, 26, 0), (0, 0, 3000), (0, (-2147483648), 2147483647), (0, 0, 3000), (2, 27, 0), (2, 28, 0), (2, 29, 0), (0, 0, 12), (2, 30, 0), (2, 31, 0), (2, 32, 0), (2, 33, 0), (2, 34, 0), (2, 35, 0), (2, 36, 0), (0, 0, 1430), (0, 0, 64), (2, 37, 0), (2, 38, 0)])) (by rw [km0]; rfl) (fun _ j a hj ej => by
  have e : j = 4 := by omega
  subst e
  cases hj
  exact ⟨rfl, h1, h2⟩) (fun q => by cases q)
theorem uM_0_5 {A : pm_A} (h : gH wM A) {x : Int} (h1 : (-9223372036854775808) ≤ x) (h2 : x ≤ 9223372036854775807) : gH wM (pm_upd A 0 5 x) := gH_upd h (k := (0, 10, 58, [(0, (-2147483648), 2147483647), (2, 1, 0), (2, 2, 0), (2, 3, 0), (0, 0, 1), (1, (-9223372036854775808), 9223372036854775807), (2, 4, 0), (0, 0, 6), (0, 0, 6), (2, 5, 0), (0, 0, 100), (2, 6, 0), (0, 0, 6), (0, 0, 6), (2, 7, 0), (2, 8, 0), (2, 9, 0), (2, 10, 0), (2, 11, 0), (2, 12, 0), (2, 13, 0), (2, 14, 0), (2, 15, 0), (2, 16, 0), (0, 0, 150), (0, (-2147483648), 2147483647), (0, 0, 101), (2, 17, 0), (2, 18, 0), (0, 0, 1), (0, 0, 100), (2, 19, 0), (2, 20, 0), (2, 21, 0), (2, 22, 0), (2, 23, 0), (0, 0, 12), (2, 24, 0), (2, 25, 0), (2, 26, 0), (0, 0, 3000), (0, (-2147483648), 2147483647), (0, 0, 3000), (2, 27, 0), (2, 28, 0), (2, 29, 0), (0, 0, 12), (2, 30, 0), (2, 31, 0), (2, 32, 0), (2, 33, 0), (2, 34, 0), (2, 35, 0), (2, 36, 0), (0, 0, 1430), (0, 0, 64), (2, 37, 0), (2, 38, 0)])) (by rw [km0]; rfl) (fun _ j a hj ej => by
  have e : j = 5 := by omega
  subst e
  cases hj
  exact ⟨rfl, h1, h2⟩) (fun q => by cases q)
theorem uM_0_7 {A : pm_A} (h : gH wM A) {x : Int} (h1 : 0 ≤ x) (h2 : x ≤ 6) : gH wM (pm_upd A 0 7 x) := gH_upd h (k := (0, 10, 58, [(0, (-2147483648), 2147483647), (2, 1, 0), (2, 2, 0), (2, 3, 0), (0, 0, 1), (1, (-9223372036854775808), 9223372036854775807), (2, 4, 0), (0, 0, 6), (0, 0, 6), (2, 5, 0), (0, 0, 100), (2, 6, 0), (0, 0, 6), (0, 0, 6), (2, 7, 0), (2, 8, 0), (2, 9, 0), (2, 10, 0), (2, 11, 0), (2, 12, 0), (2, 13, 0), (2, 14, 0), (2, 15, 0), (2, 16, 0), (0, 0, 150), (0, (-2147483648), 2147483647), (0, 0, 101), (2, 17, 0), (2, 18, 0), (0, 0, 1), (0, 0, 100), (2, 19, 0), (2, 20, 0), (2, 21, 0), (2, 22, 0), (2, 23, 0), (0, 0, 12), (2, 24, 0), (2, 25, 0), (2, 26, 0), (0, 0, 3000), (0, (-2147483648), 2147483647), (0, 0, 3000), (2, 27, 0), (2, 28, 0), (2, 29, 0), (0, 0, 12), (2, 30, 0), (2, 31, 0), (2, 32, 0), (2, 33, 0), (2, 34, 0), (2, 35, 0), (2, 36, 0), (0, 0, 1430), (0, 0, 64), (2, 37, 0), (2, 38, 0)])) (by rw [km0]; rfl) (fun _ j a hj ej => by
  have e : j = 7 := by omega
  subst e
  cases hj
  exact ⟨rfl, h1, h2⟩) (fun q => by cases q)
theorem uM_0_8 {A : pm_A} (h : gH wM A) {x : Int} (h1 : 0 ≤ x) (h2 : x ≤ 6) : gH wM (pm_upd A 0 8 x) := gH_upd h (k := (0, 10, 58, [(0, (-2147483648), 2147483647), (2, 1, 0), (2, 2, 0), (2, 3, 0), (0, 0, 1), (1, (-9223372036854775808), 9223372036854775807), (2, 4, 0), (0, 0, 6), (0, 0, 6), (2, 5, 0), (0, 0, 100), (2, 6, 0), (0, 0, 6), (0, 0, 6), (2, 7, 0), (2, 8, 0), (2, 9, 0), (2, 10, 0), (2, 11, 0), (2, 12, 0), (2, 13, 0), (2, 14, 0), (2, 15, 0), (2, 16, 0), (0, 0, 150), (0, (-2147483648), 2147483647), (0, 0, 101), (2, 17, 0), (2, 18, 0), (0, 0, 1), (0, 0, 100), (2, 19, 0), (2, 20, 0), (2, 21, 0), (2, 22, 0), (2, 23, 0), (0, 0, 12), (2, 24, 0), (2, 25, 0), (2, 26, 0), (0, 0, 3000), (0, (-2147483648), 2147483647), (0, 0, 3000), (2, 27, 0), (2, 28, 0), (2, 29, 0), (0, 0, 12), (2, 30, 0), (2, 31, 0), (2, 32, 0), (2, 33, 0), (2, 34, 0), (2, 35, 0), (2, 36, 0), (0, 0, 1430), (0, 0, 64), (2, 37, 0), (2, 38, 0)])) (by rw [km0]; rfl) (fun _ j a hj ej => by
  have e : j = 8 := by omega
  subst e
  cases hj
  exact ⟨rfl, h1, h2⟩) (fun q => by cases q)
theorem uM_0_10 {A : pm_A} (h : gH wM A) {x : Int} (h1 : 0 ≤ x) (h2 : x ≤ 100) : gH wM (pm_upd A 0 10 x) := gH_upd h (k := (0, 10, 58, [(0, (-2147483648), 2147483647), (2, 1, 0), (2, 2, 0), (2, 3, 0), (0, 0, 1), (1, (-9223372036854775808), 9223372036854775807), (2, 4, 0), (0, 0, 6), (0, 0, 6), (2, 5, 0), (0, 0, 100), (2, 6, 0), (0, 0, 6), (0, 0, 6), (2, 7, 0), (2, 8, 0), (2, 9, 0), (2, 10, 0), (2, 11, 0), (2, 12, 0), (2, 13, 0), (2, 14, 0), (2, 15, 0), (2, 16, 0), (0, 0, 150), (0, (-2147483648), 2147483647), (0, 0, 101), (2, 17, 0), (2, 18, 0), (0, 0, 1), (0, 0, 100), (2, 19, 0), (2, 20, 0), (2, 21, 0), (2, 22, 0), (2, 23, 0), (0, 0, 12), (2, 24, 0), (2, 25, 0), (2, 26, 0), (0, 0, 3000), (0, (-2147483648), 2147483647), (0, 0, 3000), (2, 27, 0), (2, 28, 0), (2, 29, 0), (0, 0, 12), (2, 30, 0), (2, 31, 0), (2, 32, 0), (2, 33, 0), (2, 34, 0), (2, 35, 0), (2, 36, 0), (0, 0, 1430), (0, 0, 64), (2, 37, 0), (2, 38, 0)])) (by rw [km0]; rfl) (fun _ j a hj ej => by
  have e : j = 10 := by omega
  subst e
  cases hj
  exact ⟨rfl, h1, h2⟩) (fun q => by cases q)
theorem uM_0_12 {A : pm_A} (h : gH wM A) {x : Int} (h1 : 0 ≤ x) (h2 : x ≤ 6) : gH wM (pm_upd A 0 12 x) := gH_upd h (k := (0, 10, 58, [(0, (-2147483648), 2147483647), (2, 1, 0), (2, 2, 0), (2, 3, 0), (0, 0, 1), (1, (-9223372036854775808), 9223372036854775807), (2, 4, 0), (0, 0, 6), (0, 0, 6), (2, 5, 0), (0, 0, 100), (2, 6, 0), (0, 0, 6), (0, 0, 6), (2, 7, 0), (2, 8, 0), (2, 9, 0), (2, 10, 0), (2, 11, 0), (2, 12, 0), (2, 13, 0), (2, 14, 0), (2, 15, 0), (2, 16, 0), (0, 0, 150), (0, (-2147483648), 2147483647), (0, 0, 101), (2, 17, 0), (2, 18, 0), (0, 0, 1), (0, 0, 100), (2, 19, 0), (2, 20, 0), (2, 21, 0), (2, 22, 0), (2, 23, 0), (0, 0, 12), (2, 24, 0), (2, 25, 0), (2, 26, 0), (0, 0, 3000), (0, (-2147483648), 2147483647), (0, 0, 3000), (2, 27, 0), (2, 28, 0), (2, 29, 0), (0, 0, 12), (2, 30, 0), (2, 31, 0), (2, 32, 0), (2, 33, 0), (2, 34, 0), (2, 35, 0), (2, 36, 0), (0, 0, 1430), (0, 0, 64), (2, 37, 0), (2, 38, 0)])) (by rw [km0]; rfl) (fun _ j a hj ej => by
  have e : j = 12 := by omega
  subst e
  cases hj
  exact ⟨rfl, h1, h2⟩) (fun q => by cases q)
theorem uM_0_13 {A : pm_A} (h : gH wM A) {x : Int} (h1 : 0 ≤ x) (h2 : x ≤ 6) : gH wM (pm_upd A 0 13 x) := gH_upd h (k := (0, 10, 58, [(0, (-2147483648), 2147483647), (2, 1, 0), (2, 2, 0), (2, 3, 0), (0, 0, 1), (1, (-9223372036854775808), 9223372036854775807), (2, 4, 0), (0, 0, 6), (0, 0, 6), (2, 5, 0), (0, 0, 100), (2, 6, 0), (0, 0, 6), (0, 0, 6), (2, 7, 0), (2, 8, 0), (2, 9, 0), (2, 10, 0), (2, 11, 0), (2, 12, 0), (2, 13, 0), (2, 14, 0), (2, 15, 0), (2, 16, 0), (0, 0, 150), (0, (-2147483648), 2147483647), (0, 0, 101), (2, 17, 0), (2, 18, 0), (0, 0, 1), (0, 0, 100), (2, 19, 0), (2, 20, 0), (2, 21, 0), (2, 22, 0), (2, 23, 0), (0, 0, 12), (2, 24, 0), (2, 25, 0), (2, 26, 0), (0, 0, 3000), (0, (-2147483648), 2147483647), (0, 0, 3000), (2, 27, 0), (2, 28, 0), (2, 29, 0), (0, 0, 12), (2, 30, 0), (2, 31, 0), (2, 32, 0), (2, 33, 0), (2, 34, 0), (2, 35, 0), (2, 36, 0), (0, 0, 1430), (0, 0, 64), (2, 37, 0), (2, 38, 0)])) (by rw [km0]; rfl) (fun _ j a hj ej => by
  have e : j = 13 := by omega
  subst e
  cases hj
  exact ⟨rfl, h1, h2⟩) (fun q => by cases q)
theorem uM_0_24 {A : pm_A} (h : gH wM A) {x : Int} (h1 : 0 ≤ x) (h2 : x ≤ 150) : gH wM (pm_upd A 0 24 x) := gH_upd h (k := (0, 10, 58, [(0, (-2147483648), 2147483647), (2, 1, 0), (2, 2, 0), (2, 3, 0), (0, 0, 1), (1, (-9223372036854775808), 9223372036854775807), (2, 4, 0), (0, 0, 6), (0, 0, 6), (2, 5, 0), (0, 0, 100), (2, 6, 0), (0, 0, 6), (0, 0, 6), (2, 7, 0), (2, 8, 0), (2, 9, 0), (2, 10, 0), (2, 11, 0), (2, 12, 0), (2, 13, 0), (2, 14, 0), (2, 15, 0), (2, 16, 0), (0, 0, 150), (0, (-2147483648), 2147483647), (0, 0, 101), (2, 17, 0), (2, 18, 0), (0, 0, 1), (0, 0, 100), (2, 19, 0), (2, 20, 0), (2, 21, 0), (2, 22, 0), (2, 23, 0), (0, 0, 12), (2, 24, 0), (2, 25, 0), (2, 26, 0), (0, 0, 3000), (0, (-2147483648), 2147483647), (0, 0, 3000), (2, 27, 0), (2, 28, 0), (2, 29, 0), (0, 0, 12), (2, 30, 0), (2, 31, 0), (2, 32, 0), (2, 33, 0), (2, 34, 0), (2, 35, 0), (2, 36, 0), (0, 0, 1430), (0, 0, 64), (2, 37, 0), (2, 38, 0)])) (by rw [km0]; rfl) (fun _ j a hj ej => by
  have e : j = 24 := by omega
  subst e
  cases hj
  exact ⟨rfl, h1, h2⟩) (fun q => by cases q)
theorem uM_0_25 {A : pm_A} (h : gH wM A) {x : Int} (h1 : (-2147483648) ≤ x) (h2 : x ≤ 2147483647) : gH wM (pm_upd A 0 25 x) := gH_upd h (k := (0, 10, 58, [(0, (-2147483648), 2147483647), (2, 1, 0), (2, 2, 0), (2, 3, 0), (0, 0, 1), (1, (-9223372036854775808), 9223372036854775807), (2, 4, 0), (0, 0, 6), (0, 0, 6), (2, 5, 0), (0, 0, 100), (2, 6, 0), (0, 0, 6), (0, 0, 6), (2, 7, 0), (2, 8, 0), (2, 9, 0), (2, 10, 0), (2, 11, 0), (2, 12, 0), (2, 13, 0), (2, 14, 0), (2, 15, 0), (2, 16, 0), (0, 0, 150), (0, (-2147483648), 2147483647), (0, 0, 101), (2, 17, 0), (2, 18, 0), (0, 0, 1), (0, 0, 100), (2, 19, 0), (2, 20, 0), (2, 21, 0), (2, 22, 0), (2, 23, 0), (0, 0, 12), (2, 24, 0), (2, 25, 0), (2, 26, 0), (0, 0, 3000), (0, (-2147483648), 2147483647), (0, 0, 3000), (2, 27, 0), (2, 28, 0), (2, 29, 0), (0, 0, 12), (2, 30, 0), (2, 31, 0), (2, 32, 0), (2, 33, 0), (2, 34, 0), (2, 35, 0), (2, 36, 0), (0, 0, 1430), (0, 0, 64), (2, 37, 0), (2, 38, 0)])) (by rw [km0]; rfl) (fun _ j a hj ej => by
  have e : j = 25 := by omega
  subst e
  cases hj
  exact ⟨rfl, h1, h2⟩) (fun q => by cases q)
theorem uM_0_26 {A : pm_A} (h : gH wM A) {x : Int} (h1 : 0 ≤ x) (h2 : x ≤ 101) : gH wM (pm_upd A 0 26 x) := gH_upd h (k := (0, 10, 58, [(0, (-2147483648), 2147483647), (2, 1, 0), (2, 2, 0), (2, 3, 0), (0, 0, 1), (1, (-9223372036854775808), 9223372036854775807), (2, 4, 0), (0, 0, 6), (0, 0, 6), (2, 5, 0), (0, 0, 100), (2, 6, 0), (0, 0, 6), (0, 0, 6), (2, 7, 0), (2, 8, 0), (2, 9, 0), (2, 10, 0), (2, 11, 0), (2, 12, 0), (2, 13, 0), (2, 14, 0), (2, 15, 0), (2, 16, 0), (0, 0, 150), (0, (-2147483648), 2147483647), (0, 0, 101), (2, 17, 0), (2, 18, 0), (0, 0, 1), (0, 0, 100), (2, 19, 0), (2, 20, 0), (2, 21, 0), (2, 22, 0), (2, 23, 0), (0, 0, 12), (2, 24, 0), (2, 25, 0), (2, 26, 0), (0, 0, 3000), (0, (-2147483648), 2147483647), (0, 0, 3000), (2, 27, 0), (2, 28, 0), (2, 29, 0), (0, 0, 12), (2, 30, 0), (2, 31, 0), (2, 32, 0), (2, 33, 0), (2, 34, 0), (2, 35, 0), (2, 36, 0), (0, 0, 1430), (0, 0, 64), (2, 37, 0), (2, 38, 0)])) (by rw [km0]; rfl) (fun _ j a hj ej => by
  have e : j = 26 := by omega
  subst e
  cases hj
  exact ⟨rfl, h1, h2⟩) (fun q => by cases q)
theorem uM_0_29 {A : pm_A} (h : gH wM A) {x : Int} (h1 : 0 ≤ x) (h2 : x ≤ 1) : gH wM (pm_upd A 0 29 x) := gH_upd h (k := (0, 10, 58, [(0, (-2147483648), 2147483647), (2, 1, 0), (2, 2, 0), (2, 3, 0), (0, 0, 1), (1, (-9223372036854775808), 9223372036854775807), (2, 4, 0), (0, 0, 6), (0, 0, 6), (2, 5, 0), (0, 0, 100), (2, 6, 0), (0, 0, 6), (0, 0, 6), (2, 7, 0), (2, 8, 0), (2, 9, 0), (2, 10, 0), (2, 11, 0), (2, 12, 0), (2, 13, 0), (2, 14, 0), (2, 15, 0), (2, 16, 0), (0, 0, 150), (0, (-2147483648), 2147483647), (0, 0, 101), (2, 17, 0), (2, 18, 0), (0, 0, 1), (0, 0, 100), (2, 19, 0), (2, 20, 0), (2, 21, 0), (2, 22, 0), (2, 23, 0), (0, 0, 12), (2, 24, 0), (2, 25, 0), (2, 26, 0), (0, 0, 3000), (0, (-2147483648), 2147483647), (0, 0, 3000), (2, 27, 0), (2, 28, 0), (2, 29, 0), (0, 0, 12), (2, 30, 0), (2, 31, 0), (2, 32, 0), (2, 33, 0), (2, 34, 0), (2, 35, 0), (2, 36, 0), (0, 0, 1430), (0, 0, 64), (2, 37, 0), (2, 38, 0)])) (by rw [km0]; rfl) (fun _ j a hj ej => by
  have e : j = 29 := by omega
  subst e
  cases hj
  exact ⟨rfl, h1, h2⟩) (fun q => by cases q)
theorem uM_0_30 {A : pm_A} (h : gH wM A) {x : Int} (h1 : 0 ≤ x) (h2 : x ≤ 100) : gH wM (pm_upd A 0 30 x) := gH_upd h (k := (0, 10, 58, [(0, (-2147483648), 2147483647), (2, 1, 0), (2, 2, 0), (2, 3, 0), (0, 0, 1), (1, (-9223372036854775808), 9223372036854775807), (2, 4, 0), (0, 0, 6), (0, 0, 6), (2, 5, 0), (0, 0, 100), (2, 6, 0), (0, 0, 6), (0, 0, 6), (2, 7, 0), (2, 8, 0), (2, 9, 0), (2, 10, 0), (2, 11, 0), (2, 12, 0), (2, 13, 0), (2, 14, 0), (2, 15, 0), (2, 16, 0), (0, 0, 150), (0, (-2147483648), 2147483647), (0, 0, 101), (2, 17, 0), (2, 18, 0), (0, 0, 1), (0, 0, 100), (2, 19, 0), (2, 20, 0), (2, 21, 0), (2, 22, 0), (2, 23, 0), (0, 0, 12), (2, 24, 0), (2, 25, 0), (2, 26, 0), (0, 0, 3000), (0, (-2147483648), 2147483647), (0, 0, 3000), (2, 27, 0), (2, 28, 0), (2, 29, 0), (0, 0, 12), (2, 30, 0), (2, 31, 0), (2, 32, 0), (2, 33, 0), (2, 34, 0), (2, 35, 0), (2, 36, 0), (0, 0, 1430), (0, 0, 64), (2, 37, 0), (2, 38, 0)])) (by rw [km0]; rfl) (fun _ j a hj ej => by
  have e : j = 30 := by omega
  subst e
  cases hj
  exact ⟨rfl, h1, h2⟩) (fun q => by cases q)
theorem uM_0_36 {A : pm_A} (h : gH wM A) {x : Int} (h1 : 0 ≤ x) (h2 : x ≤ 12) : gH wM (pm_upd A 0 36 x) := gH_upd h (k := (0, 10, 58, [(0, (-2147483648), 2147483647), (2, 1, 0), (2, 2, 0), (2, 3, 0), (0, 0, 1), (1, (-9223372036854775808), 9223372036854775807), (2, 4, 0), (0, 0, 6), (0, 0, 6), (2, 5, 0), (0, 0, 100), (2, 6, 0), (0, 0, 6), (0, 0, 6), (2, 7, 0), (2, 8, 0), (2, 9, 0), (2, 10, 0), (2, 11, 0), (2, 12, 0), (2, 13, 0), (2, 14, 0), (2, 15, 0), (2, 16, 0), (0, 0, 150), (0, (-2147483648), 2147483647), (0, 0, 101), (2, 17, 0), (2, 18, 0), (0, 0, 1), (0, 0, 100), (2, 19, 0), (2, 20, 0), (2, 21, 0), (2, 22, 0), (2, 23, 0), (0, 0, 12), (2, 24, 0), (2, 25, 0), (2, 26, 0), (0, 0, 3000), (0, (-2147483648), 2147483647), (0, 0, 3000), (2, 27, 0), (2, 28, 0), (2, 29, 0), (0, 0, 12), (2, 30, 0), (2, 31, 0), (2, 32, 0), (2, 33, 0), (2, 34, 0), (2, 35, 0), (2, 36, 0), (0, 0, 1430), (0, 0, 64), (2, 37, 0), (2, 38, 0)])) (by rw [km0]; rfl) (fun _ j a hj ej => by
  have e : j = 36 := by omega
  subst e
  cases hj
  exact ⟨rfl, h1, h2⟩) (fun q => by cases q)
theorem uM_0_40 {A : pm_A} (h : gH wM A) {x : Int} (h1 : 0 ≤ x) (h2 : x ≤ 3000) : gH wM (pm_upd A 0 40 x) := gH_upd h (k := (0, 10, 58, [(0, (-2147483648), 2147483647), (2, 1, 0), (2, 2, 0), (2, 3, 0), (0, 0, 1), (1, (-9223372036854775808), 9223372036854775807), (2, 4, 0), (0, 0, 6), (0, 0, 6), (2, 5, 0), (0, 0, 100), (2, 6, 0), (0, 0, 6), (0, 0, 6), (2, 7, 0), (2, 8, 0), (2, 9, 0), (2, 10, 0), (2, 11, 0), (2, 12, 0), (2, 13, 0), (2, 14, 0), (2, 15, 0), (2, 16, 0), (0, 0, 150), (0, (-2147483648), 2147483647), (0, 0, 101), (2, 17, 0), (2, 18, 0), (0, 0, 1), (0, 0, 100), (2, 19, 0), (2, 20, 0), (2, 21, 0), (2, 22, 0), (2, 23, 0), (0, 0, 12), (2, 24, 0), (2, 25, 0), (2, 26, 0), (0, 0, 3000), (0, (-2147483648), 2147483647), (0, 0, 3000), (2, 27, 0), (2, 28, 0), (2, 29, 0), (0, 0, 12), (2, 30, 0), (2, 31, 0), (2, 32, 0), (2, 33, 0), (2, 34, 0), (2, 35, 0), (2, 36, 0), (0, 0, 1430), (0, 0, 64), (2, 37, 0), (2, 38, 0)])) (by rw [km0]; rfl) (fun _ j a hj ej => by
  have e : j = 40 := by omega
  subst e
  cases hj
  exact ⟨rfl, h1, h2⟩) (fun q => by cases q)
theorem uM_0_41 {A : pm_A} (h : gH wM A) {x : Int} (h1 : (-2147483648) ≤ x) (h2 : x ≤ 2147483647) : gH wM (pm_upd A 0 41 x) := gH_upd h (k := (0, 10, 58, [(0, (-2147483648), 2147483647), (2, 1, 0), (2, 2, 0), (2, 3, 0), (0, 0, 1), (1, (-9223372036854775808), 9223372036854775807), (2, 4, 0), (0, 0, 6), (0, 0, 6), (2, 5, 0), (0, 0, 100), (2, 6, 0), (0, 0, 6), (0, 0, 6), (2, 7, 0), (2, 8, 0), (2, 9, 0), (2, 10, 0), (2, 11, 0), (2, 12, 0), (2, 13, 0), (2, 14, 0), (2, 15, 0), (2, 16, 0), (0, 0, 150), (0, (-2147483648), 2147483647), (0, 0, 101), (2, 17, 0), (2, 18, 0), (0, 0, 1), (0, 0, 100), (2, 19, 0), (2, 20, 0), (2, 21, 0), (2, 22, 0), (2, 23, 0), (0, 0, 12), (2, 24, 0), (2, 25, 0), (2, 26, 0), (0, 0, 3000), (0, (-2147483648), 2147483647), (0, 0, 3000), (2, 27, 0), (2, 28, 0), (2, 29, 0), (0, 0, 12), (2, 30, 0), (2, 31, 0), (2, 32, 0), (2, 33, 0), (2, 34, 0), (2, 35, 0), (2, 36, 0), (0, 0, 1430), (0, 0, 64), (2, 37, 0), (2, 38, 0)])) (by rw [km0]; rfl) (fun _ j a hj ej => by
  have e : j = 41 := by omega
  subst e
  cases hj
  exact ⟨rfl, h1, h2⟩) (fun q => by cases q)
theorem uM_0_42 {A : pm_A} (h : gH wM A) {x : Int} (h1 : 0 ≤ x) (h2 : x ≤ 3000) : gH wM (pm_upd A 0 42 x) := gH_upd h (k := (0, 10, 58, [(0, (-2147483648), 2147483647), (2, 1, 0), (2, 2, 0), (2, 3, 0), (0, 0, 1), (1, (-9223372036854775808), 9223372036854775807), (2, 4, 0), (0, 0, 6), (0, 0, 6), (2, 5, 0), (0, 0, 100), (2, 6, 0), (0, 0, 6), (0, 0, 6), (2, 7, 0), (2, 8, 0), (2, 9, 0), (2, 10, 0), (2, 11, 0), (2, 12, 0), (2, 13, 0), (2, 14, 0), (2, 15, 0), (2, 16, 0), (0, 0, 150), (0, (-2147483648), 2147483647), (0, 0, 101), (2, 17, 0), (2, 18, 0), (0, 0, 1), (0, 0, 100), (2, 19, 0), (2, 20, 0), (2, 21, 0), (2, 22, 0), (2, 23, 0), (0, 0, 12), (2, 24, 0), (2, 25, 0), (2, 26, 0), (0, 0, 3000), (0, (-2147483648), 2147483647), (0, 0, 3000), (2, 27, 0), (2, 28, 0), (2, 29, 0), (0, 0, 12), (2, 30, 0), (2, 31, 0), (2, 32, 0), (2, 33, 0), (2, 34, 0), (2, 35, 0), (2, 36, 0), (0, 0, 1430), (0, 0, 64), (2, 37, 0), (2, 38, 0)])) (by rw [km0]; rfl) (fun _ j a hj ej => by
  have e : j = 42 := by omega
  subst e
  cases hj
  exact ⟨rfl, h1, h2⟩) (fun q => by cases q)
theorem uM_0_46 {A : pm_A} (h : gH wM A) {x : Int} (h1 : 0 ≤ x) (h2 : x ≤ 12) : gH wM (pm_upd A 0 46 x) := gH_upd h (k := (0, 10, 58, [(0, (-2147483648), 2147483647), (2, 1, 0), (2, 2, 0), (2, 3, 0), (0, 0, 1), (1, (-9223372036854775808), 9223372036854775807), (2, 4, 0), (0, 0, 6), (0, 0, 6), (2, 5, 0), (0, 0, 100), (2, 6, 0), (0, 0, 6), (0, 0, 6), (2, 7, 0), (2, 8, 0), (2, 9, 0), (2, 10, 0), (2, 11, 0), (2, 12, 0), (2, 13, 0), (2, 14, 0), (2, 15, 0), (2, 16, 0), (0, 0, 150), (0, (-2147483648), 2147483647), (0, 0, 101), (2, 17, 0), (2, 18, 0), (0, 0, 1), (0, 0, 100), (2, 19, 0), (2, 20, 0), (2, 21, 0), (2, 22, 0), (2, 23, 0), (0, 0, 12), (2, 24, 0), (2, 25, 0), (2, 26, 0), (0, 0, 3000), (0, (-2147483648), 2147483647), (0, 0, 3000), (2, 27, 0), (2, 28, 0), (2, 29, 0), (0, 0, 12), (2, 30, 0), (2, 31, 0), (2, 32, 0), (2, 33, 0), (2, 34, 0), (2, 35, 0), (2, 36, 0), (0, 0, 1430), (0, 0, 64), (2, 37, 0), (2, 38, 0)])) (by rw [km0]; rfl) (fun _ j a hj ej => by
  have e : j = 46 := by omega
  subst e
  cases hj
  exact ⟨rfl, h1, h2⟩) (fun q => by cases q)
theorem uM_0_54 {A : pm_A} (h : gH wM A) {x : Int} (h1 : 0 ≤ x) (h2 : x ≤ 1430) : gH wM (pm_upd A 0 54 x) := gH_upd h (k := (0, 10, 58, [(0, (-2147483648), 2147483647), (2, 1, 0), (2, 2, 0), (2, 3, 0), (0, 0, 1), (1, (-9223372036854775808), 9223372036854775807), (2, 4, 0), (0, 0, 6), (0, 0, 6), (2, 5, 0), (0, 0, 100), (2, 6, 0), (0, 0, 6), (0, 0, 6), (2, 7, 0), (2, 8, 0), (2, 9, 0), (2, 10, 0), (2, 11, 0), (2, 12, 0), (2, 13, 0), (2, 14, 0), (2, 15, 0), (2, 16, 0), (0, 0, 150), (0, (-2147483648), 2147483647), (0, 0, 101), (2, 17, 0), (2, 18, 0), (0, 0, 1), (0, 0, 100), (2, 19, 0), (2, 20, 0), (2, 21, 0), (2, 22, 0), (2, 23, 0), (0, 0, 12), (2, 24, 0), (2, 25, 0), (2, 26, 0), (0, 0, 3000), (0, (-2147483648), 2147483647), (0, 0, 3000), (2, 27, 0), (2, 28, 0), (2, 29, 0), (0, 0, 12), (2, 30, 0), (2, 31, 0), (2, 32, 0), (2, 33, 0), (2, 34, 0), (2, 35, 0), (2, 36, 0), (0, 0, 1430), (0, 0, 64), (2, 37, 0), (2, 38, 0)])) (by rw [km0]; rfl) (fun _ j a hj ej => by
  have e : j = 54 := by omega
  subst e
  cases hj
  exact ⟨rfl, h1, h2⟩) (fun q => by cases q)
theorem uM_0_55 {A : pm_A} (h : gH wM A) {x : Int} (h1 : 0 ≤ x) (h2 : x ≤ 64) : gH wM (pm_upd A 0 55 x) := gH_upd h (k := (0, 10, 58, [(0, (-2147483648), 2147483647), (2, 1, 0), (2, 2, 0), (2, 3, 0), (0, 0, 1), (1, (-9223372036854775808), 9223372036854775807), (2, 4, 0), (0, 0, 6), (0, 0, 6), (2, 5, 0), (0, 0, 100), (2, 6, 0), (0, 0, 6), (0, 0, 6), (2, 7, 0), (2, 8, 0), (2, 9, 0), (2, 10, 0), (2, 11, 0), (2, 12, 0), (2, 13, 0), (2, 14, 0), (2, 15, 0), (2, 16, 0), (0, 0, 150), (0, (-2147483648), 2147483647), (0, 0, 101), (2, 17, 0), (2, 18, 0), (0, 0, 1), (0, 0, 100), (2, 19, 0), (2, 20, 0), (2, 21, 0), (2, 22, 0), (2, 23, 0), (0, 0, 12), (2, 24, 0), (2, 25, 0), (2, 26, 0), (0, 0, 3000), (0, (-2147483648), 2147483647), (0, 0, 3000), (2, 27, 0), (2, 28, 0), (2, 29, 0), (0, 0, 12), (2, 30, 0), (2, 31, 0), (2, 32, 0), (2, 33, 0), (2, 34, 0), (2, 35, 0), (2, 36, 0), (0, 0, 1430), (0, 0, 64), (2, 37, 0), (2, 38, 0)])) (by rw [km0]; rfl) (fun _ j a hj ej => by
  have e : j = 55 := by omega
  subst e
  cases hj
  exact ⟨rfl, h1, h2⟩) (fun q => by cases q)
/-! add -/
def lsf (m : Nat) (f : Nat → Int × cr_Xp 12) : cr_Pl_ 12 := (List.range m).map f
theorem lsf_succ (m : Nat) (f : Nat → Int × cr_Xp 12) : lsf (m + 1) f = lsf m f ++ [f m] := by unfold lsf; rw [List.range_succ, List.map_append]; rfl
theorem lsf_congr {m : Nat} {f g : Nat → Int × cr_Xp 12} (h : ∀ q, q < m → f q = g q) : lsf m f = lsf m g := List.map_congr_left (fun q hq => h q (List.mem_range.1 hq))
noncomputable def si (y : Int × cr_Xp 12) (a : cr_Xp 12) : Int := @ite _ (y.2 = a) (Classical.propDecidable _) y.1 0
theorem co_snoc (l : cr_Pl_ 12) (y : Int × cr_Xp 12) (a : cr_Xp 12) : cr_co (l ++ [y]) a = cr_co l a + si y a := by
  rw [cr_co_app, cr_co_cons]; show _ + (si y a + 0) = _; omega
theorem si_add (c d : Int) (b a : cr_Xp 12) : si (c + d, b) a = si (c, b) a + si (d, b) a := by
  unfold si
  by_cases h : b = a
  · rw [if_pos h, if_pos h, if_pos h]
  · rw [if_neg h, if_neg h, if_neg h]; rfl
theorem co_merge {f g : Nat → Int × cr_Xp 12} {t : Nat} {c : Int} {b : cr_Xp 12} (h1 : ∀ q, q ≠ t → g q = f q) (h2 : (f t).2 = b) (h3 : g t = ((f t).1 + c, b)) (a : cr_Xp 12) : ∀ m, t < m → cr_co (lsf m g) a = cr_co (lsf m f) a + si (c, b) a
  | 0, h => by omega
  | m + 1, h => by
    rw [lsf_succ, lsf_succ, co_snoc, co_snoc]
    by_cases e : t = m
    · subst e
      rw [lsf_congr (fun q hq => h1 q (by omega)), h3, si_add]
      have : (f t) = ((f t).1, b) := Prod.ext rfl h2
      rw [← this]; omega
    · rw [co_merge h1 h2 h3 a m (by omega), h1 m (fun e2 => e e2.symm)]; omega
theorem co_insert {f g : Nat → Int × cr_Xp 12} {t : Nat} {y : Int × cr_Xp 12} (h2 : g t = y) (h1 : ∀ q, q < t → g q = f q) (a : cr_Xp 12) : ∀ m, t ≤ m → (∀ q, t ≤ q → q < m → g (q + 1) = f q) → cr_co (lsf (m + 1) g) a = cr_co (lsf m f) a + si y a
  | m, h, h3 => by
    by_cases e : t = m
    · subst e
      rw [lsf_succ, co_snoc, h2, lsf_congr (fun q hq => h1 q hq)]
    · cases m with
      | zero => omega
      | succ m =>
        rw [lsf_succ, co_snoc, co_insert h2 h1 a m (by omega) (fun q q0 q1 => h3 q q0 (by omega)), lsf_succ m f, co_snoc, h3 m (by omega) (by omega)]; omega
theorem LSm_lsf (A : pm_A) (p : Int) : LSm A p = lsf (A 1 p).toNat (fun q : Nat => (A 2 (200 * p + (q : Int)), xe A p (q : Int))) := rfl
def cfs (A : pm_A) (p : Int) : Prop := ∀ q : Int, 0 ≤ q → q < A 1 p → 1 ≤ A 2 (200 * p + q) ∧ A 2 (200 * p + q) ≤ 1000000000000
theorem srt_Madd : pm_srt o_X10_add = true := by decide +kernel
def adF (A B : pm_A) (s : Int) : Prop := gH wM B ∧ ∀ r j, ¬ inS s r j → ¬ (r = 0 ∧ j = 4) → B r j = A r j
def ad_post (A : pm_A) (s : Int) (r : pm_R) : Prop := r.1 = none ∧ adF A r.2 s ∧ (r.2 0 4 = 1 ∨ (r.2 0 4 = 0 ∧ srtd r.2 s ∧ cfs r.2 s ∧ ∀ a, cr_co (LSm r.2 s) a = cr_co (LSm A s) a + si (A 0 5, xp A) a))
def adH (A : pm_A) (s : Int) : Prop := gH wM A ∧ (0 ≤ s ∧ s ≤ 151) ∧ srtd A s ∧ cfs A s ∧ (1 ≤ A 0 5 ∧ A 0 5 ≤ 1000000000000) ∧ A 0 4 = 0
theorem ad_226 {A B : pm_A} {s t : Int} (hs : 0 ≤ s ∧ s ≤ 151) (t0 : 0 ≤ t) (t1 : t < B 1 s) (hF : adF A B s) (h4 : B 0 4 = 0) (h1 : srtd B s) (h2 : ∀ q : Int, 0 ≤ q → q < B 1 s → 1 ≤ B 2 (200 * s + q) ∧ (q ≠ t → B 2 (200 * s + q) ≤ 1000000000000)) (h3 : ∀ a, cr_co (LSm B s) a = cr_co (LSm A s) a + si (A 0 5, xp A) a) (v3 v4 : pm_V) : Tm pmt (an_sh wM) o_X10_add 226 ([(2, 0), (0, s), (0, t), v3, v4], [], B) (ad_post A s) := by
  have c2 := pM_2 hF.1
  have m1 := eM_1 hF.1 (r := 1) (by omega) kn1 hs.1 (show s < 152 by omega)
  have hgood : B 2 (200 * s + t) ≤ 1000000000000 → ad_post A s (none, B) := fun hle => ⟨rfl, hF, Or.inr ⟨h4, h1, fun q q0 q1 => ⟨(h2 q q0 q1).1, by
    by_cases e : q = t
    · rw [e]; exact hle
    · exact (h2 q q0 q1).2 e⟩, h3⟩⟩
  refine wq_ok srt_Madd (fr := []) (cuts := []) (J := fun _ _ => False) ?_ 19 226 _ ?_
  · intro pc st h; exact h.elim
  · refine ⟨oM_0 (by omega) km0 2 rfl, ?_⟩
    refine ⟨⟨by omega, by omega⟩, ?_⟩
    refine ⟨⟨by omega, by omega⟩, ?_⟩
    refine ⟨aM_2 (r := B 0 2) (by rw [c2]; omega) (by rw [c2]; exact kn2) (by omega) (by omega), ?_⟩
    have e1 : B (B 0 2) ((200 * s) + t) = B 2 ((200 * s) + t) := by rw [c2]
    refine ⟨fun h0 => ?_, fun h0 => ?_, fun h0 => ?_⟩
    · refine ⟨fun hh => absurd hh (by decide), fun _ => ?_⟩
      refine ⟨oM_0 (by omega) km0 4 rfl, ?_⟩
      exact ⟨rfl, ⟨uM_0_4 hF.1 (by omega) (by omega), fun r j hr h4 => (show pm_upd B 0 4 1 r j = A r j by rw [upd_o (fun e => h4 ⟨e.1, e.2⟩)]; exact hF.2 r j hr h4)⟩, Or.inl (show pm_upd B 0 4 1 0 4 = 1 from upd_at)⟩
    · refine ⟨fun _ => ?_, fun hh => absurd hh (by decide)⟩
      exact hgood (by omega)
    · refine ⟨fun _ => ?_, fun hh => absurd hh (by decide)⟩
      exact hgood (by omega)
def shI (A B : pm_A) (s k : Int) : Prop := gH wM B ∧ (∀ r j, ¬ inS s r j → B r j = A r j) ∧ B 1 s = A 1 s ∧ (∀ q v : Int, 0 ≤ q → q ≤ k → q < A 1 s → 0 ≤ v → v < 12 → B 2 (200 * s + q) = A 2 (200 * s + q) ∧ B 3 (12 * (200 * s + q) + v) = A 3 (12 * (200 * s + q) + v)) ∧ ∀ q v : Int, k < q → q ≤ A 1 s → 0 ≤ v → v < 12 → B 2 (200 * s + q) = A 2 (200 * s + q - 1) ∧ B 3 (12 * (200 * s + q) + v) = A 3 (12 * (200 * s + q - 1) + v)
def shJ (A B : pm_A) (s k u : Int) : Prop := gH wM B ∧ (∀ r j, ¬ inS s r j → B r j = A r j) ∧ B 1 s = A 1 s ∧ (∀ q v : Int, 0 ≤ q → q < k → q < A 1 s → 0 ≤ v → v < 12 → B 2 (200 * s + q) = A 2 (200 * s + q) ∧ B 3 (12 * (200 * s + q) + v) = A 3 (12 * (200 * s + q) + v)) ∧ (∀ q v : Int, k < q → q ≤ A 1 s → 0 ≤ v → v < 12 → B 2 (200 * s + q) = A 2 (200 * s + q - 1) ∧ B 3 (12 * (200 * s + q) + v) = A 3 (12 * (200 * s + q - 1) + v)) ∧ B 2 (200 * s + k) = A 2 (200 * s + k - 1) ∧ ∀ v : Int, 0 ≤ v → v < u → B 3 (12 * (200 * s + k) + v) = A 3 (12 * (200 * s + k - 1) + v)
theorem ad_106 {A : pm_A} {s t k : Int} (hs : 0 ≤ s ∧ s ≤ 151) (k0 : 1 ≤ k) (k1 : k ≤ A 1 s) (k2 : k ≤ 199) {z : pm_R → Prop} (H : ∀ C v4, shI A C s (k - 1) → Tm pmt (an_sh wM) o_X10_add 72 ([(2, 0), (0, s), (0, t), (0, k + (-1)), v4], [], C) z) : ∀ (n : Nat) (u : Int) (B : pm_A), (12 - u).toNat < n → 0 ≤ u → u ≤ 12 → shJ A B s k u → Tm pmt (an_sh wM) o_X10_add 106 ([(2, 0), (0, s), (0, t), (0, k), (0, u)], [], B) z := by
  intro n
  induction n with
  | zero => intro u B h; omega
  | succ n ih =>
    intro u B hn u0 u1 hJ
    obtain ⟨g1, g2, g3, g4, g5, g6, g7⟩ := hJ
    have c3 := pM_3 g1
    refine wq_ok srt_Madd (fr := []) (cuts := [72, 106]) (J := fun pc st => (pc = 72 ∧ (12 ≤ u) ∧ st = ([(2, 0), (0, s), (0, t), (0, k + (-1)), (0, u)], [], B)) ∨ (pc = 106 ∧ (u < 12) ∧ st = ([(2, 0), (0, s), (0, t), (0, k), (0, u + 1)], [], pm_upd B (B 0 3) ((12 * ((200 * s) + k)) + u) (B (B 0 3) ((12 * (((200 * s) + k) - 1)) + u))))) ?_ 36 106 _ ?_
    · rintro pc st (⟨rfl, h0, rfl⟩ | ⟨rfl, h0, rfl⟩)
      · refine H B _ ⟨g1, g2, g3, fun q v q0 q1 q2 v0 v1 => g4 q v q0 (by omega) q2 v0 v1, fun q v q0 q1 v0 v1 => ?_⟩
        by_cases hq : q = k
        · rw [hq]; exact ⟨g6, g7 v v0 (by omega)⟩
        · exact g5 q v (by omega) q1 v0 v1
      · rw [c3]
        have b3 := eM_3 g1 (r := 3) (by omega) kn3 (j := 12 * (200 * s + k - 1) + u) (by omega) (by omega)
        refine ih (u + 1) _ (by omega) (by omega) (by omega) ⟨uM_3 g1 kn3 b3.1 b3.2, fun r j hr => ?_, ?_, fun q v q0 q1 q2 v0 v1 => ?_, fun q v q0 q1 v0 v1 => ?_, ?_, fun v v0 v1 => ?_⟩
        · rw [upd_o (fun e => hr (by unfold inS; omega))]; exact g2 r j hr
        · rw [upd_o (by omega)]; exact g3
        · rw [upd_o (by omega), upd_o (by omega)]; exact g4 q v q0 q1 q2 v0 v1
        · rw [upd_o (by omega), upd_o (by omega)]; exact g5 q v q0 q1 v0 v1
        · rw [upd_o (by omega)]; exact g6
        · by_cases hv : v = u
          · rw [hv, upd_at]; have := (g4 (k - 1) u (by omega) (by omega) (by omega) u0 (by omega)).2; rw [show 12 * (200 * s + (k - 1)) + u = 12 * (200 * s + k - 1) + u by omega] at this; exact this
          · rw [upd_o (by omega)]; exact g7 v v0 (by omega)
    · refine ⟨fun h0 => ?_, fun h0 => ?_⟩
      · refine ⟨⟨by omega, by omega⟩, ?_⟩
        exact Or.inl (⟨rfl, h0, rfl⟩)
      · refine ⟨oM_0 (by omega) km0 3 rfl, ?_⟩
        refine ⟨⟨by omega, by omega⟩, ?_⟩
        refine ⟨⟨by omega, by omega⟩, ?_⟩
        refine ⟨⟨by omega, by omega⟩, ?_⟩
        refine ⟨⟨by omega, by omega⟩, ?_⟩
        refine ⟨oM_0 (by omega) km0 3 rfl, ?_⟩
        refine ⟨⟨by omega, by omega⟩, ?_⟩
        refine ⟨⟨by omega, by omega⟩, ?_⟩
        refine ⟨⟨by omega, by omega⟩, ?_⟩
        refine ⟨⟨by omega, by omega⟩, ?_⟩
        refine ⟨⟨by omega, by omega⟩, ?_⟩
        refine ⟨aM_3 (r := B 0 3) (by rw [c3]; omega) (by rw [c3]; exact kn3) (by omega) (by omega), ?_⟩
        have e1 : B (B 0 3) ((12 * (((200 * s) + k) - 1)) + u) = B 3 ((12 * (((200 * s) + k) - 1)) + u) := by rw [c3]
        refine ⟨tM_3 (r := B 0 3) (by rw [c3]; omega) (by rw [c3]; exact kn3) (by omega) (by omega) rfl, ?_⟩
        refine ⟨⟨by omega, by omega⟩, ?_⟩
        exact Or.inr (⟨rfl, h0, rfl⟩)
def niI (A B : pm_A) (s t u : Int) : Prop := gH wM B ∧ (∀ r j, ¬ inS s r j → B r j = A r j) ∧ B 1 s = A 1 s + 1 ∧ (∀ q v : Int, 0 ≤ q → q < t → 0 ≤ v → v < 12 → B 2 (200 * s + q) = A 2 (200 * s + q) ∧ B 3 (12 * (200 * s + q) + v) = A 3 (12 * (200 * s + q) + v)) ∧ (∀ q v : Int, t < q → q ≤ A 1 s → 0 ≤ v → v < 12 → B 2 (200 * s + q) = A 2 (200 * s + q - 1) ∧ B 3 (12 * (200 * s + q) + v) = A 3 (12 * (200 * s + q - 1) + v)) ∧ B 2 (200 * s + t) = A 0 5 ∧ ∀ v : Int, 0 ≤ v → v < u → B 3 (12 * (200 * s + t) + v) = A 4 v
theorem ad_191 {A : pm_A} {s t : Int} (hs : 0 ≤ s ∧ s ≤ 151) (t0 : 0 ≤ t) (t1 : t ≤ A 1 s) (m2 : A 1 s ≤ 199) {z : pm_R → Prop} {v4 : pm_V} (H : ∀ C v3, niI A C s t 12 → Tm pmt (an_sh wM) o_X10_add 226 ([(2, 0), (0, s), (0, t), v3, v4], [], C) z) : ∀ (n : Nat) (u : Int) (B : pm_A), (12 - u).toNat < n → 0 ≤ u → u ≤ 12 → niI A B s t u → Tm pmt (an_sh wM) o_X10_add 191 ([(2, 0), (0, s), (0, t), (0, u), v4], [], B) z := by
  intro n
  induction n with
  | zero => intro u B h; omega
  | succ n ih =>
    intro u B hn u0 u1 hJ
    obtain ⟨g1, g2, g3, g4, g5, g6, g7⟩ := hJ
    have c3 := pM_3 g1
    have c6 := pM_6 g1
    refine wq_ok srt_Madd (fr := []) (cuts := [191, 226]) (J := fun pc st => (pc = 226 ∧ (12 ≤ u) ∧ st = ([(2, 0), (0, s), (0, t), (0, u), v4], [], B)) ∨ (pc = 191 ∧ (u < 12) ∧ st = ([(2, 0), (0, s), (0, t), (0, u + 1), v4], [], pm_upd B (B 0 3) ((12 * ((200 * s) + t)) + u) (B (B 0 6) u)))) ?_ 26 191 _ ?_
    · rintro pc st (⟨rfl, h0, rfl⟩ | ⟨rfl, h0, rfl⟩)
      · exact H B _ ⟨g1, g2, g3, g4, g5, g6, fun v v0 v1 => g7 v v0 (by omega)⟩
      · rw [c3, c6]
        have b4 := eM_4 g1 (r := 4) (by omega) kn4 (j := u) (by omega) (by omega)
        refine ih (u + 1) _ (by omega) (by omega) (by omega) ⟨uM_3 g1 kn3 b4.1 b4.2, fun r j hr => ?_, ?_, fun q v q0 q1 v0 v1 => ?_, fun q v q0 q1 v0 v1 => ?_, ?_, fun v v0 v1 => ?_⟩
        · rw [upd_o (fun e => hr (by unfold inS; omega))]; exact g2 r j hr
        · rw [upd_o (by omega)]; exact g3
        · rw [upd_o (by omega), upd_o (by omega)]; exact g4 q v q0 q1 v0 v1
        · rw [upd_o (by omega), upd_o (by omega)]; exact g5 q v q0 q1 v0 v1
        · rw [upd_o (by omega)]; exact g6
        · by_cases hv : v = u
          · rw [hv, upd_at]; exact g2 4 u (by unfold inS; omega)
          · rw [upd_o (by omega)]; exact g7 v v0 (by omega)
    · refine ⟨fun h0 => ?_, fun h0 => ?_⟩
      · exact Or.inl (⟨rfl, h0, rfl⟩)
      · refine ⟨oM_0 (by omega) km0 3 rfl, ?_⟩
        refine ⟨⟨by omega, by omega⟩, ?_⟩
        refine ⟨⟨by omega, by omega⟩, ?_⟩
        refine ⟨⟨by omega, by omega⟩, ?_⟩
        refine ⟨⟨by omega, by omega⟩, ?_⟩
        refine ⟨oM_0 (by omega) km0 6 rfl, ?_⟩
        refine ⟨aM_4 (r := B 0 6) (by rw [c6]; omega) (by rw [c6]; exact kn4) (by omega) (by omega), ?_⟩
        have e1 : B (B 0 6) u = B 4 u := by rw [c6]
        refine ⟨tM_3 (r := B 0 3) (by rw [c3]; omega) (by rw [c3]; exact kn3) (by omega) (by omega) rfl, ?_⟩
        refine ⟨⟨by omega, by omega⟩, ?_⟩
        exact Or.inr (⟨rfl, h0, rfl⟩)
def ptI (A : pm_A) (s t : Int) : Prop := (0 ≤ t ∧ t ≤ A 1 s) ∧ (∀ q, 0 ≤ q → q < t → cr_Gt (xe A s q) (xp A)) ∧ ∀ q, t ≤ q → q < A 1 s → ¬ cr_Gt (xe A s q) (xp A)
theorem ad_ins {A B : pm_A} {s t : Int} (hA : adH A s) (m2 : A 1 s ≤ 199) (ht : ptI A s t) (hne : t < A 1 s → xe A s t ≠ xp A) (hB : niI A B s t 12) (v3 v4 : pm_V) : Tm pmt (an_sh wM) o_X10_add 226 ([(2, 0), (0, s), (0, t), v3, v4], [], B) (ad_post A s) := by
  obtain ⟨hA1, hs, hsr, hcf, hnum, hsp⟩ := hA
  obtain ⟨⟨t0, t1⟩, ht2, ht3⟩ := ht
  obtain ⟨g1, g2, g3, g4, g5, g6, g7⟩ := hB
  have m1 := eM_1 hA1 (r := 1) (by omega) kn1 hs.1 (show s < 152 by omega)
  have xlt : ∀ q : Int, 0 ≤ q → q < t → xe B s q = xe A s q := fun q q0 q1 => funext fun v => (g4 q v.1 q0 q1 (by omega) (by have := v.2; omega)).2
  have xeq : xe B s t = xp A := funext fun v => g7 v.1 (by omega) (by have := v.2; omega)
  have xgt : ∀ q : Int, t < q → q ≤ A 1 s → xe B s q = xe A s (q - 1) := fun q q0 q1 => funext fun v => by
    have := (g5 q v.1 q0 q1 (by omega) (by have := v.2; omega)).2
    show B 3 (12 * (200 * s + q) + (v.1 : Int)) = A 3 (12 * (200 * s + (q - 1)) + (v.1 : Int))
    rw [this]
    congr 1
    omega
  have hafter : ∀ q : Int, t ≤ q → q < A 1 s → cr_Gt (xp A) (xe A s q) := fun q q0 q1 => by
    have h1 : cr_Gt (xp A) (xe A s t) := by
      rcases cr_Gt.total (xp A) (xe A s t) with e | e | e
      · exact absurd e.symm (hne (by omega))
      · exact e
      · exact absurd e (ht3 t (by omega) (by omega))
    by_cases e : q = t
    · rw [e]; exact h1
    · exact h1.trans (hsr t q t0 (by omega) q1)
  refine ad_226 hs t0 (by omega) ⟨g1, fun r j hr _ => g2 r j hr⟩ (by rw [g2 0 4 (by unfold inS; omega)]; exact hsp) ?_ ?_ ?_ v3 v4
  · intro q q' q0 hq hq'
    by_cases a1 : q' < t
    · rw [xlt q q0 (by omega), xlt q' (by omega) a1]; exact hsr q q' q0 hq (by omega)
    · by_cases a2 : q' = t
      · rw [a2, xeq, xlt q q0 (by omega)]; exact ht2 q q0 (by omega)
      · rw [xgt q' (by omega) (by omega)]
        by_cases b1 : q < t
        · rw [xlt q q0 b1]
          exact hsr q (q' - 1) q0 (by omega) (by omega)
        · by_cases b2 : q = t
          · rw [b2, xeq]; exact hafter (q' - 1) (by omega) (by omega)
          · rw [xgt q (by omega) (by omega)]; exact hsr (q - 1) (q' - 1) (by omega) (by omega) (by omega)
  · intro q q0 q1
    by_cases a1 : q < t
    · rw [(g4 q 0 q0 a1 (by omega) (by omega)).1]; have := hcf q q0 (by omega); exact ⟨this.1, fun _ => this.2⟩
    · by_cases a2 : q = t
      · rw [a2, g6]; exact ⟨hnum.1, fun e => absurd rfl e⟩
      · rw [(g5 q 0 (by omega) (by omega) (by omega) (by omega)).1, show 200 * s + q - 1 = 200 * s + (q - 1) by omega]; have := hcf (q - 1) (by omega) (by omega); exact ⟨this.1, fun _ => this.2⟩
  · intro a
    rw [LSm_lsf, LSm_lsf, g3, show (A 1 s + 1).toNat = (A 1 s).toNat + 1 by omega]
    refine co_insert (t := t.toNat) ?_ (fun q hq => ?_) a _ (by omega) (fun q q0 q1 => ?_)
    · refine Prod.ext ?_ ?_
      · show B 2 (200 * s + ((t.toNat : Nat) : Int)) = A 0 5
        rw [Int.toNat_of_nonneg t0]; exact g6
      · show xe B s ((t.toNat : Nat) : Int) = xp A
        rw [Int.toNat_of_nonneg t0]; exact xeq
    · exact Prod.ext (g4 q 0 (by omega) (by omega) (by omega) (by omega)).1 (xlt q (by omega) (by omega))
    · refine Prod.ext ?_ ?_
      · show B 2 (200 * s + ((q + 1 : Nat) : Int)) = A 2 (200 * s + (q : Int))
        rw [(g5 ((q + 1 : Nat) : Int) 0 (by omega) (by omega) (by omega) (by omega)).1]
        congr 1
        omega
      · show xe B s ((q + 1 : Nat) : Int) = xe A s (q : Int)
        rw [xgt ((q + 1 : Nat) : Int) (by omega) (by omega)]
        congr 1
        omega
theorem ad_72 {A : pm_A} {s t : Int} (hA : adH A s) (m2 : A 1 s ≤ 199) (ht : ptI A s t) (hne : t < A 1 s → xe A s t ≠ xp A) : ∀ (n : Nat) (k : Int) (v4 : pm_V) (B : pm_A), (k - t).toNat < n → t ≤ k → k ≤ A 1 s → shI A B s k → Tm pmt (an_sh wM) o_X10_add 72 ([(2, 0), (0, s), (0, t), (0, k), v4], [], B) (ad_post A s) := by
  have hA0 := hA
  have ht0 := ht
  obtain ⟨hA1, hs, hsr, hcf, hnum, hsp⟩ := hA
  obtain ⟨⟨t0, t1⟩, ht2, ht3⟩ := ht
  intro n
  induction n with
  | zero => intro k v4 B h; omega
  | succ n ih =>
    intro k v4 B hn k0 k1 hI
    obtain ⟨g1, g2, g3, g4, g5⟩ := hI
    have c1 := pM_1 g1
    have c2 := pM_2 g1
    have c2' : pm_upd B (B 0 1) s (B (B 0 1) s + 1) 0 2 = 2 := by rw [c1, upd_o (by omega)]; exact c2
    have n5 : pm_upd B (B 0 1) s (B (B 0 1) s + 1) 0 5 = A 0 5 := by rw [c1, upd_o (by omega)]; exact g2 0 5 (by unfold inS; omega)
    have m1 := eM_1 g1 (r := 1) (by omega) kn1 hs.1 (show s < 152 by omega)
    refine wq_ok srt_Madd (fr := []) (cuts := [106, 191]) (J := fun pc st => (pc = 191 ∧ (k ≤ t) ∧ st = ([(2, 0), (0, s), (0, t), (0, 0), v4], [], pm_upd (pm_upd B (B 0 1) s ((B (B 0 1) s) + 1)) ((pm_upd B (B 0 1) s ((B (B 0 1) s) + 1)) 0 2) ((200 * s) + t) ((pm_upd B (B 0 1) s ((B (B 0 1) s) + 1)) 0 5))) ∨ (pc = 106 ∧ (t < k) ∧ st = ([(2, 0), (0, s), (0, t), (0, k), (0, 0)], [], pm_upd B (B 0 2) ((200 * s) + k) (B (B 0 2) (((200 * s) + k) - 1))))) ?_ 28 72 _ ?_
    · rintro pc st (⟨rfl, h0, rfl⟩ | ⟨rfl, h0, rfl⟩)
      · rw [n5, c2', c1]
        have hk : k = t := by omega
        refine ad_191 hs t0 t1 m2 (fun C v3 hC => ad_ins hA0 m2 ht0 hne hC v3 v4) _ 0 _ (Nat.lt_succ_self _) (by omega) (by omega) ⟨uM_2 (uM_1 g1 kn1 (by omega) (by omega)) kn2 (by omega) (by omega), fun r j hr => ?_, ?_, fun q v q0 q1 v0 v1 => ?_, fun q v q0 q1 v0 v1 => ?_, ?_, fun v v0 v1 => by omega⟩
        · rw [upd_o (fun e => hr (by unfold inS; omega)), upd_o (fun e => hr (by unfold inS; omega))]; exact g2 r j hr
        · rw [upd_o (by omega), upd_at, g3]
        · rw [upd_o (by omega), upd_o (by omega), upd_o (by omega), upd_o (by omega)]; exact g4 q v q0 (by omega) (by omega) v0 v1
        · rw [upd_o (by omega), upd_o (by omega), upd_o (by omega), upd_o (by omega)]; exact g5 q v (by omega) q1 v0 v1
        · rw [upd_at]
      · rw [c2]
        have b2 := eM_2 g1 (r := 2) (by omega) kn2 (j := 200 * s + k - 1) (by omega) (by omega)
        refine ad_106 hs (by omega) k1 (by omega) (fun C v4 hC => ih (k - 1) v4 C (by omega) (by omega) (by omega) hC) _ 0 _ (Nat.lt_succ_self _) (by omega) (by omega) ⟨uM_2 g1 kn2 b2.1 b2.2, fun r j hr => ?_, ?_, fun q v q0 q1 q2 v0 v1 => ?_, fun q v q0 q1 v0 v1 => ?_, ?_, fun v v0 v1 => by omega⟩
        · rw [upd_o (fun e => hr (by unfold inS; omega))]; exact g2 r j hr
        · rw [upd_o (by omega)]; exact g3
        · rw [upd_o (by omega), upd_o (by omega)]; exact g4 q v q0 (by omega) q2 v0 v1
        · rw [upd_o (by omega), upd_o (by omega)]; exact g5 q v q0 q1 v0 v1
        · rw [upd_at]; have := (g4 (k - 1) 0 (by omega) (by omega) (by omega) (by omega) (by omega)).1; rw [show 200 * s + (k - 1) = 200 * s + k - 1 by omega] at this; exact this
    · refine ⟨fun h0 => ?_, fun h0 => ?_⟩
      · refine ⟨oM_0 (by omega) km0 1 rfl, ?_⟩
        refine ⟨aM_1 (r := B 0 1) (by rw [c1]; omega) (by rw [c1]; exact kn1) (by omega) (by omega), ?_⟩
        have e1 : B (B 0 1) s = B 1 s := by rw [c1]
        refine ⟨⟨by omega, by omega⟩, ?_⟩
        refine ⟨tM_1 (r := B 0 1) (by rw [c1]; omega) (by rw [c1]; exact kn1) (by omega) (by omega) rfl, ?_⟩
        refine ⟨oM_0 (by omega) km0 2 rfl, ?_⟩
        refine ⟨⟨by omega, by omega⟩, ?_⟩
        refine ⟨⟨by omega, by omega⟩, ?_⟩
        refine ⟨oM_0 (by omega) km0 5 rfl, ?_⟩
        refine ⟨tM_2 (r := (pm_upd B (B 0 1) s ((B (B 0 1) s) + 1)) 0 2) (by first | rw [c2]; omega | rw [c2']; omega) (by first | rw [c2]; exact kn2 | rw [c2']; exact kn2) (by omega) (by omega) rfl, ?_⟩
        exact Or.inl (⟨rfl, h0, rfl⟩)
      · refine ⟨oM_0 (by omega) km0 2 rfl, ?_⟩
        refine ⟨⟨by omega, by omega⟩, ?_⟩
        refine ⟨⟨by omega, by omega⟩, ?_⟩
        refine ⟨oM_0 (by omega) km0 2 rfl, ?_⟩
        refine ⟨⟨by omega, by omega⟩, ?_⟩
        refine ⟨⟨by omega, by omega⟩, ?_⟩
        refine ⟨⟨by omega, by omega⟩, ?_⟩
        refine ⟨aM_2 (r := B 0 2) (by first | rw [c2]; omega | rw [c2']; omega) (by first | rw [c2]; exact kn2 | rw [c2']; exact kn2) (by omega) (by omega), ?_⟩
        have e2 : B (B 0 2) (((200 * s) + k) - 1) = B 2 (((200 * s) + k) - 1) := by rw [c2]
        refine ⟨tM_2 (r := B 0 2) (by first | rw [c2]; omega | rw [c2']; omega) (by first | rw [c2]; exact kn2 | rw [c2']; exact kn2) (by omega) (by omega) rfl, ?_⟩
        exact Or.inr (⟨rfl, h0, rfl⟩)
theorem ad_47 {A : pm_A} {s t : Int} (hA : adH A s) (ht : ptI A s t) (hne : t < A 1 s → xe A s t ≠ xp A) (v3 v4 : pm_V) : Tm pmt (an_sh wM) o_X10_add 47 ([(2, 0), (0, s), (0, t), v3, v4], [], A) (ad_post A s) := by
  have c1 := pM_1 hA.1
  have m1 := eM_1 hA.1 (r := 1) (by omega) kn1 hA.2.1.1 (show s < 152 by have := hA.2.1; omega)
  have hs := hA.2.1
  have ht1 := ht.1
  refine wq_ok srt_Madd (fr := []) (cuts := [72]) (J := fun pc st => (pc = 72 ∧ (¬ (A (A 0 1) s) = 200) ∧ st = ([(2, 0), (0, s), (0, t), (0, A (A 0 1) s), v4], [], A))) ?_ 16 47 _ ?_
  · rintro pc st (⟨rfl, h0, rfl⟩)
    rw [c1] at h0 ⊢
    refine ad_72 hA (by omega) ht hne _ _ _ _ (Nat.lt_succ_self _) (by omega) (by omega) ⟨hA.1, fun _ _ _ => rfl, rfl, fun q v q0 q1 q2 v0 v1 => ⟨rfl, rfl⟩, fun q v q0 q1 v0 v1 => by omega⟩
  · refine ⟨oM_0 (by omega) km0 1 rfl, ?_⟩
    refine ⟨aM_1 (r := A 0 1) (by rw [c1]; omega) (by rw [c1]; exact kn1) (by omega) (by omega), ?_⟩
    have e1 : A (A 0 1) s = A 1 s := by rw [c1]
    refine ⟨fun h0 => ?_, fun h0 => ?_⟩
    · refine ⟨oM_0 (by omega) km0 1 rfl, ?_⟩
      refine ⟨aM_1 (r := A 0 1) (by rw [c1]; omega) (by rw [c1]; exact kn1) (by omega) (by omega), ?_⟩
      have e2 : A (A 0 1) s = A 1 s := by rw [c1]
      exact ⟨rfl, h0, rfl⟩
    · refine ⟨oM_0 (by omega) km0 4 rfl, ?_⟩
      exact ⟨rfl, ⟨uM_0_4 hA.1 (by omega) (by omega), fun r j hr h4 => (show pm_upd A 0 4 1 r j = A r j from upd_o (fun e => h4 ⟨e.1, e.2⟩))⟩, Or.inl (show pm_upd A 0 4 1 0 4 = 1 from upd_at)⟩
theorem ad_22 {A : pm_A} {s t z : Int} (hA : adH A s) (ht : ptI A s t) (htm : t < A 1 s) (hz : (z = 1 ∧ cr_Gt (xe A s t) (xp A)) ∨ (z = 0 ∧ xe A s t = xp A) ∨ (z = -1 ∧ cr_Gt (xp A) (xe A s t))) (v3 v4 : pm_V) : Tm pmt (an_sh wM) o_X10_add 22 ([(2, 0), (0, s), (0, t), v3, v4], [(0, z)], A) (ad_post A s) := by
  have hA0 := hA
  have ht0 := ht
  obtain ⟨hA1, hs, hsr, hcf, hnum, hsp⟩ := hA
  have c2 := pM_2 hA1
  have m1 := eM_1 hA1 (r := 1) (by omega) kn1 hs.1 (show s < 152 by omega)
  have ht1 := ht.1
  have hct := hcf t ht1.1 htm
  refine wq_ok srt_Madd (fr := []) (cuts := [47, 226]) (J := fun pc st => (pc = 47 ∧ (¬ z = 0) ∧ st = ([(2, 0), (0, s), (0, t), v3, v4], [], A)) ∨ (pc = 226 ∧ (z = 0) ∧ st = ([(2, 0), (0, s), (0, t), v3, v4], [], pm_upd A (A 0 2) ((200 * s) + t) ((A (A 0 2) ((200 * s) + t)) + (A 0 5))))) ?_ 20 22 _ ?_
  · rintro pc st (⟨rfl, h0, rfl⟩ | ⟨rfl, h0, rfl⟩)
    · exact ad_47 hA0 ht0 (fun _ e => by rcases hz with ⟨_, h⟩ | ⟨h, _⟩ | ⟨_, h⟩; exact cr_Gt.irrefl _ (e ▸ h); exact h0 h; exact cr_Gt.irrefl _ (e ▸ h)) v3 v4
    · rw [c2]
      have hxe : xe A s t = xp A := by rcases hz with ⟨e, _⟩ | ⟨_, e⟩ | ⟨e, _⟩; omega; exact e; omega
      have hx : ∀ q, xe (pm_upd A 2 (200 * s + t) (A 2 (200 * s + t) + A 0 5)) s q = xe A s q := fun q => funext fun v => upd_o (by omega)
      have hm : pm_upd A 2 (200 * s + t) (A 2 (200 * s + t) + A 0 5) 1 s = A 1 s := upd_o (by omega)
      refine ad_226 hs ht1.1 (by rw [hm]; exact htm) ⟨uM_2 hA1 kn2 (by omega) (by omega), fun r j hr _ => upd_o (fun e => hr (by unfold inS; omega))⟩ (by rw [upd_o (by omega)]; exact hsp) ?_ ?_ ?_ v3 v4
      · intro q q' q0 hq hq'; rw [hx, hx]; rw [hm] at hq'; exact hsr q q' q0 hq hq'
      · intro q q0 q1
        rw [hm] at q1
        have := hcf q q0 q1
        by_cases e : q = t
        · rw [e, upd_at]; exact ⟨by omega, fun h => absurd rfl h⟩
        · rw [upd_o (by omega)]; exact ⟨this.1, fun _ => this.2⟩
      · intro a
        rw [LSm_lsf, LSm_lsf, hm]
        refine co_merge (t := t.toNat) (fun q hq => ?_) ?_ ?_ a _ (by omega)
        · exact Prod.ext (upd_o (by omega)) (hx q)
        · show xe A s ((t.toNat : Nat) : Int) = xp A
          rw [Int.toNat_of_nonneg ht1.1]; exact hxe
        · refine Prod.ext ?_ ?_
          · show pm_upd A 2 (200 * s + t) (A 2 (200 * s + t) + A 0 5) 2 (200 * s + ((t.toNat : Nat) : Int)) = A 2 (200 * s + ((t.toNat : Nat) : Int)) + A 0 5
            rw [Int.toNat_of_nonneg ht1.1, upd_at]
          · exact (hx ((t.toNat : Nat) : Int)).trans (by rw [Int.toNat_of_nonneg ht1.1]; exact hxe)
  · refine ⟨fun h0 => ?_, fun h0 => ?_⟩
    · exact Or.inl (⟨rfl, h0, rfl⟩)
    · refine ⟨oM_0 (by omega) km0 2 rfl, ?_⟩
      refine ⟨⟨by omega, by omega⟩, ?_⟩
      refine ⟨⟨by omega, by omega⟩, ?_⟩
      refine ⟨aM_2 (r := A 0 2) (by rw [c2]; omega) (by rw [c2]; exact kn2) (by omega) (by omega), ?_⟩
      have e1 : A (A 0 2) ((200 * s) + t) = A 2 ((200 * s) + t) := by rw [c2]
      refine ⟨oM_0 (by omega) km0 5 rfl, ?_⟩
      refine ⟨⟨by omega, by omega⟩, ?_⟩
      refine ⟨tM_2 (r := A 0 2) (by rw [c2]; omega) (by rw [c2]; exact kn2) (by omega) (by omega) rfl, ?_⟩
      exact Or.inr (⟨rfl, h0, rfl⟩)
theorem add_ex {A : pm_A} {s : Int} (hA : adH A s) : Cl pmt (an_sh wM) 121 [(2, 0), (0, s)] A (ad_post A s) := by
  have hA0 := hA
  obtain ⟨hA1, hs, hsr, hcf, hnum, hsp⟩ := hA
  have c1 := pM_1 hA1
  have m1 := eM_1 hA1 (r := 1) (by omega) kn1 hs.1 (show s < 152 by omega)
  refine Cl.of (Nat.le_of_ble_eq_true rfl) ?_
  refine wq_ok (full := o_X10_add) srt_Madd (fr := []) (cuts := [5]) (J := fun pc st => (pc = 5 ∧ ∃ t, ptI A s t ∧ st = ([(2, 0), (0, s), (9, 0), (9, 0), (9, 0)], [(0, t)], A))) ?_ 7 0 _ ?_
  · rintro pc st (⟨rfl, t, ht, rfl⟩)
    have ht1 := ht.1
    refine wq_ok srt_Madd (fr := []) (cuts := [22, 47]) (J := fun pc st => (pc = 47 ∧ ((A (A 0 1) s) ≤ t) ∧ st = ([(2, 0), (0, s), (0, t), (9, 0), (9, 0)], [], A)) ∨ (pc = 22 ∧ t < A (A 0 1) s ∧ ∃ z, ((z = 1 ∧ cr_Gt (xe A s t) (xp A)) ∨ (z = 0 ∧ xe A s t = xp A) ∨ (z = -1 ∧ cr_Gt (xp A) (xe A s t))) ∧ st = ([(2, 0), (0, s), (0, t), (9, 0), (9, 0)], [(0, z)], A))) ?_ 15 5 _ ?_
    · rintro pc st (⟨rfl, h0, rfl⟩ | ⟨rfl, htm, z, hz, rfl⟩)
      · rw [c1] at h0
        exact ad_47 hA0 ht (fun h => by omega) _ _
      · rw [c1] at htm
        exact ad_22 hA0 ht htm hz _ _
    · refine ⟨oM_0 (by omega) km0 1 rfl, ?_⟩
      refine ⟨aM_1 (r := A 0 1) (by rw [c1]; omega) (by rw [c1]; exact kn1) (by omega) (by omega), ?_⟩
      have e1 : A (A 0 1) s = A 1 s := by rw [c1]
      refine ⟨fun h0 => ?_, fun h0 => ?_⟩
      · exact Or.inl (⟨rfl, h0, rfl⟩)
      · refine ⟨rM_0 (by omega) km0, ?_⟩
        refine (against_ex (q := t) hA1 hs.1 hs.2 (by omega) (by omega)).imp ?_
        rintro ⟨r1, C⟩ ⟨rfl, z, hz1, hz2⟩
        simp only at hz1 hz2
        subst hz1
        exact Or.inr (⟨rfl, h0, z, hz2, rfl⟩)
  · refine ⟨rM_0 (by omega) km0, ?_⟩
    refine (placeIn_ex hA1 hs.1 hs.2 hsr).imp ?_
    rintro ⟨r1, C⟩ ⟨rfl, t, ht1, ht2⟩
    simp only at ht1 ht2
    subst ht1
    exact ⟨rfl, t, ht2, rfl⟩
