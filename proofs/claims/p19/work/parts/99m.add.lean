section
theorem uM_0_0 {A : pm_A} (h : gH wM A) {x : Int} (h1 : (-2147483648) ≤ x) (h2 : x ≤ 2147483647) : gH wM (pm_upd A 0 0 x) := gH_upd h (k := (0, 10, 58, [(0, (-2147483648), 2147483647), (2, 1, 0), (2, 2, 0), (2, 3, 0), (0, 0, 1), (1, (-9223372036854775808), 9223372036854775807), (2, 4, 0), (0, 0, 6), (0, 0, 6), (2, 5, 0), (0, 0, 100), (2, 6, 0), (0, 0, 6), (0, 0, 6), (2, 7, 0), (2, 8, 0), (2, 9, 0), (2, 10, 0), (2, 11, 0), (2, 12, 0), (2, 13, 0), (2, 14, 0), (2, 15, 0), (2, 16, 0), (0, 0, 150), (0, (-2147483648), 2147483647), (0, 0, 101), (2, 17, 0), (2, 18, 0), (0, 0, 1), (0, 0, 100), (2, 19, 0), (2, 20, 0), (2, 21, 0), (2, 22, 0), (2, 23, 0), (0, 0, 12), (2, 24, 0), (2, 25, 0), (2, 26, 0), (0, 0, 3000), (0, (-2147483648), 2147483647), (0, 0, 3000), (2, 27, 0), (2, 28, 0), (2, 29, 0), (0, 0, 12), (2, 30, 0), (2, 31, 0), (2, 32, 0), (2, 33, 0), (2, 34, 0), (2, 35, 0), (2, 36, 0), (0, 0, 1430), (0, 0, 64), (2, 37, 0), (2, 38, 0)])) (by rw [km0]; rfl) (fun _ j a hj ej => by
  have e : j = 0 := by omega
  subst e
  cases hj
  exact ⟨rfl, h1, h2⟩) (fun q => by cases q)
theorem uM_0_4 {A : pm_A} (h : gH wM A) {x : Int} (h1 : 0 ≤ x) (h2 : x ≤ 1) : gH wM (pm_upd A 0 4 x) := gH_upd h (k := (0, 10, 58, [(0, (-2147483648), 2147483647), (2, 1, 0), (2, 2, 0), (2, 3, 0), (0, 0, 1), (1, (-9223372036854775808), 9223372036854775807), (2, 4, 0), (0, 0, 6), (0, 0, 6), (2, 5, 0), (0, 0, 100), (2, 6, 0), (0, 0, 6), (0, 0, 6), (2, 7, 0), (2, 8, 0), (2, 9, 0), (2, 10, 0), (2, 11, 0), (2, 12, 0), (2, 13, 0), (2, 14, 0), (2, 15, 0), (2, 16, 0), (0, 0, 150), (0, (-2147483648), 2147483647), (0, 0, 101), (2, 17, 0), (2, 18, 0), (0, 0, 1), (0, 0, 100), (2, 19, 0), (2, 20, 0), (2, 21, 0), (2, 22, 0), (2, 23, 0), (0, 0, 12), (2, 24, 0), (2, 25, 0), (2, 26, 0), (0, 0, 3000), (0, (-2147483648), 2147483647), (0, 0, 3000), (2, 27, 0), (2, 28, 0), (2, 29, 0), (0, 0, 12), (2, 30, 0), (2, 31, 0), (2, 32, 0), (2, 33, 0), (2, 34, 0), (2, 35, 0), (2, 36, 0), (0, 0, 1430), (0, 0, 64), (2, 37, 0), (2, 38, 0)])) (by rw [km0]; rfl) (fun _ j a hj ej => by
  have e : j = 4 := by omega
  subst e
  cases hj
  exact ⟨rfl, h1, h2⟩) (fun q => by cases q)
theorem uM_0_5 {A : pm_A} (h : gH wM A) {x : Int} (h1 : (-9223372036854775808) ≤ x) (h2 : x ≤ 9223372036854775807) : gH wM (pm_upd A 0 5 x) := gH_upd h (k := (0, 10, 58, [(0, (-2147483648), 2147483647), (2, 1, 0), (2, 2, 0), (2, 3, 0), (0, 0, 1), (1, (-9223372036854775808), 9223372036854775807), (2, 4, 0), (0, 0, 6), (0, 0, 6), (2, 5, 0), (0, 0, 100), (2, 6, 0), (0, 0, 6), (0, 0, 6), (2, 7, 0), (2, 8, 0), (2, 9, 0), (2, 10, 0), (2, 11, 0), (2, 12, 0), (2, 13, 0), (2, 14, 0), (2, 15, 0), (2, 16, 0), (0, 0, 150), (0, (-2147483648), 2147483647), (0, 0, 101), (2, 17, 0), (2, 18, 0), (0, 0, 1), (0, 0, 100), (2, 19, 0), (2, 20, 0), (2, 21, 0), (2, 22, 0), (2, 23, 0), (0, 0, 12), (2, 24, 0), (2, 25, 0), (2, 26, 0), (0, 0, 3000), (0, (-2147483648), 2147483647), (0, 0, 3000), (2, 27, 0), (2, 28, 0), (2, 29, 0), (0, 0, 12), (2, 30, 0), (2, 31, 0), (2, 32, 0), (2, 33, 0), (2, 34, 0), (2, 35, 0), (2, 36, 0), (0, 0, 1430), (0, 0, 64), (2, 37, 0), (2, 38, 0)])) (by rw [km0]; rfl) (fun _ j a hj ej => by
  have e : j = 5 := by omega
  subst e
  cases hj
  exact ⟨rfl, h1, h2⟩) (fun q => by cases q)
theorem uM_0_7 {A : pm_A} (h : gH wM A) {x : Int} (h1 : 0 ≤ x) (h2 : x ≤ 6) : gH wM (pm_upd A 0 7 x) := gH_upd h (k := (0, 10, 58, [(0, (-2147483648), 2147483647), (2, 1, 0), (2, 2, 0), (2, 3, 0), (0, 0, 1), (1, (-9223372036854775808), 9223372036854775807), (2, 4, 0), (0, 0, 6), (0, 0, 6), (2, 5, 0), (0, 0, 100), (2, 6, 0), (0, 0, 6), (0, 0, 6), (2, 7, 0), (2, 8, 0), (2, 9, 0), (2, 10, 0), (2, 11, 0), (2, 12, 0), (2, 13, 0), (2, 14, 0), (2, 15, 0), (2, 16, 0), (0, 0, 150), (0, (-2147483648), 2147483647), (0, 0, 101), (2, 17, 0), (2, 18, 0), (0, 0, 1), (0, 0, 100), (2, 19, 0), (2, 20, 0), (2, 21, 0), (2, 22, 0), (2, 23, 0), (0, 0, 12), (2, 24, 0), (2, 25, 0), (2, 26, 0), (0, 0, 3000), (0, (-2147483648), 2147483647), (0, 0, 3000), (2, 27, 0), (2, 28, 0), (2, 29, 0), (0, 0, 12), (2, 30, 0), (2, 31, 0), (2, 32, 0), (2, 33, 0), (2, 34, 0), (2, 35, 0), (2, 36, 0), (0, 0, 1430), (0, 0, 64), (2, 37, 0), (2, 38, 0)])) (by rw [km0]; rfl) (fun _ j a hj ej => by
  have e : j = 7 := by omega
  subst e
  cases hj
  exact ⟨rfl, h1, h2⟩) (fun q => by cases q)
theorem uM_0_8 {A : pm_A} (h : gH wM A) {x : Int} (h1 : 0 ≤ x) (h2 : x ≤ 6) : gH wM (pm_upd A 0 8 x) := gH_upd h (k := (0, 10, 58, [(0, (-2147483648), 2147483647), (2, 1, 0), (2, 2, 0), (2, 3, 0), (0, 0, 1), (1, (-9223372036854775808), 9223372036854775807), (2, 4, 0), (0, 0, 6), (0, 0, 6), (2, 5, 0), (0, 0, 100), (2, 6, 0), (0, 0, 6), (0, 0, 6), (2, 7, 0), (2, 8, 0), (2, 9, 0), (2, 10, 0), (2, 11, 0), (2, 12, 0), (2, 13, 0), (2, 14, 0), (2, 15, 0), (2, 16, 0), (0, 0, 150), (0, (-2147483648), 2147483647), (0, 0, 101), (2, 17, 0), (2, 18, 0), (0, 0, 1), (0, 0, 100), (2, 19, 0), (2, 20, 0), (2, 21, 0), (2, 22, 0), (2, 23, 0), (0, 0, 12), (2, 24, 0), (2, 25, 0), (2, 26, 0), (0, 0, 3000), (0, (-2147483648), 2147483647), (0, 0, 3000), (2, 27, 0), (2, 28, 0), (2, 29, 0), (0, 0, 12), (2, 30, 0), (2, 31, 0), (2, 32, 0), (2, 33, 0), (2, 34, 0), (2, 35, 0), (2, 36, 0), (0, 0, 1430), (0, 0, 64), (2, 37, 0), (2, 38, 0)])) (by rw [km0]; rfl) (fun _ j a hj ej => by
  have e : j = 8 := by omega
  subst e
  cases hj
  exact ⟨rfl, h1, h2⟩) (fun q => by cases q)
theorem uM_0_10 {A : pm_A} (h : gH wM A) {x : Int} (h1 : 0 ≤ x) (h2 : x ≤ 100) : gH wM (pm_upd A 0 10 x) := gH_upd h (k := (0, 10, 58, [(0, (-2147483648), 2147483647), (2, 1, 0), (2, 2, 0), (2, 3, 0), (0, 0, 1), (1, (-9223372036854775808), 9223372036854775807), (2, 4, 0), (0, 0, 6), (0, 0, 6), (2, 5, 0), (0, 0, 100), (2, 6, 0), (0, 0, 6), (0, 0, 6), (2, 7, 0), (2, 8, 0), (2, 9, 0), (2, 10, 0), (2, 11, 0), (2, 12, 0), (2, 13, 0), (2, 14, 0), (2, 15, 0), (2, 16, 0), (0, 0, 150), (0, (-2147483648), 2147483647), (0, 0, 101), (2, 17, 0), (2, 18, 0), (0, 0, 1), (0, 0, 100), (2, 19, 0), (2, 20, 0), (2, 21, 0), (2, 22, 0), (2, 23, 0), (0, 0, 12), (2, 24, 0), (2, 25, 0), (2, 26, 0), (0, 0, 3000), (0, (-2147483648), 2147483647), (0, 0, 3000), (2, 27, 0), (2, 28, 0), (2, 29, 0), (0, 0, 12), (2, 30, 0), (2, 31, 0), (2, 32, 0), (2, 33, 0), (2, 34, 0), (2, 35, 0), (2, 36, 0), (0, 0, 1430), (0, 0, 64), (2, 37, 0), (2, 38, 0)])) (by rw [km0]; rfl) (fun _ j a hj ej => by
  have e : j = 10 := by omega
  subst e
  cases hj
  exact ⟨rfl, h1, h2⟩) (fun q => by cases q)
theorem uM_0_12 {A : pm_A} (h : gH wM A) {x : Int} (h1 : 0 ≤ x) (h2 : x ≤ 6) : gH wM (pm_upd A 0 12 x) := gH_upd h (k := (0, 10, 58, [(0, (-2147483648), 2147483647), (2, 1, 0), (2, 2, 0), (2, 3, 0), (0, 0, 1), (1, (-9223372036854775808), 9223372036854775807), (2, 4, 0), (0, 0, 6), (0, 0, 6), (2, 5, 0), (0, 0, 100), (2, 6, 0), (0, 0, 6), (0, 0, 6), (2, 7, 0), (2, 8, 0), (2, 9, 0), (2, 10, 0), (2, 11, 0), (2, 12, 0), (2, 13, 0), (2, 14, 0), (2, 15, 0), (2, 16, 0), (0, 0, 150), (0, (-2147483648), 2147483647), (0, 0, 101), (2, 17, 0), (2, 18, 0), (0, 0, 1), (0, 0, 100), (2, 19, 0), (2, 20, 0), (2, 21, 0), (2, 22, 0), (2, 23, 0), (0, 0, 12), (2, 24, 0), (2, 25, 0), (2, 26, 0), (0, 0, 3000), (0, (-2147483648), 2147483647), (0, 0, 3000), (2, 27, 0), (2, 28, 0), (2, 29, 0), (0, 0, 12), (2, 30, 0), (2, 31, 0), (2, 32, 0), (2, 33, 0), (2, 34, 0), (2, 35, 0), (2, 36, 0), (0, 0, 1430), (0, 0, 64), (2, 37, 0), (2, 38, 0)])) (by rw [km0]; rfl) (fun _ j a hj ej => by
  have e : j = 12 := by omega
  subst e
  cases hj
  exact ⟨rfl, h1, h2⟩) (fun q => by cases q)
theorem uM_0_13 {A : pm_A} (h : gH wM A) {x : Int} (h1 : 0 ≤ x) (h2 : x ≤ 6) : gH wM (pm_upd A 0 13 x) := gH_upd h (k := (0, 10, 58, [(0, (-2147483648), 2147483647), (2, 1, 0), (2, 2, 0), (2, 3, 0), (0, 0, 1), (1, (-9223372036854775808), 9223372036854775807), (2, 4, 0), (0, 0, 6), (0, 0, 6), (2, 5, 0), (0, 0, 100), (2, 6, 0), (0, 0, 6), (0, 0, 6), (2, 7, 0), (2, 8, 0), (2, 9, 0), (2, 10, 0), (2, 11, 0), (2, 12, 0), (2, 13, 0), (2, 14, 0), (2, 15, 0), (2, 16, 0), (0, 0, 150), (0, (-2147483648), 2147483647), (0, 0, 101), (2, 17, 0), (2, 18, 0), (0, 0, 1), (0, 0, 100), (2, 19, 0), (2, 20, 0), (2, 21, 0), (2, 22, 0), (2, 23, 0), (0, 0, 12), (2, 24, 0), (2, 25, 0), (2, 26, 0), (0, 0, 3000), (0, (-2147483648), 2147483647), (0, 0, 3000), (2, 27, 0), (2, 28, 0), (2, 29, 0), (0, 0, 12), (2, 30, 0), (2, 31, 0), (2, 32, 0), (2, 33, 0), (2, 34, 0), (2, 35, 0), (2, 36, 0), (0, 0, 1430), (0, 0, 64), (2, 37, 0), (2, 38, 0)])) (by rw [km0]; rfl) (fun _ j a hj ej => by
  have e : j = 13 := by omega
  subst e
  cases hj
  exact ⟨rfl, h1, h2⟩) (fun q => by cases q)
theorem uM_0_24 {A : pm_A} (h : gH wM A) {x : Int} (h1 : 0 ≤ x) (h2 : x ≤ 150) : gH wM (pm_upd A 0 24 x) := gH_upd h (k := (0, 10, 58, [(0, (-2147483648), 2147483647), (2, 1, 0), (2, 2, 0), (2, 3, 0), (0, 0, 1), (1, (-9223372036854775808), 9223372036854775807), (2, 4, 0), (0, 0, 6), (0, 0, 6), (2, 5, 0), (0, 0, 100), (2, 6, 0), (0, 0, 6), (0, 0, 6), (2, 7, 0), (2, 8, 0), (2, 9, 0), (2, 10, 0), (2, 11, 0), (2, 12, 0), (2, 13, 0), (2, 14, 0), (2, 15, 0), (2, 16, 0), (0, 0, 150), (0, (-2147483648), 2147483647), (0, 0, 101), (2, 17, 0), (2, 18, 0), (0, 0, 1), (0, 0, 100), (2, 19, 0), (2, 20, 0), (2, 21, 0), (2, 22, 0), (2, 23, 0), (0, 0, 12), (2, 24, 0), (2, 25, 0), (2, 26, 0), (0, 0, 3000), (0, (-2147483648), 2147483647), (0, 0, 3000), (2, 27, 0), (2, 28, 0), (2, 29, 0), (0, 0, 12), (2, 30, 0), (2, 31, 0), (2, 32, 0), (2, 33, 0), (2, 34, 0), (2, 35, 0), (2, 36, 0), (0, 0, 1430), (0, 0, 64), (2, 37, 0), (2, 38, 0)])) (by rw [km0]; rfl) (fun _ j a hj ej => by
  have e : j = 24 := by omega
  subst e
  cases hj
  exact ⟨rfl, h1, h2⟩) (fun q => by cases q)
theorem uM_0_25 {A : pm_A} (h : gH wM A) {x : Int} (h1 : (-2147483648) ≤ x) (h2 : x ≤ 2147483647) : gH wM (pm_upd A 0 25 x) := gH_upd h (k := (0, 10, 58, [(0, (-2147483648), 2147483647), (2, 1, 0), (2, 2, 0), (2, 3, 0), (0, 0, 1), (1, (-9223372036854775808), 9223372036854775807), (2, 4, 0), (0, 0, 6), (0, 0, 6), (2, 5, 0), (0, 0, 100), (2, 6, 0), (0, 0, 6), (0, 0, 6), (2, 7, 0), (2, 8, 0), (2, 9, 0), (2, 10, 0), (2, 11, 0), (2, 12, 0), (2, 13, 0), (2, 14, 0), (2, 15, 0), (2, 16, 0), (0, 0, 150), (0, (-2147483648), 2147483647), (0, 0, 101), (2, 17, 0), (2, 18, 0), (0, 0, 1), (0, 0, 100), (2, 19, 0), (2, 20, 0), (2, 21, 0), (2, 22, 0), (2, 23, 0), (0, 0, 12), (2, 24, 0), (2, 25, 0), (2, 26, 0), (0, 0, 3000), (0, (-2147483648), 2147483647), (0, 0, 3000), (2, 27, 0), (2, 28, 0), (2, 29, 0), (0, 0, 12), (2, 30, 0), (2, 31, 0), (2, 32, 0), (2, 33, 0), (2, 34, 0), (2, 35, 0), (2, 36, 0), (0, 0, 1430), (0, 0, 64), (2, 37, 0), (2, 38, 0)])) (by rw [km0]; rfl) (fun _ j a hj ej => by
  have e : j = 25 := by omega
  subst e
  cases hj
  exact ⟨rfl, h1, h2⟩) (fun q => by cases q)
theorem uM_0_26 {A : pm_A} (h : gH wM A) {x : Int} (h1 : 0 ≤ x) (h2 : x ≤ 101) : gH wM (pm_upd A 0 26 x) := gH_upd h (k := (0, 10, 58, [(0, (-2147483648), 2147483647), (2, 1, 0), (2, 2, 0), (2, 3, 0), (0, 0, 1), (1, (-9223372036854775808), 9223372036854775807), (2, 4, 0), (0, 0, 6), (0, 0, 6), (2, 5, 0), (0, 0, 100), (2, 6, 0), (0, 0, 6), (0, 0, 6), (2, 7, 0), (2, 8, 0), (2, 9, 0), (2, 10, 0), (2, 11, 0), (2, 12, 0), (2, 13, 0), (2, 14, 0), (2, 15, 0), (2, 16, 0), (0, 0, 150), (0, (-2147483648), 2147483647), (0, 0, 101), (2, 17, 0), (2, 18, 0), (0, 0, 1), (0, 0, 100), (2, 19, 0), (2, 20, 0), (2, 21, 0), (2, 22, 0), (2, 23, 0), (0, 0, 12), (2, 24, 0), (2, 25, 0), (2, 26, 0), (0, 0, 3000), (0, (-2147483648), 2147483647), (0, 0, 3000), (2, 27, 0), (2, 28, 0), (2, 29, 0), (0, 0, 12), (2, 30, 0), (2, 31, 0), (2, 32, 0), (2, 33, 0), (2, 34, 0), (2, 35, 0), (2, 36, 0), (0, 0, 1430), (0, 0, 64), (2, 37, 0), (2, 38, 0)])) (by rw [km0]; rfl) (fun _ j a hj ej => by
  have e : j = 26 := by omega
  subst e
  cases hj
  exact ⟨rfl, h1, h2⟩) (fun q => by cases q)
theorem uM_0_29 {A : pm_A} (h : gH wM A) {x : Int} (h1 : 0 ≤ x) (h2 : x ≤ 1) : gH wM (pm_upd A 0 29 x) := gH_upd h (k := (0, 10, 58, [(0, (-2147483648), 2147483647), (2, 1, 0), (2, 2, 0), (2, 3, 0), (0, 0, 1), (1, (-9223372036854775808), 9223372036854775807), (2, 4, 0), (0, 0, 6), (0, 0, 6), (2, 5, 0), (0, 0, 100), (2, 6, 0), (0, 0, 6), (0, 0, 6), (2, 7, 0), (2, 8, 0), (2, 9, 0), (2, 10, 0), (2, 11, 0), (2, 12, 0), (2, 13, 0), (2, 14, 0), (2, 15, 0), (2, 16, 0), (0, 0, 150), (0, (-2147483648), 2147483647), (0, 0, 101), (2, 17, 0), (2, 18, 0), (0, 0, 1), (0, 0, 100), (2, 19, 0), (2, 20, 0), (2, 21, 0), (2, 22, 0), (2, 23, 0), (0, 0, 12), (2, 24, 0), (2, 25, 0), (2, 26, 0), (0, 0, 3000), (0, (-2147483648), 2147483647), (0, 0, 3000), (2, 27, 0), (2, 28, 0), (2, 29, 0), (0, 0, 12), (2, 30, 0), (2, 31, 0), (2, 32, 0), (2, 33, 0), (2, 34, 0), (2, 35, 0), (2, 36, 0), (0, 0, 1430), (0, 0, 64), (2, 37, 0), (2, 38, 0)])) (by rw [km0]; rfl) (fun _ j a hj ej => by
  have e : j = 29 := by omega
  subst e
  cases hj
  exact ⟨rfl, h1, h2⟩) (fun q => by cases q)
theorem uM_0_30 {A : pm_A} (h : gH wM A) {x : Int} (h1 : 0 ≤ x) (h2 : x ≤ 100) : gH wM (pm_upd A 0 30 x) := gH_upd h (k := (0, 10, 58, [(0, (-2147483648), 2147483647), (2, 1, 0), (2, 2, 0), (2, 3, 0), (0, 0, 1), (1, (-9223372036854775808), 9223372036854775807), (2, 4, 0), (0, 0, 6), (0, 0, 6), (2, 5, 0), (0, 0, 100), (2, 6, 0), (0, 0, 6), (0, 0, 6), (2, 7, 0), (2, 8, 0), (2, 9, 0), (2, 10, 0), (2, 11, 0), (2, 12, 0), (2, 13, 0), (2, 14, 0), (2, 15, 0), (2, 16, 0), (0, 0, 150), (0, (-2147483648), 2147483647), (0, 0, 101), (2, 17, 0), (2, 18, 0), (0, 0, 1), (0, 0, 100), (2, 19, 0), (2, 20, 0), (2, 21, 0), (2, 22, 0), (2, 23, 0), (0, 0, 12), (2, 24, 0), (2, 25, 0), (2, 26, 0), (0, 0, 3000), (0, (-2147483648), 2147483647), (0, 0, 3000), (2, 27, 0), (2, 28, 0), (2, 29, 0), (0, 0, 12), (2, 30, 0), (2, 31, 0), (2, 32, 0), (2, 33, 0), (2, 34, 0), (2, 35, 0), (2, 36, 0), (0, 0, 1430), (0, 0, 64), (2, 37, 0), (2, 38, 0)])) (by rw [km0]; rfl) (fun _ j a hj ej => by
  have e : j = 30 := by omega
  subst e
  cases hj
  exact ⟨rfl, h1, h2⟩) (fun q => by cases q)
theorem uM_0_36 {A : pm_A} (h : gH wM A) {x : Int} (h1 : 0 ≤ x) (h2 : x ≤ 12) : gH wM (pm_upd A 0 36 x) := gH_upd h (k := (0, 10, 58, [(0, (-2147483648), 2147483647), (2, 1, 0), (2, 2, 0), (2, 3, 0), (0, 0, 1), (1, (-9223372036854775808), 9223372036854775807), (2, 4, 0), (0, 0, 6), (0, 0, 6), (2, 5, 0), (0, 0, 100), (2, 6, 0), (0, 0, 6), (0, 0, 6), (2, 7, 0), (2, 8, 0), (2, 9, 0), (2, 10, 0), (2, 11, 0), (2, 12, 0), (2, 13, 0), (2, 14, 0), (2, 15, 0), (2, 16, 0), (0, 0, 150), (0, (-2147483648), 2147483647), (0, 0, 101), (2, 17, 0), (2, 18, 0), (0, 0, 1), (0, 0, 100), (2, 19, 0), (2, 20, 0), (2, 21, 0), (2, 22, 0), (2, 23, 0), (0, 0, 12), (2, 24, 0), (2, 25, 0), (2, 26, 0), (0, 0, 3000), (0, (-2147483648), 2147483647), (0, 0, 3000), (2, 27, 0), (2, 28, 0), (2, 29, 0), (0, 0, 12), (2, 30, 0), (2, 31, 0), (2, 32, 0), (2, 33, 0), (2, 34, 0), (2, 35, 0), (2, 36, 0), (0, 0, 1430), (0, 0, 64), (2, 37, 0), (2, 38, 0)])) (by rw [km0]; rfl) (fun _ j a hj ej => by
  have e : j = 36 := by omega
  subst e
  cases hj
  exact ⟨rfl, h1, h2⟩) (fun q => by cases q)
theorem uM_0_40 {A : pm_A} (h : gH wM A) {x : Int} (h1 : 0 ≤ x) (h2 : x ≤ 3000) : gH wM (pm_upd A 0 40 x) := gH_upd h (k := (0, 10, 58, [(0, (-2147483648), 2147483647), (2, 1, 0), (2, 2, 0), (2, 3, 0), (0, 0, 1), (1, (-9223372036854775808), 9223372036854775807), (2, 4, 0), (0, 0, 6), (0, 0, 6), (2, 5, 0), (0, 0, 100), (2, 6, 0), (0, 0, 6), (0, 0, 6), (2, 7, 0), (2, 8, 0), (2, 9, 0), (2, 10, 0), (2, 11, 0), (2, 12, 0), (2, 13, 0), (2, 14, 0), (2, 15, 0), (2, 16, 0), (0, 0, 150), (0, (-2147483648), 2147483647), (0, 0, 101), (2, 17, 0), (2, 18, 0), (0, 0, 1), (0, 0, 100), (2, 19, 0), (2, 20, 0), (2, 21, 0), (2, 22, 0), (2, 23, 0), (0, 0, 12), (2, 24, 0), (2, 25, 0), (2, 26, 0), (0, 0, 3000), (0, (-2147483648), 2147483647), (0, 0, 3000), (2, 27, 0), (2, 28, 0), (2, 29, 0), (0, 0, 12), (2, 30, 0), (2, 31, 0), (2, 32, 0), (2, 33, 0), (2, 34, 0), (2, 35, 0), (2, 36, 0), (0, 0, 1430), (0, 0, 64), (2, 37, 0), (2, 38, 0)])) (by rw [km0]; rfl) (fun _ j a hj ej => by
  have e : j = 40 := by omega
  subst e
  cases hj
  exact ⟨rfl, h1, h2⟩) (fun q => by cases q)
theorem uM_0_41 {A : pm_A} (h : gH wM A) {x : Int} (h1 : (-2147483648) ≤ x) (h2 : x ≤ 2147483647) : gH wM (pm_upd A 0 41 x) := gH_upd h (k := (0, 10, 58, [(0, (-2147483648), 2147483647), (2, 1, 0), (2, 2, 0), (2, 3, 0), (0, 0, 1), (1, (-9223372036854775808), 9223372036854775807), (2, 4, 0), (0, 0, 6), (0, 0, 6), (2, 5, 0), (0, 0, 100), (2, 6, 0), (0, 0, 6), (0, 0, 6), (2, 7, 0), (2, 8, 0), (2, 9, 0), (2, 10, 0), (2, 11, 0), (2, 12, 0), (2, 13, 0), (2, 14, 0), (2, 15, 0), (2, 16, 0), (0, 0, 150), (0, (-2147483648), 2147483647), (0, 0, 101), (2, 17, 0), (2, 18, 0), (0, 0, 1), (0, 0, 100), (2, 19, 0), (2, 20, 0), (2, 21, 0), (2, 22, 0), (2, 23, 0), (0, 0, 12), (2, 24, 0), (2, 25, 0), (2, 26, 0), (0, 0, 3000), (0, (-2147483648), 2147483647), (0, 0, 3000), (2, 27, 0), (2, 28, 0), (2, 29, 0), (0, 0, 12), (2, 30, 0), (2, 31, 0), (2, 32, 0), (2, 33, 0), (2, 34, 0), (2, 35, 0), (2, 36, 0), (0, 0, 1430), (0, 0, 64), (2, 37, 0), (2, 38, 0)])) (by rw [km0]; rfl) (fun _ j a hj ej => by
  have e : j = 41 := by omega
  subst e
  cases hj
  exact ⟨rfl, h1, h2⟩) (fun q => by cases q)
theorem uM_0_42 {A : pm_A} (h : gH wM A) {x : Int} (h1 : 0 ≤ x) (h2 : x ≤ 3000) : gH wM (pm_upd A 0 42 x) := gH_upd h (k := (0, 10, 58, [(0, (-2147483648), 2147483647), (2, 1, 0), (2, 2, 0), (2, 3, 0), (0, 0, 1), (1, (-9223372036854775808), 9223372036854775807), (2, 4, 0), (0, 0, 6), (0, 0, 6), (2, 5, 0), (0, 0, 100), (2, 6, 0), (0, 0, 6), (0, 0, 6), (2, 7, 0), (2, 8, 0), (2, 9, 0), (2, 10, 0), (2, 11, 0), (2, 12, 0), (2, 13, 0), (2, 14, 0), (2, 15, 0), (2, 16, 0), (0, 0, 150), (0, (-2147483648), 2147483647), (0, 0, 101), (2, 17, 0), (2, 18, 0), (0, 0, 1), (0, 0, 100), (2, 19, 0), (2, 20, 0), (2, 21, 0), (2, 22, 0), (2, 23, 0), (0, 0, 12), (2, 24, 0), (2, 25, 0), (2, 26, 0), (0, 0, 3000), (0, (-2147483648), 2147483647), (0, 0, 3000), (2, 27, 0), (2, 28, 0), (2, 29, 0), (0, 0, 12), (2, 30, 0), (2, 31, 0), (2, 32, 0), (2, 33, 0), (2, 34, 0), (2, 35, 0), (2, 36, 0), (0, 0, 1430), (0, 0, 64), (2, 37, 0), (2, 38, 0)])) (by rw [km0]; rfl) (fun _ j a hj ej => by
  have e : j = 42 := by omega
  subst e
  cases hj
  exact ⟨rfl, h1, h2⟩) (fun q => by cases q)
theorem uM_0_46 {A : pm_A} (h : gH wM A) {x : Int} (h1 : 0 ≤ x) (h2 : x ≤ 12) : gH wM (pm_upd A 0 46 x) := gH_upd h (k := (0, 10, 58, [(0, (-2147483648), 2147483647), (2, 1, 0), (2, 2, 0), (2, 3, 0), (0, 0, 1), (1, (-9223372036854775808), 9223372036854775807), (2, 4, 0), (0, 0, 6), (0, 0, 6), (2, 5, 0), (0, 0, 100), (2, 6, 0), (0, 0, 6), (0, 0, 6), (2, 7, 0), (2, 8, 0), (2, 9, 0), (2, 10, 0), (2, 11, 0), (2, 12, 0), (2, 13, 0), (2, 14, 0), (2, 15, 0), (2, 16, 0), (0, 0, 150), (0, (-2147483648), 2147483647), (0, 0, 101), (2, 17, 0), (2, 18, 0), (0, 0, 1), (0, 0, 100), (2, 19, 0), (2, 20, 0), (2, 21, 0), (2, 22, 0), (2, 23, 0), (0, 0, 12), (2, 24, 0), (2, 25, 0), (2, 26, 0), (0, 0, 3000), (0, (-2147483648), 2147483647), (0, 0, 3000), (2, 27, 0), (2, 28, 0), (2, 29, 0), (0, 0, 12), (2, 30, 0), (2, 31, 0), (2, 32, 0), (2, 33, 0), (2, 34, 0), (2, 35, 0), (2, 36, 0), (0, 0, 1430), (0, 0, 64), (2, 37, 0), (2, 38, 0)])) (by rw [km0]; rfl) (fun _ j a hj ej => by
  have e : j = 46 := by omega
  subst e
  cases hj
  exact ⟨rfl, h1, h2⟩) (fun q => by cases q)
theorem uM_0_54 {A : pm_A} (h : gH wM A) {x : Int} (h1 : 0 ≤ x) (h2 : x ≤ 1430) : gH wM (pm_upd A 0 54 x) := gH_upd h (k := (0, 10, 58, [(0, (-2147483648), 2147483647), (2, 1, 0), (2, 2, 0), (2, 3, 0), (0, 0, 1), (1, (-9223372036854775808), 9223372036854775807), (2, 4, 0), (0, 0, 6), (0, 0, 6), (2, 5, 0), (0, 0, 100), (2, 6, 0), (0, 0, 6), (0, 0, 6), (2, 7, 0), (2, 8, 0), (2, 9, 0), (2, 10, 0), (2, 11, 0), (2, 12, 0), (2, 13, 0), (2, 14, 0), (2, 15, 0), (2, 16, 0), (0, 0, 150), (0, (-2147483648), 2147483647), (0, 0, 101), (2, 17, 0), (2, 18, 0), (0, 0, 1), (0, 0, 100), (2, 19, 0), (2, 20, 0), (2, 21, 0), (2, 22, 0), (2, 23, 0), (0, 0, 12), (2, 24, 0), (2, 25, 0), (2, 26, 0), (0, 0, 3000), (0, (-2147483648), 2147483647), (0, 0, 3000), (2, 27, 0), (2, 28, 0), (2, 29, 0), (0, 0, 12), (2, 30, 0), (2, 31, 0), (2, 32, 0), (2, 33, 0), (2, 34, 0), (2, 35, 0), (2, 36, 0), (0, 0, 1430), (0, 0, 64), (2, 37, 0), (2, 38, 0)])) (by rw [km0]; rfl) (fun _ j a hj ej => by
  have e : j = 54 := by omega
  subst e
  cases hj
  exact ⟨rfl, h1, h2⟩) (fun q => by cases q)
theorem uM_0_55 {A : pm_A} (h : gH wM A) {x : Int} (h1 : 0 ≤ x) (h2 : x ≤ 64) : gH wM (pm_upd A 0 55 x) := gH_upd h (k := (0, 10, 58, [(0, (-2147483648), 2147483647), (2, 1, 0), (2, 2, 0), (2, 3, 0), (0, 0, 1), (1, (-9223372036854775808), 9223372036854775807), (2, 4, 0), (0, 0, 6), (0, 0, 6), (2, 5, 0), (0, 0, 100), (2, 6, 0), (0, 0, 6), (0, 0, 6), (2, 7, 0), (2, 8, 0), (2, 9, 0), (2, 10, 0), (2, 11, 0), (2, 12, 0), (2, 13, 0), (2, 14, 0), (2, 15, 0), (2, 16, 0), (0, 0, 150), (0, (-2147483648), 2147483647), (0, 0, 101), (2, 17, 0), (2, 18, 0), (0, 0, 1), (0, 0, 100), (2, 19, 0), (2, 20, 0), (2, 21, 0), (2, 22, 0), (2, 23, 0), (0, 0, 12), (2, 24, 0), (2, 25, 0), (2, 26, 0), (0, 0, 3000), (0, (-2147483648), 2147483647), (0, 0, 3000), (2, 27, 0), (2, 28, 0), (2, 29, 0), (0, 0, 12), (2, 30, 0), (2, 31, 0), (2, 32, 0), (2, 33, 0), (2, 34, 0), (2, 35, 0), (2, 36, 0), (0, 0, 1430), (0, 0, 64), (2, 37, 0), (2, 38, 0)])) (by rw [km0]; rfl) (fun _ j a hj ej => by
  have e : j = 55 := by omega
  subst e
  cases hj
  exact ⟨rfl, h1, h2⟩) (fun q => by cases q)
/-! add -/
def lsf (m : Nat) (f : Nat → Int × cr_Xp 12) : cr_Pl_ 12 := (List.range m).map f
theorem lsf_succ (m : Nat) (f : Nat → Int × cr_Xp 12) : lsf (m + 1) f = lsf m f ++ [f m] := by unfold lsf; rw [List.range_succ, List.map_append]; rfl
theorem lsf_congr {m : Nat} {f g : Nat → Int × cr_Xp 12} (h : ∀ q, q < m → f q = g q) : lsf m f = lsf m g := List.map_congr_left (fun q hq => h q (List.mem_range.1 hq))
noncomputable def si (y : Int × cr_Xp 12) (a : cr_Xp 12) : Int := @ite _ (y.2 = a) (Classical.propDecidable _) y.1 0
theorem co_snoc (l : cr_Pl_ 12) (y : Int × cr_Xp 12) (a : cr_Xp 12) : cr_co (l ++ [y]) a = cr_co l a + si y a := by
  rw [cr_co_app, cr_co_cons]; show _ + (si y a + 0) = _; omega
theorem si_add (c d : Int) (b a : cr_Xp 12) : si (c + d, b) a = si (c, b) a + si (d, b) a := by
  unfold si
  by_cases h : b = a
  · rw [if_pos h, if_pos h, if_pos h]
  · rw [if_neg h, if_neg h, if_neg h]; rfl
theorem co_merge {f g : Nat → Int × cr_Xp 12} {t : Nat} {c : Int} {b : cr_Xp 12} (h1 : ∀ q, q ≠ t → g q = f q) (h2 : (f t).2 = b) (h3 : g t = ((f t).1 + c, b)) (a : cr_Xp 12) : ∀ m, t < m → cr_co (lsf m g) a = cr_co (lsf m f) a + si (c, b) a
  | 0, h => by omega
  | m + 1, h => by
    rw [lsf_succ, lsf_succ, co_snoc, co_snoc]
    by_cases e : t = m
    · subst e
      rw [lsf_congr (fun q hq => h1 q (by omega)), h3, si_add]
      have : (f t) = ((f t).1, b) := Prod.ext rfl h2
      rw [← this]; omega
    · rw [co_merge h1 h2 h3 a m (by omega), h1 m (fun e2 => e e2.symm)]; omega
theorem co_insert {f g : Nat → Int × cr_Xp 12} {t : Nat} {y : Int × cr_Xp 12} (h2 : g t = y) (h1 : ∀ q, q < t → g q = f q) (a : cr_Xp 12) : ∀ m, t ≤ m → (∀ q, t ≤ q → q < m → g (q + 1) = f q) → cr_co (lsf (m + 1) g) a = cr_co (lsf m f) a + si y a
  | m, h, h3 => by
    by_cases e : t = m
    · subst e
      rw [lsf_succ, co_snoc, h2, lsf_congr (fun q hq => h1 q hq)]
    · cases m with
      | zero => omega
      | succ m =>
        rw [lsf_succ, co_snoc, co_insert h2 h1 a m (by omega) (fun q q0 q1 => h3 q q0 (by omega)), lsf_succ m f, co_snoc, h3 m (by omega) (by omega)]; omega
theorem LSm_lsf (A : pm_A) (p : Int) : LSm A p = lsf (A 1 p).toNat (fun q : Nat => (A 2 (200 * p + (q : Int)), xe A p (q : Int))) := rfl
def cfs (A : pm_A) (p : Int) : Prop := ∀ q : Int, 0 ≤ q → q < A 1 p → 1 ≤ A 2 (200 * p + q) ∧ A 2 (200 * p + q) ≤ 1000000000000
theorem srt_Madd : pm_srt o_X10_add = true := by decide +kernel
def adF (A B : pm_A) (s : Int) : Prop := gH wM B ∧ ∀ r j, ¬ inS s r j → ¬ (r = 0 ∧ j = 4) → B r j = A r j
def ad_post (A : pm_A) (s : Int) (r : pm_R) : Prop := r.1 = none ∧ adF A r.2 s ∧ (r.2 0 4 = 1 ∨ (r.2 0 4 = 0 ∧ srtd r.2 s ∧ cfs r.2 s ∧ ∀ a, cr_co (LSm r.2 s) a = cr_co (LSm A s) a + si (A 0 5, xp A) a))
def adH (A : pm_A) (s : Int) : Prop := gH wM A ∧ (0 ≤ s ∧ s ≤ 151) ∧ srtd A s ∧ cfs A s ∧ (1 ≤ A 0 5 ∧ A 0 5 ≤ 1000000000000) ∧ A 0 4 = 0
theorem ad_226 {A B : pm_A} {s t : Int} (hs : 0 ≤ s ∧ s ≤ 151) (t0 : 0 ≤ t) (t1 : t < B 1 s) (hF : adF A B s) (h4 : B 0 4 = 0) (h1 : srtd B s) (h2 : ∀ q : Int, 0 ≤ q → q < B 1 s → 1 ≤ B 2 (200 * s + q) ∧ (q ≠ t → B 2 (200 * s + q) ≤ 1000000000000)) (h3 : ∀ a, cr_co (LSm B s) a = cr_co (LSm A s) a + si (A 0 5, xp A) a) (v3 v4 : pm_V) : Tm pmt (an_sh wM) o_X10_add 226 ([(2, 0), (0, s), (0, t), v3, v4], [], B) (ad_post A s) := by
  have c2 := pM_2 hF.1
  have m1 := eM_1 hF.1 (r := 1) (by omega) kn1 hs.1 (show s < 152 by omega)
  have hgood : B 2 (200 * s + t) ≤ 1000000000000 → ad_post A s (none, B) := fun hle => ⟨rfl, hF, Or.inr ⟨h4, h1, fun q q0 q1 => ⟨(h2 q q0 q1).1, by
    by_cases e : q = t
    · rw [e]; exact hle
    · exact (h2 q q0 q1).2 e⟩, h3⟩⟩
  refine wq_ok srt_Madd (fr := []) (cuts := []) (J := fun _ _ => False) ?_ 19 226 _ ?_
  · intro pc st h; exact h.elim
  · refine ⟨oM_0 (by omega) km0 2 rfl, ?_⟩
    refine ⟨⟨by omega, by omega⟩, ?_⟩
    refine ⟨⟨by omega, by omega⟩, ?_⟩
    refine ⟨aM_2 (r := B 0 2) (by rw [c2]; omega) (by rw [c2]; exact kn2) (by omega) (by omega), ?_⟩
    have e1 : B (B 0 2) ((200 * s) + t) = B 2 ((200 * s) + t) := by rw [c2]
    refine ⟨fun h0 => ?_, fun h0 => ?_, fun h0 => ?_⟩
    · refine ⟨fun hh => absurd hh (by decide), fun _ => ?_⟩
      refine ⟨oM_0 (by omega) km0 4 rfl, ?_⟩
      exact ⟨rfl, ⟨uM_0_4 hF.1 (by omega) (by omega), fun r j hr h4 => (show pm_upd B 0 4 1 r j = A r j by rw [upd_o (fun e => h4 ⟨e.1, e.2⟩)]; exact hF.2 r j hr h4)⟩, Or.inl (show pm_upd B 0 4 1 0 4 = 1 from upd_at)⟩
    · refine ⟨fun _ => ?_, fun hh => absurd hh (by decide)⟩
      exact hgood (by omega)
    · refine ⟨fun _ => ?_, fun hh => absurd hh (by decide)⟩
      exact hgood (by omega)
def shI (A B : pm_A) (s k : Int) : Prop := gH wM B ∧ (∀ r j, ¬ inS s r j → B r j = A r j) ∧ B 1 s = A 1 s ∧ (∀ q v : Int, 0 ≤ q → q ≤ k → q < A 1 s → 0 ≤ v → v < 12 → B 2 (200 * s + q) = A 2 (200 * s + q) ∧ B 3 (12 * (200 * s + q) + v) = A 3 (12 * (200 * s + q) + v)) ∧ ∀ q v : Int, k < q → q ≤ A 1 s → 0 ≤ v → v < 12 → B 2 (200 * s + q) = A 2 (200 * s + q - 1) ∧ B 3 (12 * (200 * s + q) + v) = A 3 (12 * (200 * s + q - 1) + v)
def shJ (A B : pm_A) (s k u : Int) : Prop := gH wM B ∧ (∀ r j, ¬ inS s r j → B r j = A r j) ∧ B 1 s = A 1 s ∧ (∀ q v : Int, 0 ≤ q → q < k → q < A 1 s → 0 ≤ v → v < 12 → B 2 (200 * s + q) = A 2 (200 * s + q) ∧ B 3 (12 * (200 * s + q) + v) = A 3 (12 * (200 * s + q) + v)) ∧ (∀ q v : Int, k < q → q ≤ A 1 s → 0 ≤ v → v < 12 → B 2 (200 * s + q) = A 2 (200 * s + q - 1) ∧ B 3 (12 * (200 * s + q) + v) = A 3 (12 * (200 * s + q - 1) + v)) ∧ B 2 (200 * s + k) = A 2 (200 * s + k - 1) ∧ ∀ v : Int, 0 ≤ v → v < u → B 3 (12 * (200 * s + k) + v) = A 3 (12 * (200 * s + k - 1) + v)
theorem ad_106 {A : pm_A} {s t k : Int} (hs : 0 ≤ s ∧ s ≤ 151) (k0 : 1 ≤ k) (k1 : k ≤ A 1 s) (k2 : k ≤ 199) {z : pm_R → Prop} (H : ∀ C v4, shI A C s (k - 1) → Tm pmt (an_sh wM) o_X10_add 72 ([(2, 0), (0, s), (0, t), (0, k + (-1)), v4], [], C) z) : ∀ (n : Nat) (u : Int) (B : pm_A), (12 - u).toNat < n → 0 ≤ u → u ≤ 12 → shJ A B s k u → Tm pmt (an_sh wM) o_X10_add 106 ([(2, 0), (0, s), (0, t), (0, k), (0, u)], [], B) z := by
  intro n
  induction n with
  | zero => intro u B h; omega
  | succ n ih =>
    intro u B hn u0 u1 hJ
    obtain ⟨g1, g2, g3, g4, g5, g6, g7⟩ := hJ
    have c3 := pM_3 g1
    refine wq_ok srt_Madd (fr := []) (cuts := [72, 106]) (J := fun pc st => (pc = 72 ∧ (12 ≤ u) ∧ st = ([(2, 0), (0, s), (0, t), (0, k + (-1)), (0, u)], [], B)) ∨ (pc = 106 ∧ (u < 12) ∧ st = ([(2, 0), (0, s), (0, t), (0, k), (0, u + 1)], [], pm_upd B (B 0 3) ((12 * ((200 * s) + k)) + u) (B (B 0 3) ((12 * (((200 * s) + k) - 1)) + u))))) ?_ 36 106 _ ?_
    · rintro pc st (⟨rfl, h0, rfl⟩ | ⟨rfl, h0, rfl⟩)
      · refine H B _ ⟨g1, g2, g3, fun q v q0 q1 q2 v0 v1 => g4 q v q0 (by omega) q2 v0 v1, fun q v q0 q1 v0 v1 => ?_⟩
        by_cases hq : q = k
        · rw [hq]; exact ⟨g6, g7 v v0 (by omega)⟩
        · exact g5 q v (by omega) q1 v0 v1
      · rw [c3]
        have b3 := eM_3 g1 (r := 3) (by omega) kn3 (j := 12 * (200 * s + k - 1) + u) (by omega) (by omega)
        refine ih (u + 1) _ (by omega) (by omega) (by omega) ⟨uM_3 g1 kn3 b3.1 b3.2, fun r j hr => ?_, ?_, fun q v q0 q1 q2 v0 v1 => ?_, fun q v q0 q1 v0 v1 => ?_, ?_, fun v v0 v1 => ?_⟩
        · rw [upd_o (fun e => hr (by unfold inS; omega))]; exact g2 r j hr
        · rw [upd_o (by omega)]; exact g3
        · rw [upd_o (by omega), upd_o (by omega)]; exact g4 q v q0 q1 q2 v0 v1
        · rw [upd_o (by omega), upd_o (by omega)]; exact g5 q v q0 q1 v0 v1
        · rw [upd_o (by omega)]; exact g6
        · by_cases hv : v = u
          · rw [hv, upd_at]; have := (g4 (k - 1) u (by omega) (by omega) (by omega) u0 (by omega)).2; rw [show 12 * (200 * s + (k - 1)) + u = 12 * (200 * s + k - 1) + u by omega] at this; exact this
          · rw [upd_o (by omega)]; exact g7 v v0 (by omega)
    · refine ⟨fun h0 => ?_, fun h0 => ?_⟩
      · refine ⟨⟨by omega, by omega⟩, ?_⟩
        exact Or.inl (⟨rfl, h0, rfl⟩)
      · refine ⟨oM_0 (by omega) km0 3 rfl, ?_⟩
        refine ⟨⟨by omega, by omega⟩, ?_⟩
        refine ⟨⟨by omega, by omega⟩, ?_⟩
        refine ⟨⟨by omega, by omega⟩, ?_⟩
        refine ⟨⟨by omega, by omega⟩, ?_⟩
        refine ⟨oM_0 (by omega) km0 3 rfl, ?_⟩
        refine ⟨⟨by omega, by omega⟩, ?_⟩
        refine ⟨⟨by omega, by omega⟩, ?_⟩
        refine ⟨⟨by omega, by omega⟩, ?_⟩
        refine ⟨⟨by omega, by omega⟩, ?_⟩
        refine ⟨⟨by omega, by omega⟩, ?_⟩
        refine ⟨aM_3 (r := B 0 3) (by rw [c3]; omega) (by rw [c3]; exact kn3) (by omega) (by omega), ?_⟩
        have e1 : B (B 0 3) ((12 * (((200 * s) + k) - 1)) + u) = B 3 ((12 * (((200 * s) + k) - 1)) + u) := by rw [c3]
        refine ⟨tM_3 (r := B 0 3) (by rw [c3]; omega) (by rw [c3]; exact kn3) (by omega) (by omega) rfl, ?_⟩
        refine ⟨⟨by omega, by omega⟩, ?_⟩
        exact Or.inr (⟨rfl, h0, rfl⟩)
def niI (A B : pm_A) (s t u : Int) : Prop := gH wM B ∧ (∀ r j, ¬ inS s r j → B r j = A r j) ∧ B 1 s = A 1 s + 1 ∧ (∀ q v : Int, 0 ≤ q → q < t → 0 ≤ v → v < 12 → B 2 (200 * s + q) = A 2 (200 * s + q) ∧ B 3 (12 * (200 * s + q) + v) = A 3 (12 * (200 * s + q) + v)) ∧ (∀ q v : Int, t < q → q ≤ A 1 s → 0 ≤ v → v < 12 → B 2 (200 * s + q) = A 2 (200 * s + q - 1) ∧ B 3 (12 * (200 * s + q) + v) = A 3 (12 * (200 * s + q - 1) + v)) ∧ B 2 (200 * s + t) = A 0 5 ∧ ∀ v : Int, 0 ≤ v → v < u → B 3 (12 * (200 * s + t) + v) = A 4 v
theorem ad_191 {A : pm_A} {s t : Int} (hs : 0 ≤ s ∧ s ≤ 151) (t0 : 0 ≤ t) (t1 : t ≤ A 1 s) (m2 : A 1 s ≤ 199) {z : pm_R → Prop} {v4 : pm_V} (H : ∀ C v3, niI A C s t 12 → Tm pmt (an_sh wM) o_X10_add 226 ([(2, 0), (0, s), (0, t), v3, v4], [], C) z) : ∀ (n : Nat) (u : Int) (B : pm_A), (12 - u).toNat < n → 0 ≤ u → u ≤ 12 → niI A B s t u → Tm pmt (an_sh wM) o_X10_add 191 ([(2, 0), (0, s), (0, t), (0, u), v4], [], B) z := by
  intro n
  induction n with
  | zero => intro u B h; omega
  | succ n ih =>
    intro u B hn u0 u1 hJ
    obtain ⟨g1, g2, g3, g4, g5, g6, g7⟩ := hJ
    have c3 := pM_3 g1
    have c6 := pM_6 g1
    refine wq_ok srt_Madd (fr := []) (cuts := [191, 226]) (J := fun pc st => (pc = 226 ∧ (12 ≤ u) ∧ st = ([(2, 0), (0, s), (0, t), (0, u), v4], [], B)) ∨ (pc = 191 ∧ (u < 12) ∧ st = ([(2, 0), (0, s), (0, t), (0, u + 1), v4], [], pm_upd B (B 0 3) ((12 * ((200 * s) + t)) + u) (B (B 0 6) u)))) ?_ 26 191 _ ?_
    · rintro pc st (⟨rfl, h0, rfl⟩ | ⟨rfl, h0, rfl⟩)
      · exact H B _ ⟨g1, g2, g3, g4, g5, g6, fun v v0 v1 => g7 v v0 (by omega)⟩
      · rw [c3, c6]
        have b4 := eM_4 g1 (r := 4) (by omega) kn4 (j := u) (by omega) (by omega)
        refine ih (u + 1) _ (by omega) (by omega) (by omega) ⟨uM_3 g1 kn3 b4.1 b4.2, fun r j hr => ?_, ?_, fun q v q0 q1 v0 v1 => ?_, fun q v q0 q1 v0 v1 => ?_, ?_, fun v v0 v1 => ?_⟩
        · rw [upd_o (fun e => hr (by unfold inS; omega))]; exact g2 r j hr
        · rw [upd_o (by omega)]; exact g3
        · rw [upd_o (by omega), upd_o (by omega)]; exact g4 q v q0 q1 v0 v1
        · rw [upd_o (by omega), upd_o (by omega)]; exact g5 q v q0 q1 v0 v1
        · rw [upd_o (by omega)]; exact g6
        · by_cases hv : v = u
          · rw [hv, upd_at]; exact g2 4 u (by unfold inS; omega)
          · rw [upd_o (by omega)]; exact g7 v v0 (by omega)
    · refine ⟨fun h0 => ?_, fun h0 => ?_⟩
      · exact Or.inl (⟨rfl, h0, rfl⟩)
      · refine ⟨oM_0 (by omega) km0 3 rfl, ?_⟩
        refine ⟨⟨by omega, by omega⟩, ?_⟩
        refine ⟨⟨by omega, by omega⟩, ?_⟩
        refine ⟨⟨by omega, by omega⟩, ?_⟩
        refine ⟨⟨by omega, by omega⟩, ?_⟩
        refine ⟨oM_0 (by omega) km0 6 rfl, ?_⟩
        refine ⟨aM_4 (r := B 0 6) (by rw [c6]; omega) (by rw [c6]; exact kn4) (by omega) (by omega), ?_⟩
        have e1 : B (B 0 6) u = B 4 u := by rw [c6]
        refine ⟨tM_3 (r := B 0 3) (by rw [c3]; omega) (by rw [c3]; exact kn3) (by omega) (by omega) rfl, ?_⟩
        refine ⟨⟨by omega, by omega⟩, ?_⟩
        exact Or.inr (⟨rfl, h0, rfl⟩)
def ptI (A : pm_A) (s t : Int) : Prop := (0 ≤ t ∧ t ≤ A 1 s) ∧ (∀ q, 0 ≤ q → q < t → cr_Gt (xe A s q) (xp A)) ∧ ∀ q, t ≤ q → q < A 1 s → ¬ cr_Gt (xe A s q) (xp A)
theorem ad_ins {A B : pm_A} {s t : Int} (hA : adH A s) (m2 : A 1 s ≤ 199) (ht : ptI A s t) (hne : t < A 1 s → xe A s t ≠ xp A) (hB : niI A B s t 12) (v3 v4 : pm_V) : Tm pmt (an_sh wM) o_X10_add 226 ([(2, 0), (0, s), (0, t), v3, v4], [], B) (ad_post A s) := by
  obtain ⟨hA1, hs, hsr, hcf, hnum, hsp⟩ := hA
  obtain ⟨⟨t0, t1⟩, ht2, ht3⟩ := ht
  obtain ⟨g1, g2, g3, g4, g5, g6, g7⟩ := hB
  have m1 := eM_1 hA1 (r := 1) (by omega) kn1 hs.1 (show s < 152 by omega)
  have xlt : ∀ q : Int, 0 ≤ q → q < t → xe B s q = xe A s q := fun q q0 q1 => funext fun v => (g4 q v.1 q0 q1 (by omega) (by have := v.2; omega)).2
  have xeq : xe B s t = xp A := funext fun v => g7 v.1 (by omega) (by have := v.2; omega)
  have xgt : ∀ q : Int, t < q → q ≤ A 1 s → xe B s q = xe A s (q - 1) := fun q q0 q1 => funext fun v => by
    have := (g5 q v.1 q0 q1 (by omega) (by have := v.2; omega)).2
    show B 3 (12 * (200 * s + q) + (v.1 : Int)) = A 3 (12 * (200 * s + (q - 1)) + (v.1 : Int))
    rw [this]
    congr 1
    omega
  have hafter : ∀ q : Int, t ≤ q → q < A 1 s → cr_Gt (xp A) (xe A s q) := fun q q0 q1 => by
    have h1 : cr_Gt (xp A) (xe A s t) := by
      rcases cr_Gt.total (xp A) (xe A s t) with e | e | e
      · exact absurd e.symm (hne (by omega))
      · exact e
      · exact absurd e (ht3 t (by omega) (by omega))
    by_cases e : q = t
    · rw [e]; exact h1
    · exact h1.trans (hsr t q t0 (by omega) q1)
  refine ad_226 hs t0 (by omega) ⟨g1, fun r j hr _ => g2 r j hr⟩ (by rw [g2 0 4 (by unfold inS; omega)]; exact hsp) ?_ ?_ ?_ v3 v4
  · intro q q' q0 hq hq'
    by_cases a1 : q' < t
    · rw [xlt q q0 (by omega), xlt q' (by omega) a1]; exact hsr q q' q0 hq (by omega)
    · by_cases a2 : q' = t
      · rw [a2, xeq, xlt q q0 (by omega)]; exact ht2 q q0 (by omega)
      · rw [xgt q' (by omega) (by omega)]
        by_cases b1 : q < t
        · rw [xlt q q0 b1]
          exact hsr q (q' - 1) q0 (by omega) (by omega)
        · by_cases b2 : q = t
          · rw [b2, xeq]; exact hafter (q' - 1) (by omega) (by omega)
          · rw [xgt q (by omega) (by omega)]; exact hsr (q - 1) (q' - 1) (by omega) (by omega) (by omega)
  · intro q q0 q1
    by_cases a1 : q < t
    · rw [(g4 q 0 q0 a1 (by omega) (by omega)).1]; have := hcf q q0 (by omega); exact ⟨this.1, fun _ => this.2⟩
    · by_cases a2 : q = t
      · rw [a2, g6]; exact ⟨hnum.1, fun e => absurd rfl e⟩
      · rw [(g5 q 0 (by omega) (by omega) (by omega) (by omega)).1, show 200 * s + q - 1 = 200 * s + (q - 1) by omega]; have := hcf (q - 1) (by omega) (by omega); exact ⟨this.1, fun _ => this.2⟩
  · intro a
    rw [LSm_lsf, LSm_lsf, g3, show (A 1 s + 1).toNat = (A 1 s).toNat + 1 by omega]
    refine co_insert (t := t.toNat) ?_ (fun q hq => ?_) a _ (by omega) (fun q q0 q1 => ?_)
    · refine Prod.ext ?_ ?_
      · show B 2 (200 * s + ((t.toNat : Nat) : Int)) = A 0 5
        rw [Int.toNat_of_nonneg t0]; exact g6
      · show xe B s ((t.toNat : Nat) : Int) = xp A
        rw [Int.toNat_of_nonneg t0]; exact xeq
    · exact Prod.ext (g4 q 0 (by omega) (by omega) (by omega) (by omega)).1 (xlt q (by omega) (by omega))
    · refine Prod.ext ?_ ?_
      · show B 2 (200 * s + ((q + 1 : Nat) : Int)) = A 2 (200 * s + (q : Int))
        rw [(g5 ((q + 1 : Nat) : Int) 0 (by omega) (by omega) (by omega) (by omega)).1]
        congr 1
        omega
      · show xe B s ((q + 1 : Nat) : Int) = xe A s (q : Int)
        rw [xgt ((q + 1 : Nat) : Int) (by omega) (by omega)]
        congr 1
        omega
theorem ad_72 {A : pm_A} {s t : Int} (hA : adH A s) (m2 : A 1 s ≤ 199) (ht : ptI A s t) (hne : t < A 1 s → xe A s t ≠ xp A) : ∀ (n : Nat) (k : Int) (v4 : pm_V) (B : pm_A), (k - t).toNat < n → t ≤ k → k ≤ A 1 s → shI A B s k → Tm pmt (an_sh wM) o_X10_add 72 ([(2, 0), (0, s), (0, t), (0, k), v4], [], B) (ad_post A s) := by
  have hA0 := hA
  have ht0 := ht
  obtain ⟨hA1, hs, hsr, hcf, hnum, hsp⟩ := hA
  obtain ⟨⟨t0, t1⟩, ht2, ht3⟩ := ht
  intro n
  induction n with
  | zero => intro k v4 B h; omega
  | succ n ih =>
    intro k v4 B hn k0 k1 hI
    obtain ⟨g1, g2, g3, g4, g5⟩ := hI
    have c1 := pM_1 g1
    have c2 := pM_2 g1
    have c2' : pm_upd B (B 0 1) s (B (B 0 1) s + 1) 0 2 = 2 := by rw [c1, upd_o (by omega)]; exact c2
    have n5 : pm_upd B (B 0 1) s (B (B 0 1) s + 1) 0 5 = A 0 5 := by rw [c1, upd_o (by omega)]; exact g2 0 5 (by unfold inS; omega)
    have m1 := eM_1 g1 (r := 1) (by omega) kn1 hs.1 (show s < 152 by omega)
    refine wq_ok srt_Madd (fr := []) (cuts := [106, 191]) (J := fun pc st => (pc = 191 ∧ (k ≤ t) ∧ st = ([(2, 0), (0, s), (0, t), (0, 0), v4], [], pm_upd (pm_upd B (B 0 1) s ((B (B 0 1) s) + 1)) ((pm_upd B (B 0 1) s ((B (B 0 1) s) + 1)) 0 2) ((200 * s) + t) ((pm_upd B (B 0 1) s ((B (B 0 1) s) + 1)) 0 5))) ∨ (pc = 106 ∧ (t < k) ∧ st = ([(2, 0), (0, s), (0, t), (0, k), (0, 0)], [], pm_upd B (B 0 2) ((200 * s) + k) (B (B 0 2) (((200 * s) + k) - 1))))) ?_ 28 72 _ ?_
    · rintro pc st (⟨rfl, h0, rfl⟩ | ⟨rfl, h0, rfl⟩)
      · rw [n5, c2', c1]
        have hk : k = t := by omega
        refine ad_191 hs t0 t1 m2 (fun C v3 hC => ad_ins hA0 m2 ht0 hne hC v3 v4) _ 0 _ (Nat.lt_succ_self _) (by omega) (by omega) ⟨uM_2 (uM_1 g1 kn1 (by omega) (by omega)) kn2 (by omega) (by omega), fun r j hr => ?_, ?_, fun q v q0 q1 v0 v1 => ?_, fun q v q0 q1 v0 v1 => ?_, ?_, fun v v0 v1 => by omega⟩
        · rw [upd_o (fun e => hr (by unfold inS; omega)), upd_o (fun e => hr (by unfold inS; omega))]; exact g2 r j hr
        · rw [upd_o (by omega), upd_at, g3]
        · rw [upd_o (by omega), upd_o (by omega), upd_o (by omega), upd_o (by omega)]; exact g4 q v q0 (by omega) (by omega) v0 v1
        · rw [upd_o (by omega), upd_o (by omega), upd_o (by omega), upd_o (by omega)]; exact g5 q v (by omega) q1 v0 v1
        · rw [upd_at]
      · rw [c2]
        have b2 := eM_2 g1 (r := 2) (by omega) kn2 (j := 200 * s + k - 1) (by omega) (by omega)
        refine ad_106 hs (by omega) k1 (by omega) (fun C v4 hC => ih (k - 1) v4 C (by omega) (by omega) (by omega) hC) _ 0 _ (Nat.lt_succ_self _) (by omega) (by omega) ⟨uM_2 g1 kn2 b2.1 b2.2, fun r j hr => ?_, ?_, fun q v q0 q1 q2 v0 v1 => ?_, fun q v q0 q1 v0 v1 => ?_, ?_, fun v v0 v1 => by omega⟩
        · rw [upd_o (fun e => hr (by unfold inS; omega))]; exact g2 r j hr
        · rw [upd_o (by omega)]; exact g3
        · rw [upd_o (by omega), upd_o (by omega)]; exact g4 q v q0 (by omega) q2 v0 v1
        · rw [upd_o (by omega), upd_o (by omega)]; exact g5 q v q0 q1 v0 v1
        · rw [upd_at]; have := (g4 (k - 1) 0 (by omega) (by omega) (by omega) (by omega) (by omega)).1; rw [show 200 * s + (k - 1) = 200 * s + k - 1 by omega] at this; exact this
    · refine ⟨fun h0 => ?_, fun h0 => ?_⟩
      · refine ⟨oM_0 (by omega) km0 1 rfl, ?_⟩
        refine ⟨aM_1 (r := B 0 1) (by rw [c1]; omega) (by rw [c1]; exact kn1) (by omega) (by omega), ?_⟩
        have e1 : B (B 0 1) s = B 1 s := by rw [c1]
        refine ⟨⟨by omega, by omega⟩, ?_⟩
        refine ⟨tM_1 (r := B 0 1) (by rw [c1]; omega) (by rw [c1]; exact kn1) (by omega) (by omega) rfl, ?_⟩
        refine ⟨oM_0 (by omega) km0 2 rfl, ?_⟩
        refine ⟨⟨by omega, by omega⟩, ?_⟩
        refine ⟨⟨by omega, by omega⟩, ?_⟩
        refine ⟨oM_0 (by omega) km0 5 rfl, ?_⟩
        refine ⟨tM_2 (r := (pm_upd B (B 0 1) s ((B (B 0 1) s) + 1)) 0 2) (by first | rw [c2]; omega | rw [c2']; omega) (by first | rw [c2]; exact kn2 | rw [c2']; exact kn2) (by omega) (by omega) rfl, ?_⟩
        exact Or.inl (⟨rfl, h0, rfl⟩)
      · refine ⟨oM_0 (by omega) km0 2 rfl, ?_⟩
        refine ⟨⟨by omega, by omega⟩, ?_⟩
        refine ⟨⟨by omega, by omega⟩, ?_⟩
        refine ⟨oM_0 (by omega) km0 2 rfl, ?_⟩
        refine ⟨⟨by omega, by omega⟩, ?_⟩
        refine ⟨⟨by omega, by omega⟩, ?_⟩
        refine ⟨⟨by omega, by omega⟩, ?_⟩
        refine ⟨aM_2 (r := B 0 2) (by first | rw [c2]; omega | rw [c2']; omega) (by first | rw [c2]; exact kn2 | rw [c2']; exact kn2) (by omega) (by omega), ?_⟩
        have e2 : B (B 0 2) (((200 * s) + k) - 1) = B 2 (((200 * s) + k) - 1) := by rw [c2]
        refine ⟨tM_2 (r := B 0 2) (by first | rw [c2]; omega | rw [c2']; omega) (by first | rw [c2]; exact kn2 | rw [c2']; exact kn2) (by omega) (by omega) rfl, ?_⟩
        exact Or.inr (⟨rfl, h0, rfl⟩)
theorem ad_47 {A : pm_A} {s t : Int} (hA : adH A s) (ht : ptI A s t) (hne : t < A 1 s → xe A s t ≠ xp A) (v3 v4 : pm_V) : Tm pmt (an_sh wM) o_X10_add 47 ([(2, 0), (0, s), (0, t), v3, v4], [], A) (ad_post A s) := by
  have c1 := pM_1 hA.1
  have m1 := eM_1 hA.1 (r := 1) (by omega) kn1 hA.2.1.1 (show s < 152 by have := hA.2.1; omega)
  have hs := hA.2.1
  have ht1 := ht.1
  refine wq_ok srt_Madd (fr := []) (cuts := [72]) (J := fun pc st => (pc = 72 ∧ (¬ (A (A 0 1) s) = 200) ∧ st = ([(2, 0), (0, s), (0, t), (0, A (A 0 1) s), v4], [], A))) ?_ 16 47 _ ?_
  · rintro pc st (⟨rfl, h0, rfl⟩)
    rw [c1] at h0 ⊢
    refine ad_72 hA (by omega) ht hne _ _ _ _ (Nat.lt_succ_self _) (by omega) (by omega) ⟨hA.1, fun _ _ _ => rfl, rfl, fun q v q0 q1 q2 v0 v1 => ⟨rfl, rfl⟩, fun q v q0 q1 v0 v1 => by omega⟩
  · refine ⟨oM_0 (by omega) km0 1 rfl, ?_⟩
    refine ⟨aM_1 (r := A 0 1) (by rw [c1]; omega) (by rw [c1]; exact kn1) (by omega) (by omega), ?_⟩
    have e1 : A (A 0 1) s = A 1 s := by rw [c1]
    refine ⟨fun h0 => ?_, fun h0 => ?_⟩
    · refine ⟨oM_0 (by omega) km0 1 rfl, ?_⟩
      refine ⟨aM_1 (r := A 0 1) (by rw [c1]; omega) (by rw [c1]; exact kn1) (by omega) (by omega), ?_⟩
      have e2 : A (A 0 1) s = A 1 s := by rw [c1]
      exact ⟨rfl, h0, rfl⟩
    · refine ⟨oM_0 (by omega) km0 4 rfl, ?_⟩
      exact ⟨rfl, ⟨uM_0_4 hA.1 (by omega) (by omega), fun r j hr h4 => (show pm_upd A 0 4 1 r j = A r j from upd_o (fun e => h4 ⟨e.1, e.2⟩))⟩, Or.inl (show pm_upd A 0 4 1 0 4 = 1 from upd_at)⟩
theorem ad_22 {A : pm_A} {s t z : Int} (hA : adH A s) (ht : ptI A s t) (htm : t < A 1 s) (hz : (z = 1 ∧ cr_Gt (xe A s t) (xp A)) ∨ (z = 0 ∧ xe A s t = xp A) ∨ (z = -1 ∧ cr_Gt (xp A) (xe A s t))) (v3 v4 : pm_V) : Tm pmt (an_sh wM) o_X10_add 22 ([(2, 0), (0, s), (0, t), v3, v4], [(0, z)], A) (ad_post A s) := by
  have hA0 := hA
  have ht0 := ht
  obtain ⟨hA1, hs, hsr, hcf, hnum, hsp⟩ := hA
  have c2 := pM_2 hA1
  have m1 := eM_1 hA1 (r := 1) (by omega) kn1 hs.1 (show s < 152 by omega)
  have ht1 := ht.1
  have hct := hcf t ht1.1 htm
  refine wq_ok srt_Madd (fr := []) (cuts := [47, 226]) (J := fun pc st => (pc = 47 ∧ (¬ z = 0) ∧ st = ([(2, 0), (0, s), (0, t), v3, v4], [], A)) ∨ (pc = 226 ∧ (z = 0) ∧ st = ([(2, 0), (0, s), (0, t), v3, v4], [], pm_upd A (A 0 2) ((200 * s) + t) ((A (A 0 2) ((200 * s) + t)) + (A 0 5))))) ?_ 20 22 _ ?_
  · rintro pc st (⟨rfl, h0, rfl⟩ | ⟨rfl, h0, rfl⟩)
    · exact ad_47 hA0 ht0 (fun _ e => by rcases hz with ⟨_, h⟩ | ⟨h, _⟩ | ⟨_, h⟩; exact cr_Gt.irrefl _ (e ▸ h); exact h0 h; exact cr_Gt.irrefl _ (e ▸ h)) v3 v4
    · rw [c2]
      have hxe : xe A s t = xp A := by rcases hz with ⟨e, _⟩ | ⟨_, e⟩ | ⟨e, _⟩; omega; exact e; omega
      have hx : ∀ q, xe (pm_upd A 2 (200 * s + t) (A 2 (200 * s + t) + A 0 5)) s q = xe A s q := fun q => funext fun v => upd_o (by omega)
      have hm : pm_upd A 2 (200 * s + t) (A 2 (200 * s + t) + A 0 5) 1 s = A 1 s := upd_o (by omega)
      refine ad_226 hs ht1.1 (by rw [hm]; exact htm) ⟨uM_2 hA1 kn2 (by omega) (by omega), fun r j hr _ => upd_o (fun e => hr (by unfold inS; omega))⟩ (by rw [upd_o (by omega)]; exact hsp) ?_ ?_ ?_ v3 v4
      · intro q q' q0 hq hq'; rw [hx, hx]; rw [hm] at hq'; exact hsr q q' q0 hq hq'
      · intro q q0 q1
        rw [hm] at q1
        have := hcf q q0 q1
        by_cases e : q = t
        · rw [e, upd_at]; exact ⟨by omega, fun h => absurd rfl h⟩
        · rw [upd_o (by omega)]; exact ⟨this.1, fun _ => this.2⟩
      · intro a
        rw [LSm_lsf, LSm_lsf, hm]
        refine co_merge (t := t.toNat) (fun q hq => ?_) ?_ ?_ a _ (by omega)
        · exact Prod.ext (upd_o (by omega)) (hx q)
        · show xe A s ((t.toNat : Nat) : Int) = xp A
          rw [Int.toNat_of_nonneg ht1.1]; exact hxe
        · refine Prod.ext ?_ ?_
          · show pm_upd A 2 (200 * s + t) (A 2 (200 * s + t) + A 0 5) 2 (200 * s + ((t.toNat : Nat) : Int)) = A 2 (200 * s + ((t.toNat : Nat) : Int)) + A 0 5
            rw [Int.toNat_of_nonneg ht1.1, upd_at]
          · exact (hx ((t.toNat : Nat) : Int)).trans (by rw [Int.toNat_of_nonneg ht1.1]; exact hxe)
  · refine ⟨fun h0 => ?_, fun h0 => ?_⟩
    · exact Or.inl (⟨rfl, h0, rfl⟩)
    · refine ⟨oM_0 (by omega) km0 2 rfl, ?_⟩
      refine ⟨⟨by omega, by omega⟩, ?_⟩
      refine ⟨⟨by omega, by omega⟩, ?_⟩
      refine ⟨aM_2 (r := A 0 2) (by rw [c2]; omega) (by rw [c2]; exact kn2) (by omega) (by omega), ?_⟩
      have e1 : A (A 0 2) ((200 * s) + t) = A 2 ((200 * s) + t) := by rw [c2]
      refine ⟨oM_0 (by omega) km0 5 rfl, ?_⟩
      refine ⟨⟨by omega, by omega⟩, ?_⟩
      refine ⟨tM_2 (r := A 0 2) (by rw [c2]; omega) (by rw [c2]; exact kn2) (by omega) (by omega) rfl, ?_⟩
      exact Or.inr (⟨rfl, h0, rfl⟩)
theorem add_ex {A : pm_A} {s : Int} (hA : adH A s) : Cl pmt (an_sh wM) 121 [(2, 0), (0, s)] A (ad_post A s) := by
  have hA0 := hA
  obtain ⟨hA1, hs, hsr, hcf, hnum, hsp⟩ := hA
  have c1 := pM_1 hA1
  have m1 := eM_1 hA1 (r := 1) (by omega) kn1 hs.1 (show s < 152 by omega)
  refine Cl.of (Nat.le_of_ble_eq_true rfl) ?_
  refine wq_ok (full := o_X10_add) srt_Madd (fr := []) (cuts := [5]) (J := fun pc st => (pc = 5 ∧ ∃ t, ptI A s t ∧ st = ([(2, 0), (0, s), (9, 0), (9, 0), (9, 0)], [(0, t)], A))) ?_ 7 0 _ ?_
  · rintro pc st (⟨rfl, t, ht, rfl⟩)
    have ht1 := ht.1
    refine wq_ok srt_Madd (fr := []) (cuts := [22, 47]) (J := fun pc st => (pc = 47 ∧ ((A (A 0 1) s) ≤ t) ∧ st = ([(2, 0), (0, s), (0, t), (9, 0), (9, 0)], [], A)) ∨ (pc = 22 ∧ t < A (A 0 1) s ∧ ∃ z, ((z = 1 ∧ cr_Gt (xe A s t) (xp A)) ∨ (z = 0 ∧ xe A s t = xp A) ∨ (z = -1 ∧ cr_Gt (xp A) (xe A s t))) ∧ st = ([(2, 0), (0, s), (0, t), (9, 0), (9, 0)], [(0, z)], A))) ?_ 15 5 _ ?_
    · rintro pc st (⟨rfl, h0, rfl⟩ | ⟨rfl, htm, z, hz, rfl⟩)
      · rw [c1] at h0
        exact ad_47 hA0 ht (fun h => by omega) _ _
      · rw [c1] at htm
        exact ad_22 hA0 ht htm hz _ _
    · refine ⟨oM_0 (by omega) km0 1 rfl, ?_⟩
      refine ⟨aM_1 (r := A 0 1) (by rw [c1]; omega) (by rw [c1]; exact kn1) (by omega) (by omega), ?_⟩
      have e1 : A (A 0 1) s = A 1 s := by rw [c1]
      refine ⟨fun h0 => ?_, fun h0 => ?_⟩
      · exact Or.inl (⟨rfl, h0, rfl⟩)
      · refine ⟨rM_0 (by omega) km0, ?_⟩
        refine (against_ex (q := t) hA1 hs.1 hs.2 (by omega) (by omega)).imp ?_
        rintro ⟨r1, C⟩ ⟨rfl, z, hz1, hz2⟩
        simp only at hz1 hz2
        subst hz1
        exact Or.inr (⟨rfl, h0, z, hz2, rfl⟩)
  · refine ⟨rM_0 (by omega) km0, ?_⟩
    refine (placeIn_ex hA1 hs.1 hs.2 hsr).imp ?_
    rintro ⟨r1, C⟩ ⟨rfl, t, ht1, ht2⟩
    simp only at ht1 ht2
    subst ht1
    exact ⟨rfl, t, ht2, rfl⟩
end

section
/-! times -/
def fa (A : pm_A) (p : Int) (q : Nat) : Int × cr_Xp 12 := (A 2 (200 * p + (q : Int)), xe A p (q : Int))
theorem LSm_fa (A : pm_A) (p : Int) : LSm A p = lsf (A 1 p).toNat (fa A p) := rfl
theorem shz_snoc (y z : Int × cr_Xp 12) (l : cr_Pl_ 12) : cr_shz y (l ++ [z]) = cr_shz y l ++ [(y.1 * z.1, fun i => y.2 i + z.2 i)] := by unfold cr_shz; rw [List.map_append]; rfl
theorem pmz_snoc (y : Int × cr_Xp 12) (l L : cr_Pl_ 12) : cr_pmz (l ++ [y]) L = cr_pmz l L ++ cr_shz y L := by unfold cr_pmz; rw [List.flatMap_append]; simp
def xb (A : pm_A) (p E : Int) : Prop := ∀ q v : Int, 0 ≤ q → q < A 1 p → 0 ≤ v → v < 12 → - E ≤ A 3 (12 * (200 * p + q) + v) ∧ A 3 (12 * (200 * p + q) + v) ≤ E
def tmF (A B : pm_A) (to : Int) : Prop := gH wM B ∧ ∀ r j, ¬ inS to r j → r ≠ 4 → ¬ (r = 0 ∧ (j = 4 ∨ j = 5)) → B r j = A r j
theorem srt_times : pm_srt o_X10_times = true := by decide +kernel
def tmG (A B : pm_A) (to a b t u : Int) : Prop := srtd B to ∧ cfs B to ∧ ∀ c, cr_co (LSm B to) c = cr_co (cr_pmz (lsf t.toNat (fa A a)) (LSm A b)) c + cr_co (cr_shz (fa A a t.toNat) (lsf u.toNat (fa A b))) c
def tmI (A B : pm_A) (to a b t u : Int) : Prop := tmF A B to ∧ (B 0 4 = 1 ∨ (B 0 4 = 0 ∧ tmG A B to a b t u))
def tm_post (A : pm_A) (to a b : Int) (r : pm_R) : Prop := r.1 = none ∧ tmF A r.2 to ∧ (r.2 0 4 = 1 ∨ (r.2 0 4 = 0 ∧ srtd r.2 to ∧ cfs r.2 to ∧ ∀ c, cr_co (LSm r.2 to) c = cr_co (cr_pmz (LSm A a) (LSm A b)) c))
def tmH (A : pm_A) (to a b E1 E2 : Int) : Prop := gH wM A ∧ (0 ≤ to ∧ to ≤ 151) ∧ (0 ≤ a ∧ a ≤ 151) ∧ (0 ≤ b ∧ b ≤ 151) ∧ (to ≠ a ∧ to ≠ b) ∧ cfs A a ∧ cfs A b ∧ xb A a E1 ∧ xb A b E2 ∧ (0 ≤ E1 ∧ 0 ≤ E2 ∧ E1 + E2 ≤ 2147483647)
theorem tm_slot {A B : pm_A} {to p : Int} (hF : tmF A B to) (hne : to ≠ p) : ∀ r j, inS p r j → B r j = A r j := fun r j h => hF.2 r j (by unfold inS at *; omega) (by unfold inS at h; omega) (by unfold inS at h; omega)
theorem tm_175 {C : pm_A} {to a b t u : Int} {w6 w7 w8 w9 w10 : pm_V} (u0 : 0 ≤ u) (u1 : u < 2147483647) {z : pm_R → Prop} (H : Tm pmt (an_sh wM) o_X10_times 31 ([(2, 0), (0, to), (0, a), (0, b), (0, t), (0, u + 1), w6, w7, w8, w9, w10], [], C) z) : Tm pmt (an_sh wM) o_X10_times 175 ([(2, 0), (0, to), (0, a), (0, b), (0, t), (0, u), w6, w7, w8, w9, w10], [], C) z := by
  refine wq_ok srt_times (fr := []) (cuts := [31]) (J := fun pc st => (pc = 31 ∧ st = ([(2, 0), (0, to), (0, a), (0, b), (0, t), (0, u + 1), w6, w7, w8, w9, w10], [], C))) ?_ 7 175 _ ?_
  · rintro pc st (⟨rfl, rfl⟩)
    exact H
  · refine ⟨⟨by omega, by omega⟩, ?_⟩
    exact ⟨rfl, rfl⟩
theorem tm_111 {A : pm_A} {to a b E1 E2 t u x y : Int} (hH : tmH A to a b E1 E2) (t0 : 0 ≤ t) (t1 : t < A 1 a) (u0 : 0 ≤ u) (u1 : u < A 1 b) (hx : x = A 2 (200 * a + t)) (hy : y = A 2 (200 * b + u)) (hxy : x * y ≤ 1000000000000) {z : pm_R → Prop}
    (H : ∀ C w10, tmI A C to a b t (u + 1) → Tm pmt (an_sh wM) o_X10_times 31 ([(2, 0), (0, to), (0, a), (0, b), (0, t), (0, u + 1), (1, x), (9, 0), (1, y), (9, 0), w10], [], C) z) : ∀ (n : Nat) (v : Int) (B : pm_A), (12 - v).toNat < n → 0 ≤ v → v ≤ 12 → tmF A B to → B 0 4 = 0 → tmG A B to a b t u → B 0 5 = x * y → (∀ i : Int, 0 ≤ i → i < v → B 4 i = A 3 (12 * (200 * a + t) + i) + A 3 (12 * (200 * b + u) + i)) → Tm pmt (an_sh wM) o_X10_times 111 ([(2, 0), (0, to), (0, a), (0, b), (0, t), (0, u), (1, x), (9, 0), (1, y), (9, 0), (0, v)], [], B) z := by
  obtain ⟨hA, hto, ha, hb, hne, cfa, cfb, xa, xbb, hE⟩ := hH
  have ma := eM_1 hA (r := 1) (by omega) kn1 ha.1 (show a < 152 by omega)
  have mb := eM_1 hA (r := 1) (by omega) kn1 hb.1 (show b < 152 by omega)
  have ca := cfa t t0 t1
  have cb := cfb u u0 u1
  intro n
  induction n with
  | zero => intro v B h; omega
  | succ n ih =>
    intro v B hn v0 v1 hF h4 hG h5 hp
    have c3 := pM_3 hF.1
    have c6 := pM_6 hF.1
    have xa1 : v < 12 → - E1 ≤ B 3 (12 * (200 * a + t) + v) ∧ B 3 (12 * (200 * a + t) + v) ≤ E1 := fun hv => by
      rw [tm_slot hF hne.1 3 _ (by unfold inS; omega)]; exact xa t v t0 t1 v0 hv
    have xb1 : v < 12 → - E2 ≤ B 3 (12 * (200 * b + u) + v) ∧ B 3 (12 * (200 * b + u) + v) ≤ E2 := fun hv => by
      rw [tm_slot hF hne.2 3 _ (by unfold inS; omega)]; exact xbb u v u0 u1 v0 hv
    have hxy1 : 1 ≤ x * y := by
      have := Int.mul_pos (show 0 < x by omega) (show 0 < y by omega)
      omega
    refine wq_ok srt_times (fr := []) (cuts := [111, 175]) (J := fun pc st => (pc = 175 ∧ 12 ≤ v ∧ ∃ C, adF B C to ∧ (C 0 4 = 1 ∨ (C 0 4 = 0 ∧ srtd C to ∧ cfs C to ∧ ∀ c, cr_co (LSm C to) c = cr_co (LSm B to) c + si (B 0 5, xp B) c)) ∧ st = ([(2, 0), (0, to), (0, a), (0, b), (0, t), (0, u), (1, x), (9, 0), (1, y), (9, 0), (0, v)], [], C)) ∨ (pc = 111 ∧ (v < 12) ∧ st = ([(2, 0), (0, to), (0, a), (0, b), (0, t), (0, u), (1, x), (9, 0), (1, y), (9, 0), (0, v + 1)], [], pm_upd B (B 0 6) v ((B (B 0 3) ((12 * ((200 * a) + t)) + v)) + (B (B 0 3) ((12 * ((200 * b) + u)) + v)))))) ?_ 39 111 _ ?_
    · rintro pc st (⟨rfl, hv, C, hF2, hC, rfl⟩ | ⟨rfl, h0, rfl⟩)
      · refine tm_175 u0 (by omega) (H C _ ⟨⟨hF2.1, fun r j hr h4 h5 => (hF2.2 r j hr (fun e => h5 ⟨e.1, Or.inl e.2⟩)).trans (hF.2 r j hr h4 h5)⟩, ?_⟩)
        rcases hC with hC | ⟨hC1, hC2, hC3, hC4⟩
        · exact Or.inl hC
        · refine Or.inr ⟨hC1, hC2, hC3, fun c => ?_⟩
          rw [hC4 c, hG.2.2 c, show (u + 1).toNat = u.toNat + 1 by omega, lsf_succ, shz_snoc, co_snoc]
          have e1 : (B 0 5, xp B) = ((fa A a t.toNat).1 * (fa A b u.toNat).1, fun i => (fa A a t.toNat).2 i + (fa A b u.toNat).2 i) := by
            refine Prod.ext ?_ (funext fun i => ?_)
            · show B 0 5 = A 2 (200 * a + ((t.toNat : Nat) : Int)) * A 2 (200 * b + ((u.toNat : Nat) : Int))
              rw [Int.toNat_of_nonneg t0, Int.toNat_of_nonneg u0, h5, hx, hy]
            · show B 4 (i.1 : Int) = A 3 (12 * (200 * a + ((t.toNat : Nat) : Int)) + (i.1 : Int)) + A 3 (12 * (200 * b + ((u.toNat : Nat) : Int)) + (i.1 : Int))
              rw [Int.toNat_of_nonneg t0, Int.toNat_of_nonneg u0]; exact hp i.1 (by omega) (by have := i.2; omega)
          rw [e1]; omega
      · rw [c3, c6]
        have r1 := xa1 h0
        have r2 := xb1 h0
        refine ih (v + 1) _ (by omega) (by omega) (by omega) ⟨uM_4 hF.1 kn4 (by omega) (by omega), fun r j hr h4 h5 => ?_⟩ (by rw [upd_o (by omega)]; exact h4) ⟨?_, ?_, fun c => ?_⟩ (by rw [upd_o (by omega)]; exact h5) (fun i i0 i1 => ?_)
        · rw [upd_o (by omega)]; exact hF.2 r j hr h4 h5
        · exact hG.1
        · exact hG.2.1
        · exact hG.2.2 c
        · by_cases hi : i = v
          · rw [hi, upd_at, tm_slot hF hne.1 3 _ (by unfold inS; omega), tm_slot hF hne.2 3 _ (by unfold inS; omega)]
          · rw [upd_o (by omega)]; exact hp i i0 (by omega)
    · refine ⟨fun h0 => ?_, fun h0 => ?_⟩
      · refine ⟨rM_0 (by omega) km0, ?_⟩
        refine (add_ex (s := to) ⟨hF.1, hto, hG.1, hG.2.1, by rw [h5]; exact ⟨hxy1, hxy⟩, h4⟩).imp ?_
        rintro ⟨r1, C⟩ ⟨hr1, hF2, hC⟩
        simp only at hr1 hF2 hC
        subst hr1
        exact Or.inl (⟨rfl, h0, C, hF2, hC, rfl⟩)
      · refine ⟨oM_0 (by omega) km0 6 rfl, ?_⟩
        refine ⟨oM_0 (by omega) km0 3 rfl, ?_⟩
        refine ⟨⟨by omega, by omega⟩, ?_⟩
        refine ⟨⟨by omega, by omega⟩, ?_⟩
        refine ⟨⟨by omega, by omega⟩, ?_⟩
        refine ⟨⟨by omega, by omega⟩, ?_⟩
        refine ⟨aM_3 (r := B 0 3) (by rw [c3]; omega) (by rw [c3]; exact kn3) (by omega) (by omega), ?_⟩
        have e1 : B (B 0 3) ((12 * ((200 * a) + t)) + v) = B 3 ((12 * ((200 * a) + t)) + v) := by rw [c3]
        refine ⟨oM_0 (by omega) km0 3 rfl, ?_⟩
        refine ⟨⟨by omega, by omega⟩, ?_⟩
        refine ⟨⟨by omega, by omega⟩, ?_⟩
        refine ⟨⟨by omega, by omega⟩, ?_⟩
        refine ⟨⟨by omega, by omega⟩, ?_⟩
        refine ⟨aM_3 (r := B 0 3) (by rw [c3]; omega) (by rw [c3]; exact kn3) (by omega) (by omega), ?_⟩
        have e2 : B (B 0 3) ((12 * ((200 * b) + u)) + v) = B 3 ((12 * ((200 * b) + u)) + v) := by rw [c3]
        refine ⟨⟨by omega, by omega⟩, ?_⟩
        refine ⟨tM_4 (r := B 0 6) (by rw [c6]; omega) (by rw [c6]; exact kn4) (by omega) (by omega) rfl, ?_⟩
        refine ⟨⟨by omega, by omega⟩, ?_⟩
        exact Or.inr (⟨rfl, h0, rfl⟩)
theorem tm_31 {A : pm_A} {to a b E1 E2 t : Int} (hH : tmH A to a b E1 E2) (t0 : 0 ≤ t) (t1 : t < A 1 a) {z : pm_R → Prop} (H : ∀ C v5 w6 w7 w8 w9 w10, tmF A C to → (C 0 4 = 1 ∨ (C 0 4 = 0 ∧ srtd C to ∧ cfs C to ∧ ∀ c, cr_co (LSm C to) c = cr_co (cr_pmz (lsf (t + 1).toNat (fa A a)) (LSm A b)) c)) → Tm pmt (an_sh wM) o_X10_times 10 ([(2, 0), (0, to), (0, a), (0, b), (0, t + 1), v5, w6, w7, w8, w9, w10], [], C) z) : ∀ (n : Nat) (u : Int) (w6 w7 w8 w9 w10 : pm_V) (B : pm_A), (A 1 b - u).toNat < n → 0 ≤ u → u ≤ A 1 b → tmI A B to a b t u → Tm pmt (an_sh wM) o_X10_times 31 ([(2, 0), (0, to), (0, a), (0, b), (0, t), (0, u), w6, w7, w8, w9, w10], [], B) z := by
  have hH0 := hH
  obtain ⟨hA, hto, ha, hb, hne, cfa, cfb, xa, xbb, hE⟩ := hH
  have ma := eM_1 hA (r := 1) (by omega) kn1 ha.1 (show a < 152 by omega)
  have mb := eM_1 hA (r := 1) (by omega) kn1 hb.1 (show b < 152 by omega)
  intro n
  induction n with
  | zero => intro u w6 w7 w8 w9 w10 B h; omega
  | succ n ih =>
    intro u w6 w7 w8 w9 w10 B hn u0 u1 hI
    obtain ⟨hF, hI2⟩ := hI
    have c1 := pM_1 hF.1
    have c2 := pM_2 hF.1
    have mB : B 1 b = A 1 b := tm_slot hF hne.2 1 b (Or.inl ⟨rfl, rfl⟩)
    have s4 := fM_0_4 hF.1 (r := 0) (by omega) km0
    have nx : ∀ q : Int, 0 ≤ q → q < 200 → B 2 (200 * a + q) = A 2 (200 * a + q) := fun q q0 q1 => tm_slot hF hne.1 2 _ (by unfold inS; omega)
    have ny : ∀ q : Int, 0 ≤ q → q < 200 → B 2 (200 * b + q) = A 2 (200 * b + q) := fun q q0 q1 => tm_slot hF hne.2 2 _ (by unfold inS; omega)
    have ca := cfa t t0 t1
    have nxt := nx t t0 (by omega)
    have cbu : u < A 1 b → (1 ≤ A 2 (200 * b + u) ∧ A 2 (200 * b + u) ≤ 1000000000000) ∧ B 2 (200 * b + u) = A 2 (200 * b + u) := fun h => ⟨cfb u u0 h, ny u u0 (by omega)⟩
    have hend : (B 0 4 ≠ 0 ∨ A 1 b ≤ u) → Tm pmt (an_sh wM) o_X10_times 181 ([(2, 0), (0, to), (0, a), (0, b), (0, t), (0, u), w6, w7, w8, w9, w10], [], B) z := fun hc => by
      refine wq_ok srt_times (fr := []) (cuts := [10]) (J := fun pc st => (pc = 10 ∧ st = ([(2, 0), (0, to), (0, a), (0, b), (0, t + 1), (0, u), w6, w7, w8, w9, w10], [], B))) ?_ 7 181 _ ?_
      · rintro pc st (⟨rfl, rfl⟩)
        refine H B _ _ _ _ _ _ hF ?_
        rcases hI2 with h | ⟨h1, h2, h3, h4⟩
        · exact Or.inl h
        · refine Or.inr ⟨h1, h2, h3, fun c => ?_⟩
          have hu : u = A 1 b := by omega
          rw [h4 c, show (t + 1).toNat = t.toNat + 1 by omega, lsf_succ, pmz_snoc, cr_co_app, hu, ← LSm_fa]
      · refine ⟨⟨by omega, by omega⟩, ?_⟩
        exact ⟨rfl, rfl⟩
    refine wq_ok srt_times (fr := []) (cuts := [111, 175, 181]) (J := fun pc st => (pc = 181 ∧ ((B (B 0 1) b) ≤ u) ∧ st = ([(2, 0), (0, to), (0, a), (0, b), (0, t), (0, u), w6, w7, w8, w9, w10], [], B)) ∨ (pc = 181 ∧ (u < (B (B 0 1) b)) ∧ (¬ (B 0 4) = 0) ∧ st = ([(2, 0), (0, to), (0, a), (0, b), (0, t), (0, u), w6, w7, w8, w9, w10], [], B)) ∨ (pc = 175 ∧ (u < (B (B 0 1) b)) ∧ ((B 0 4) = 0) ∧ ((Int.tdiv 1000000000000 (B (B 0 2) ((200 * b) + u))) < (B (B 0 2) ((200 * a) + t))) ∧ st = ([(2, 0), (0, to), (0, a), (0, b), (0, t), (0, u), (1, B (B 0 2) ((200 * a) + t)), (9, 0), (1, B (B 0 2) ((200 * b) + u)), (9, 0), w10], [], pm_upd B 0 4 1)) ∨ (pc = 111 ∧ (u < (B (B 0 1) b)) ∧ ((B 0 4) = 0) ∧ ((B (B 0 2) ((200 * a) + t)) = (Int.tdiv 1000000000000 (B (B 0 2) ((200 * b) + u)))) ∧ st = ([(2, 0), (0, to), (0, a), (0, b), (0, t), (0, u), (1, B (B 0 2) ((200 * a) + t)), (9, 0), (1, B (B 0 2) ((200 * b) + u)), (9, 0), (0, 0)], [], pm_upd B 0 5 ((B (B 0 2) ((200 * a) + t)) * (B (B 0 2) ((200 * b) + u))))) ∨ (pc = 111 ∧ (u < (B (B 0 1) b)) ∧ ((B 0 4) = 0) ∧ ((B (B 0 2) ((200 * a) + t)) < (Int.tdiv 1000000000000 (B (B 0 2) ((200 * b) + u)))) ∧ st = ([(2, 0), (0, to), (0, a), (0, b), (0, t), (0, u), (1, B (B 0 2) ((200 * a) + t)), (9, 0), (1, B (B 0 2) ((200 * b) + u)), (9, 0), (0, 0)], [], pm_upd B 0 5 ((B (B 0 2) ((200 * a) + t)) * (B (B 0 2) ((200 * b) + u)))))) ?_ 45 31 _ ?_
    · rintro pc st (⟨rfl, h0, rfl⟩ | ⟨rfl, h0, h1, rfl⟩ | ⟨rfl, h0, h1, h2, rfl⟩ | ⟨rfl, h0, h1, h2, rfl⟩ | ⟨rfl, h0, h1, h2, rfl⟩)
      · exact hend (by rw [c1] at h0; omega)
      · exact hend (Or.inl h1)
      · have hu : u < A 1 b := by rw [c1, mB] at h0; exact h0
        refine tm_175 u0 (by omega) (ih (u + 1) _ _ _ _ _ _ (by omega) (by omega) (by omega) ⟨⟨uM_0_4 hF.1 (by omega) (by omega), fun r j hr h4 h5 => ?_⟩, Or.inl upd_at⟩)
        rw [upd_o (fun e => h5 ⟨e.1, Or.inl e.2⟩)]; exact hF.2 r j hr h4 h5
      · rw [c1] at h0
        rw [c2] at h2 ⊢
        have hb1 := cbu (by omega)
        obtain ⟨hI3, hG⟩ : B 0 4 = 0 ∧ tmG A B to a b t u := by rcases hI2 with h | h; omega; exact h
        have hxy : B 2 (200 * a + t) * B 2 (200 * b + u) ≤ 1000000000000 := by
          rw [Int.tdiv_eq_ediv_of_nonneg (by omega)] at h2
          exact (Int.le_ediv_iff_mul_le (by omega)).1 (by omega)
        have hp := Int.mul_pos (show 0 < B 2 (200 * a + t) by omega) (show 0 < B 2 (200 * b + u) by omega)
        refine tm_111 (E1 := E1) (E2 := E2) (x := B 2 (200 * a + t)) (y := B 2 (200 * b + u)) hH0 t0 t1 u0 (by omega) nxt hb1.2 hxy (fun C w10 hC => ih (u + 1) _ _ _ _ _ C (by omega) (by omega) (by omega) hC) _ 0 _ (Nat.lt_succ_self _) (by omega) (by omega) ⟨uM_0_5 hF.1 (by omega) (by omega), fun r j hr h4 h5 => ?_⟩ (by rw [upd_o (by omega)]; exact hI3) hG upd_at (fun i i0 i1 => by omega)
        rw [upd_o (fun e => h5 ⟨e.1, Or.inr e.2⟩)]; exact hF.2 r j hr h4 h5
      · rw [c1] at h0
        rw [c2] at h2 ⊢
        have hb1 := cbu (by omega)
        obtain ⟨hI3, hG⟩ : B 0 4 = 0 ∧ tmG A B to a b t u := by rcases hI2 with h | h; omega; exact h
        have hxy : B 2 (200 * a + t) * B 2 (200 * b + u) ≤ 1000000000000 := by
          rw [Int.tdiv_eq_ediv_of_nonneg (by omega)] at h2
          exact (Int.le_ediv_iff_mul_le (by omega)).1 (by omega)
        have hp := Int.mul_pos (show 0 < B 2 (200 * a + t) by omega) (show 0 < B 2 (200 * b + u) by omega)
        refine tm_111 (E1 := E1) (E2 := E2) (x := B 2 (200 * a + t)) (y := B 2 (200 * b + u)) hH0 t0 t1 u0 (by omega) nxt hb1.2 hxy (fun C w10 hC => ih (u + 1) _ _ _ _ _ C (by omega) (by omega) (by omega) hC) _ 0 _ (Nat.lt_succ_self _) (by omega) (by omega) ⟨uM_0_5 hF.1 (by omega) (by omega), fun r j hr h4 h5 => ?_⟩ (by rw [upd_o (by omega)]; exact hI3) hG upd_at (fun i i0 i1 => by omega)
        rw [upd_o (fun e => h5 ⟨e.1, Or.inr e.2⟩)]; exact hF.2 r j hr h4 h5
    · refine ⟨oM_0 (by omega) km0 1 rfl, ?_⟩
      refine ⟨aM_1 (r := B 0 1) (by rw [c1]; omega) (by rw [c1]; exact kn1) (by omega) (by omega), ?_⟩
      have e1 : B (B 0 1) b = B 1 b := by rw [c1]
      refine ⟨fun h0 => ?_, fun h0 => ?_⟩
      · exact Or.inl (⟨rfl, h0, rfl⟩)
      · refine ⟨oM_0 (by omega) km0 4 rfl, ?_⟩
        refine ⟨fun h1 => ?_, fun h1 => ?_⟩
        · exact Or.inr (Or.inl (⟨rfl, h0, h1, rfl⟩))
        · refine ⟨oM_0 (by omega) km0 2 rfl, ?_⟩
          refine ⟨⟨by omega, by omega⟩, ?_⟩
          refine ⟨⟨by omega, by omega⟩, ?_⟩
          refine ⟨aM_2 (r := B 0 2) (by rw [c2]; omega) (by rw [c2]; exact kn2) (by omega) (by omega), ?_⟩
          have e2 : B (B 0 2) ((200 * a) + t) = B 2 ((200 * a) + t) := by rw [c2]
          refine ⟨oM_0 (by omega) km0 2 rfl, ?_⟩
          refine ⟨⟨by omega, by omega⟩, ?_⟩
          refine ⟨⟨by omega, by omega⟩, ?_⟩
          refine ⟨aM_2 (r := B 0 2) (by rw [c2]; omega) (by rw [c2]; exact kn2) (by omega) (by omega), ?_⟩
          have e3 : B (B 0 2) ((200 * b) + u) = B 2 ((200 * b) + u) := by rw [c2]
          refine ⟨⟨by rw [e3]; have := cbu (by omega); omega, ⟨by omega, by omega⟩, ⟨by rw [e3]; have := cbu (by omega); omega, by rw [e3]; have := cbu (by omega); omega⟩, fun hh => absurd hh (by decide)⟩, ?_⟩
          refine ⟨fun h2 => ?_, fun h2 => ?_, fun h2 => ?_⟩
          · refine ⟨fun hh => absurd hh (by decide), fun _ => ?_⟩
            refine ⟨oM_0 (by omega) km0 4 rfl, ?_⟩
            exact Or.inr (Or.inr (Or.inl (⟨rfl, h0, h1, h2, rfl⟩)))
          · refine ⟨fun _ => ?_, fun hh => absurd hh (by decide)⟩
            refine ⟨(by have h2q : B (B 0 2) ((200 * a) + t) ≤ Int.tdiv 1000000000000 (B (B 0 2) ((200 * b) + u)) := (by first | exact Int.le_of_eq h2 | exact Int.le_of_lt h2); rw [e2, e3]; have hb1 := cbu (by omega); rw [e2, e3] at h2q; rw [Int.tdiv_eq_ediv_of_nonneg (by omega)] at h2q; have hl := (Int.le_ediv_iff_mul_le (show 0 < B 2 (200 * b + u) by omega)).1 (show B 2 (200 * a + t) ≤ 1000000000000 / B 2 (200 * b + u) by omega); have hp := Int.mul_pos (show 0 < B 2 (200 * a + t) by omega) (show 0 < B 2 (200 * b + u) by omega); exact ⟨by omega, by omega⟩), ?_⟩
            refine ⟨oM_0 (by omega) km0 5 rfl, ?_⟩
            exact Or.inr (Or.inr (Or.inr (Or.inl (⟨rfl, h0, h1, h2, rfl⟩))))
          · refine ⟨fun _ => ?_, fun hh => absurd hh (by decide)⟩
            refine ⟨(by have h2q : B (B 0 2) ((200 * a) + t) ≤ Int.tdiv 1000000000000 (B (B 0 2) ((200 * b) + u)) := (by first | exact Int.le_of_eq h2 | exact Int.le_of_lt h2); rw [e2, e3]; have hb1 := cbu (by omega); rw [e2, e3] at h2q; rw [Int.tdiv_eq_ediv_of_nonneg (by omega)] at h2q; have hl := (Int.le_ediv_iff_mul_le (show 0 < B 2 (200 * b + u) by omega)).1 (show B 2 (200 * a + t) ≤ 1000000000000 / B 2 (200 * b + u) by omega); have hp := Int.mul_pos (show 0 < B 2 (200 * a + t) by omega) (show 0 < B 2 (200 * b + u) by omega); exact ⟨by omega, by omega⟩), ?_⟩
            refine ⟨oM_0 (by omega) km0 5 rfl, ?_⟩
            exact Or.inr (Or.inr (Or.inr (Or.inr (⟨rfl, h0, h1, h2, rfl⟩))))
theorem tm_10 {A : pm_A} {to a b E1 E2 : Int} (hH : tmH A to a b E1 E2) : ∀ (n : Nat) (t : Int) (v5 w6 w7 w8 w9 w10 : pm_V) (B : pm_A), (A 1 a - t).toNat < n → 0 ≤ t → t ≤ A 1 a → tmF A B to → (B 0 4 = 1 ∨ (B 0 4 = 0 ∧ srtd B to ∧ cfs B to ∧ ∀ c, cr_co (LSm B to) c = cr_co (cr_pmz (lsf t.toNat (fa A a)) (LSm A b)) c)) → Tm pmt (an_sh wM) o_X10_times 10 ([(2, 0), (0, to), (0, a), (0, b), (0, t), v5, w6, w7, w8, w9, w10], [], B) (tm_post A to a b) := by
  have hH0 := hH
  obtain ⟨hA, hto, ha, hb, hne, cfa, cfb, xa, xbb, hE⟩ := hH
  have ma := eM_1 hA (r := 1) (by omega) kn1 ha.1 (show a < 152 by omega)
  have mb := eM_1 hA (r := 1) (by omega) kn1 hb.1 (show b < 152 by omega)
  intro n
  induction n with
  | zero => intro t v5 w6 w7 w8 w9 w10 B h; omega
  | succ n ih =>
    intro t v5 w6 w7 w8 w9 w10 B hn t0 t1 hF hI
    have c1 := pM_1 hF.1
    have mB : B 1 a = A 1 a := tm_slot hF hne.1 1 a (Or.inl ⟨rfl, rfl⟩)
    have s4 := fM_0_4 hF.1 (r := 0) (by omega) km0
    have hend : (B 0 4 ≠ 0 ∨ A 1 a ≤ t) → tm_post A to a b (none, B) := fun hc => ⟨rfl, hF, by
      rcases hI with h | ⟨h1, h2, h3, h4⟩
      · exact Or.inl h
      · refine Or.inr ⟨h1, h2, h3, fun c => ?_⟩
        have ht : t = A 1 a := by omega
        rw [h4 c, ht, ← LSm_fa]⟩
    refine wq_ok srt_times (fr := []) (cuts := [31]) (J := fun pc st => (pc = 31 ∧ (t < (B (B 0 1) a)) ∧ ((B 0 4) = 0) ∧ st = ([(2, 0), (0, to), (0, a), (0, b), (0, t), (0, 0), w6, w7, w8, w9, w10], [], B))) ?_ 16 10 _ ?_
    · rintro pc st (⟨rfl, h0, h1, rfl⟩)
      rw [c1, mB] at h0
      refine tm_31 hH0 t0 (by omega) (fun C v5 w6 w7 w8 w9 w10 hC hC2 => ih (t + 1) v5 w6 w7 w8 w9 w10 C (by omega) (by omega) (by omega) hC hC2) _ 0 _ _ _ _ _ B (Nat.lt_succ_self _) (by omega) (by omega) ⟨hF, ?_⟩
      rcases hI with h | ⟨h1, h2, h3, h4⟩
      · exact Or.inl h
      · exact Or.inr ⟨h1, h2, h3, fun c => by rw [h4 c]; show _ = _ + (0 : Int); omega⟩
    · refine ⟨oM_0 (by omega) km0 1 rfl, ?_⟩
      refine ⟨aM_1 (r := B 0 1) (by rw [c1]; omega) (by rw [c1]; exact kn1) (by omega) (by omega), ?_⟩
      have e1 : B (B 0 1) a = B 1 a := by rw [c1]
      refine ⟨fun h0 => ?_, fun h0 => ?_⟩
      · exact hend (Or.inr (by rw [c1, mB] at h0; omega))
      · refine ⟨oM_0 (by omega) km0 4 rfl, ?_⟩
        refine ⟨fun h1 => ?_, fun h1 => ?_⟩
        · exact hend (Or.inl h1)
        · exact ⟨rfl, h0, h1, rfl⟩
theorem times_ex {A : pm_A} {to a b E1 E2 : Int} (hH : tmH A to a b E1 E2) (h4 : A 0 4 = 0) : Cl pmt (an_sh wM) 196 [(2, 0), (0, to), (0, a), (0, b)] A (tm_post A to a b) := by
  have hH0 := hH
  obtain ⟨hA, hto, ha, hb, hne, cfa, cfb, xa, xbb, hE⟩ := hH
  have ma := eM_1 hA (r := 1) (by omega) kn1 ha.1 (show a < 152 by omega)
  have c1 := pM_1 hA
  refine Cl.of (Nat.le_of_ble_eq_true rfl) ?_
  refine wq_ok (full := o_X10_times) srt_times (fr := []) (cuts := [10]) (J := fun pc st => (pc = 10 ∧ st = ([(2, 0), (0, to), (0, a), (0, b), (0, 0), (9, 0), (9, 0), (9, 0), (9, 0), (9, 0), (9, 0)], [], pm_upd A (A 0 1) to 0))) ?_ 12 0 _ ?_
  · rintro pc st (⟨rfl, rfl⟩)
    rw [c1]
    have hm : pm_upd A 1 to 0 1 to = 0 := upd_at
    refine tm_10 hH0 _ 0 _ _ _ _ _ _ _ (Nat.lt_succ_self _) (by omega) (by omega) ⟨uM_1 hA kn1 (by omega) (by omega), fun r j hr _ _ => upd_o (fun e => hr (by unfold inS; omega))⟩ (Or.inr ⟨by rw [upd_o (by omega)]; exact h4, fun q q2 h1 h2 h3 => by rw [hm] at h3; omega, fun q h1 h2 => by rw [hm] at h2; omega, fun c => ?_⟩)
    unfold LSm
    rw [hm]
    rfl
  · refine ⟨oM_0 (by omega) km0 1 rfl, ?_⟩
    refine ⟨tM_1 (r := A 0 1) (by rw [c1]; omega) (by rw [c1]; exact kn1) (by omega) (by omega) rfl, ?_⟩
    exact ⟨rfl, rfl⟩
end

section
/-! timesOften, heldSlot -/
def VS (A : pm_A) (p : Int) (x : cr_Pv 12) : Rat := cr_vl x.1 (LSm A p)
theorem VS_of {A B : pm_A} {p q : Int} (h : LSm A p = LSm B q) : VS A p = VS B q := by unfold VS; rw [h]
theorem mem_LSm {A : pm_A} {p : Int} {y : Int × cr_Xp 12} (h : y ∈ LSm A p) : ∃ q : Int, 0 ≤ q ∧ q < A 1 p ∧ y = (A 2 (200 * p + q), xe A p q) := by
  obtain ⟨q, hq, rfl⟩ := List.mem_map.1 h
  have := List.mem_range.1 hq
  exact ⟨q, by omega, by omega, rfl⟩
theorem in_LSm {A : pm_A} {p q : Int} (q0 : 0 ≤ q) (q1 : q < A 1 p) : (A 2 (200 * p + q), xe A p q) ∈ LSm A p := by
  refine List.mem_map.2 ⟨q.toNat, List.mem_range.2 (by omega), ?_⟩
  rw [Int.toNat_of_nonneg q0]
theorem pos_LSm {A : pm_A} {p : Int} (h : cfs A p) : ∀ y ∈ LSm A p, 0 < y.1 := fun y hy => by
  obtain ⟨q, q0, q1, rfl⟩ := mem_LSm hy
  have := (h q q0 q1).1
  show 0 < A 2 (200 * p + q)
  omega
theorem VS_pos {A : pm_A} {p : Int} (h : cfs A p) (hm : 1 ≤ A 1 p) (x : cr_Pv 12) : 0 < VS A p x := cr_vl_pos x.2 (pos_LSm h) (fun e => by
  have := in_LSm (A := A) (p := p) (q := 0) (by omega) (by omega)
  rw [e] at this; simp at this)
theorem xb_prod {A B : pm_A} {to a b E1 E2 : Int} (hc : cfs B to) (h : ∀ c, cr_co (LSm B to) c = cr_co (cr_pmz (LSm A a) (LSm A b)) c) (h1 : xb A a E1) (h2 : xb A b E2) : xb B to (E1 + E2) := by
  intro q v q0 q1 v0 v1
  have hm := in_LSm (A := B) (p := to) q0 q1
  have hp := cr_co_pos (pos_LSm hc) hm
  rw [h] at hp
  obtain ⟨z, hz, ez⟩ := cr_co_mem (l := cr_pmz (LSm A a) (LSm A b)) (a := xe B to q) (by have : 0 < cr_co (cr_pmz (LSm A a) (LSm A b)) (xe B to q) := hp; omega)
  obtain ⟨y, hy, w, hw, rfl⟩ := cr_mem_pmz hz
  obtain ⟨i, i0, i1, rfl⟩ := mem_LSm hy
  obtain ⟨j, j0, j1, rfl⟩ := mem_LSm hw
  have e := congrFun ez ⟨v.toNat, by omega⟩
  have e2 : A 3 (12 * (200 * a + i) + ((v.toNat : Nat) : Int)) + A 3 (12 * (200 * b + j) + ((v.toNat : Nat) : Int)) = B 3 (12 * (200 * to + q) + ((v.toNat : Nat) : Int)) := e
  rw [Int.toNat_of_nonneg v0] at e2
  have := h1 i v i0 i1 v0 v1
  have := h2 j v j0 j1 v0 v1
  omega
theorem VS_prod {A B : pm_A} {to a b : Int} (h : ∀ c, cr_co (LSm B to) c = cr_co (cr_pmz (LSm A a) (LSm A b)) c) (x : cr_Pv 12) : VS B to x = VS A a x * VS A b x := by
  unfold VS
  rw [cr_vl_co x.1 h, cr_vl_pmz x.2]
theorem xb_same {A B : pm_A} {p E : Int} (hm : A 1 p ≤ 200) (h : ∀ r j, inS p r j → B r j = A r j) (hx : xb A p E) : xb B p E := by
  intro q v q0 q1 v0 v1
  rw [h 1 p (Or.inl ⟨rfl, rfl⟩)] at q1
  rw [h 3 _ (by unfold inS; omega)]
  exact hx q v q0 q1 v0 v1
theorem cfs_same {A B : pm_A} {p : Int} (hm : A 1 p ≤ 200) (h : ∀ r j, inS p r j → B r j = A r j) (hx : cfs A p) : cfs B p := by
  intro q q0 q1
  rw [h 1 p (Or.inl ⟨rfl, rfl⟩)] at q1
  rw [h 2 _ (by unfold inS; omega)]
  exact hx q q0 q1
theorem ls_xe {A B : pm_A} {p q : Int} (h : LSm B p = LSm A q) (hp : 0 ≤ B 1 p) (hq : 0 ≤ A 1 q) : B 1 p = A 1 q ∧ ∀ i : Int, 0 ≤ i → i < A 1 q → B 2 (200 * p + i) = A 2 (200 * q + i) ∧ xe B p i = xe A q i := by
  have hl : B 1 p = A 1 q := by
    have := congrArg List.length h
    rw [LSm_len, LSm_len] at this
    omega
  refine ⟨hl, fun i i0 i1 => ?_⟩
  have h2 : (LSm B p)[i.toNat]? = (LSm A q)[i.toNat]? := by rw [h]
  unfold LSm at h2
  rw [List.getElem?_map, List.getElem?_map, List.getElem?_range (by omega), List.getElem?_range (by omega)] at h2
  have h3 : (B 2 (200 * p + ((i.toNat : Nat) : Int)), xe B p ((i.toNat : Nat) : Int)) = (A 2 (200 * q + ((i.toNat : Nat) : Int)), xe A q ((i.toNat : Nat) : Int)) := Option.some.inj h2
  rw [Int.toNat_of_nonneg i0] at h3
  exact ⟨congrArg Prod.fst h3, congrArg Prod.snd h3⟩
theorem ls_srtd {A B : pm_A} {p q : Int} (h : LSm B p = LSm A q) (hp : 0 ≤ B 1 p) (hq : 0 ≤ A 1 q) (hs : srtd A q) : srtd B p := by
  obtain ⟨h1, h2⟩ := ls_xe h hp hq
  intro i j i0 ij j1
  rw [h1] at j1
  rw [(h2 i i0 (by omega)).2, (h2 j (by omega) j1).2]
  exact hs i j i0 ij j1
theorem ls_cfs {A B : pm_A} {p q : Int} (h : LSm B p = LSm A q) (hp : 0 ≤ B 1 p) (hq : 0 ≤ A 1 q) (hs : cfs A q) : cfs B p := by
  obtain ⟨h1, h2⟩ := ls_xe h hp hq
  intro i i0 i1
  rw [h1] at i1
  rw [(h2 i i0 i1).1]
  exact hs i i0 i1
theorem ls_xb {A B : pm_A} {p q E : Int} (h : LSm B p = LSm A q) (hp : 0 ≤ B 1 p) (hq : 0 ≤ A 1 q) (hs : xb A q E) : xb B p E := by
  obtain ⟨h1, h2⟩ := ls_xe h hp hq
  intro i v i0 i1 v0 v1
  rw [h1] at i1
  have := congrFun (h2 i i0 i1).2 ⟨v.toNat, by omega⟩
  have e2 : B 3 (12 * (200 * p + i) + ((v.toNat : Nat) : Int)) = A 3 (12 * (200 * q + i) + ((v.toNat : Nat) : Int)) := this
  rw [Int.toNat_of_nonneg v0] at e2
  rw [e2]
  exact hs i v i0 i1 v0 v1
theorem srt_timesOften : pm_srt o_X10_timesOften = true := by decide +kernel
def toF (A B : pm_A) (s bs : Int) : Prop := gH wM B ∧ ∀ r j, ¬ inS s r j → ¬ inS bs r j → r ≠ 4 → ¬ (r = 0 ∧ (j = 4 ∨ j = 5)) → B r j = A r j
def to_post (A : pm_A) (s bb n bs E1 E2 : Int) (r : pm_R) : Prop := r.1 = none ∧ toF A r.2 s bs ∧ (r.2 0 4 = 1 ∨ (r.2 0 4 = 0 ∧ srtd r.2 s ∧ cfs r.2 s ∧ 1 ≤ r.2 1 s ∧ xb r.2 s (E1 + n * E2) ∧ ∀ x, VS r.2 s x = VS A s x * VS A bb x ^ n))
def toH (A : pm_A) (s bb n bs E1 E2 : Int) : Prop := gH wM A ∧ (0 ≤ s ∧ s ≤ 151) ∧ (0 ≤ bb ∧ bb ≤ 151) ∧ (0 ≤ bs ∧ bs ≤ 151) ∧ (s ≠ bb ∧ s ≠ bs ∧ bb ≠ bs) ∧ srtd A s ∧ cfs A s ∧ cfs A bb ∧ xb A s E1 ∧ xb A bb E2 ∧ (0 ≤ E1 ∧ 0 ≤ E2 ∧ 0 ≤ n ∧ E1 + n * E2 ≤ 2147483647) ∧ (1 ≤ A 1 s ∧ 1 ≤ A 1 bb) ∧ A 0 4 = 0
def moI (A B : pm_A) (s bb n t : Int) : Prop := gH wM B ∧ (∀ r j, ¬ inS s r j → B r j = A r j) ∧ (∀ j, B 1 j = A 1 j ∧ B 2 j = A 2 j) ∧ (∀ q v : Int, 0 ≤ q → q < t → 0 ≤ v → v < 12 → B 3 (12 * (200 * s + q) + v) = A 3 (12 * (200 * s + q) + v) + n * A 3 (2400 * bb + v)) ∧ ∀ q v : Int, t ≤ q → q < 200 → 0 ≤ v → v < 12 → B 3 (12 * (200 * s + q) + v) = A 3 (12 * (200 * s + q) + v)
def moJ (A B : pm_A) (s bb n t u : Int) : Prop := gH wM B ∧ (∀ r j, ¬ inS s r j → B r j = A r j) ∧ (∀ j, B 1 j = A 1 j ∧ B 2 j = A 2 j) ∧ (∀ q v : Int, 0 ≤ q → q < t → 0 ≤ v → v < 12 → B 3 (12 * (200 * s + q) + v) = A 3 (12 * (200 * s + q) + v) + n * A 3 (2400 * bb + v)) ∧ (∀ q v : Int, t < q → q < 200 → 0 ≤ v → v < 12 → B 3 (12 * (200 * s + q) + v) = A 3 (12 * (200 * s + q) + v)) ∧ (∀ v : Int, 0 ≤ v → v < u → B 3 (12 * (200 * s + t) + v) = A 3 (12 * (200 * s + t) + v) + n * A 3 (2400 * bb + v)) ∧ ∀ v : Int, u ≤ v → v < 12 → B 3 (12 * (200 * s + t) + v) = A 3 (12 * (200 * s + t) + v)
theorem to_mul {n e E : Int} (hn : 0 ≤ n) (h : - E ≤ e ∧ e ≤ E) : -(n * E) ≤ n * e ∧ n * e ≤ n * E := by
  have h1 := Int.mul_le_mul_of_nonneg_left h.1 hn
  have h2 := Int.mul_le_mul_of_nonneg_left h.2 hn
  rw [Int.mul_neg] at h1
  exact ⟨h1, h2⟩
theorem to_42 {A : pm_A} {s bb n bs E1 E2 t : Int} (hH : toH A s bb n bs E1 E2) (t0 : 0 ≤ t) (t1 : t < A 1 s) {z : pm_R → Prop} (H : ∀ C v6, moI A C s bb n (t + 1) → Tm pmt (an_sh wM) o_X10_timesOften 28 ([(2, 0), (0, s), (0, bb), (0, n), (0, bs), (0, t + 1), v6], [], C) z) : ∀ (m : Nat) (u : Int) (B : pm_A), (12 - u).toNat < m → 0 ≤ u → u ≤ 12 → moJ A B s bb n t u → Tm pmt (an_sh wM) o_X10_timesOften 42 ([(2, 0), (0, s), (0, bb), (0, n), (0, bs), (0, t), (0, u)], [], B) z := by
  obtain ⟨hA, hs, hb, hbs, hne, hsr, hcs, hcb, xs, xbb, hE, hm, h4⟩ := hH
  have ms := eM_1 hA (r := 1) (by omega) kn1 hs.1 (show s < 152 by omega)
  intro m
  induction m with
  | zero => intro u B h; omega
  | succ m ih =>
    intro u B hn u0 u1 hJ
    obtain ⟨g1, g2, g3, g4, g5, g6, g7⟩ := hJ
    have c3 := pM_3 g1
    have hbe : u < 12 → B 3 (2400 * bb + u) = A 3 (2400 * bb + u) := fun h => g2 3 _ (by unfold inS; omega)
    have hme : u < 12 → -(n * E2) ≤ n * B (B 0 3) (2400 * bb + u) ∧ n * B (B 0 3) (2400 * bb + u) ≤ n * E2 := fun h => by
      rw [c3, hbe h]
      have := xbb 0 u (by omega) (by omega) u0 h
      rw [show 12 * (200 * bb + 0) + u = 2400 * bb + u by omega] at this
      exact to_mul hE.2.2.1 this
    have hse : u < 12 → - E1 ≤ B 3 (12 * (200 * s + t) + u) ∧ B 3 (12 * (200 * s + t) + u) ≤ E1 := fun h => by
      rw [g7 u (by omega) h]; exact xs t u t0 t1 u0 h
    refine wq_ok srt_timesOften (fr := []) (cuts := [28, 42]) (J := fun pc st => (pc = 28 ∧ (12 ≤ u) ∧ st = ([(2, 0), (0, s), (0, bb), (0, n), (0, bs), (0, t + 1), (0, u)], [], B)) ∨ (pc = 42 ∧ (u < 12) ∧ st = ([(2, 0), (0, s), (0, bb), (0, n), (0, bs), (0, t), (0, u + 1)], [], pm_upd B (B 0 3) ((12 * ((200 * s) + t)) + u) ((B (B 0 3) ((12 * ((200 * s) + t)) + u)) + (n * (B (B 0 3) ((2400 * bb) + u))))))) ?_ 35 42 _ ?_
    · rintro pc st (⟨rfl, h0, rfl⟩ | ⟨rfl, h0, rfl⟩)
      · refine H B _ ⟨g1, g2, g3, fun q v q0 q1 v0 v1 => ?_, fun q v q0 q1 v0 v1 => g5 q v (by omega) q1 v0 v1⟩
        by_cases hq : q = t
        · rw [hq]; exact g6 v v0 (by omega)
        · exact g4 q v q0 (by omega) v0 v1
      · have r1 := hme h0
        have r2 := hse h0
        have r3 := hbe h0
        rw [c3] at r1 ⊢
        refine ih (u + 1) _ (by omega) (by omega) (by omega) ⟨uM_3 g1 kn3 (by omega) (by omega), fun r j hr => ?_, fun j => ⟨?_, ?_⟩, fun q v q0 q1 v0 v1 => ?_, fun q v q0 q1 v0 v1 => ?_, fun v v0 v1 => ?_, fun v v0 v1 => ?_⟩
        · rw [upd_o (fun e => hr (by unfold inS; omega))]; exact g2 r j hr
        · rw [upd_o (by omega)]; exact (g3 j).1
        · rw [upd_o (by omega)]; exact (g3 j).2
        · rw [upd_o (by omega)]; exact g4 q v q0 q1 v0 v1
        · rw [upd_o (by omega)]; exact g5 q v q0 q1 v0 v1
        · by_cases hv : v = u
          · rw [hv, upd_at, r3, g7 u (by omega) (by omega)]
          · rw [upd_o (by omega)]; exact g6 v v0 (by omega)
        · rw [upd_o (by omega)]; exact g7 v (by omega) v1
    · refine ⟨fun h0 => ?_, fun h0 => ?_⟩
      · refine ⟨⟨by omega, by omega⟩, ?_⟩
        exact Or.inl (⟨rfl, h0, rfl⟩)
      · refine ⟨oM_0 (by omega) km0 3 rfl, ?_⟩
        refine ⟨⟨by omega, by omega⟩, ?_⟩
        refine ⟨⟨by omega, by omega⟩, ?_⟩
        refine ⟨⟨by omega, by omega⟩, ?_⟩
        refine ⟨⟨by omega, by omega⟩, ?_⟩
        refine ⟨aM_3 (r := B 0 3) (by rw [c3]; omega) (by rw [c3]; exact kn3) (by omega) (by omega), ?_⟩
        have e1 : B (B 0 3) ((12 * ((200 * s) + t)) + u) = B 3 ((12 * ((200 * s) + t)) + u) := by rw [c3]
        refine ⟨oM_0 (by omega) km0 3 rfl, ?_⟩
        refine ⟨⟨by omega, by omega⟩, ?_⟩
        refine ⟨⟨by omega, by omega⟩, ?_⟩
        refine ⟨aM_3 (r := B 0 3) (by rw [c3]; omega) (by rw [c3]; exact kn3) (by omega) (by omega), ?_⟩
        have e2 : B (B 0 3) ((2400 * bb) + u) = B 3 ((2400 * bb) + u) := by rw [c3]
        refine ⟨⟨by omega, by omega⟩, ?_⟩
        refine ⟨⟨by omega, by omega⟩, ?_⟩
        refine ⟨tM_3 (r := B 0 3) (by rw [c3]; omega) (by rw [c3]; exact kn3) (by omega) (by omega) rfl, ?_⟩
        refine ⟨⟨by omega, by omega⟩, ?_⟩
        exact Or.inr (⟨rfl, h0, rfl⟩)
theorem to_mono {A B : pm_A} {s bb n bs E1 E2 t : Int} (hH : toH A s bb n bs E1 E2) (hm1 : A 1 bb = 1) (hn1 : A 2 (200 * bb) = 1) (ht : A 1 s ≤ t) (hI : moI A B s bb n t) : to_post A s bb n bs E1 E2 (none, B) := by
  obtain ⟨hA, hs, hb, hbs, hne, hsr, hcs, hcb, xs, xbb, hE, hm, h4⟩ := hH
  obtain ⟨g1, g2, g3, g4, g5⟩ := hI
  have ms := eM_1 hA (r := 1) (by omega) kn1 hs.1 (show s < 152 by omega)
  let e : cr_Xp 12 := fun v => A 3 (2400 * bb + (v.1 : Int))
  have hx : ∀ q : Int, 0 ≤ q → q < A 1 s → xe B s q = fun i => xe A s q i + e i * n := fun q q0 q1 => funext fun v => by
    show B 3 (12 * (200 * s + q) + (v.1 : Int)) = A 3 (12 * (200 * s + q) + (v.1 : Int)) + A 3 (2400 * bb + (v.1 : Int)) * n
    rw [g4 q v.1 q0 (by omega) (by omega) (by have := v.2; omega), Int.mul_comm n]
  have hls : LSm B s = cr_shz (1, fun i => e i * n) (LSm A s) := by
    unfold cr_shz LSm
    rw [(g3 s).1, List.map_map]
    refine List.map_congr_left (fun q hq => ?_)
    have hq := List.mem_range.1 hq
    refine Prod.ext ?_ ?_
    · show B 2 (200 * s + (q : Int)) = 1 * A 2 (200 * s + (q : Int))
      rw [(g3 _).2]; omega
    · show xe B s (q : Int) = fun i => e i * n + xe A s (q : Int) i
      rw [hx q (by omega) (by omega)]
      exact funext fun i => Int.add_comm _ _
  have hbl : LSm A bb = [(1, e)] := by
    unfold LSm
    rw [hm1]
    show [(A 2 (200 * bb + ((0 : Nat) : Int)), xe A bb ((0 : Nat) : Int))] = _
    rw [show 200 * bb + ((0 : Nat) : Int) = 200 * bb by omega, hn1]
    refine congrArg (fun z => [((1 : Int), z)]) (funext fun v => ?_)
    show A 3 (12 * (200 * bb + ((0 : Nat) : Int)) + (v.1 : Int)) = A 3 (2400 * bb + (v.1 : Int))
    congr 1
    omega
  refine ⟨rfl, ⟨g1, fun r j hr _ _ _ => g2 r j hr⟩, Or.inr ⟨by show B 0 4 = 0; rw [g2 0 4 (by unfold inS; omega)]; exact h4, ?_, ?_, ?_, ?_, fun x => ?_⟩⟩
  · show srtd B s
    intro q q' q0 hq hq'
    rw [(g3 s).1] at hq'
    show cr_Gt (xe B s q) (xe B s q')
    rw [hx q q0 (by omega), hx q' (by omega) hq']
    exact (hsr q q' q0 hq hq').add _
  · show cfs B s
    intro q q0 q1
    rw [(g3 s).1] at q1
    show 1 ≤ B 2 (200 * s + q) ∧ B 2 (200 * s + q) ≤ 1000000000000
    rw [(g3 _).2]
    exact hcs q q0 q1
  · show 1 ≤ B 1 s
    rw [(g3 s).1]; exact hm.1
  · show xb B s (E1 + n * E2)
    intro q v q0 q1 v0 v1
    rw [(g3 s).1] at q1
    show -(E1 + n * E2) ≤ B 3 (12 * (200 * s + q) + v) ∧ B 3 (12 * (200 * s + q) + v) ≤ E1 + n * E2
    rw [g4 q v q0 (by omega) v0 v1]
    have a1 := xs q v q0 q1 v0 v1
    have a2 := xbb 0 v (by omega) (by omega) v0 v1
    rw [show 12 * (200 * bb + 0) + v = 2400 * bb + v by omega] at a2
    have a3 := to_mul hE.2.2.1 a2
    omega
  · show VS B s x = VS A s x * VS A bb x ^ n
    unfold VS
    rw [hls, hbl, cr_vl_shz x.2, cr_vl_sing, show ((1 : Int) : Rat) = 1 from rfl, cr_mo_pow x.2 e n]
    grind
theorem to_28 {A : pm_A} {s bb n bs E1 E2 : Int} (hH : toH A s bb n bs E1 E2) (hm1 : A 1 bb = 1) (hn1 : A 2 (200 * bb) = 1) : ∀ (m : Nat) (t : Int) (v6 : pm_V) (B : pm_A), (A 1 s - t).toNat < m → 0 ≤ t → t ≤ A 1 s → moI A B s bb n t → Tm pmt (an_sh wM) o_X10_timesOften 28 ([(2, 0), (0, s), (0, bb), (0, n), (0, bs), (0, t), v6], [], B) (to_post A s bb n bs E1 E2) := by
  have hs := hH.2.1
  intro m
  induction m with
  | zero => intro t v6 B h; omega
  | succ m ih =>
    intro t v6 B hn t0 t1 hI
    have c1 := pM_1 hI.1
    have e0 := (hI.2.2.1 s).1
    refine wq_ok srt_timesOften (fr := []) (cuts := [42]) (J := fun pc st => (pc = 42 ∧ (t < (B (B 0 1) s)) ∧ st = ([(2, 0), (0, s), (0, bb), (0, n), (0, bs), (0, t), (0, 0)], [], B))) ?_ 13 28 _ ?_
    · rintro pc st (⟨rfl, h0, rfl⟩)
      rw [c1, e0] at h0
      obtain ⟨g1, g2, g3, g4, g5⟩ := hI
      exact to_42 hH t0 h0 (fun C v6 hC => ih (t + 1) v6 C (by omega) (by omega) (by omega) hC) _ 0 B (Nat.lt_succ_self _) (by omega) (by omega) ⟨g1, g2, g3, g4, fun q v q0 q1 v0 v1 => g5 q v (by omega) q1 v0 v1, fun v v0 v1 => by omega, fun v v0 v1 => g5 t v (by omega) (by have := eM_1 hH.1 (r := 1) (by omega) kn1 hs.1 (show s < 152 by omega); omega) (by omega) v1⟩
    · refine ⟨oM_0 (by omega) km0 1 rfl, ?_⟩
      refine ⟨aM_1 (r := B 0 1) (by rw [c1]; omega) (by rw [c1]; exact kn1) (by omega) (by omega), ?_⟩
      have e1 : B (B 0 1) s = B 1 s := by rw [c1]
      refine ⟨fun h0 => ?_, fun h0 => ?_⟩
      · exact to_mono hH hm1 hn1 (by rw [c1, e0] at h0; exact h0) hI
      · exact ⟨rfl, h0, rfl⟩
def toL (A B : pm_A) (s bb bs E1 E2 k : Int) : Prop := toF A B s bs ∧ (B 0 4 = 1 ∨ (B 0 4 = 0 ∧ srtd B s ∧ cfs B s ∧ 1 ≤ B 1 s ∧ xb B s (E1 + k * E2) ∧ ∀ x, VS B s x = VS A s x * VS A bb x ^ k))
theorem to_137 {C : pm_A} {s bb n bs k : Int} {v6 : pm_V} (k0 : 0 ≤ k) (k1 : k < n) (hn : n ≤ 2147483647) {z : pm_R → Prop} (H : Tm pmt (an_sh wM) o_X10_timesOften 102 ([(2, 0), (0, s), (0, bb), (0, n), (0, bs), (0, k + 1), v6], [], C) z) : Tm pmt (an_sh wM) o_X10_timesOften 137 ([(2, 0), (0, s), (0, bb), (0, n), (0, bs), (0, k), v6], [], C) z := by
  refine wq_ok srt_timesOften (fr := []) (cuts := [102]) (J := fun pc st => (pc = 102 ∧ st = ([(2, 0), (0, s), (0, bb), (0, n), (0, bs), (0, k + 1), v6], [], C))) ?_ 7 137 _ ?_
  · rintro pc st (⟨rfl, rfl⟩)
    exact H
  · refine ⟨⟨by omega, by omega⟩, ?_⟩
    exact ⟨rfl, rfl⟩
theorem to_102 {A : pm_A} {s bb n bs E1 E2 : Int} (hH : toH A s bb n bs E1 E2) (hn : n ≤ 2147483647) : ∀ (m : Nat) (k : Int) (v6 : pm_V) (B : pm_A), (n - k).toNat < m → 0 ≤ k → k ≤ n → toL A B s bb bs E1 E2 k → Tm pmt (an_sh wM) o_X10_timesOften 102 ([(2, 0), (0, s), (0, bb), (0, n), (0, bs), (0, k), v6], [], B) (to_post A s bb n bs E1 E2) := by
  obtain ⟨hA, hs, hb, hbs, hne, hsr, hcs, hcb, xs, xbb, hE, hm, h4⟩ := hH
  have mb := eM_1 hA (r := 1) (by omega) kn1 hb.1 (show bb < 152 by omega)
  intro m
  induction m with
  | zero => intro k v6 B h; omega
  | succ m ih =>
    intro k v6 B hk k0 k1 hL
    obtain ⟨hF, hL2⟩ := hL
    have s4 := fM_0_4 hF.1 (r := 0) (by omega) km0
    have hbS : ∀ r j, inS bb r j → B r j = A r j := fun r j h => hF.2 r j (by unfold inS at *; omega) (by unfold inS at *; omega) (by unfold inS at h; omega) (by unfold inS at h; omega)
    have msB := eM_1 hF.1 (r := 1) (by omega) kn1 hs.1 (show s < 152 by omega)
    have hend : (B 0 4 ≠ 0 ∨ n ≤ k) → to_post A s bb n bs E1 E2 (none, B) := fun hc => ⟨rfl, hF, by
      rcases hL2 with h | h
      · exact Or.inl h
      · have e : k = n := by rcases hc with h5 | h5; exact absurd h.1 h5; omega
        rw [e] at h
        exact Or.inr h⟩
    have hlast : ∀ C v6, k < n → B 0 4 = 0 → tmF B C bs → C 0 4 = 0 → srtd C bs → cfs C bs → (∀ c, cr_co (LSm C bs) c = cr_co (cr_pmz (LSm B s) (LSm B bb)) c) → Cl pmt (an_sh wM) 134 [(2, 0), (0, s), (0, bs)] C (fun r => r.1 = none ∧ Tm pmt (an_sh wM) o_X10_timesOften 137 ([(2, 0), (0, s), (0, bb), (0, n), (0, bs), (0, k), v6], [], r.2) (to_post A s bb n bs E1 E2)) := fun C v6 hkn hB4 hCF hC4 hCs hCc hCo => by
      refine (copy_ex hCF.1 (by omega) hs.1 hs.2 hbs.1 hbs.2).imp ?_
      rintro ⟨r1, D⟩ ⟨q1, q2, q3, q4⟩
      simp only at q1 q2 q3 q4
      obtain ⟨hB1, hB2, hB3, hB4', hB5, hB6⟩ : B 0 4 = 0 ∧ srtd B s ∧ cfs B s ∧ 1 ≤ B 1 s ∧ xb B s (E1 + k * E2) ∧ ∀ x, VS B s x = VS A s x * VS A bb x ^ k := by rcases hL2 with h | h; omega; exact h
      have mD := eM_1 q2 (r := 1) (by omega) kn1 hs.1 (show s < 152 by omega)
      have mC := eM_1 hCF.1 (r := 1) (by omega) kn1 hbs.1 (show bs < 152 by omega)
      have hxp := xb_prod hCc hCo hB5 (xb_same mb.2 hbS xbb)
      have hVb : VS B bb = VS A bb := VS_of (LSm_same mb.2 hbS)
      have hVp : ∀ x, VS C bs x = VS A s x * VS A bb x ^ (k + 1) := fun x => by
        rw [VS_prod hCo x, hVb, hB6 x, cr_zp_add (VS_pos hcb hm.2 x), Rat.zpow_one]; grind
      have hCm : 1 ≤ C 1 bs := by
        refine Classical.byContradiction (fun hneg => ?_)
        let o : cr_Pv 12 := ⟨fun _ => 1, fun _ => by grind⟩
        have h0 : VS C bs o = 0 := by
          unfold VS LSm
          rw [show C 1 bs = 0 by omega]; rfl
        rw [hVp o] at h0
        have := Rat.mul_pos (VS_pos hcs hm.1 o) (Rat.zpow_pos (VS_pos hcb hm.2 o) : 0 < VS A bb o ^ (k + 1))
        grind
      refine ⟨q1, to_137 k0 hkn hn (ih (k + 1) v6 D (by omega) (by omega) (by omega) ⟨⟨q2, fun r j hr hr2 h4 h5 => ?_⟩, Or.inr ⟨?_, ls_srtd q4 mD.1 mC.1 hCs, ls_cfs q4 mD.1 mC.1 hCc, ?_, ?_, fun x => ?_⟩⟩)⟩
      · rw [q3 r j hr, hCF.2 r j hr2 h4 h5]; exact hF.2 r j hr hr2 h4 h5
      · rw [q3 0 4 (by unfold inS; omega)]; exact hC4
      · rw [(ls_xe q4 mD.1 mC.1).1]; exact hCm
      · have := ls_xb q4 mD.1 mC.1 hxp
        rw [show E1 + (k + 1) * E2 = E1 + k * E2 + E2 by rw [Int.add_mul]; omega]
        exact this
      · rw [VS_of q4]; exact hVp x
    refine wq_ok srt_timesOften (fr := []) (cuts := [123]) (J := fun pc st => (pc = 123 ∧ k < n ∧ B 0 4 = 0 ∧ ∃ C, tmF B C bs ∧ (C 0 4 = 1 ∨ (C 0 4 = 0 ∧ srtd C bs ∧ cfs C bs ∧ ∀ c, cr_co (LSm C bs) c = cr_co (cr_pmz (LSm B s) (LSm B bb)) c)) ∧ st = ([(2, 0), (0, s), (0, bb), (0, n), (0, bs), (0, k), v6], [], C))) ?_ 15 102 _ ?_
    · rintro pc st (⟨rfl, hkn, hB4, C, hCF, hC, rfl⟩)
      refine wq_ok srt_timesOften (fr := []) (cuts := [137]) (J := fun pc st => (pc = 137 ∧ (¬ (C 0 4) = 0) ∧ st = ([(2, 0), (0, s), (0, bb), (0, n), (0, bs), (0, k), v6], [], C)) ∨ (pc = 137 ∧ ∃ D, Tm pmt (an_sh wM) o_X10_timesOften 137 ([(2, 0), (0, s), (0, bb), (0, n), (0, bs), (0, k), v6], [], D) (to_post A s bb n bs E1 E2) ∧ st = ([(2, 0), (0, s), (0, bb), (0, n), (0, bs), (0, k), v6], [], D))) ?_ 11 123 _ ?_
      · rintro pc st (⟨rfl, h0, rfl⟩ | ⟨rfl, D, hD, rfl⟩)
        · have hC1 : C 0 4 = 1 := by rcases hC with h | h; exact h; exact absurd h.1 h0
          exact to_137 k0 hkn hn (ih (k + 1) v6 C (by omega) (by omega) (by omega) ⟨⟨hCF.1, fun r j hr hr2 h4 h5 => (hCF.2 r j hr2 h4 h5).trans (hF.2 r j hr hr2 h4 h5)⟩, Or.inl hC1⟩)
        · exact hD
      · refine ⟨oM_0 (by omega) km0 4 rfl, ?_⟩
        refine ⟨fun h0 => ?_, fun h0 => ?_⟩
        · exact Or.inl (⟨rfl, h0, rfl⟩)
        · refine ⟨rM_0 (by omega) km0, ?_⟩
          obtain ⟨hC4, hCs, hCc, hCo⟩ : C 0 4 = 0 ∧ srtd C bs ∧ cfs C bs ∧ ∀ c, cr_co (LSm C bs) c = cr_co (cr_pmz (LSm B s) (LSm B bb)) c := by rcases hC with h | h; omega; exact h
          refine (hlast C v6 hkn hB4 hCF hC4 hCs hCc hCo).imp ?_
          rintro ⟨r1, D⟩ ⟨q1, q2⟩
          simp only at q1 q2
          subst q1
          exact Or.inr (⟨rfl, D, q2, rfl⟩)
    · refine ⟨fun h0 => ?_, fun h0 => ?_⟩
      · exact hend (Or.inr h0)
      · refine ⟨oM_0 (by omega) km0 4 rfl, ?_⟩
        refine ⟨fun h1 => ?_, fun h1 => ?_⟩
        · exact hend (Or.inl h1)
        · refine ⟨rM_0 (by omega) km0, ?_⟩
          have hB1 : B 0 4 = 0 := h1
          obtain ⟨_, hB2, hB3, hB4, hB5, hB6⟩ : B 0 4 = 0 ∧ srtd B s ∧ cfs B s ∧ 1 ≤ B 1 s ∧ xb B s (E1 + k * E2) ∧ ∀ x, VS B s x = VS A s x * VS A bb x ^ k := by rcases hL2 with h | h; omega; exact h
          have hk1 := Int.mul_le_mul_of_nonneg_right (show k + 1 ≤ n by omega) hE.2.1
          have hk2 := Int.mul_nonneg k0 hE.2.1
          rw [Int.add_mul] at hk1
          refine (times_ex (to := bs) (a := s) (b := bb) (E1 := E1 + k * E2) (E2 := E2) ⟨hF.1, hbs, hs, hb, ⟨by omega, by omega⟩, hB3, cfs_same mb.2 hbS hcb, hB5, xb_same mb.2 hbS xbb, by omega, by omega, by omega⟩ hB1).imp ?_
          rintro ⟨r1, C⟩ ⟨q1, q2, q3⟩
          simp only at q1 q2 q3
          subst q1
          exact ⟨rfl, h0, h1, C, q2, q3, rfl⟩
theorem timesOften_ex {A : pm_A} {s bb n bs E1 E2 : Int} (hH : toH A s bb n bs E1 E2) (hn : n ≤ 2147483647) : Cl pmt (an_sh wM) 197 [(2, 0), (0, s), (0, bb), (0, n), (0, bs)] A (to_post A s bb n bs E1 E2) := by
  have hH0 := hH
  obtain ⟨hA, hs, hb, hbs, hne, hsr, hcs, hcb, xs, xbb, hE, hm, h4⟩ := hH
  have mb := eM_1 hA (r := 1) (by omega) kn1 hb.1 (show bb < 152 by omega)
  have c1 := pM_1 hA
  have c2 := pM_2 hA
  have hL : Tm pmt (an_sh wM) o_X10_timesOften 102 ([(2, 0), (0, s), (0, bb), (0, n), (0, bs), (0, 0), (9, 0)], [], A) (to_post A s bb n bs E1 E2) := to_102 hH0 hn _ 0 _ A (Nat.lt_succ_self _) (by omega) (by omega) ⟨⟨hA, fun _ _ _ _ _ _ => rfl⟩, Or.inr ⟨h4, hsr, hcs, hm.1, by rw [Int.zero_mul, Int.add_zero]; exact xs, fun x => by rw [Rat.zpow_zero, Rat.mul_one]⟩⟩
  refine Cl.of (Nat.le_of_ble_eq_true rfl) ?_
  refine wq_ok (full := o_X10_timesOften) srt_timesOften (fr := []) (cuts := [28, 102]) (J := fun pc st => (pc = 102 ∧ (¬ (A (A 0 1) bb) = 1) ∧ st = ([(2, 0), (0, s), (0, bb), (0, n), (0, bs), (0, 0), (9, 0)], [], A)) ∨ (pc = 102 ∧ ((A (A 0 1) bb) = 1) ∧ (1 < (A (A 0 2) (200 * bb))) ∧ st = ([(2, 0), (0, s), (0, bb), (0, n), (0, bs), (0, 0), (9, 0)], [], A)) ∨ (pc = 28 ∧ ((A (A 0 1) bb) = 1) ∧ ((A (A 0 2) (200 * bb)) = 1) ∧ st = ([(2, 0), (0, s), (0, bb), (0, n), (0, bs), (0, 0), (9, 0)], [], A)) ∨ (pc = 102 ∧ ((A (A 0 1) bb) = 1) ∧ ((A (A 0 2) (200 * bb)) < 1) ∧ st = ([(2, 0), (0, s), (0, bb), (0, n), (0, bs), (0, 0), (9, 0)], [], A))) ?_ 22 0 _ ?_
  · rintro pc st (⟨rfl, h0, rfl⟩ | ⟨rfl, h0, h1, rfl⟩ | ⟨rfl, h0, h1, rfl⟩ | ⟨rfl, h0, h1, rfl⟩)
    · exact hL
    · exact hL
    · rw [c1] at h0
      rw [c2] at h1
      exact to_28 hH0 h0 h1 _ 0 _ A (Nat.lt_succ_self _) (by omega) (by omega) ⟨hA, fun _ _ _ => rfl, fun j => ⟨rfl, rfl⟩, fun q v q0 q1 v0 v1 => by omega, fun q v q0 q1 v0 v1 => rfl⟩
    · exact hL
  · refine ⟨oM_0 (by omega) km0 1 rfl, ?_⟩
    refine ⟨aM_1 (r := A 0 1) (by rw [c1]; omega) (by rw [c1]; exact kn1) (by omega) (by omega), ?_⟩
    have e1 : A (A 0 1) bb = A 1 bb := by rw [c1]
    refine ⟨fun h0 => ?_, fun h0 => ?_⟩
    · exact Or.inl (⟨rfl, h0, rfl⟩)
    · refine ⟨oM_0 (by omega) km0 2 rfl, ?_⟩
      refine ⟨⟨by omega, by omega⟩, ?_⟩
      refine ⟨aM_2 (r := A 0 2) (by rw [c2]; omega) (by rw [c2]; exact kn2) (by omega) (by omega), ?_⟩
      have e2 : A (A 0 2) (200 * bb) = A 2 (200 * bb) := by rw [c2]
      refine ⟨fun h1 => ?_, fun h1 => ?_, fun h1 => ?_⟩
      · refine ⟨fun _ => ?_, fun hh => absurd hh (by decide)⟩
        exact Or.inr (Or.inl (⟨rfl, h0, h1, rfl⟩))
      · refine ⟨fun hh => absurd hh (by decide), fun _ => ?_⟩
        exact Or.inr (Or.inr (Or.inl (⟨rfl, h0, h1, rfl⟩)))
      · refine ⟨fun _ => ?_, fun hh => absurd hh (by decide)⟩
        exact Or.inr (Or.inr (Or.inr (⟨rfl, h0, h1, rfl⟩)))
theorem srt_heldSlot : pm_srt o_X10_heldSlot = true := by decide +kernel
def hs_post (A : pm_A) (i : Int) (r : pm_R) : Prop := r.1 = some (0, 46) ∧ gH wM r.2 ∧ (∀ q j, ¬ inS 46 q j → r.2 q j = A q j) ∧ LSm r.2 46 = [(1, fun v => if (v.1 : Int) = i then 1 else 0)]
theorem heldSlot_ex {A : pm_A} {i : Int} (hA : gH wM A) (i0 : 0 ≤ i) (i1 : i ≤ 11) : Cl pmt (an_sh wM) 151 [(2, 0), (0, i)] A (hs_post A i) := by
  refine Cl.of (Nat.le_of_ble_eq_true rfl) ?_
  refine wq_ok (full := o_X10_heldSlot) srt_heldSlot (fr := []) (cuts := [6]) (J := fun pc st => (pc = 6 ∧ ∃ C, gH wM C ∧ (∀ q j, ¬ inS 46 q j → C q j = A q j) ∧ LSm C 46 = [(1, fun _ => 0)] ∧ st = ([(2, 0), (0, i)], [], C))) ?_ 7 0 _ ?_
  · rintro pc st (⟨rfl, C, q2, q3, q4, rfl⟩)
    have c3 := pM_3 q2
    have mC := eM_1 q2 (r := 1) (by omega) kn1 (j := 46) (by omega) (by omega)
    have hm : C 1 46 = 1 := by
      have := congrArg List.length q4
      rw [LSm_len] at this
      simp at this
      omega
    have h46 : ∀ v : Fin 12, C 3 (110400 + (v.1 : Int)) = 0 ∧ C 2 9200 = 1 := fun v => by
      have hh := q4
      unfold LSm at hh
      rw [hm] at hh
      have hh2 : [(C 2 (200 * 46 + ((0 : Nat) : Int)), xe C 46 ((0 : Nat) : Int))] = [((1 : Int), fun _ : Fin 12 => (0 : Int))] := hh
      have hh3 := List.cons.inj hh2
      have h4 := congrArg Prod.fst hh3.1
      have h5 := congrFun (congrArg Prod.snd hh3.1) v
      have h6 : C 3 (12 * (200 * 46 + ((0 : Nat) : Int)) + (v.1 : Int)) = 0 := h5
      have h7 : C 2 (200 * 46 + ((0 : Nat) : Int)) = 1 := h4
      rw [show 12 * (200 * 46 + ((0 : Nat) : Int)) + (v.1 : Int) = 110400 + (v.1 : Int) by omega] at h6
      exact ⟨h6, h7⟩
    have hfin : hs_post A i (some (0, 46), pm_upd C (C 0 3) (110400 + i) 1) := by
      rw [c3]
      refine ⟨rfl, uM_3 q2 kn3 (by omega) (by omega), fun q j hq => ?_, ?_⟩
      · show pm_upd C 3 (110400 + i) 1 q j = A q j
        rw [upd_o (fun e => hq (by unfold inS; omega))]; exact q3 q j hq
      · show LSm (pm_upd C 3 (110400 + i) 1) 46 = _
        unfold LSm
        rw [show pm_upd C 3 (110400 + i) 1 1 46 = 1 from (upd_o (by omega)).trans hm]
        show [(pm_upd C 3 (110400 + i) 1 2 (200 * 46 + ((0 : Nat) : Int)), xe (pm_upd C 3 (110400 + i) 1) 46 ((0 : Nat) : Int))] = _
        rw [show pm_upd C 3 (110400 + i) 1 2 (200 * 46 + ((0 : Nat) : Int)) = 1 from (upd_o (by omega)).trans (h46 0).2]
        refine congrArg (fun z => [((1 : Int), z)]) (funext fun v => ?_)
        show pm_upd C 3 (110400 + i) 1 3 (12 * (200 * 46 + ((0 : Nat) : Int)) + (v.1 : Int)) = if (v.1 : Int) = i then 1 else 0
        rw [show 12 * (200 * 46 + ((0 : Nat) : Int)) + (v.1 : Int) = 110400 + (v.1 : Int) by omega]
        by_cases hv : (v.1 : Int) = i
        · rw [if_pos hv, hv, upd_at]
        · rw [if_neg hv, upd_o (by omega)]; exact (h46 v).1
    refine wq_ok srt_heldSlot (fr := []) (cuts := []) (J := fun _ _ => False) ?_ 13 6 _ ?_
    · intro pc st h; exact h.elim
    · refine ⟨oM_0 (by omega) km0 3 rfl, ?_⟩
      refine ⟨⟨by omega, by omega⟩, ?_⟩
      refine ⟨tM_3 (r := C 0 3) (by rw [c3]; omega) (by rw [c3]; exact kn3) (by omega) (by omega) rfl, ?_⟩
      exact ⟨rfl, hfin⟩
  · refine ⟨rM_0 (by omega) km0, ?_⟩
    refine (one_ex (p := 46) hA (by omega) (by omega)).imp ?_
    rintro ⟨r1, C⟩ ⟨q1, q2, q3, q4⟩
    simp only at q1 q2 q3 q4
    subst q1
    exact ⟨rfl, C, q2, q3, q4, rfl⟩
end

section
/-! product -/
theorem srt_Mproduct : pm_srt o_X10_product = true := by decide +kernel
def yv (A : pm_A) (x : cr_Pv 12) (i : Nat) : Rat := if (i : Int) < A 0 7 then VS A i x else if h : i < 12 then x.1 ⟨i, h⟩ else 1
def pvl (A : pm_A) (k sg : Int) (x : cr_Pv 12) : Nat → Rat
  | 0 => 1
  | m + 1 => pvl A k sg x m * yv A x m ^ (cx_pos (sg * A 5 (6 * (m : Int) + k)) : Int)
def prF (A B : pm_A) (to : Int) : Prop := gH wM B ∧ ∀ r j, ¬ inS to r j → ¬ inS 46 r j → ¬ inS 47 r j → r ≠ 4 → ¬ (r = 0 ∧ (j = 4 ∨ j = 5)) → B r j = A r j
def prG (A B : pm_A) (to k sg i : Int) : Prop := srtd B to ∧ cfs B to ∧ 1 ≤ B 1 to ∧ xb B to (i * 18098190) ∧ ∀ x, VS B to x = pvl A k sg x i.toNat
def mpr_post (A : pm_A) (to k sg : Int) (r : pm_R) : Prop := r.1 = none ∧ prF A r.2 to ∧ (r.2 0 4 = 1 ∨ (r.2 0 4 = 0 ∧ prG A r.2 to k sg (A 0 7 + A 0 8)))
def ltH (A : pm_A) : Prop := gH wM A ∧ (∀ i : Int, 0 ≤ i → i < A 0 7 → srtd A i ∧ cfs A i ∧ 1 ≤ A 1 i ∧ xb A i 1810) ∧ ∀ i j : Int, 0 ≤ i → i < A 0 7 + A 0 8 → 0 ≤ j → j < A 0 7 → -9999 ≤ A 5 (6 * i + j) ∧ A 5 (6 * i + j) ≤ 9999
theorem xb_mono {A : pm_A} {p E E' : Int} (h : xb A p E) (he : E ≤ E') : xb A p E' := fun q v q0 q1 v0 v1 => by have := h q v q0 q1 v0 v1; omega
theorem pr_79 {C : pm_A} {to k sg i n : Int} (i0 : 0 ≤ i) (i1 : i ≤ 12) {z : pm_R → Prop} (H : Tm pmt (an_sh wM) o_X10_product 8 ([(2, 0), (0, to), (0, k), (0, sg), (0, i + 1), (0, n)], [], C) z) : Tm pmt (an_sh wM) o_X10_product 79 ([(2, 0), (0, to), (0, k), (0, sg), (0, i), (0, n)], [], C) z := by
  refine wq_ok srt_Mproduct (fr := []) (cuts := [8]) (J := fun pc st => (pc = 8 ∧ st = ([(2, 0), (0, to), (0, k), (0, sg), (0, i + 1), (0, n)], [], C))) ?_ 7 79 _ ?_
  · rintro pc st (⟨rfl, rfl⟩)
    exact H
  · refine ⟨⟨by omega, by omega⟩, ?_⟩
    exact ⟨rfl, rfl⟩
theorem pr_72 {A B C : pm_A} {to k sg i n p : Int} (hto : to = 42 ∨ to = 43) (hp : 0 ≤ p ∧ p ≤ 46 ∧ p ≠ to) (i0 : 0 ≤ i) (i1 : i < A 0 7 + A 0 8) (hw : A 0 7 + A 0 8 ≤ 12) (hn : n = sg * A 5 (6 * i + k)) (n0 : 0 < n) (n1 : n ≤ 9999) (hB : prF A B to) (h4 : B 0 4 = 0) (hG : prG A B to k sg i) (hC : gH wM C) (hCF : ∀ q j, ¬ inS 46 q j → C q j = B q j) (hcp : cfs C p) (hmp : 1 ≤ C 1 p) (hxp : xb C p 1810) (hv : ∀ x, VS C p x = yv A x i.toNat) {z : pm_R → Prop}
    (H : ∀ D, prF A D to → (D 0 4 = 1 ∨ (D 0 4 = 0 ∧ prG A D to k sg (i + 1))) → Tm pmt (an_sh wM) o_X10_product 8 ([(2, 0), (0, to), (0, k), (0, sg), (0, i + 1), (0, n)], [], D) z) : Tm pmt (an_sh wM) o_X10_product 72 ([(2, 0), (0, to), (0, k), (0, sg), (0, i), (0, n)], [(0, p), (0, to), (2, 0)], C) z := by
  obtain ⟨g1, g2, g3, g4, g5⟩ := hG
  have mt := eM_1 hB.1 (r := 1) (by omega) kn1 (j := to) (by omega) (by omega)
  have hs : ∀ r j, inS to r j → C r j = B r j := fun r j h => hCF r j (by unfold inS at *; omega)
  have hls := LSm_same mt.2 hs
  have mC := eM_1 hC (r := 1) (by omega) kn1 (j := to) (by omega) (by omega)
  have hni := Int.mul_le_mul_of_nonneg_right n1 (show (0 : Int) ≤ 1810 by omega)
  refine wq_ok srt_Mproduct (fr := []) (cuts := [79]) (J := fun pc st => (pc = 79 ∧ ∃ D, toF C D to 47 ∧ (D 0 4 = 1 ∨ (D 0 4 = 0 ∧ srtd D to ∧ cfs D to ∧ 1 ≤ D 1 to ∧ xb D to (i * 18098190 + n * 1810) ∧ ∀ x, VS D to x = VS C to x * VS C p x ^ n)) ∧ st = ([(2, 0), (0, to), (0, k), (0, sg), (0, i), (0, n)], [], D))) ?_ 7 72 _ ?_
  · rintro pc st (⟨rfl, D, hDF, hD, rfl⟩)
    refine pr_79 i0 (by omega) (H D ⟨hDF.1, fun r j a1 a2 a3 a4 a5 => ?_⟩ ?_)
    · rw [hDF.2 r j a1 a3 a4 a5, hCF r j a2]; exact hB.2 r j a1 a2 a3 a4 a5
    · rcases hD with h | ⟨d1, d2, d3, d4, d5, d6⟩
      · exact Or.inl h
      · refine Or.inr ⟨d1, d2, d3, d4, xb_mono d5 (by omega), fun x => ?_⟩
        rw [d6 x, VS_of hls, g5 x, hv x, show (i + 1).toNat = i.toNat + 1 by omega]
        show _ = pvl A k sg x i.toNat * yv A x i.toNat ^ (cx_pos (sg * A 5 (6 * ((i.toNat : Nat) : Int) + k)) : Int)
        rw [Int.toNat_of_nonneg i0, ← hn]
        have : ((cx_pos n : Nat) : Int) = n := by unfold cx_pos; omega
        rw [this]
  · refine ⟨rM_0 (by omega) km0, ?_⟩
    refine (timesOften_ex (s := to) (bb := p) (n := n) (bs := 47) (E1 := i * 18098190) (E2 := 1810) ⟨hC, by omega, by omega, by omega, ⟨by omega, by omega, by omega⟩, ls_srtd hls mC.1 mt.1 g1, ls_cfs hls mC.1 mt.1 g2, hcp, ls_xb hls mC.1 mt.1 g4, hxp, ⟨by omega, by omega, by omega, by omega⟩, ⟨by rw [hs 1 to (Or.inl ⟨rfl, rfl⟩)]; exact g3, hmp⟩, by rw [hCF 0 4 (by unfold inS; omega)]; exact h4⟩ (by omega)).imp ?_
    rintro ⟨r1, D⟩ ⟨q1, q2, q3⟩
    simp only at q1 q2 q3
    subst q1
    exact ⟨rfl, D, q2, q3, rfl⟩
theorem pr_8 {A : pm_A} {to k sg : Int} (hA : ltH A) (hto : to = 42 ∨ to = 43) (k0 : 0 ≤ k) (k1 : k < A 0 7) (hsg : sg = 1 ∨ sg = -1) : ∀ (m : Nat) (i : Int) (v5 : pm_V) (B : pm_A), (A 0 7 + A 0 8 - i).toNat < m → 0 ≤ i → i ≤ A 0 7 + A 0 8 → prF A B to → (B 0 4 = 1 ∨ (B 0 4 = 0 ∧ prG A B to k sg i)) → Tm pmt (an_sh wM) o_X10_product 8 ([(2, 0), (0, to), (0, k), (0, sg), (0, i), v5], [], B) (mpr_post A to k sg) := by
  have p7 := fM_0_7 hA.1 (r := 0) (by omega) km0
  have p8 := fM_0_8 hA.1 (r := 0) (by omega) km0
  intro m
  induction m with
  | zero => intro i v5 B h; omega
  | succ m ih =>
    intro i v5 B hm i0 i1 hF hI
    have c9 := pM_9 hF.1
    have e7 : B 0 7 = A 0 7 := hF.2 0 7 (by unfold inS; omega) (by unfold inS; omega) (by unfold inS; omega) (by omega) (by omega)
    have e8 : B 0 8 = A 0 8 := hF.2 0 8 (by unfold inS; omega) (by unfold inS; omega) (by unfold inS; omega) (by omega) (by omega)
    have e5 : ∀ j : Int, B 5 j = A 5 j := fun j => hF.2 5 j (by unfold inS; omega) (by unfold inS; omega) (by unfold inS; omega) (by omega) (by omega)
    have harr : i < A 0 7 + A 0 8 → -9999 ≤ B 5 (6 * i + k) ∧ B 5 (6 * i + k) ≤ 9999 := fun h => by rw [e5]; exact hA.2.2 i k i0 h k0 k1
    have hmul : ∀ X : Int, -9999 ≤ X → X ≤ 9999 → -9999 ≤ sg * X ∧ sg * X ≤ 9999 := fun X h1 h2 => by rcases hsg with rfl | rfl <;> omega
    have s4 := fM_0_4 hF.1 (r := 0) (by omega) km0
    have hend : (B 0 4 ≠ 0 ∨ A 0 7 + A 0 8 ≤ i) → mpr_post A to k sg (none, B) := fun hc => ⟨rfl, hF, by
      rcases hI with h | h
      · exact Or.inl h
      · have e : i = A 0 7 + A 0 8 := by rcases hc with h5 | h5; exact absurd h.1 h5; omega
        rw [e] at h
        exact Or.inr h⟩
    have hget : B 0 4 = 0 → prG A B to k sg i := fun h => by rcases hI with h2 | h2; omega; exact h2.2
    refine wq_ok srt_Mproduct (fr := []) (cuts := [72, 79]) (J := fun pc st => (pc = 79 ∧ (i < ((B 0 7) + (B 0 8))) ∧ ((B 0 4) = 0) ∧ ((sg * (B (B 0 9) ((6 * i) + k))) ≤ 0) ∧ st = ([(2, 0), (0, to), (0, k), (0, sg), (0, i), (0, sg * (B (B 0 9) ((6 * i) + k)))], [], B)) ∨ (pc = 72 ∧ (i < B 0 7 + B 0 8) ∧ (B 0 4 = 0) ∧ (0 < sg * B (B 0 9) (6 * i + k)) ∧ (B 0 7 ≤ i) ∧ ∃ C, gH wM C ∧ (∀ q j, ¬ inS 46 q j → C q j = B q j) ∧ LSm C 46 = [(1, fun v => if (v.1 : Int) = i then 1 else 0)] ∧ st = ([(2, 0), (0, to), (0, k), (0, sg), (0, i), (0, sg * B (B 0 9) (6 * i + k))], [(0, 46), (0, to), (2, 0)], C)) ∨ (pc = 72 ∧ (i < ((B 0 7) + (B 0 8))) ∧ ((B 0 4) = 0) ∧ (0 < (sg * (B (B 0 9) ((6 * i) + k)))) ∧ (i < (B 0 7)) ∧ st = ([(2, 0), (0, to), (0, k), (0, sg), (0, i), (0, sg * (B (B 0 9) ((6 * i) + k)))], [(0, i), (0, to), (2, 0)], B))) ?_ 36 8 _ ?_
    · rintro pc st (⟨rfl, h0, h1, h2, rfl⟩ | ⟨rfl, h0, h1, h2, h3, C, q2, q3, q4, rfl⟩ | ⟨rfl, h0, h1, h2, h3, rfl⟩)
      · rw [e7, e8] at h0
        rw [c9, e5] at h2 ⊢
        have ha := hA.2.2 i k i0 h0 k0 k1
        have hm2 := hmul _ ha.1 ha.2
        refine pr_79 i0 (by omega) (ih (i + 1) _ B (by omega) (by omega) (by omega) hF (Or.inr ⟨h1, ?_⟩))
        obtain ⟨g1, g2, g3, g4, g5⟩ := hget h1
        refine ⟨g1, g2, g3, xb_mono g4 (by omega), fun x => ?_⟩
        rw [g5 x, show (i + 1).toNat = i.toNat + 1 by omega]
        show _ = pvl A k sg x i.toNat * yv A x i.toNat ^ (cx_pos (sg * A 5 (6 * ((i.toNat : Nat) : Int) + k)) : Int)
        rw [Int.toNat_of_nonneg i0]
        have : ((cx_pos (sg * A 5 (6 * i + k)) : Nat) : Int) = 0 := by unfold cx_pos; omega
        rw [this, Rat.zpow_zero, Rat.mul_one]
      · rw [e7] at h3
        rw [e7, e8] at h0
        rw [c9, e5] at h2 ⊢
        have ha := hA.2.2 i k i0 h0 k0 k1
        have hm2 := hmul _ ha.1 ha.2
        have mC := eM_1 q2 (r := 1) (by omega) kn1 (j := 46) (by omega) (by omega)
        have hm1 : C 1 46 = 1 := by
          have := congrArg List.length q4
          rw [LSm_len] at this
          simp at this
          omega
        have hall : ∀ q : Int, 0 ≤ q → q < C 1 46 → C 2 (200 * 46 + q) = 1 ∧ xe C 46 q = fun v => if (v.1 : Int) = i then 1 else 0 := fun q q0 q1 => by
          have hi := in_LSm (A := C) (p := 46) q0 q1
          rw [q4] at hi
          simp only [List.mem_cons, List.not_mem_nil, or_false] at hi
          exact ⟨congrArg Prod.fst hi, congrArg Prod.snd hi⟩
        refine pr_72 hto ⟨by omega, by omega, by omega⟩ i0 h0 (by omega) rfl h2 hm2.2 hF h1 (hget h1) q2 q3 (fun q q0 q1 => by rw [(hall q q0 q1).1]; omega) (by omega) (fun q v q0 q1 v0 v1 => ?_) (fun x => ?_) (fun D hD hD2 => ih (i + 1) _ D (by omega) (by omega) (by omega) hD hD2)
        · have := congrFun (hall q q0 q1).2 ⟨v.toNat, by omega⟩
          have e2 : C 3 (12 * (200 * 46 + q) + ((v.toNat : Nat) : Int)) = if ((v.toNat : Nat) : Int) = i then 1 else 0 := this
          rw [Int.toNat_of_nonneg v0] at e2
          rw [e2]
          by_cases hv : v = i
          · rw [if_pos hv]; omega
          · rw [if_neg hv]; omega
        · unfold yv VS
          rw [Int.toNat_of_nonneg i0, if_neg (by omega), dif_pos (show i.toNat < 12 by omega), q4, cr_vl_sing]
          have e3 : (fun v : Fin 12 => if (v.1 : Int) = i then (1 : Int) else 0) = cr_up (fun _ => 0) ⟨i.toNat, by omega⟩ 1 := funext fun v => by
            unfold cr_up
            by_cases hv : (v.1 : Int) = i
            · rw [if_pos hv, if_pos (Fin.ext (by show v.1 = i.toNat; omega))]
            · rw [if_neg hv, if_neg (fun e => hv (by rw [e]; show ((i.toNat : Nat) : Int) = i; omega))]
          rw [e3, cr_mo_e, Rat.zpow_one]
      · rw [e7] at h3
        rw [e7, e8] at h0
        rw [c9, e5] at h2 ⊢
        have ha := hA.2.2 i k i0 h0 k0 k1
        have hm2 := hmul _ ha.1 ha.2
        obtain ⟨d1, d2, d3, d4⟩ := hA.2.1 i i0 h3
        have mi := eM_1 hA.1 (r := 1) (by omega) kn1 (j := i) i0 (by omega)
        have hbS : ∀ r j, inS i r j → B r j = A r j := fun r j h => hF.2 r j (by unfold inS at *; omega) (by unfold inS at *; omega) (by unfold inS at *; omega) (by unfold inS at h; omega) (by unfold inS at h; omega)
        refine pr_72 hto ⟨i0, by omega, by omega⟩ i0 h0 (by omega) rfl h2 hm2.2 hF h1 (hget h1) hF.1 (fun _ _ _ => rfl) (cfs_same mi.2 hbS d2) (by rw [hbS 1 i (Or.inl ⟨rfl, rfl⟩)]; exact d3) (xb_same mi.2 hbS d4) (fun x => ?_) (fun D hD hD2 => ih (i + 1) _ D (by omega) (by omega) (by omega) hD hD2)
        unfold yv
        rw [Int.toNat_of_nonneg i0, if_pos h3, VS_of (LSm_same mi.2 hbS)]
    · refine ⟨oM_0 (by omega) km0 7 rfl, ?_⟩
      refine ⟨oM_0 (by omega) km0 8 rfl, ?_⟩
      refine ⟨⟨by omega, by omega⟩, ?_⟩
      refine ⟨fun h0 => ?_, fun h0 => ?_⟩
      · exact hend (Or.inr (by rw [e7, e8] at h0; exact h0))
      · refine ⟨oM_0 (by omega) km0 4 rfl, ?_⟩
        refine ⟨fun h1 => ?_, fun h1 => ?_⟩
        · exact hend (Or.inl h1)
        · refine ⟨oM_0 (by omega) km0 9 rfl, ?_⟩
          refine ⟨⟨by omega, by omega⟩, ?_⟩
          refine ⟨⟨by omega, by omega⟩, ?_⟩
          refine ⟨aM_5 (r := B 0 9) (by rw [c9]; omega) (by rw [c9]; exact kn5) (by omega) (by omega), ?_⟩
          have e1 : B (B 0 9) ((6 * i) + k) = B 5 ((6 * i) + k) := by rw [c9]
          refine ⟨(by have hx := harr (by omega); have := hmul _ hx.1 hx.2; rw [e1]; exact ⟨by omega, by omega⟩), ?_⟩
          refine ⟨fun h2 => ?_, fun h2 => ?_⟩
          · exact Or.inl (⟨rfl, h0, h1, h2, rfl⟩)
          · refine ⟨oM_0 (by omega) km0 7 rfl, ?_⟩
            refine ⟨fun h3 => ?_, fun h3 => ?_⟩
            · refine ⟨rM_0 (by omega) km0, ?_⟩
              refine (heldSlot_ex (i := i) hF.1 i0 (by omega)).imp ?_
              rintro ⟨r1, C⟩ ⟨q1, q2, q3, q4⟩
              simp only at q1 q2 q3 q4
              subst q1
              exact Or.inr (Or.inl (⟨rfl, h0, h1, h2, h3, C, q2, q3, q4, rfl⟩))
            · exact Or.inr (Or.inr (⟨rfl, h0, h1, h2, h3, rfl⟩))
theorem product_ex {A : pm_A} {to k sg : Int} (hA : ltH A) (h4 : A 0 4 = 0) (hto : to = 42 ∨ to = 43) (k0 : 0 ≤ k) (k1 : k < A 0 7) (hsg : sg = 1 ∨ sg = -1) : Cl pmt (an_sh wM) 175 [(2, 0), (0, to), (0, k), (0, sg)] A (mpr_post A to k sg) := by
  have p7 := fM_0_7 hA.1 (r := 0) (by omega) km0
  have p8 := fM_0_8 hA.1 (r := 0) (by omega) km0
  refine Cl.of (Nat.le_of_ble_eq_true rfl) ?_
  refine wq_ok (full := o_X10_product) srt_Mproduct (fr := []) (cuts := [5]) (J := fun pc st => (pc = 5 ∧ ∃ C, gH wM C ∧ (∀ q j, ¬ inS to q j → C q j = A q j) ∧ LSm C to = [(1, fun _ => 0)] ∧ st = ([(2, 0), (0, to), (0, k), (0, sg), (9, 0), (9, 0)], [], C))) ?_ 7 0 _ ?_
  · rintro pc st (⟨rfl, C, q2, q3, q4, rfl⟩)
    have mC := eM_1 q2 (r := 1) (by omega) kn1 (j := to) (by omega) (by omega)
    have hm1 : C 1 to = 1 := by
      have := congrArg List.length q4
      rw [LSm_len] at this
      simp at this
      omega
    have hall : ∀ q : Int, 0 ≤ q → q < C 1 to → C 2 (200 * to + q) = 1 ∧ xe C to q = fun _ => 0 := fun q q0 q1 => by
      have hi := in_LSm (A := C) (p := to) q0 q1
      rw [q4] at hi
      simp only [List.mem_cons, List.not_mem_nil, or_false] at hi
      exact ⟨congrArg Prod.fst hi, congrArg Prod.snd hi⟩
    refine wq_ok srt_Mproduct (fr := []) (cuts := [8]) (J := fun pc st => (pc = 8 ∧ st = ([(2, 0), (0, to), (0, k), (0, sg), (0, 0), (9, 0)], [], C))) ?_ 7 5 _ ?_
    · rintro pc st (⟨rfl, rfl⟩)
      refine pr_8 hA hto k0 k1 hsg _ 0 _ C (Nat.lt_succ_self _) (by omega) (by omega) ⟨q2, fun r j a1 _ _ _ _ => q3 r j a1⟩ (Or.inr ⟨by rw [q3 0 4 (by unfold inS; omega)]; exact h4, fun q q2 b0 b1 b2 => by omega, fun q q0 q1 => by rw [(hall q q0 q1).1]; omega, by omega, fun q v q0 q1 v0 v1 => ?_, fun x => ?_⟩)
      · have := congrFun (hall q q0 q1).2 ⟨v.toNat, by omega⟩
        have e2 : C 3 (12 * (200 * to + q) + ((v.toNat : Nat) : Int)) = 0 := this
        rw [Int.toNat_of_nonneg v0] at e2
        rw [e2]; omega
      · unfold VS
        rw [q4, cr_vl_one]; rfl
    · exact ⟨rfl, rfl⟩
  · refine ⟨rM_0 (by omega) km0, ?_⟩
    refine (one_ex (p := to) hA.1 (by omega) (by omega)).imp ?_
    rintro ⟨r1, C⟩ ⟨q1, q2, q3, q4⟩
    simp only at q1 q2 q3 q4
    subst q1
    exact ⟨rfl, C, q2, q3, q4, rfl⟩
end

section
/-! less, turnRound -/
theorem less_snoc {a : cr_Xp 12} {c : Int} (z : Int × cr_Xp 12) : ∀ l : cr_Pl_ 12, (∃ y ∈ l, y.2 = a) → cr_less (l ++ [z]) a c = cr_less l a c ++ [z]
  | [], h => by obtain ⟨y, hy, _⟩ := h; simp at hy
  | y :: l, h => by
    classical
    show cr_less (y :: (l ++ [z])) a c = cr_less (y :: l) a c ++ [z]
    unfold cr_less
    by_cases e : y.2 = a
    · rw [if_pos e, if_pos e]
      by_cases e1 : y.1 = c
      · rw [if_pos e1, if_pos e1]
      · rw [if_neg e1, if_neg e1]; rfl
    · rw [if_neg e, if_neg e, less_snoc z l (by
        obtain ⟨w, hw, ew⟩ := h
        rcases List.mem_cons.1 hw with rfl | hw
        · exact absurd ew e
        · exact ⟨w, hw, ew⟩)]; rfl
theorem less_none {a : cr_Xp 12} {c : Int} (r : cr_Pl_ 12) : ∀ l : cr_Pl_ 12, (∀ y ∈ l, y.2 ≠ a) → cr_less (l ++ r) a c = l ++ cr_less r a c
  | [], _ => rfl
  | y :: l, h => by
    classical
    show cr_less (y :: (l ++ r)) a c = y :: (l ++ cr_less r a c)
    rw [cr_less, if_neg (h y (by simp)), less_none r l (fun z hz => h z (by simp [hz]))]
theorem less_mod {f : Nat → Int × cr_Xp 12} {t : Nat} {a : cr_Xp 12} {c : Int} (h1 : ∀ q, q < t → (f q).2 ≠ a) (h2 : (f t).2 = a) (h3 : (f t).1 ≠ c) : ∀ m, t < m → cr_less (lsf m f) a c = lsf m (fun q => if q = t then ((f t).1 - c, a) else f q)
  | 0, h => by omega
  | m + 1, h => by
    classical
    rw [lsf_succ, lsf_succ]
    by_cases e : t = m
    · subst e
      rw [less_none [f t] (lsf t f) (fun y hy => by
        obtain ⟨q, hq, rfl⟩ := List.mem_map.1 hy
        exact h1 q (List.mem_range.1 hq))]
      rw [lsf_congr (f := fun q => if q = t then ((f t).1 - c, a) else f q) (g := f) (fun q hq => if_neg (by omega)), if_pos rfl, cr_less, if_pos h2, if_neg h3]
    · rw [less_snoc (f m) (lsf m f) ⟨f t, List.mem_map.2 ⟨t, List.mem_range.2 (by omega), rfl⟩, h2⟩, less_mod h1 h2 h3 m (by omega), if_neg (fun e2 => e e2.symm)]
theorem less_del {f : Nat → Int × cr_Xp 12} {t : Nat} {a : cr_Xp 12} {c : Int} (h1 : ∀ q, q < t → (f q).2 ≠ a) (h2 : (f t).2 = a) (h3 : (f t).1 = c) : ∀ m, t ≤ m → cr_less (lsf (m + 1) f) a c = lsf m (fun q => if q < t then f q else f (q + 1))
  | m, h => by
    classical
    rw [lsf_succ]
    by_cases e : t = m
    · subst e
      rw [less_none [f t] (lsf t f) (fun y hy => by
        obtain ⟨q, hq, rfl⟩ := List.mem_map.1 hy
        exact h1 q (List.mem_range.1 hq))]
      rw [lsf_congr (f := fun q => if q < t then f q else f (q + 1)) (g := f) (fun q hq => if_pos hq), cr_less, if_pos h2, if_pos h3, List.append_nil]
    · cases m with
      | zero => omega
      | succ m =>
        rw [less_snoc (f (m + 1)) (lsf (m + 1) f) ⟨f t, List.mem_map.2 ⟨t, List.mem_range.2 (by omega), rfl⟩, h2⟩, less_del h1 h2 h3 m (by omega), lsf_succ m, if_neg (by omega)]
theorem srt_less : pm_srt o_X10_less = true := by decide +kernel
def le_post (A : pm_A) (s t n : Int) (r : pm_R) : Prop := r.1 = none ∧ gH wM r.2 ∧ (∀ q j, ¬ inS s q j → r.2 q j = A q j) ∧ LSm r.2 s = cr_less (LSm A s) (xe A s t) n
def leI (A B : pm_A) (s t k : Int) : Prop := gH wM B ∧ (∀ r j, ¬ inS s r j → B r j = A r j) ∧ B 1 s = A 1 s - 1 ∧ (∀ q v : Int, 0 ≤ q → q < t → 0 ≤ v → v < 12 → B 2 (200 * s + q) = A 2 (200 * s + q) ∧ B 3 (12 * (200 * s + q) + v) = A 3 (12 * (200 * s + q) + v)) ∧ (∀ q v : Int, t ≤ q → q < k → 0 ≤ v → v < 12 → B 2 (200 * s + q) = A 2 (200 * s + q + 1) ∧ B 3 (12 * (200 * s + q) + v) = A 3 (12 * (200 * s + q + 1) + v)) ∧ ∀ q v : Int, k < q → q < A 1 s → 0 ≤ v → v < 12 → B 2 (200 * s + q) = A 2 (200 * s + q) ∧ B 3 (12 * (200 * s + q) + v) = A 3 (12 * (200 * s + q) + v)
def leJ (A B : pm_A) (s t k u : Int) : Prop := leI A B s t k ∧ B 2 (200 * s + k) = A 2 (200 * s + k + 1) ∧ ∀ v : Int, 0 ≤ v → v < u → B 3 (12 * (200 * s + k) + v) = A 3 (12 * (200 * s + k + 1) + v)
theorem le_89 {A : pm_A} {s t k n : Int} (hs : 0 ≤ s ∧ s ≤ 151) (t0 : 0 ≤ t) (k0 : t ≤ k) (k1 : k + 1 < A 1 s) (m2 : A 1 s ≤ 200) {z : pm_R → Prop} (H : ∀ C v6, leI A C s t (k + 1) → Tm pmt (an_sh wM) o_X10_less 47 ([(2, 0), (0, s), (0, t), (1, n), (9, 0), (0, k + 1), v6], [], C) z) : ∀ (m : Nat) (u : Int) (B : pm_A), (12 - u).toNat < m → 0 ≤ u → u ≤ 12 → leJ A B s t k u → Tm pmt (an_sh wM) o_X10_less 89 ([(2, 0), (0, s), (0, t), (1, n), (9, 0), (0, k), (0, u)], [], B) z := by
  intro m
  induction m with
  | zero => intro u B h; omega
  | succ m ih =>
    intro u B hn u0 u1 hJ
    obtain ⟨⟨g1, g2, g3, g4, g5, g6⟩, g7, g8⟩ := hJ
    have c3 := pM_3 g1
    refine wq_ok srt_less (fr := []) (cuts := [47, 89]) (J := fun pc st => (pc = 47 ∧ (12 ≤ u) ∧ st = ([(2, 0), (0, s), (0, t), (1, n), (9, 0), (0, k + 1), (0, u)], [], B)) ∨ (pc = 89 ∧ (u < 12) ∧ st = ([(2, 0), (0, s), (0, t), (1, n), (9, 0), (0, k), (0, u + 1)], [], pm_upd B (B 0 3) ((12 * ((200 * s) + k)) + u) (B (B 0 3) ((12 * (((200 * s) + k) + 1)) + u))))) ?_ 36 89 _ ?_
    · rintro pc st (⟨rfl, h0, rfl⟩ | ⟨rfl, h0, rfl⟩)
      · refine H B _ ⟨g1, g2, g3, g4, fun q v q0 q1 v0 v1 => ?_, fun q v q0 q1 v0 v1 => g6 q v (by omega) q1 v0 v1⟩
        by_cases hq : q = k
        · rw [hq]; exact ⟨g7, g8 v v0 (by omega)⟩
        · exact g5 q v q0 (by omega) v0 v1
      · rw [c3]
        have b3 := eM_3 g1 (r := 3) (by omega) kn3 (j := 12 * (200 * s + k + 1) + u) (by omega) (by omega)
        refine ih (u + 1) _ (by omega) (by omega) (by omega) ⟨⟨uM_3 g1 kn3 b3.1 b3.2, fun r j hr => ?_, ?_, fun q v q0 q1 v0 v1 => ?_, fun q v q0 q1 v0 v1 => ?_, fun q v q0 q1 v0 v1 => ?_⟩, ?_, fun v v0 v1 => ?_⟩
        · rw [upd_o (fun e => hr (by unfold inS; omega))]; exact g2 r j hr
        · rw [upd_o (by omega)]; exact g3
        · rw [upd_o (by omega), upd_o (by omega)]; exact g4 q v q0 q1 v0 v1
        · rw [upd_o (by omega), upd_o (by omega)]; exact g5 q v q0 q1 v0 v1
        · rw [upd_o (by omega), upd_o (by omega)]; exact g6 q v q0 q1 v0 v1
        · rw [upd_o (by omega)]; exact g7
        · by_cases hv : v = u
          · rw [hv, upd_at]; have := (g6 (k + 1) u (by omega) (by omega) u0 (by omega)).2; rw [show 12 * (200 * s + (k + 1)) + u = 12 * (200 * s + k + 1) + u by omega] at this; exact this
          · rw [upd_o (by omega)]; exact g8 v v0 (by omega)
    · refine ⟨fun h0 => ?_, fun h0 => ?_⟩
      · refine ⟨⟨by omega, by omega⟩, ?_⟩
        exact Or.inl (⟨rfl, h0, rfl⟩)
      · refine ⟨oM_0 (by omega) km0 3 rfl, ?_⟩
        refine ⟨⟨by omega, by omega⟩, ?_⟩
        refine ⟨⟨by omega, by omega⟩, ?_⟩
        refine ⟨⟨by omega, by omega⟩, ?_⟩
        refine ⟨⟨by omega, by omega⟩, ?_⟩
        refine ⟨oM_0 (by omega) km0 3 rfl, ?_⟩
        refine ⟨⟨by omega, by omega⟩, ?_⟩
        refine ⟨⟨by omega, by omega⟩, ?_⟩
        refine ⟨⟨by omega, by omega⟩, ?_⟩
        refine ⟨⟨by omega, by omega⟩, ?_⟩
        refine ⟨⟨by omega, by omega⟩, ?_⟩
        refine ⟨aM_3 (r := B 0 3) (by rw [c3]; omega) (by rw [c3]; exact kn3) (by omega) (by omega), ?_⟩
        have e1 : B (B 0 3) ((12 * (((200 * s) + k) + 1)) + u) = B 3 ((12 * (((200 * s) + k) + 1)) + u) := by rw [c3]
        refine ⟨tM_3 (r := B 0 3) (by rw [c3]; omega) (by rw [c3]; exact kn3) (by omega) (by omega) rfl, ?_⟩
        refine ⟨⟨by omega, by omega⟩, ?_⟩
        exact Or.inr (⟨rfl, h0, rfl⟩)
theorem le_47 {A : pm_A} {s t n : Int} (hs : 0 ≤ s ∧ s ≤ 151) (t0 : 0 ≤ t) (t1 : t < A 1 s) (m2 : A 1 s ≤ 200) {z : pm_R → Prop} (H : ∀ C, leI A C s t (A 1 s - 1) → z (none, C)) : ∀ (m : Nat) (k : Int) (v6 : pm_V) (B : pm_A), (A 1 s - k).toNat < m → t ≤ k → k ≤ A 1 s - 1 → leI A B s t k → Tm pmt (an_sh wM) o_X10_less 47 ([(2, 0), (0, s), (0, t), (1, n), (9, 0), (0, k), v6], [], B) z := by
  intro m
  induction m with
  | zero => intro k v6 B h; omega
  | succ m ih =>
    intro k v6 B hn k0 k1 hI
    have hI0 := hI
    obtain ⟨g1, g2, g3, g4, g5, g6⟩ := hI
    have c1 := pM_1 g1
    have c2 := pM_2 g1
    have hk : A 1 s - 1 ≤ k → leI A B s t (A 1 s - 1) := fun h => by rw [show A 1 s - 1 = k by omega]; exact hI0
    refine wq_ok srt_less (fr := []) (cuts := [89]) (J := fun pc st => (pc = 89 ∧ (k < (B (B 0 1) s)) ∧ st = ([(2, 0), (0, s), (0, t), (1, n), (9, 0), (0, k), (0, 0)], [], pm_upd B (B 0 2) ((200 * s) + k) (B (B 0 2) (((200 * s) + k) + 1))))) ?_ 31 47 _ ?_
    · rintro pc st (⟨rfl, h0, rfl⟩)
      rw [c2]
      rw [c1, g3] at h0
      have b2 := eM_2 g1 (r := 2) (by omega) kn2 (j := 200 * s + k + 1) (by omega) (by omega)
      refine le_89 hs t0 k0 (by omega) m2 (fun C v6 hC => ih (k + 1) v6 C (by omega) (by omega) (by omega) hC) _ 0 _ (Nat.lt_succ_self _) (by omega) (by omega) ⟨⟨uM_2 g1 kn2 b2.1 b2.2, fun r j hr => ?_, ?_, fun q v q0 q1 v0 v1 => ?_, fun q v q0 q1 v0 v1 => ?_, fun q v q0 q1 v0 v1 => ?_⟩, ?_, fun v v0 v1 => by omega⟩
      · rw [upd_o (fun e => hr (by unfold inS; omega))]; exact g2 r j hr
      · rw [upd_o (by omega)]; exact g3
      · rw [upd_o (by omega), upd_o (by omega)]; exact g4 q v q0 q1 v0 v1
      · rw [upd_o (by omega), upd_o (by omega)]; exact g5 q v q0 q1 v0 v1
      · rw [upd_o (by omega), upd_o (by omega)]; exact g6 q v q0 q1 v0 v1
      · rw [upd_at]; have := (g6 (k + 1) 0 (by omega) (by omega) (by omega) (by omega)).1; rw [show 200 * s + (k + 1) = 200 * s + k + 1 by omega] at this; exact this
    · refine ⟨oM_0 (by omega) km0 1 rfl, ?_⟩
      refine ⟨aM_1 (r := B 0 1) (by rw [c1]; omega) (by rw [c1]; exact kn1) (by omega) (by omega), ?_⟩
      have e1 : B (B 0 1) s = B 1 s := by rw [c1]
      refine ⟨fun h0 => ?_, fun h0 => ?_⟩
      · exact H B (hk (by rw [c1, g3] at h0; exact h0))
      · refine ⟨oM_0 (by omega) km0 2 rfl, ?_⟩
        refine ⟨⟨by omega, by omega⟩, ?_⟩
        refine ⟨⟨by omega, by omega⟩, ?_⟩
        refine ⟨oM_0 (by omega) km0 2 rfl, ?_⟩
        refine ⟨⟨by omega, by omega⟩, ?_⟩
        refine ⟨⟨by omega, by omega⟩, ?_⟩
        refine ⟨⟨by omega, by omega⟩, ?_⟩
        refine ⟨aM_2 (r := B 0 2) (by rw [c2]; omega) (by rw [c2]; exact kn2) (by omega) (by omega), ?_⟩
        have e2 : B (B 0 2) (((200 * s) + k) + 1) = B 2 (((200 * s) + k) + 1) := by rw [c2]
        refine ⟨tM_2 (r := B 0 2) (by rw [c2]; omega) (by rw [c2]; exact kn2) (by omega) (by omega) rfl, ?_⟩
        exact ⟨rfl, h0, rfl⟩
theorem le_16 {A : pm_A} {s t n : Int} (hA : gH wM A) (hs : 0 ≤ s ∧ s ≤ 151) (t0 : 0 ≤ t) (t1 : t < A 1 s) (hsr : srtd A s) (hr : r64 (A 2 (200 * s + t) - n)) : Tm pmt (an_sh wM) o_X10_less 16 ([(2, 0), (0, s), (0, t), (1, n), (9, 0), (9, 0), (9, 0)], [], pm_upd A 2 (200 * s + t) (A 2 (200 * s + t) - n)) (le_post A s t n) := by
  have m1 := eM_1 hA (r := 1) (by omega) kn1 hs.1 (show s < 152 by omega)
  have hne : ∀ q : Nat, q < t.toNat → (fa A s q).2 ≠ xe A s t := fun q hq e => cr_Gt.irrefl _ (e ▸ hsr q t (by omega) (by omega) t1)
  have het : (fa A s t.toNat).2 = xe A s t := by show xe A s ((t.toNat : Nat) : Int) = _; rw [Int.toNat_of_nonneg t0]
  have hft : (fa A s t.toNat).1 = A 2 (200 * s + t) := by show A 2 (200 * s + ((t.toNat : Nat) : Int)) = _; rw [Int.toNat_of_nonneg t0]
  have hB : gH wM (pm_upd A 2 (200 * s + t) (A 2 (200 * s + t) - n)) := uM_2 hA kn2 hr.1 hr.2
  have hB2 : ∀ r j, ¬ inS s r j → pm_upd A 2 (200 * s + t) (A 2 (200 * s + t) - n) r j = A r j := fun r j h => upd_o (fun e => h (by unfold inS; omega))
  have hBt : pm_upd A 2 (200 * s + t) (A 2 (200 * s + t) - n) 2 (200 * s + t) = A 2 (200 * s + t) - n := upd_at
  have hBq : ∀ q : Int, q ≠ t → pm_upd A 2 (200 * s + t) (A 2 (200 * s + t) - n) 2 (200 * s + q) = A 2 (200 * s + q) := fun q h => upd_o (by omega)
  have hBx : ∀ j : Int, pm_upd A 2 (200 * s + t) (A 2 (200 * s + t) - n) 3 j = A 3 j := fun j => upd_o (by omega)
  have hBm : pm_upd A 2 (200 * s + t) (A 2 (200 * s + t) - n) 1 s = A 1 s := upd_o (by omega)
  revert hB hB2 hBt hBq hBx hBm
  generalize pm_upd A 2 (200 * s + t) (A 2 (200 * s + t) - n) = B
  intro hB hB2 hBt hBq hBx hBm
  have c1 := pM_1 hB
  have c2 := pM_2 hB
  have hmod : A 2 (200 * s + t) - n ≠ 0 → le_post A s t n (none, B) := fun h => ⟨rfl, hB, hB2, by
    show LSm B s = _
    rw [LSm_fa, LSm_fa, less_mod hne het (by rw [hft]; omega) _ (by omega), hBm]
    refine lsf_congr (fun q hq => ?_)
    by_cases e : q = t.toNat
    · rw [if_pos e, hft]
      refine Prod.ext ?_ (funext fun v => ?_)
      · show B 2 (200 * s + (q : Int)) = A 2 (200 * s + t) - n
        rw [show (q : Int) = t by omega]; exact hBt
      · show B 3 (12 * (200 * s + (q : Int)) + (v.1 : Int)) = A 3 (12 * (200 * s + t) + (v.1 : Int))
        rw [show (q : Int) = t by omega]; exact hBx _
    · rw [if_neg e]
      exact Prod.ext (hBq q (by omega)) (funext fun v => hBx _)⟩
  have hdel : A 2 (200 * s + t) - n = 0 → ∀ C, leI B C s t (B 1 s - 1) → le_post A s t n (none, C) := fun h C hC => by
    obtain ⟨d1, d2, d3, d4, d5, d6⟩ := hC
    refine ⟨rfl, d1, fun q j hq => (d2 q j hq).trans (hB2 q j hq), ?_⟩
    show LSm C s = _
    rw [LSm_fa, LSm_fa, show (A 1 s).toNat = (A 1 s - 1).toNat + 1 by omega, less_del hne het (by rw [hft]; omega) _ (by omega), d3, hBm]
    refine lsf_congr (fun q hq => ?_)
    by_cases e : q < t.toNat
    · rw [if_pos e]
      have hq2 := fun v : Int => d4 q v (by omega) (by omega)
      refine Prod.ext ?_ (funext fun v => ?_)
      · exact ((hq2 0 (by omega) (by omega)).1).trans (hBq q (by omega))
      · exact ((hq2 v.1 (by omega) (by have := v.2; omega)).2).trans (hBx _)
    · rw [if_neg e]
      have hq2 := fun v : Int => d5 q v (by omega) (by omega)
      refine Prod.ext ?_ (funext fun v => ?_)
      · show C 2 (200 * s + (q : Int)) = A 2 (200 * s + ((q + 1 : Nat) : Int))
        rw [(hq2 0 (by omega) (by omega)).1, show 200 * s + (q : Int) + 1 = 200 * s + ((q : Int) + 1) by omega, hBq _ (by omega)]
        congr 1
      · show C 3 (12 * (200 * s + (q : Int)) + (v.1 : Int)) = A 3 (12 * (200 * s + ((q + 1 : Nat) : Int)) + (v.1 : Int))
        rw [(hq2 v.1 (by omega) (by have := v.2; omega)).2, hBx]
        congr 1
        omega
  refine wq_ok srt_less (fr := []) (cuts := [47]) (J := fun pc st => (pc = 47 ∧ ((B (B 0 2) ((200 * s) + t)) = 0) ∧ st = ([(2, 0), (0, s), (0, t), (1, n), (9, 0), (0, t), (9, 0)], [], pm_upd B (B 0 1) s ((B (B 0 1) s) - 1)))) ?_ 26 16 _ ?_
  · rintro pc st (⟨rfl, h0, rfl⟩)
    rw [c1]
    rw [c2] at h0
    refine le_47 (A := B) hs t0 (by omega) (by omega) (hdel (by omega)) _ _ _ _ (Nat.lt_succ_self _) (by omega) (by omega) ⟨uM_1 hB kn1 (by omega) (by omega), fun r j hr => upd_o (fun e => hr (by unfold inS; omega)), upd_at, fun q v q0 q1 v0 v1 => ⟨upd_o (by omega), upd_o (by omega)⟩, fun q v q0 q1 v0 v1 => by omega, fun q v q0 q1 v0 v1 => ⟨upd_o (by omega), upd_o (by omega)⟩⟩
  · refine ⟨oM_0 (by omega) km0 2 rfl, ?_⟩
    refine ⟨⟨by omega, by omega⟩, ?_⟩
    refine ⟨⟨by omega, by omega⟩, ?_⟩
    refine ⟨aM_2 (r := B 0 2) (by rw [c2]; omega) (by rw [c2]; exact kn2) (by omega) (by omega), ?_⟩
    have e1 : B (B 0 2) ((200 * s) + t) = B 2 ((200 * s) + t) := by rw [c2]
    refine ⟨fun h0 => ?_, fun h0 => ?_, fun h0 => ?_⟩
    · refine ⟨fun hh => absurd hh (by decide), fun _ => ?_⟩
      exact hmod (by omega)
    · refine ⟨fun _ => ?_, fun hh => absurd hh (by decide)⟩
      refine ⟨oM_0 (by omega) km0 1 rfl, ?_⟩
      refine ⟨aM_1 (r := B 0 1) (by rw [c1]; omega) (by rw [c1]; exact kn1) (by omega) (by omega), ?_⟩
      have e2 : B (B 0 1) s = B 1 s := by rw [c1]
      refine ⟨⟨by omega, by omega⟩, ?_⟩
      refine ⟨tM_1 (r := B 0 1) (by rw [c1]; omega) (by rw [c1]; exact kn1) (by omega) (by omega) rfl, ?_⟩
      exact ⟨rfl, h0, rfl⟩
    · refine ⟨fun hh => absurd hh (by decide), fun _ => ?_⟩
      exact hmod (by omega)
theorem less_ex {A : pm_A} {s t n : Int} (hA : gH wM A) (hs : 0 ≤ s ∧ s ≤ 151) (t0 : 0 ≤ t) (t1 : t < A 1 s) (hsr : srtd A s) (hr : r64 (A 2 (200 * s + t) - n)) : Cl pmt (an_sh wM) 164 [(2, 0), (0, s), (0, t), (1, n)] A (le_post A s t n) := by
  have m1 := eM_1 hA (r := 1) (by omega) kn1 hs.1 (show s < 152 by omega)
  have c2 := pM_2 hA
  refine Cl.of (Nat.le_of_ble_eq_true rfl) ?_
  refine wq_ok (full := o_X10_less) srt_less (fr := []) (cuts := [16]) (J := fun pc st => (pc = 16 ∧ st = ([(2, 0), (0, s), (0, t), (1, n), (9, 0), (9, 0), (9, 0)], [], pm_upd A (A 0 2) ((200 * s) + t) ((A (A 0 2) ((200 * s) + t)) - n)))) ?_ 17 0 _ ?_
  · rintro pc st (⟨rfl, rfl⟩)
    rw [c2]
    exact le_16 hA hs t0 t1 hsr hr
  · refine ⟨oM_0 (by omega) km0 2 rfl, ?_⟩
    refine ⟨⟨by omega, by omega⟩, ?_⟩
    refine ⟨⟨by omega, by omega⟩, ?_⟩
    refine ⟨aM_2 (r := A 0 2) (by rw [c2]; omega) (by rw [c2]; exact kn2) (by omega) (by omega), ?_⟩
    have e1 : A (A 0 2) ((200 * s) + t) = A 2 ((200 * s) + t) := by rw [c2]
    refine ⟨(by rw [e1]; exact hr), ?_⟩
    refine ⟨tM_2 (r := A 0 2) (by rw [c2]; omega) (by rw [c2]; exact kn2) (by omega) (by omega) rfl, ?_⟩
    exact ⟨rfl, rfl⟩
theorem lsf_cons (m : Nat) (f : Nat → Int × cr_Xp 12) : lsf (m + 1) f = f 0 :: lsf m (fun q => f (q + 1)) := by
  unfold lsf
  rw [List.range_succ_eq_map, List.map_cons, List.map_map]
  rfl
theorem lsf_rev : ∀ (m : Nat) (f : Nat → Int × cr_Xp 12), lsf m (fun q => f (m - 1 - q)) = (lsf m f).reverse
  | 0, f => rfl
  | m + 1, f => by
    rw [lsf_cons, lsf_succ, List.reverse_append, ← lsf_rev m f]
    show f (m + 1 - 1 - 0) :: _ = [f m] ++ _
    rw [show m + 1 - 1 - 0 = m by omega]
    show _ :: _ = f m :: _
    congr 1
    refine lsf_congr (fun q hq => ?_)
    show f (m + 1 - 1 - (q + 1)) = f (m - 1 - q)
    congr 1
    omega
theorem srt_turnRound : pm_srt o_X10_turnRound = true := by decide +kernel
def tr_post (A : pm_A) (s : Int) (r : pm_R) : Prop := r.1 = none ∧ gH wM r.2 ∧ (∀ q j, ¬ inS s q j → r.2 q j = A q j) ∧ LSm r.2 s = (LSm A s).reverse
def trI (A B : pm_A) (s t : Int) : Prop := gH wM B ∧ (∀ r j, ¬ inS s r j → B r j = A r j) ∧ B 1 s = A 1 s ∧ (∀ q v : Int, 0 ≤ q → q < A 1 s → (q < t ∨ A 1 s - 1 - t < q) → 0 ≤ v → v < 12 → B 2 (200 * s + q) = A 2 (200 * s + (A 1 s - 1 - q)) ∧ B 3 (12 * (200 * s + q) + v) = A 3 (12 * (200 * s + (A 1 s - 1 - q)) + v)) ∧ ∀ q v : Int, t ≤ q → q ≤ A 1 s - 1 - t → 0 ≤ v → v < 12 → B 2 (200 * s + q) = A 2 (200 * s + q) ∧ B 3 (12 * (200 * s + q) + v) = A 3 (12 * (200 * s + q) + v)
def trJ (A B : pm_A) (s t w : Int) : Prop := gH wM B ∧ (∀ r j, ¬ inS s r j → B r j = A r j) ∧ B 1 s = A 1 s ∧ (∀ q v : Int, 0 ≤ q → q < A 1 s → (q < t ∨ A 1 s - 1 - t < q) → 0 ≤ v → v < 12 → B 2 (200 * s + q) = A 2 (200 * s + (A 1 s - 1 - q)) ∧ B 3 (12 * (200 * s + q) + v) = A 3 (12 * (200 * s + (A 1 s - 1 - q)) + v)) ∧ (∀ q v : Int, t < q → q < A 1 s - 1 - t → 0 ≤ v → v < 12 → B 2 (200 * s + q) = A 2 (200 * s + q) ∧ B 3 (12 * (200 * s + q) + v) = A 3 (12 * (200 * s + q) + v)) ∧ (B 2 (200 * s + t) = A 2 (200 * s + (A 1 s - 1 - t)) ∧ B 2 (200 * s + (A 1 s - 1 - t)) = A 2 (200 * s + t)) ∧ (∀ v : Int, 0 ≤ v → v < w → B 3 (12 * (200 * s + t) + v) = A 3 (12 * (200 * s + (A 1 s - 1 - t)) + v) ∧ B 3 (12 * (200 * s + (A 1 s - 1 - t)) + v) = A 3 (12 * (200 * s + t) + v)) ∧ ∀ v : Int, w ≤ v → v < 12 → B 3 (12 * (200 * s + t) + v) = A 3 (12 * (200 * s + t) + v) ∧ B 3 (12 * (200 * s + (A 1 s - 1 - t)) + v) = A 3 (12 * (200 * s + (A 1 s - 1 - t)) + v)
theorem tr_82 {A : pm_A} {s t n : Int} (hs : 0 ≤ s ∧ s ≤ 151) (t0 : 0 ≤ t) (t1 : 2 * t < A 1 s - 1) (m2 : A 1 s ≤ 200) {z : pm_R → Prop} (H : ∀ C v3 v6 v7, trI A C s (t + 1) → Tm pmt (an_sh wM) o_X10_turnRound 2 ([(2, 0), (0, s), (0, t + 1), v3, (1, n), (9, 0), v6, v7], [], C) z) : ∀ (m : Nat) (w : Int) (v7 : pm_V) (B : pm_A), (12 - w).toNat < m → 0 ≤ w → w ≤ 12 → trJ A B s t w → Tm pmt (an_sh wM) o_X10_turnRound 82 ([(2, 0), (0, s), (0, t), (0, A 1 s - 1 - t), (1, n), (9, 0), (0, w), v7], [], B) z := by
  intro m
  induction m with
  | zero => intro w v7 B h; omega
  | succ m ih =>
    intro w v7 B hn w0 w1 hJ
    obtain ⟨g1, g2, g3, g4, g5, g6, g7, g8⟩ := hJ
    have c3 := pM_3 g1
    have c3p : ∀ x : Int, pm_upd B (B 0 3) (12 * (200 * s + t) + w) x 0 3 = 3 := fun x => by rw [c3, upd_o (by omega)]; exact c3
    refine wq_ok srt_turnRound (fr := []) (cuts := [2, 82]) (J := fun pc st => (pc = 2 ∧ (12 ≤ w) ∧ st = ([(2, 0), (0, s), (0, t + 1), (0, A 1 s - 1 - t), (1, n), (9, 0), (0, w), v7], [], B)) ∨ (pc = 82 ∧ (w < 12) ∧ st = ([(2, 0), (0, s), (0, t), (0, A 1 s - 1 - t), (1, n), (9, 0), (0, w + 1), (0, B (B 0 3) ((12 * ((200 * s) + t)) + w))], [], pm_upd (pm_upd B (B 0 3) ((12 * ((200 * s) + t)) + w) (B (B 0 3) ((12 * ((200 * s) + (A 1 s - 1 - t))) + w))) ((pm_upd B (B 0 3) ((12 * ((200 * s) + t)) + w) (B (B 0 3) ((12 * ((200 * s) + (A 1 s - 1 - t))) + w))) 0 3) ((12 * ((200 * s) + (A 1 s - 1 - t))) + w) (B (B 0 3) ((12 * ((200 * s) + t)) + w))))) ?_ 60 82 _ ?_
    · rintro pc st (⟨rfl, h0, rfl⟩ | ⟨rfl, h0, rfl⟩)
      · refine H B _ _ _ ⟨g1, g2, g3, fun q v q0 q1 hq v0 v1 => ?_, fun q v q0 q1 v0 v1 => g5 q v (by omega) (by omega) v0 v1⟩
        by_cases e1 : q = t
        · rw [e1]; exact ⟨g6.1, (g7 v v0 (by omega)).1⟩
        · by_cases e2 : q = A 1 s - 1 - t
          · rw [e2, show A 1 s - 1 - (A 1 s - 1 - t) = t by omega]; exact ⟨g6.2, (g7 v v0 (by omega)).2⟩
          · exact g4 q v q0 q1 (by omega) v0 v1
      · rw [c3p, c3]
        have b3 := eM_3 g1 (r := 3) (by omega) kn3 (j := 12 * (200 * s + (A 1 s - 1 - t)) + w) (by omega) (by omega)
        have b4 := eM_3 g1 (r := 3) (by omega) kn3 (j := 12 * (200 * s + t) + w) (by omega) (by omega)
        have hw := g8 w (by omega) h0
        refine ih (w + 1) _ _ (by omega) (by omega) (by omega) ⟨uM_3 (uM_3 g1 kn3 b3.1 b3.2) kn3 b4.1 b4.2, fun r j hr => ?_, ?_, fun q v q0 q1 hq v0 v1 => ?_, fun q v q0 q1 v0 v1 => ?_, ?_, fun v v0 v1 => ?_, fun v v0 v1 => ?_⟩
        · rw [upd_o (fun e => hr (by unfold inS; omega)), upd_o (fun e => hr (by unfold inS; omega))]; exact g2 r j hr
        · rw [upd_o (by omega), upd_o (by omega)]; exact g3
        · rw [upd_o (by omega), upd_o (by omega), upd_o (by omega), upd_o (by omega)]; exact g4 q v q0 q1 hq v0 v1
        · rw [upd_o (by omega), upd_o (by omega), upd_o (by omega), upd_o (by omega)]; exact g5 q v q0 q1 v0 v1
        · rw [upd_o (by omega), upd_o (by omega), upd_o (by omega), upd_o (by omega)]; exact g6
        · by_cases hv : v = w
          · rw [hv, upd_at, upd_o (by omega), upd_at, hw.1, hw.2]; exact ⟨rfl, rfl⟩
          · rw [upd_o (by omega), upd_o (by omega), upd_o (by omega), upd_o (by omega)]; exact g7 v v0 (by omega)
        · rw [upd_o (by omega), upd_o (by omega), upd_o (by omega), upd_o (by omega)]; exact g8 v (by omega) v1
    · refine ⟨fun h0 => ?_, fun h0 => ?_⟩
      · refine ⟨⟨by omega, by omega⟩, ?_⟩
        exact Or.inl (⟨rfl, h0, rfl⟩)
      · refine ⟨oM_0 (by omega) km0 3 rfl, ?_⟩
        refine ⟨⟨by omega, by omega⟩, ?_⟩
        refine ⟨⟨by omega, by omega⟩, ?_⟩
        refine ⟨⟨by omega, by omega⟩, ?_⟩
        refine ⟨⟨by omega, by omega⟩, ?_⟩
        refine ⟨aM_3 (r := B 0 3) (by first | rw [c3]; omega | rw [c3p]; omega) (by first | rw [c3]; exact kn3 | rw [c3p]; exact kn3) (by omega) (by omega), ?_⟩
        have e1 : B (B 0 3) ((12 * ((200 * s) + t)) + w) = B 3 ((12 * ((200 * s) + t)) + w) := by rw [c3]
        refine ⟨oM_0 (by omega) km0 3 rfl, ?_⟩
        refine ⟨⟨by omega, by omega⟩, ?_⟩
        refine ⟨⟨by omega, by omega⟩, ?_⟩
        refine ⟨⟨by omega, by omega⟩, ?_⟩
        refine ⟨⟨by omega, by omega⟩, ?_⟩
        refine ⟨oM_0 (by omega) km0 3 rfl, ?_⟩
        refine ⟨⟨by omega, by omega⟩, ?_⟩
        refine ⟨⟨by omega, by omega⟩, ?_⟩
        refine ⟨⟨by omega, by omega⟩, ?_⟩
        refine ⟨⟨by omega, by omega⟩, ?_⟩
        refine ⟨aM_3 (r := B 0 3) (by first | rw [c3]; omega | rw [c3p]; omega) (by first | rw [c3]; exact kn3 | rw [c3p]; exact kn3) (by omega) (by omega), ?_⟩
        have e2 : B (B 0 3) ((12 * ((200 * s) + (A 1 s - 1 - t))) + w) = B 3 ((12 * ((200 * s) + (A 1 s - 1 - t))) + w) := by rw [c3]
        refine ⟨tM_3 (r := B 0 3) (by first | rw [c3]; omega | rw [c3p]; omega) (by first | rw [c3]; exact kn3 | rw [c3p]; exact kn3) (by omega) (by omega) rfl, ?_⟩
        refine ⟨oM_0 (by omega) km0 3 rfl, ?_⟩
        refine ⟨⟨by omega, by omega⟩, ?_⟩
        refine ⟨⟨by omega, by omega⟩, ?_⟩
        refine ⟨⟨by omega, by omega⟩, ?_⟩
        refine ⟨⟨by omega, by omega⟩, ?_⟩
        refine ⟨tM_3 (r := (pm_upd B (B 0 3) ((12 * ((200 * s) + t)) + w) (B (B 0 3) ((12 * ((200 * s) + (A 1 s - 1 - t))) + w))) 0 3) (by first | rw [c3]; omega | rw [c3p]; omega) (by first | rw [c3]; exact kn3 | rw [c3p]; exact kn3) (by omega) (by omega) rfl, ?_⟩
        refine ⟨⟨by omega, by omega⟩, ?_⟩
        exact Or.inr (⟨rfl, h0, rfl⟩)
theorem tr_2 {A : pm_A} {s : Int} (hA : gH wM A) (hs : 0 ≤ s ∧ s ≤ 151) : ∀ (m : Nat) (t : Int) (v3 v4 v5 v6 v7 : pm_V) (B : pm_A), (A 1 s - t).toNat < m → 0 ≤ t → t ≤ A 1 s → trI A B s t → Tm pmt (an_sh wM) o_X10_turnRound 2 ([(2, 0), (0, s), (0, t), v3, v4, v5, v6, v7], [], B) (tr_post A s) := by
  have m1 := eM_1 hA (r := 1) (by omega) kn1 hs.1 (show s < 152 by omega)
  intro m
  induction m with
  | zero => intro t v3 v4 v5 v6 v7 B h; omega
  | succ m ih =>
    intro t v3 v4 v5 v6 v7 B hn t0 t1 hI
    obtain ⟨g1, g2, g3, g4, g5⟩ := hI
    have c1 := pM_1 g1
    have c2 := pM_2 g1
    have c2p : ∀ x y : Int, pm_upd B (B 0 2) x y 0 2 = 2 := fun x y => by rw [c2, upd_o (by omega)]; exact c2
    have hfin : A 1 s - 1 ≤ 2 * t → LSm B s = (LSm A s).reverse := fun h => by
      rw [LSm_fa, LSm_fa, ← lsf_rev, g3]
      refine lsf_congr (fun q hq => ?_)
      have hall : ∀ v : Int, 0 ≤ v → v < 12 → B 2 (200 * s + (q : Int)) = A 2 (200 * s + (A 1 s - 1 - (q : Int))) ∧ B 3 (12 * (200 * s + (q : Int)) + v) = A 3 (12 * (200 * s + (A 1 s - 1 - (q : Int))) + v) := fun v v0 v1 => by
        by_cases hq2 : (q : Int) < t ∨ A 1 s - 1 - t < (q : Int)
        · exact g4 q v (by omega) (by omega) hq2 v0 v1
        · have := g5 q v (by omega) (by omega) v0 v1
          rw [show A 1 s - 1 - (q : Int) = (q : Int) by omega]
          exact this
      have hc : (((A 1 s).toNat - 1 - q : Nat) : Int) = A 1 s - 1 - (q : Int) := by omega
      refine Prod.ext ?_ (funext fun v => ?_)
      · show B 2 (200 * s + (q : Int)) = A 2 (200 * s + (((A 1 s).toNat - 1 - q : Nat) : Int))
        rw [hc]; exact (hall 0 (by omega) (by omega)).1
      · show B 3 (12 * (200 * s + (q : Int)) + (v.1 : Int)) = A 3 (12 * (200 * s + (((A 1 s).toNat - 1 - q : Nat) : Int)) + (v.1 : Int))
        rw [hc]; exact (hall v.1 (by omega) (by have := v.2; omega)).2
    refine wq_ok srt_turnRound (fr := []) (cuts := [82]) (J := fun pc st => (pc = 82 ∧ ((2 * t) < ((B (B 0 1) s) - 1)) ∧ st = ([(2, 0), (0, s), (0, t), (0, ((B (B 0 1) s) - 1) - t), (1, B (B 0 2) ((200 * s) + t)), (9, 0), (0, 0), v7], [], pm_upd (pm_upd B (B 0 2) ((200 * s) + t) (B (B 0 2) ((200 * s) + (((B (B 0 1) s) - 1) - t)))) ((pm_upd B (B 0 2) ((200 * s) + t) (B (B 0 2) ((200 * s) + (((B (B 0 1) s) - 1) - t)))) 0 2) ((200 * s) + (((B (B 0 1) s) - 1) - t)) (B (B 0 2) ((200 * s) + t))))) ?_ 60 2 _ ?_
    · rintro pc st (⟨rfl, h0, rfl⟩)
      rw [c1, g3] at h0
      rw [c2p, c1, g3, c2]
      have b2 := eM_2 g1 (r := 2) (by omega) kn2 (j := 200 * s + (A 1 s - 1 - t)) (by omega) (by omega)
      have b3 := eM_2 g1 (r := 2) (by omega) kn2 (j := 200 * s + t) (by omega) (by omega)
      have r1 := g5 t 0 (by omega) (by omega) (by omega) (by omega)
      have r2 := g5 (A 1 s - 1 - t) 0 (by omega) (by omega) (by omega) (by omega)
      refine tr_82 hs t0 (by omega) m1.2 (fun C v3 v6 v7 hC => ih (t + 1) _ _ _ _ _ C (by omega) (by omega) (by omega) hC) _ 0 _ _ (Nat.lt_succ_self _) (by omega) (by omega) ⟨uM_2 (uM_2 g1 kn2 b2.1 b2.2) kn2 b3.1 b3.2, fun r j hr => ?_, ?_, fun q v q0 q1 hq v0 v1 => ?_, fun q v q0 q1 v0 v1 => ?_, ?_, fun v v0 v1 => by omega, fun v v0 v1 => ?_⟩
      · rw [upd_o (fun e => hr (by unfold inS; omega)), upd_o (fun e => hr (by unfold inS; omega))]; exact g2 r j hr
      · rw [upd_o (by omega), upd_o (by omega)]; exact g3
      · rw [upd_o (by omega), upd_o (by omega), upd_o (by omega), upd_o (by omega)]; exact g4 q v q0 q1 hq v0 v1
      · rw [upd_o (by omega), upd_o (by omega), upd_o (by omega), upd_o (by omega)]; exact g5 q v (by omega) (by omega) v0 v1
      · rw [upd_at, upd_o (by omega), upd_at, r1.1, r2.1]; exact ⟨rfl, rfl⟩
      · rw [upd_o (by omega), upd_o (by omega), upd_o (by omega), upd_o (by omega)]; exact ⟨(g5 t v (by omega) (by omega) (by omega) v1).2, (g5 (A 1 s - 1 - t) v (by omega) (by omega) (by omega) v1).2⟩
    · refine ⟨⟨by omega, by omega⟩, ?_⟩
      refine ⟨oM_0 (by omega) km0 1 rfl, ?_⟩
      refine ⟨aM_1 (r := B 0 1) (by rw [c1]; omega) (by rw [c1]; exact kn1) (by omega) (by omega), ?_⟩
      have e1 : B (B 0 1) s = B 1 s := by rw [c1]
      refine ⟨⟨by omega, by omega⟩, ?_⟩
      refine ⟨fun h0 => ?_, fun h0 => ?_⟩
      · exact ⟨rfl, g1, g2, hfin (by rw [c1, g3] at h0; omega)⟩
      · refine ⟨oM_0 (by omega) km0 1 rfl, ?_⟩
        refine ⟨aM_1 (r := B 0 1) (by rw [c1]; omega) (by rw [c1]; exact kn1) (by omega) (by omega), ?_⟩
        have e2 : B (B 0 1) s = B 1 s := by rw [c1]
        refine ⟨⟨by omega, by omega⟩, ?_⟩
        refine ⟨⟨by omega, by omega⟩, ?_⟩
        refine ⟨oM_0 (by omega) km0 2 rfl, ?_⟩
        refine ⟨⟨by omega, by omega⟩, ?_⟩
        refine ⟨⟨by omega, by omega⟩, ?_⟩
        refine ⟨aM_2 (r := B 0 2) (by first | rw [c2]; omega | rw [c2p]; omega) (by first | rw [c2]; exact kn2 | rw [c2p]; exact kn2) (by omega) (by omega), ?_⟩
        have e3 : B (B 0 2) ((200 * s) + t) = B 2 ((200 * s) + t) := by rw [c2]
        refine ⟨oM_0 (by omega) km0 2 rfl, ?_⟩
        refine ⟨⟨by omega, by omega⟩, ?_⟩
        refine ⟨⟨by omega, by omega⟩, ?_⟩
        refine ⟨oM_0 (by omega) km0 2 rfl, ?_⟩
        refine ⟨⟨by omega, by omega⟩, ?_⟩
        refine ⟨⟨by omega, by omega⟩, ?_⟩
        refine ⟨aM_2 (r := B 0 2) (by first | rw [c2]; omega | rw [c2p]; omega) (by first | rw [c2]; exact kn2 | rw [c2p]; exact kn2) (by omega) (by omega), ?_⟩
        have e4 : B (B 0 2) ((200 * s) + (((B (B 0 1) s) - 1) - t)) = B 2 ((200 * s) + (((B (B 0 1) s) - 1) - t)) := by rw [c2]
        refine ⟨tM_2 (r := B 0 2) (by first | rw [c2]; omega | rw [c2p]; omega) (by first | rw [c2]; exact kn2 | rw [c2p]; exact kn2) (by omega) (by omega) rfl, ?_⟩
        refine ⟨oM_0 (by omega) km0 2 rfl, ?_⟩
        refine ⟨⟨by omega, by omega⟩, ?_⟩
        refine ⟨⟨by omega, by omega⟩, ?_⟩
        refine ⟨tM_2 (r := (pm_upd B (B 0 2) ((200 * s) + t) (B (B 0 2) ((200 * s) + (((B (B 0 1) s) - 1) - t)))) 0 2) (by first | rw [c2]; omega | rw [c2p]; omega) (by first | rw [c2]; exact kn2 | rw [c2p]; exact kn2) (by omega) (by omega) rfl, ?_⟩
        exact ⟨rfl, h0, rfl⟩
theorem turnRound_ex {A : pm_A} {s : Int} (hA : gH wM A) (hs : 0 ≤ s ∧ s ≤ 151) : Cl pmt (an_sh wM) 199 [(2, 0), (0, s)] A (tr_post A s) := by
  have m1 := eM_1 hA (r := 1) (by omega) kn1 hs.1 (show s < 152 by omega)
  refine Cl.of (Nat.le_of_ble_eq_true rfl) ?_
  refine wq_ok (full := o_X10_turnRound) srt_turnRound (fr := []) (cuts := [2]) (J := fun pc st => (pc = 2 ∧ st = ([(2, 0), (0, s), (0, 0), (9, 0), (9, 0), (9, 0), (9, 0), (9, 0)], [], A))) ?_ 7 0 _ ?_
  · rintro pc st (⟨rfl, rfl⟩)
    exact tr_2 hA hs _ 0 _ _ _ _ _ A (Nat.lt_succ_self _) (by omega) (by omega) ⟨hA, fun _ _ _ => rfl, rfl, fun q v q0 q1 hq v0 v1 => by omega, fun q v q0 q1 v0 v1 => ⟨rfl, rfl⟩⟩
  · exact ⟨rfl, rfl⟩
end
