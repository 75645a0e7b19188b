section
/-! order of the reference -/
def odF (A B : pm_A) : Prop := gH wM B ∧ ∀ r j : Int, 0 ≤ r → r ≤ 38 → 0 ≤ j → (r = 0 → j < 100) → (∀ t : Int, (0 ≤ t ∧ t ≤ 5) ∨ (42 ≤ t ∧ t ≤ 47) → ¬ inS t r j) → r ≠ 4 → r ≠ 5 → r ≠ 12 → r ≠ 16 → ¬ (r = 0 ∧ (j = 4 ∨ j = 5)) → B r j = A r j
theorem odF.tr {A B C : pm_A} (h : odF A B) (g : odF B C) : odF A C := ⟨g.1, fun r j r0 r1 j0 j1 a1 a2 a3 a4 a5 a6 => (g.2 r j r0 r1 j0 j1 a1 a2 a3 a4 a5 a6).trans (h.2 r j r0 r1 j0 j1 a1 a2 a3 a4 a5 a6)⟩
theorem odF.fld {A B : pm_A} (h : odF A B) {j : Int} (j0 : 0 ≤ j) (j1 : j < 100) (h4 : j ≠ 4) (h5 : j ≠ 5) : B 0 j = A 0 j := h.2 0 j (by omega) (by omega) j0 (fun _ => j1) (fun t t0 ht => by unfold inS at ht; omega) (by omega) (by omega) (by omega) (by omega) (by omega)
theorem odF.cell {A B : pm_A} (h : odF A B) {r j : Int} (h0 : 5 < r) (h38 : r ≤ 38) (h1 : r ≠ 12) (h2 : r ≠ 16) (j0 : 0 ≤ j) : B r j = A r j := h.2 r j (by omega) h38 j0 (by omega) (fun t t0 ht => by unfold inS at ht; omega) (by omega) (by omega) h1 h2 (by omega)
theorem odF.slot {A B : pm_A} (h : odF A B) {p : Int} (h0 : 6 ≤ p) (h1 : p ≤ 41 ∨ 48 ≤ p) : ∀ r j, inS p r j → B r j = A r j := fun r j hj => h.2 r j (by unfold inS at hj; omega) (by unfold inS at hj; omega) (by unfold inS at hj; omega) (by unfold inS at hj; omega) (fun t t0 ht => by unfold inS at *; omega) (by unfold inS at hj; omega) (by unfold inS at hj; omega) (by unfold inS at hj; omega) (by unfold inS at hj; omega) (by unfold inS at hj; omega)
theorem sh_arr : ∀ i, i < 39 → (1 ≤ i → (an_sh wM ((i : Nat) : Int)).1 = 1 ∧ wM.2 ((i : Nat) : Int) = i) := by decide
theorem fr_out {r j : Int} (r0 : 0 ≤ r) (r1 : r ≤ 38) (j0 : 0 ≤ j) (j1 : r = 0 → j < 100) {ms : List Nat} (h1 : r = 0 → ¬ (1000 + j.toNat) ∈ ms) (h2 : r ≠ 0 → ¬ (10000 + r.toNat) ∈ ms) : ¬ mcode wM r j ∈ ms := by
  by_cases e : r = 0
  · subst e; rw [mc_0]; exact h1 rfl
  · have h := sh_arr r.toNat (by omega) (by omega)
    rw [Int.toNat_of_nonneg r0] at h
    unfold mcode
    rw [h.1, h.2]
    exact h2 e
theorem turns_od {B : pm_A} (h : ∃ s ks, Tru s ks B) {k : Int} (k0 : 0 ≤ k) (k1 : k < B 0 7) : Cl pmt (an_sh wM) 200 [(2, 0), (0, k)] B (fun r => (r.1 = some (0, 0) ∨ r.1 = some (0, 1)) ∧ (∃ s ks, Tru s ks r.2) ∧ odF B r.2) := by
  obtain ⟨s, ks, hT⟩ := h
  have p7 := fM_0_7 hT.1 (r := 0) (by omega) km0
  have hk : k = ((⟨k.toNat, by omega⟩ : Fin 12).1 : Int) := by show k = ((k.toNat : Nat) : Int); omega
  have hk1 : ((⟨k.toNat, by omega⟩ : Fin 12).1 : Int) < B 0 7 := by rw [← hk]; exact k1
  rw [hk]
  refine (turns_ex hT hk1).imp ?_
  rintro ⟨r1, C⟩ (⟨q1, q2, q3⟩ | ⟨q1, q2, q3, q4⟩)
  · exact ⟨Or.inl q1, ⟨s, ks, q3⟩, q2.1, fun r j r0 r1 j0 j1 a1 a2 a3 a4 a5 a6 => q2.2 r j (fun t t0 t1 => a1 t (Or.inr ⟨t0, t1⟩)) a2 a4 a6⟩
  · exact ⟨Or.inr q1, ⟨s, _, q2⟩, q3, fun r j r0 r1 j0 j1 a1 a2 a3 a4 a5 a6 => q4 r j (fun t t0 t1 => a1 t (Or.inr ⟨t0, t1⟩)) (a1 _ (Or.inl ⟨by omega, by omega⟩)) a2 a3 a4 a6⟩
theorem begun_od {B : pm_A} (h : ∃ s ks, Tru s ks B) : Cl pmt (an_sh wM) 153 [(2, 0)] B (fun r => (∃ x, r.1 = some (0, x) ∧ 0 ≤ x ∧ x ≤ 1) ∧ (∃ s ks, Tru s ks r.2) ∧ odF B r.2) := by
  obtain ⟨s, ks, hT⟩ := h
  have p7 := fM_0_7 hT.1 (r := 0) (by omega) km0
  refine (isBegun_ct hT.1).imp ?_
  rintro ⟨r1, C⟩ ⟨x, hx, hx2, q1, q2⟩
  simp only at q1 q2
  have hf : ∀ r j : Int, 0 ≤ r → r ≤ 38 → 0 ≤ j → (r = 0 → j < 100) → r ≠ 16 → C r j = B r j := fun r j r0 r1 j0 j1 hne => q2 r j r0 j0 (fr_out r0 r1 j0 j1 (fun h => by rw [List.mem_singleton]; omega) (fun h => by rw [List.mem_singleton]; omega))
  exact ⟨⟨x, hx, hx2⟩, ⟨s, ks, hT.same q1 (hf 0 7 (by omega) (by omega) (by omega) (by omega) (by omega)) (hf 0 8 (by omega) (by omega) (by omega) (by omega) (by omega)) (fun j j0 _ => hf 5 j (by omega) (by omega) j0 (by omega) (by omega)) (fun p p0 p1 r j hr => hf r j (by unfold inS at hr; omega) (by unfold inS at hr; omega) (by unfold inS at hr; omega) (by unfold inS at hr; omega) (by unfold inS at hr; omega))⟩, q1, fun r j r0 r1 j0 j1 _ _ _ _ h16 _ => hf r j r0 r1 j0 j1 h16⟩
def odI (A B : pm_A) : Prop := (∃ s ks, Tru s ks B) ∧ odF A B
theorem srt_Morder : pm_srt o_X10_order = true := by decide +kernel
theorem od_120 {A A1 B : pm_A} (hA : RI A) (h1 : savesJ A A1 36 72) (hB : odI A1 B) {ans : Int} (w2 w3 w4 : pm_V) : Tm pmt (an_sh wM) o_X10_order 120 ([(2, 0), (0, ans), w2, w3, w4], [], B) ri_post := by
  obtain ⟨⟨s, ks, hT⟩, ⟨b1, b2⟩, hRG⟩ := hA
  have p7 := fM_0_7 hT.1 (r := 0) (by omega) km0
  have s1 : ∀ r j : Int, r ≠ 22 → (∀ t : Int, 36 ≤ t → t ≤ 41 → ¬ inS t r j) → A1 r j = A r j := fun r j hr hn => h1.2.1 r j (fun t t0 t1 ht => hn (36 + t) (by omega) (by omega) ht) hr
  have e7 : B 0 7 = A 0 7 := by rw [hB.2.fld (by omega) (by omega) (by omega) (by omega)]; exact s1 0 7 (by omega) (fun t t0 t1 ht => by unfold inS at ht; omega)
  refine wq_ok srt_Morder (fr := []) (cuts := [126]) (J := fun pc st => (pc = 126 ∧ ∃ C, restoresJ B C 36 72 ∧ st = ([(2, 0), (0, ans), w2, w3, w4], [], C))) ?_ 7 120 _ ?_
  · rintro pc st (⟨rfl, C, ⟨q2, q3, q4, q5⟩, rfl⟩)
    have cC : ∀ r j : Int, 5 < r → r ≤ 38 → r ≠ 12 → r ≠ 16 → r ≠ 22 → 0 ≤ j → C r j = A r j := fun r j a1 a5 a2 a3 a4 j0 => by rw [q3 r j (fun t t0 t1 ht => by unfold inS at ht; omega) (by omega), hB.2.cell a1 a5 a2 a3 j0]; exact s1 r j a4 (fun t t0 t1 ht => by unfold inS at ht; omega)
    have c0 : ∀ j : Int, 0 ≤ j → j < 100 → j ≠ 4 → j ≠ 5 → C 0 j = A 0 j := fun j j0 j3 j1 j2 => by rw [q3 0 j (fun t t0 t1 ht => by unfold inS at ht; omega) (by omega), hB.2.fld j0 j3 j1 j2]; exact s1 0 j (by omega) (fun t t0 t1 ht => by unfold inS at ht; omega)
    have hC : RI C := by
      refine ⟨⟨s, ks, hT.ls q2 (c0 7 (by omega) (by omega) (by omega) (by omega)) (c0 8 (by omega) (by omega) (by omega) (by omega)) (fun j j0 j1 => ?_) (fun p p0 p1 => ?_)⟩, ⟨fun j j0 j1 => by rw [cC 7 j (by omega) (by omega) (by omega) (by omega) (by omega) j0]; exact b1 j j0 j1, fun d d0 d1 => ?_⟩, hRG.same2 (fun j j0 => cC 31 j (by omega) (by omega) (by omega) (by omega) (by omega) j0) (fun j j0 => cC 32 j (by omega) (by omega) (by omega) (by omega) (by omega) j0)⟩
      · rw [q5 j j0 j1, hB.2.cell (by omega) (by omega) (by omega) (by omega) j0]; exact h1.2.2.2 j j0 j1
      · rw [q4 p p0 (by omega)]
        have m1 := eM_1 h1.1 (r := 1) (by omega) kn1 (j := 36 + p) (by omega) (by omega)
        rw [LSm_same m1.2 (hB.2.slot (p := 36 + p) (by omega) (by omega))]
        exact h1.2.2.1 p p0 p1
      · rw [cC 6 d (by omega) (by omega) (by omega) (by omega) (by omega) d0, c0 7 (by omega) (by omega) (by omega) (by omega)]
        rw [c0 10 (by omega) (by omega) (by omega) (by omega)] at d1
        exact b2 d d0 d1
    refine wq_ok srt_Morder (fr := []) (cuts := []) (J := fun _ _ => False) ?_ 6 126 _ ?_
    · intro pc st h; exact h.elim
    · exact ⟨rfl, ⟨_, rfl⟩, hC⟩
  · refine ⟨rM_0 (by omega) km0, ?_⟩
    refine (restores_ex (p := 36) hB.2.1 (by omega) (by omega)).imp ?_
    rintro ⟨r1, C⟩ ⟨q1, q2, q3, q4, q5⟩
    simp only at q1 q2 q3 q4 q5
    subst q1
    exact ⟨rfl, C, ⟨q2, q3, q4, q5⟩, rfl⟩
theorem od_70 {A1 : pm_A} {ans n : Int} {z : pm_R → Prop} (hr : A1 0 46 ≤ 12) (hrow : ∀ j : Int, 0 ≤ j → j < A1 0 46 → 0 ≤ A1 30 j ∧ A1 30 j < A1 0 7) (H : ∀ g w4 B, odI A1 B → (g = 0 ∨ g = 1) → Tm pmt (an_sh wM) o_X10_order 101 ([(2, 0), (0, ans), (0, g), (0, n), w4], [], B) z) : ∀ (m : Nat) (g j : Int) (B : pm_A), (12 - j).toNat < m → 0 ≤ j → j ≤ 12 → (g = 0 ∨ g = 1) → odI A1 B → Tm pmt (an_sh wM) o_X10_order 70 ([(2, 0), (0, ans), (0, g), (0, n), (0, j)], [], B) z := by
  intro m
  induction m with
  | zero => intro g j B h; omega
  | succ m ih =>
    intro g j B hm j0 j1 hg hB
    have hgB := hB.2.1
    have c47 := pM_47 hgB
    have e46 : B 0 46 = A1 0 46 := hB.2.fld (by omega) (by omega) (by omega) (by omega)
    have e7 : B 0 7 = A1 0 7 := hB.2.fld (by omega) (by omega) (by omega) (by omega)
    have e30 : B 30 j = A1 30 j := hB.2.cell (by omega) (by omega) (by omega) (by omega) j0
    refine wq_ok srt_Morder (fr := []) (cuts := [94, 101]) (J := fun pc st => (pc = 101 ∧ ((B 0 46) ≤ j) ∧ st = ([(2, 0), (0, ans), (0, g), (0, n), (0, j)], [], B)) ∨ (pc = 101 ∧ (j < (B 0 46)) ∧ (g = 0) ∧ st = ([(2, 0), (0, ans), (0, g), (0, n), (0, j)], [], B)) ∨ (pc = 94 ∧ j < B 0 46 ∧ ∃ C y, (y = 0 ∨ y = 1) ∧ odI A1 C ∧ st = ([(2, 0), (0, ans), (0, g), (0, n), (0, j)], [(0, y)], C))) ?_ 16 70 _ ?_
    · rintro pc st (⟨rfl, h0, rfl⟩ | ⟨rfl, h0, h1, rfl⟩ | ⟨rfl, hj, C, y, hy, hC, rfl⟩)
      · exact H g _ B hB hg
      · exact H g _ B hB hg
      · refine wq_ok srt_Morder (fr := []) (cuts := [70]) (J := fun pc st => (pc = 70 ∧ st = ([(2, 0), (0, ans), (0, y), (0, n), (0, j + 1)], [], C))) ?_ 8 94 _ ?_
        · rintro pc st (⟨rfl, rfl⟩)
          exact ih y (j + 1) C (by omega) (by omega) (by omega) hy hC
        · refine ⟨⟨by omega, by omega⟩, ?_⟩
          exact ⟨rfl, rfl⟩
    · refine ⟨oM_0 (by omega) km0 46 rfl, ?_⟩
      refine ⟨fun h0 => ?_, fun h0 => ?_⟩
      · exact Or.inl (⟨rfl, h0, rfl⟩)
      · refine ⟨fun h1 => ?_, fun h1 => ?_⟩
        · exact Or.inr (Or.inl (⟨rfl, h0, h1, rfl⟩))
        · refine ⟨oM_0 (by omega) km0 47 rfl, ?_⟩
          refine ⟨aM_30 (r := B 0 47) (by rw [c47]; omega) (by rw [c47]; exact kn30) (by omega) (by omega), ?_⟩
          have e1 : B (B 0 47) j = B 30 j := by rw [c47]
          refine ⟨rM_0 (by omega) km0, ?_⟩
          have hj : j < A1 0 46 := by omega
          have hk := hrow j j0 hj
          show Cl pmt (an_sh wM) 200 [(2, 0), (0, B (B 0 47) j)] B _
          rw [c47, e30]
          refine (turns_od hB.1 hk.1 (by omega)).imp ?_
          rintro ⟨r1, C⟩ ⟨q1, q2, q3⟩
          simp only at q1 q2 q3
          rcases q1 with q1 | q1
          · subst q1
            exact Or.inr (Or.inr (⟨rfl, by omega, C, 0, Or.inl rfl, ⟨q2, hB.2.tr q3⟩, rfl⟩))
          · subst q1
            exact Or.inr (Or.inr (⟨rfl, by omega, C, 1, Or.inr rfl, ⟨q2, hB.2.tr q3⟩, rfl⟩))
theorem od_53 {A A1 : pm_A} (hA : RI A) (hsv : savesJ A A1 36 72) (hr : A1 0 46 ≤ 12) (hrow : ∀ j : Int, 0 ≤ j → j < A1 0 46 → 0 ≤ A1 30 j ∧ A1 30 j < A1 0 7) : ∀ (m : Nat) (ans g n : Int) (w4 : pm_V) (B : pm_A), (41 - n).toNat < m → 1 ≤ n → n ≤ 41 → (g = 0 ∨ g = 1) → odI A1 B → Tm pmt (an_sh wM) o_X10_order 53 ([(2, 0), (0, ans), (0, g), (0, n), w4], [], B) ri_post := by
  intro m
  induction m with
  | zero => intro ans g n w4 B h; omega
  | succ m ih =>
    intro ans g n w4 B hm n0 n1 hg hB
    have h114 : ∀ ans g w4 B, n ≤ 40 → (g = 0 ∨ g = 1) → odI A1 B → Tm pmt (an_sh wM) o_X10_order 114 ([(2, 0), (0, ans), (0, g), (0, n), w4], [], B) ri_post := fun ans g w4 B hn hg hB => by
      refine wq_ok srt_Morder (fr := []) (cuts := [53]) (J := fun pc st => (pc = 53 ∧ st = ([(2, 0), (0, ans), (0, g), (0, n + 1), w4], [], B))) ?_ 7 114 _ ?_
      · rintro pc st (⟨rfl, rfl⟩)
        exact ih ans g (n + 1) w4 B (by omega) (by omega) (by omega) hg hB
      · refine ⟨⟨by omega, by omega⟩, ?_⟩
        exact ⟨rfl, rfl⟩
    have h101 : n ≤ 40 → ∀ g w4 B, odI A1 B → (g = 0 ∨ g = 1) → Tm pmt (an_sh wM) o_X10_order 101 ([(2, 0), (0, ans), (0, g), (0, n), w4], [], B) ri_post := fun hn g w4 B hB hg => by
      refine wq_ok srt_Morder (fr := []) (cuts := [109, 114]) (J := fun pc st => (pc = 114 ∧ (g = 0) ∧ st = ([(2, 0), (0, ans), (0, g), (0, n), w4], [], B)) ∨ (pc = 109 ∧ ∃ C y, odI A1 C ∧ st = ([(2, 0), (0, ans), (0, g), (0, n), w4], [(0, y)], C))) ?_ 8 101 _ ?_
      · rintro pc st (⟨rfl, h0, rfl⟩ | ⟨rfl, C, y, hC, rfl⟩)
        · exact h114 _ _ _ _ hn hg hB
        · refine wq_ok srt_Morder (fr := []) (cuts := [114]) (J := fun pc st => (pc = 114 ∧ (y = 0) ∧ st = ([(2, 0), (0, ans), (0, g), (0, n), w4], [], C)) ∨ (pc = 114 ∧ (¬ y = 0) ∧ st = ([(2, 0), (0, n), (0, g), (0, n), w4], [], C))) ?_ 8 109 _ ?_
          · rintro pc st (⟨rfl, h0, rfl⟩ | ⟨rfl, h0, rfl⟩)
            · exact h114 _ _ _ _ hn hg hC
            · exact h114 _ _ _ _ hn hg hC
          · refine ⟨fun h0 => ?_, fun h0 => ?_⟩
            · exact Or.inl (⟨rfl, h0, rfl⟩)
            · exact Or.inr (⟨rfl, h0, rfl⟩)
      · refine ⟨fun h0 => ?_, fun h0 => ?_⟩
        · exact Or.inl (⟨rfl, h0, rfl⟩)
        · refine ⟨rM_0 (by omega) km0, ?_⟩
          refine (begun_od hB.1).imp ?_
          rintro ⟨r1, C⟩ ⟨⟨y, q1, q0⟩, q2, q3⟩
          simp only at q1 q2 q3
          subst q1
          exact Or.inr (⟨rfl, C, y, ⟨q2, hB.2.tr q3⟩, rfl⟩)
    refine wq_ok srt_Morder (fr := []) (cuts := [70, 120]) (J := fun pc st => (pc = 120 ∧ (40 < n) ∧ st = ([(2, 0), (0, ans), (0, g), (0, n), w4], [], B)) ∨ (pc = 120 ∧ (n ≤ 40) ∧ (g = 0) ∧ st = ([(2, 0), (0, ans), (0, g), (0, n), w4], [], B)) ∨ (pc = 120 ∧ (n ≤ 40) ∧ (¬ g = 0) ∧ (0 ≤ ans) ∧ st = ([(2, 0), (0, ans), (0, g), (0, n), w4], [], B)) ∨ (pc = 70 ∧ (n ≤ 40) ∧ (¬ g = 0) ∧ (ans < 0) ∧ st = ([(2, 0), (0, ans), (0, g), (0, n), (0, 0)], [], B))) ?_ 14 53 _ ?_
    · rintro pc st (⟨rfl, h0, rfl⟩ | ⟨rfl, h0, h1, rfl⟩ | ⟨rfl, h0, h1, h2, rfl⟩ | ⟨rfl, h0, h1, h2, rfl⟩)
      · exact od_120 hA hsv hB _ _ _
      · exact od_120 hA hsv hB _ _ _
      · exact od_120 hA hsv hB _ _ _
      · exact od_70 hr hrow (h101 (by omega)) _ g 0 B (Nat.lt_succ_self _) (by omega) (by omega) hg hB
    · refine ⟨fun h0 => ?_, fun h0 => ?_⟩
      · exact Or.inl (⟨rfl, h0, rfl⟩)
      · refine ⟨fun h1 => ?_, fun h1 => ?_⟩
        · exact Or.inr (Or.inl (⟨rfl, h0, h1, rfl⟩))
        · refine ⟨fun h2 => ?_, fun h2 => ?_⟩
          · exact Or.inr (Or.inr (Or.inl (⟨rfl, h0, h1, h2, rfl⟩)))
          · exact Or.inr (Or.inr (Or.inr (⟨rfl, h0, h1, h2, rfl⟩)))
theorem od_11 {A : pm_A} (h : RI A) (h0 : ¬ A 0 46 = 0) : ∀ (m : Nat) (j : Int) (w2 w3 w4 : pm_V), (12 - j).toNat < m → 0 ≤ j → j ≤ 12 → (∀ i : Int, 0 ≤ i → i < j → A 30 i < A 0 7) → Tm pmt (an_sh wM) o_X10_order 11 ([(2, 0), (0, j), w2, w3, w4], [], A) ri_post := by
  have hg := h.g
  have c47 := pM_47 hg
  have p46 := fM_0_46 hg (r := 0) (by omega) km0
  have p7 := fM_0_7 hg (r := 0) (by omega) km0
  intro m
  induction m with
  | zero => intro j w2 w3 w4 h; omega
  | succ m ih =>
    intro j w2 w3 w4 hm j0 j1 hj
    refine wq_ok srt_Morder (fr := []) (cuts := [11, 46]) (J := fun pc st => (pc = 46 ∧ A 0 46 ≤ j ∧ ∃ C, savesJ A C 36 72 ∧ st = ([(2, 0), (0, j), w2, w3, w4], [], C)) ∨ (pc = 11 ∧ (j < (A 0 46)) ∧ ((A (A 0 47) j) < (A 0 7)) ∧ st = ([(2, 0), (0, j + 1), w2, w3, w4], [], A))) ?_ 18 11 _ ?_
    · rintro pc st (⟨rfl, hjj, C, q2, rfl⟩ | ⟨rfl, h0, h1, rfl⟩)
      · refine wq_ok srt_Morder (fr := []) (cuts := [53]) (J := fun pc st => (pc = 53 ∧ st = ([(2, 0), (0, (-2)), (0, 1), (0, 1), w4], [], C))) ?_ 11 46 _ ?_
        · rintro pc st (⟨rfl, rfl⟩)
          have s1 : ∀ r j : Int, r ≠ 22 → (∀ t : Int, 36 ≤ t → t ≤ 41 → ¬ inS t r j) → C r j = A r j := fun r j hr hn => q2.2.1 r j (fun t t0 t1 ht => hn (36 + t) (by omega) (by omega) ht) hr
          have f7 : C 0 7 = A 0 7 := s1 0 7 (by omega) (fun t t0 t1 ht => by unfold inS at ht; omega)
          have f8 : C 0 8 = A 0 8 := s1 0 8 (by omega) (fun t t0 t1 ht => by unfold inS at ht; omega)
          have f46 : C 0 46 = A 0 46 := s1 0 46 (by omega) (fun t t0 t1 ht => by unfold inS at ht; omega)
          obtain ⟨⟨s, ks, hT⟩, _⟩ := id h
          have hTC : Tru s ks C := hT.same q2.1 f7 f8 (fun i _ _ => s1 5 i (by omega) (fun t t0 t1 ht => by unfold inS at ht; omega)) (fun p p0 p1 r i hr => s1 r i (by unfold inS at hr; omega) (fun t t0 t1 ht => by unfold inS at *; omega))
          refine od_53 h q2 (by omega) (fun i i0 i1 => ?_) _ _ _ 1 _ C (Nat.lt_succ_self _) (by omega) (by omega) (Or.inr rfl) ⟨⟨s, ks, hTC⟩, q2.1, fun _ _ _ _ _ _ _ _ _ _ _ _ => rfl⟩
          rw [s1 30 i (by omega) (fun t t0 t1 ht => by unfold inS at ht; omega), f7]
          have b := eM_30 hg (r := 30) (by omega) kn30 i0 (show i < 12 by omega)
          exact ⟨b.1, hj i i0 (by omega)⟩
        · exact ⟨rfl, rfl⟩
      · rw [c47] at h1
        refine ih (j + 1) _ _ _ (by omega) (by omega) (by omega) (fun i i0 i1 => ?_)
        by_cases e : i = j
        · rw [e]; exact h1
        · exact hj i i0 (by omega)
    · refine ⟨oM_0 (by omega) km0 46 rfl, ?_⟩
      refine ⟨fun h0 => ?_, fun h0 => ?_⟩
      · refine ⟨rM_0 (by omega) km0, ?_⟩
        refine (saves_ex (p := 36) hg (by omega) (by omega)).imp ?_
        rintro ⟨r1, C⟩ ⟨q1, q2⟩
        simp only at q1 q2
        subst q1
        exact Or.inl (⟨rfl, h0, C, q2, rfl⟩)
      · refine ⟨oM_0 (by omega) km0 47 rfl, ?_⟩
        refine ⟨aM_30 (r := A 0 47) (by rw [c47]; omega) (by rw [c47]; exact kn30) (by omega) (by omega), ?_⟩
        have e1 : A (A 0 47) j = A 30 j := by rw [c47]
        refine ⟨oM_0 (by omega) km0 7 rfl, ?_⟩
        refine ⟨fun h1 => ?_, fun h1 => ?_⟩
        · refine ⟨⟨by omega, by omega⟩, ?_⟩
          exact Or.inr (⟨rfl, h0, h1, rfl⟩)
        · exact ⟨rfl, ⟨_, rfl⟩, h⟩
theorem morder_ct {A : pm_A} (h : RI A) : Cl pmt (an_sh wM) 170 [(2, 0)] A ri_post := by
  refine Cl.of (Nat.le_of_ble_eq_true rfl) ?_
  refine wq_ok (full := o_X10_order) srt_Morder (fr := []) (cuts := [11]) (J := fun pc st => (pc = 11 ∧ (¬ (A 0 46) = 0) ∧ st = ([(2, 0), (0, 0), (9, 0), (9, 0), (9, 0)], [], A))) ?_ 10 0 _ ?_
  · rintro pc st (⟨rfl, h0, rfl⟩)
    exact od_11 h h0 _ 0 _ _ _ (Nat.lt_succ_self _) (by omega) (by omega) (fun i i0 i1 => by omega)
  · refine ⟨oM_0 (by omega) km0 46 rfl, ?_⟩
    refine ⟨fun h0 => ?_, fun h0 => ?_⟩
    · exact ⟨rfl, h0, rfl⟩
    · exact ⟨rfl, ⟨_, rfl⟩, h⟩
end

section
/-! areAlike, letterOf, takes, comes -/
theorem srt_areAlike : pm_srt o_X10_areAlike = true := by decide +kernel
def mal_post (A : pm_A) (a b : Int) (r : pm_R) : Prop := r.2 = A ∧ (r.1 = some (0, 0) ∨ (r.1 = some (0, 1) ∧ LSm A a = LSm A b))
theorem ala_v {A : pm_A} {a b t : Int} (hA : gH wM A) (ha : 0 ≤ a ∧ a ≤ 151) (hb : 0 ≤ b ∧ b ≤ 151) (ht : 0 ≤ t ∧ t ≤ 199) {z : pm_R → Prop} (H0 : z (some (0, 0), A)) (H : (∀ v : Int, 0 ≤ v → v < 12 → A 3 (12 * (200 * a + t) + v) = A 3 (12 * (200 * b + t) + v)) → ∀ w4, Tm pmt (an_sh wM) o_X10_areAlike 19 ([(2, 0), (0, a), (0, b), (0, t + 1), w4], [], A) z) : ∀ (m : Nat) (v : Int), (12 - v).toNat < m → 0 ≤ v → v ≤ 12 → (∀ i : Int, 0 ≤ i → i < v → A 3 (12 * (200 * a + t) + i) = A 3 (12 * (200 * b + t) + i)) → Tm pmt (an_sh wM) o_X10_areAlike 62 ([(2, 0), (0, a), (0, b), (0, t), (0, v)], [], A) z := by
  have c3 := pM_3 hA
  intro m
  induction m with
  | zero => intro v h; omega
  | succ m ih =>
    intro v hm v0 v1 hv
    refine wq_ok srt_areAlike (fr := []) (cuts := [19, 62]) (J := fun pc st => (pc = 19 ∧ (12 ≤ v) ∧ st = ([(2, 0), (0, a), (0, b), (0, t + 1), (0, v)], [], A)) ∨ (pc = 62 ∧ (v < 12) ∧ ((A (A 0 3) ((12 * ((200 * a) + t)) + v)) = (A (A 0 3) ((12 * ((200 * b) + t)) + v))) ∧ st = ([(2, 0), (0, a), (0, b), (0, t), (0, v + 1)], [], A))) ?_ 35 62 _ ?_
    · rintro pc st (⟨rfl, h0, rfl⟩ | ⟨rfl, h0, h1, rfl⟩)
      · exact H (fun i i0 i1 => hv i i0 (by omega)) _
      · rw [c3] at h1
        refine ih (v + 1) (by omega) (by omega) (by omega) (fun i i0 i1 => ?_)
        by_cases e : i = v
        · rw [e]; exact h1
        · exact hv i i0 (by omega)
    · refine ⟨fun h0 => ?_, fun h0 => ?_⟩
      · refine ⟨⟨by omega, by omega⟩, ?_⟩
        exact Or.inl (⟨rfl, h0, rfl⟩)
      · refine ⟨oM_0 (by omega) km0 3 rfl, ?_⟩
        refine ⟨⟨by omega, by omega⟩, ?_⟩
        refine ⟨⟨by omega, by omega⟩, ?_⟩
        refine ⟨⟨by omega, by omega⟩, ?_⟩
        refine ⟨⟨by omega, by omega⟩, ?_⟩
        refine ⟨aM_3 (r := A 0 3) (by rw [c3]; omega) (by rw [c3]; exact kn3) (by omega) (by omega), ?_⟩
        have e1 : A (A 0 3) ((12 * ((200 * a) + t)) + v) = A 3 ((12 * ((200 * a) + t)) + v) := by rw [c3]
        refine ⟨oM_0 (by omega) km0 3 rfl, ?_⟩
        refine ⟨⟨by omega, by omega⟩, ?_⟩
        refine ⟨⟨by omega, by omega⟩, ?_⟩
        refine ⟨⟨by omega, by omega⟩, ?_⟩
        refine ⟨⟨by omega, by omega⟩, ?_⟩
        refine ⟨aM_3 (r := A 0 3) (by rw [c3]; omega) (by rw [c3]; exact kn3) (by omega) (by omega), ?_⟩
        have e2 : A (A 0 3) ((12 * ((200 * b) + t)) + v) = A 3 ((12 * ((200 * b) + t)) + v) := by rw [c3]
        refine ⟨fun h1 => ?_, fun h1 => ?_⟩
        · refine ⟨⟨by omega, by omega⟩, ?_⟩
          exact Or.inr (⟨rfl, h0, h1, rfl⟩)
        · exact ⟨rfl, H0⟩
theorem ala_19 {A : pm_A} {a b : Int} (hA : gH wM A) (ha : 0 ≤ a ∧ a ≤ 151) (hb : 0 ≤ b ∧ b ≤ 151) (hm0 : A 1 a = A 1 b) : ∀ (m : Nat) (t : Int) (w4 : pm_V), (A 1 a - t).toNat < m → 0 ≤ t → t ≤ A 1 a → (∀ q v : Int, 0 ≤ q → q < t → 0 ≤ v → v < 12 → A 2 (200 * a + q) = A 2 (200 * b + q) ∧ A 3 (12 * (200 * a + q) + v) = A 3 (12 * (200 * b + q) + v)) → Tm pmt (an_sh wM) o_X10_areAlike 19 ([(2, 0), (0, a), (0, b), (0, t), w4], [], A) (mal_post A a b) := by
  have c1 := pM_1 hA
  have c2 := pM_2 hA
  have ma := eM_1 hA (r := 1) (by omega) kn1 ha.1 (show a < 152 by omega)
  intro m
  induction m with
  | zero => intro t w4 h; omega
  | succ m ih =>
    intro t w4 hm t0 t1 hq
    refine wq_ok srt_areAlike (fr := []) (cuts := [62]) (J := fun pc st => (pc = 62 ∧ (t < (A (A 0 1) a)) ∧ ((A (A 0 2) ((200 * a) + t)) = (A (A 0 2) ((200 * b) + t))) ∧ st = ([(2, 0), (0, a), (0, b), (0, t), (0, 0)], [], A))) ?_ 31 19 _ ?_
    · rintro pc st (⟨rfl, h0, h1, rfl⟩)
      rw [c1] at h0
      rw [c2] at h1
      refine ala_v hA ha hb ⟨t0, by omega⟩ ⟨rfl, Or.inl rfl⟩ (fun hv w4 => ih (t + 1) w4 (by omega) (by omega) (by omega) (fun q v q0 q1 v0 v1 => ?_)) _ 0 (Nat.lt_succ_self _) (by omega) (by omega) (fun i i0 i1 => by omega)
      by_cases e : q = t
      · rw [e]; exact ⟨h1, hv v v0 v1⟩
      · exact hq q v q0 (by omega) v0 v1
    · refine ⟨oM_0 (by omega) km0 1 rfl, ?_⟩
      refine ⟨aM_1 (r := A 0 1) (by rw [c1]; omega) (by rw [c1]; exact kn1) (by omega) (by omega), ?_⟩
      have e1 : A (A 0 1) a = A 1 a := by rw [c1]
      refine ⟨fun h0 => ?_, fun h0 => ?_⟩
      · exact ⟨rfl, rfl, Or.inr ⟨rfl, LSm_ext hm0 (fun q v q0 q1 v0 v1 => hq q v q0 (by rw [c1] at h0; omega) v0 v1)⟩⟩
      · refine ⟨oM_0 (by omega) km0 2 rfl, ?_⟩
        refine ⟨⟨by omega, by omega⟩, ?_⟩
        refine ⟨⟨by omega, by omega⟩, ?_⟩
        refine ⟨aM_2 (r := A 0 2) (by rw [c2]; omega) (by rw [c2]; exact kn2) (by omega) (by omega), ?_⟩
        have e2 : A (A 0 2) ((200 * a) + t) = A 2 ((200 * a) + t) := by rw [c2]
        refine ⟨oM_0 (by omega) km0 2 rfl, ?_⟩
        refine ⟨⟨by omega, by omega⟩, ?_⟩
        refine ⟨⟨by omega, by omega⟩, ?_⟩
        refine ⟨aM_2 (r := A 0 2) (by rw [c2]; omega) (by rw [c2]; exact kn2) (by omega) (by omega), ?_⟩
        have e3 : A (A 0 2) ((200 * b) + t) = A 2 ((200 * b) + t) := by rw [c2]
        refine ⟨fun h1 => ?_, fun h1 => ?_, fun h1 => ?_⟩
        · refine ⟨fun hh => absurd hh (by decide), fun _ => ?_⟩
          exact ⟨rfl, rfl, Or.inl rfl⟩
        · refine ⟨fun _ => ?_, fun hh => absurd hh (by decide)⟩
          exact ⟨rfl, h0, h1, rfl⟩
        · refine ⟨fun hh => absurd hh (by decide), fun _ => ?_⟩
          exact ⟨rfl, rfl, Or.inl rfl⟩
theorem areAlike_ex {A : pm_A} {a b : Int} (hA : gH wM A) (ha : 0 ≤ a ∧ a ≤ 151) (hb : 0 ≤ b ∧ b ≤ 151) : Cl pmt (an_sh wM) 124 [(2, 0), (0, a), (0, b)] A (mal_post A a b) := by
  have c1 := pM_1 hA
  have ma := eM_1 hA (r := 1) (by omega) kn1 ha.1 (show a < 152 by omega)
  refine Cl.of (Nat.le_of_ble_eq_true rfl) ?_
  refine wq_ok (full := o_X10_areAlike) srt_areAlike (fr := []) (cuts := [19]) (J := fun pc st => (pc = 19 ∧ ((A (A 0 1) a) = (A (A 0 1) b)) ∧ st = ([(2, 0), (0, a), (0, b), (0, 0), (9, 0)], [], A))) ?_ 16 0 _ ?_
  · rintro pc st (⟨rfl, h0, rfl⟩)
    rw [c1] at h0
    exact ala_19 hA ha hb h0 _ 0 _ (Nat.lt_succ_self _) (by omega) (by omega) (fun q v q0 q1 v0 v1 => by omega)
  · refine ⟨oM_0 (by omega) km0 1 rfl, ?_⟩
    refine ⟨aM_1 (r := A 0 1) (by rw [c1]; omega) (by rw [c1]; exact kn1) (by omega) (by omega), ?_⟩
    have e1 : A (A 0 1) a = A 1 a := by rw [c1]
    refine ⟨oM_0 (by omega) km0 1 rfl, ?_⟩
    refine ⟨aM_1 (r := A 0 1) (by rw [c1]; omega) (by rw [c1]; exact kn1) (by omega) (by omega), ?_⟩
    have e2 : A (A 0 1) b = A 1 b := by rw [c1]
    refine ⟨fun h0 => ?_, fun h0 => ?_⟩
    · exact ⟨rfl, h0, rfl⟩
    · exact ⟨rfl, rfl, Or.inl rfl⟩
theorem srt_letterOf : pm_srt o_X10_letterOf = true := by decide +kernel
def lo_post (A : pm_A) (s : Int) (r : pm_R) : Prop := ∃ l, r.1 = some (0, l) ∧ gH wM r.2 ∧ (∀ q j, ¬ inS (50 + A 0 26) q j → ¬ (q = 0 ∧ j = 26) → r.2 q j = A q j) ∧ (0 ≤ l ∧ l < r.2 0 26) ∧ (A 0 26 ≤ r.2 0 26 ∧ r.2 0 26 ≤ A 0 26 + 1) ∧ LSm r.2 (50 + l) = LSm A s
theorem lo_2 {A : pm_A} {s : Int} (hA : gH wM A) (hs : 0 ≤ s ∧ s ≤ 49) (hl : A 0 26 ≤ 100) : ∀ (m : Nat) (l : Int), (102 - l).toNat < m → 0 ≤ l → l ≤ A 0 26 → Tm pmt (an_sh wM) o_X10_letterOf 2 ([(2, 0), (0, s), (0, l)], [], A) (lo_post A s) := by
  have p26 := fM_0_26 hA (r := 0) (by omega) km0
  intro m
  induction m with
  | zero => intro l h; omega
  | succ m ih =>
    intro l hm l0 l1
    refine wq_ok srt_letterOf (fr := []) (cuts := [19, 42]) (J := fun pc st => (pc = 42 ∧ ∃ C, gH wM C ∧ (∀ q j, ¬ inS (50 + A 0 26) q j → C q j = A q j) ∧ LSm C (50 + A 0 26) = LSm A s ∧ st = ([(2, 0), (0, s), (0, l)], [], C)) ∨ (pc = 19 ∧ l < A 0 26 ∧ ∃ y, (y = 0 ∨ (y = 1 ∧ LSm A (50 + l) = LSm A s)) ∧ st = ([(2, 0), (0, s), (0, l)], [(0, y)], A))) ?_ 15 2 _ ?_
    · rintro pc st (⟨rfl, C, q2, q3, q4, rfl⟩ | ⟨rfl, hl2, y, hy, rfl⟩)
      · have e26 : C 0 26 = A 0 26 := q3 0 26 (by unfold inS; omega)
        have hfin : lo_post A s (some (0, pm_upd C 0 26 (C 0 26 + 1) 0 26 - 1), pm_upd C 0 26 (C 0 26 + 1)) := by
          have f : pm_upd C 0 26 (C 0 26 + 1) 0 26 = A 0 26 + 1 := by rw [upd_at, e26]
          have hLC : LSm (pm_upd C 0 26 (C 0 26 + 1)) (50 + A 0 26) = LSm A s := (LSm_ext (upd_o (by omega)) (fun q v q0 q1 v0 v1 => ⟨upd_o (by omega), upd_o (by omega)⟩)).trans q4
          refine ⟨A 0 26, ?_, uM_0_26 q2 (by omega) (by omega), fun q j h1 h2 => ?_, ⟨by omega, ?_⟩, ⟨?_, ?_⟩, hLC⟩
          · show some (0, pm_upd C 0 26 (C 0 26 + 1) 0 26 - 1) = some (0, A 0 26); rw [f]; congr 2; omega
          · show pm_upd C 0 26 (C 0 26 + 1) q j = A q j; rw [upd_o (fun e => h2 ⟨e.1, e.2⟩)]; exact q3 q j h1
          · show A 0 26 < pm_upd C 0 26 (C 0 26 + 1) 0 26; rw [f]; omega
          · show A 0 26 ≤ pm_upd C 0 26 (C 0 26 + 1) 0 26; rw [f]; omega
          · show pm_upd C 0 26 (C 0 26 + 1) 0 26 ≤ A 0 26 + 1; rw [f]; omega
        refine wq_ok srt_letterOf (fr := []) (cuts := []) (J := fun _ _ => False) ?_ 15 42 _ ?_
        · intro pc st h; exact h.elim
        · refine ⟨oM_0 (by omega) km0 26 rfl, ?_⟩
          refine ⟨⟨by omega, by omega⟩, ?_⟩
          refine ⟨oM_0 (by omega) km0 26 rfl, ?_⟩
          refine ⟨oM_0 (by omega) km0 26 rfl, ?_⟩
          refine ⟨(by show r32 (pm_upd C 0 26 (C 0 26 + 1) 0 26 - 1); rw [upd_at]; exact ⟨by omega, by omega⟩), ?_⟩
          exact ⟨rfl, hfin⟩
      · refine wq_ok srt_letterOf (fr := []) (cuts := [2]) (J := fun pc st => (pc = 2 ∧ (y = 0) ∧ st = ([(2, 0), (0, s), (0, l + 1)], [], A))) ?_ 8 19 _ ?_
        · rintro pc st (⟨rfl, h0, rfl⟩)
          exact ih (l + 1) (by omega) (by omega) (by omega)
        · refine ⟨fun h0 => ?_, fun h0 => ?_⟩
          · refine ⟨⟨by omega, by omega⟩, ?_⟩
            exact ⟨rfl, h0, rfl⟩
          · exact ⟨rfl, l, rfl, hA, fun _ _ _ _ => rfl, ⟨l0, hl2⟩, ⟨by show A 0 26 ≤ A 0 26; omega, by show A 0 26 ≤ A 0 26 + 1; omega⟩, by rcases hy with h | h; exact absurd h h0; exact h.2⟩
    · refine ⟨oM_0 (by omega) km0 26 rfl, ?_⟩
      refine ⟨fun h0 => ?_, fun h0 => ?_⟩
      · refine ⟨oM_0 (by omega) km0 26 rfl, ?_⟩
        refine ⟨⟨by omega, by omega⟩, ?_⟩
        refine ⟨rM_0 (by omega) km0, ?_⟩
        refine (copy_ex (to := 50 + A 0 26) (fr := s) hA (by omega) (by omega) (by omega) (by omega) (by omega)).imp ?_
        rintro ⟨r1, C⟩ ⟨q1, q2, q3, q4⟩
        simp only at q1 q2 q3 q4
        subst q1
        exact Or.inl (⟨rfl, C, q2, q3, q4, rfl⟩)
      · refine ⟨⟨by omega, by omega⟩, ?_⟩
        refine ⟨rM_0 (by omega) km0, ?_⟩
        refine (areAlike_ex (a := 50 + l) (b := s) hA (by omega) (by omega)).imp ?_
        rintro ⟨r1, C⟩ ⟨q1, q2⟩
        simp only at q1 q2
        subst q1
        rcases q2 with q2 | ⟨q2, q3⟩
        · subst q2
          exact Or.inr (⟨rfl, by omega, 0, Or.inl rfl, rfl⟩)
        · subst q2
          exact Or.inr (⟨rfl, by omega, 1, Or.inr ⟨rfl, q3⟩, rfl⟩)
theorem letterOf_ex {A : pm_A} {s : Int} (hA : gH wM A) (hs : 0 ≤ s ∧ s ≤ 49) (hl : A 0 26 ≤ 100) : Cl pmt (an_sh wM) 166 [(2, 0), (0, s)] A (lo_post A s) := by
  have p26 := fM_0_26 hA (r := 0) (by omega) km0
  refine Cl.of (Nat.le_of_ble_eq_true rfl) ?_
  refine wq_ok (full := o_X10_letterOf) srt_letterOf (fr := []) (cuts := [2]) (J := fun pc st => (pc = 2 ∧ st = ([(2, 0), (0, s), (0, 0)], [], A))) ?_ 7 0 _ ?_
  · rintro pc st (⟨rfl, rfl⟩)
    exact lo_2 hA hs hl _ 0 (Nat.lt_succ_self _) (by omega) (by omega)
  · exact ⟨rfl, rfl⟩
theorem srt_takes : pm_srt o_X10_takes = true := by decide +kernel
def tkI (A B : pm_A) (s i : Int) : Prop := gH wM B ∧ (∀ r j, (∀ t : Int, 0 ≤ t → t ≤ 5 → ¬ inS t r j) → B r j = A r j) ∧ ∀ t : Int, 0 ≤ t → t < i → LSm B t = LSm A (50 + A 17 (6 * s + t))
def tkJ (A B : pm_A) (s i : Int) : Prop := gH wM B ∧ (∀ r j, (∀ t : Int, 0 ≤ t → t ≤ 5 → ¬ inS t r j) → r ≠ 5 → B r j = A r j) ∧ (∀ t : Int, 0 ≤ t → t < A 0 7 → LSm B t = LSm A (50 + A 17 (6 * s + t))) ∧ ∀ j : Int, 0 ≤ j → j < i → B 5 j = A 18 (72 * s + j)
def mtk_post (A : pm_A) (s : Int) (r : pm_R) : Prop := r.1 = none ∧ tkJ A r.2 s 72
theorem tk_37 {A : pm_A} {s : Int} (s0 : 0 ≤ s) (s1 : s ≤ 149) (p7 : A 0 7 ≤ 6) : ∀ (m : Nat) (i : Int) (B : pm_A), (72 - i).toNat < m → 0 ≤ i → i ≤ 72 → tkJ A B s i → Tm pmt (an_sh wM) o_X10_takes 37 ([(2, 0), (0, s), (0, i)], [], B) (mtk_post A s) := by
  intro m
  induction m with
  | zero => intro i B h; omega
  | succ m ih =>
    intro i B hm i0 i1 hJ
    obtain ⟨g1, g2, g3, g4⟩ := hJ
    have c9 := pM_9 g1
    have c28 := pM_28 g1
    have e18 : B 18 (72 * s + i) = A 18 (72 * s + i) := g2 18 _ (fun t t0 t1 ht => by unfold inS at ht; omega) (by omega)
    refine wq_ok srt_takes (fr := []) (cuts := [37]) (J := fun pc st => (pc = 37 ∧ (i < 72) ∧ st = ([(2, 0), (0, s), (0, i + 1)], [], pm_upd B (B 0 9) i (B (B 0 28) ((72 * s) + i))))) ?_ 22 37 _ ?_
    · rintro pc st (⟨rfl, h0, rfl⟩)
      rw [c9, c28]
      have b := eM_18 g1 (r := 18) (by omega) kn18 (j := 72 * s + i) (by omega) (by omega)
      refine ih (i + 1) _ (by omega) (by omega) (by omega) ⟨uM_5 g1 kn5 b.1 b.2, fun r j hr h5 => by rw [upd_o (by omega)]; exact g2 r j hr h5, fun t t0 t1 => ?_, fun j j0 j1 => ?_⟩
      · exact (LSm_ext (upd_o (by omega)) (fun q v q0 q1 v0 v1 => ⟨upd_o (by omega), upd_o (by omega)⟩)).trans (g3 t t0 t1)
      · by_cases hj : j = i
        · rw [hj, upd_at]; exact e18
        · rw [upd_o (by omega)]; exact g4 j j0 (by omega)
    · refine ⟨fun h0 => ?_, fun h0 => ?_⟩
      · exact ⟨rfl, g1, g2, g3, fun j j0 j1 => g4 j j0 (by omega)⟩
      · refine ⟨oM_0 (by omega) km0 9 rfl, ?_⟩
        refine ⟨oM_0 (by omega) km0 28 rfl, ?_⟩
        refine ⟨⟨by omega, by omega⟩, ?_⟩
        refine ⟨⟨by omega, by omega⟩, ?_⟩
        refine ⟨aM_18 (r := B 0 28) (by rw [c28]; omega) (by rw [c28]; exact kn18) (by omega) (by omega), ?_⟩
        have e1 : B (B 0 28) ((72 * s) + i) = B 18 ((72 * s) + i) := by rw [c28]
        refine ⟨tM_5 (r := B 0 9) (by rw [c9]; omega) (by rw [c9]; exact kn5) (by omega) (by omega) rfl, ?_⟩
        refine ⟨⟨by omega, by omega⟩, ?_⟩
        exact ⟨rfl, h0, rfl⟩
theorem tk_2 {A : pm_A} {s : Int} (hA : gH wM A) (s0 : 0 ≤ s) (s1 : s ≤ 149) : ∀ (m : Nat) (i : Int) (B : pm_A), (6 - i).toNat < m → 0 ≤ i → i ≤ A 0 7 → tkI A B s i → Tm pmt (an_sh wM) o_X10_takes 2 ([(2, 0), (0, s), (0, i)], [], B) (mtk_post A s) := by
  have p7 := fM_0_7 hA (r := 0) (by omega) km0
  intro m
  induction m with
  | zero => intro i B h; omega
  | succ m ih =>
    intro i B hm i0 i1 hI
    obtain ⟨g1, g2, g3⟩ := hI
    have c27 := pM_27 g1
    have e7 : B 0 7 = A 0 7 := g2 0 7 (fun t t0 t1 ht => by unfold inS at ht; omega)
    have e17 : B 17 (6 * s + i) = A 17 (6 * s + i) := g2 17 _ (fun t t0 t1 ht => by unfold inS at ht; omega)
    have b17 : i < A 0 7 → 0 ≤ A 17 (6 * s + i) ∧ A 17 (6 * s + i) ≤ 100 := fun h => eM_17 hA (r := 17) (by omega) kn17 (by omega) (by omega)
    refine wq_ok srt_takes (fr := []) (cuts := [29, 37]) (J := fun pc st => (pc = 37 ∧ ((B 0 7) ≤ i) ∧ st = ([(2, 0), (0, s), (0, 0)], [], B)) ∨ (pc = 29 ∧ i < B 0 7 ∧ ∃ C, gH wM C ∧ (∀ q j, ¬ inS i q j → C q j = B q j) ∧ LSm C i = LSm B (50 + A 17 (6 * s + i)) ∧ st = ([(2, 0), (0, s), (0, i)], [], C))) ?_ 21 2 _ ?_
    · rintro pc st (⟨rfl, h0, rfl⟩ | ⟨rfl, h0, C, q2, q3, q4, rfl⟩)
      · exact tk_37 s0 s1 p7.2 _ 0 B (Nat.lt_succ_self _) (by omega) (by omega) ⟨g1, fun r j hr _ => g2 r j hr, fun t t0 t1 => g3 t t0 (by omega), fun j j0 j1 => by omega⟩
      · rw [e7] at h0
        refine wq_ok srt_takes (fr := []) (cuts := [2]) (J := fun pc st => (pc = 2 ∧ st = ([(2, 0), (0, s), (0, i + 1)], [], C))) ?_ 7 29 _ ?_
        · rintro pc st (⟨rfl, rfl⟩)
          have b := b17 h0
          refine ih (i + 1) C (by omega) (by omega) (by omega) ⟨q2, fun r j hr => by rw [q3 r j (hr i i0 (by omega))]; exact g2 r j hr, fun t t0 t1 => ?_⟩
          by_cases ht : t = i
          · have mf := eM_1 hA (r := 1) (by omega) kn1 (j := 50 + A 17 (6 * s + i)) (by omega) (by omega)
            rw [ht, q4]; exact LSm_same mf.2 (fun r j hr => g2 r j (fun t t0 t1 ht => by unfold inS at *; omega))
          · have mt := eM_1 g1 (r := 1) (by omega) kn1 (j := t) (by omega) (by omega)
            rw [LSm_same mt.2 (fun r j hr => q3 r j (by unfold inS at *; omega))]; exact g3 t t0 (by omega)
        · refine ⟨⟨by omega, by omega⟩, ?_⟩
          exact ⟨rfl, rfl⟩
    · refine ⟨oM_0 (by omega) km0 7 rfl, ?_⟩
      refine ⟨fun h0 => ?_, fun h0 => ?_⟩
      · exact Or.inl (⟨rfl, h0, rfl⟩)
      · refine ⟨oM_0 (by omega) km0 27 rfl, ?_⟩
        refine ⟨⟨by omega, by omega⟩, ?_⟩
        refine ⟨⟨by omega, by omega⟩, ?_⟩
        refine ⟨aM_17 (r := B 0 27) (by rw [c27]; omega) (by rw [c27]; exact kn17) (by omega) (by omega), ?_⟩
        have e1 : B (B 0 27) ((6 * s) + i) = B 17 ((6 * s) + i) := by rw [c27]
        refine ⟨(by have b := b17 (by omega); exact ⟨by omega, by omega⟩), ?_⟩
        refine ⟨rM_0 (by omega) km0, ?_⟩
        have b := b17 (by omega)
        have hst : 50 + B (B 0 27) ((6 * s) + i) = 50 + A 17 (6 * s + i) := by rw [c27, e17]
        show Cl pmt (an_sh wM) 134 [(2, 0), (0, i), (0, 50 + B (B 0 27) ((6 * s) + i))] B _
        rw [hst]
        refine (copy_ex (to := i) (fr := 50 + A 17 (6 * s + i)) g1 (by omega) (by omega) (by omega) (by omega) (by omega)).imp ?_
        rintro ⟨r1, C⟩ ⟨q1, q2, q3, q4⟩
        simp only at q1 q2 q3 q4
        subst q1
        exact Or.inr (⟨rfl, h0, C, q2, q3, q4, rfl⟩)
theorem takes_ex {A : pm_A} {s : Int} (hA : gH wM A) (s0 : 0 ≤ s) (s1 : s ≤ 149) : Cl pmt (an_sh wM) 190 [(2, 0), (0, s)] A (mtk_post A s) := by
  have p7 := fM_0_7 hA (r := 0) (by omega) km0
  refine Cl.of (Nat.le_of_ble_eq_true rfl) ?_
  refine wq_ok (full := o_X10_takes) srt_takes (fr := []) (cuts := [2]) (J := fun pc st => (pc = 2 ∧ st = ([(2, 0), (0, s), (0, 0)], [], A))) ?_ 7 0 _ ?_
  · rintro pc st (⟨rfl, rfl⟩)
    exact tk_2 hA s0 s1 _ 0 A (Nat.lt_succ_self _) (by omega) (by omega) ⟨hA, fun _ _ _ => rfl, fun t t0 t1 => by omega⟩
  · exact ⟨rfl, rfl⟩
end

section
/-! comes, goesThrough, all -/
def TruX (s : cx_Sd 12) (ks : List (Fin 12)) (n m : Int) (arr : Int → Int) (L : Int → cr_Pl_ 12) : Prop := (1 ≤ n ∧ n ≤ 6) ∧ (0 ≤ m ∧ m ≤ 6) ∧ (∀ i j : Fin 12, (j.1 : Int) < n → ((i.1 : Int) < n + m → cr_bs s.b ks i j = arr (6 * (i.1 : Int) + (j.1 : Int))) ∧ (n + m ≤ (i.1 : Int) → cr_bs s.b ks i j = 0)) ∧ (∀ k ∈ ks, (k.1 : Int) < n) ∧ (∀ v k : Fin 12, (k.1 : Int) < n → s.b v k ≤ 9 ∧ -9 ≤ s.b v k) ∧ (∀ i j : Int, 0 ≤ i → i < n + m → 0 ≤ j → j < n → -9999 ≤ arr (6 * i + j) ∧ arr (6 * i + j) ≤ 9999) ∧ ∀ i : Fin 12, (i.1 : Int) < n → cr_Shr (L i.1) ∧ (∀ y ∈ L i.1, y.1 ≤ 1000000000000) ∧ ∀ x : cr_Pv 12, (cr_gp s.b ks x).1 i = cr_vl x.1 (L i.1)
theorem Tru.x {s : cx_Sd 12} {ks : List (Fin 12)} {A : pm_A} (h : Tru s ks A) : TruX s ks (A 0 7) (A 0 8) (A 5) (LSm A) := by
  have p7 := fM_0_7 h.1 (r := 0) (by omega) km0
  have p8 := fM_0_8 h.1 (r := 0) (by omega) km0
  obtain ⟨hg, h1, hb, hks, h9, ha, hl⟩ := h
  refine ⟨⟨h1, p7.2⟩, p8, hb, hks, h9, ha, fun i hi => ?_⟩
  obtain ⟨l1, l2, l3⟩ := hl i hi
  exact ⟨shr_of l1 l2, fun y hy => by
    obtain ⟨q, q0, q1, rfl⟩ := mem_LSm hy
    exact (l2 q q0 q1).2, l3⟩
theorem TruX.to {s : cx_Sd 12} {ks : List (Fin 12)} {n m : Int} {arr : Int → Int} {L : Int → cr_Pl_ 12} {C : pm_A} (h : TruX s ks n m arr L) (hC : gH wM C) (e7 : C 0 7 = n) (e8 : C 0 8 = m) (e5 : ∀ j : Int, 0 ≤ j → j < 72 → C 5 j = arr j) (hL : ∀ t : Int, 0 ≤ t → t < n → LSm C t = L t) : Tru s ks C := by
  obtain ⟨h1, h2, hb, hks, h9, ha, hl⟩ := h
  refine ⟨hC, by omega, fun i j hj => ⟨fun hi => ?_, fun hi => ?_⟩, fun k hk => by rw [e7]; exact hks k hk, fun v k hk => h9 v k (by omega), fun i j i0 i1 j0 j1 => ?_, fun i hi => ?_⟩
  · rw [e5 _ (by omega) (by omega)]; exact (hb i j (by omega)).1 (by omega)
  · exact (hb i j (by omega)).2 (by omega)
  · rw [e5 _ (by omega) (by omega)]; exact ha i j i0 (by omega) j0 (by omega)
  · rw [e7] at hi
    obtain ⟨l1, l2, l3⟩ := hl i hi
    have e := hL i.1 (by omega) hi
    refine ⟨srtd_of (by rw [e]; exact l1), fun q q0 q1 => ?_, fun x => by rw [l3 x]; unfold VS; rw [e]⟩
    have hin := in_LSm (A := C) (p := i.1) q0 q1
    rw [e] at hin
    have a1 : 0 < C 2 (200 * (i.1 : Int) + q) := l1.2 _ hin
    exact ⟨by omega, l2 _ hin⟩
theorem TruX.congr {s : cx_Sd 12} {ks : List (Fin 12)} {n m : Int} {arr arr' : Int → Int} {L L' : Int → cr_Pl_ 12} (h : TruX s ks n m arr L) (e5 : ∀ j : Int, 0 ≤ j → j < 72 → arr' j = arr j) (hL : ∀ t : Int, 0 ≤ t → t < n → L' t = L t) : TruX s ks n m arr' L' := by
  obtain ⟨h1, h2, hb, hks, h9, ha, hl⟩ := h
  refine ⟨h1, h2, fun i j hj => ⟨fun hi => ?_, fun hi => (hb i j hj).2 hi⟩, hks, h9, fun i j i0 i1 j0 j1 => ?_, fun i hi => ?_⟩
  · rw [e5 _ (by omega) (by omega)]; exact (hb i j hj).1 hi
  · rw [e5 _ (by omega) (by omega)]; exact ha i j i0 i1 j0 j1
  · rw [hL i.1 (by omega) hi]; exact hl i hi
theorem srt_comes : pm_srt o_X10_comes = true := by decide +kernel
def cmF (A B : pm_A) : Prop := gH wM B ∧ (∀ r j, r ≠ 17 → r ≠ 18 → ¬ (r = 0 ∧ j = 24) → B r j = A r j) ∧ (∀ j : Int, j < 6 * A 0 24 → B 17 j = A 17 j) ∧ ∀ j : Int, j < 72 * A 0 24 → B 18 j = A 18 j
def cm_post (A : pm_A) (r : pm_R) : Prop := cmF A r.2 ∧ (r.1 = some (0, 0) ∨ (r.1 = some (0, 1) ∧ A 0 24 < 150 ∧ r.2 0 24 = A 0 24 + 1 ∧ A 0 26 ≤ 100 ∧ (∀ t : Int, 0 ≤ t → t < A 0 7 → r.2 17 (6 * A 0 24 + t) = A 23 t) ∧ ∀ j : Int, 0 ≤ j → j < 72 → r.2 18 (72 * A 0 24 + j) = A 5 j))
def cmJ (A B : pm_A) (i : Int) : Prop := cmF A B ∧ B 0 24 = A 0 24 ∧ (∀ t : Int, 0 ≤ t → t < A 0 7 → B 17 (6 * A 0 24 + t) = A 23 t) ∧ ∀ j : Int, 0 ≤ j → j < i → B 18 (72 * A 0 24 + j) = A 5 j
theorem cm_50 {A : pm_A} (hA : gH wM A) (hs : A 0 24 < 150) : ∀ (m : Nat) (i : Int) (B : pm_A), (72 - i).toNat < m → 0 ≤ i → i ≤ 72 → cmJ A B i → Tm pmt (an_sh wM) o_X10_comes 50 ([(2, 0), (0, i)], [], B) (cm_post A) := by
  have p24 := fM_0_24 hA (r := 0) (by omega) km0
  intro m
  induction m with
  | zero => intro i B h; omega
  | succ m ih =>
    intro i B hm i0 i1 hJ
    obtain ⟨⟨g1, g2, g3, g4⟩, g5, g6, g7⟩ := hJ
    have c9 := pM_9 g1
    have c28 := pM_28 g1
    have e5 : B 5 i = A 5 i := g2 5 i (by omega) (by omega) (by omega)
    have e26 : pm_upd B 0 24 (B 0 24 + 1) 0 26 = A 0 26 := by rw [upd_o (by omega)]; exact g2 0 26 (by omega) (by omega) (by omega)
    have hF : cmF A (pm_upd B 0 24 (B 0 24 + 1)) := ⟨uM_0_24 g1 (by omega) (by omega), fun r j h1 h2 h3 => by rw [upd_o (fun e => h3 ⟨e.1, e.2⟩)]; exact g2 r j h1 h2 h3, fun j hj => by rw [upd_o (by omega)]; exact g3 j hj, fun j hj => by rw [upd_o (by omega)]; exact g4 j hj⟩
    have hfin : 72 ≤ i → A 0 26 ≤ 100 → cm_post A (some (0, 1), pm_upd B 0 24 (B 0 24 + 1)) := fun hi hl => ⟨hF, Or.inr ⟨rfl, hs, by show pm_upd B 0 24 (B 0 24 + 1) 0 24 = _; rw [upd_at, g5], hl, fun t t0 t1 => by show pm_upd B 0 24 (B 0 24 + 1) 17 _ = _; rw [upd_o (by omega)]; exact g6 t t0 t1, fun j j0 j1 => by show pm_upd B 0 24 (B 0 24 + 1) 18 _ = _; rw [upd_o (by omega)]; exact g7 j j0 (by omega)⟩⟩
    refine wq_ok srt_comes (fr := []) (cuts := [50]) (J := fun pc st => (pc = 50 ∧ (i < 72) ∧ st = ([(2, 0), (0, i + 1)], [], pm_upd B (B 0 28) ((72 * (B 0 24)) + i) (B (B 0 9) i)))) ?_ 23 50 _ ?_
    · rintro pc st (⟨rfl, h0, rfl⟩)
      rw [c9, c28, g5]
      have b := eM_5 g1 (r := 5) (by omega) kn5 i0 (show i < 72 by omega)
      refine ih (i + 1) _ (by omega) (by omega) (by omega) ⟨⟨uM_18 g1 kn18 b.1 b.2, fun r j h1 h2 h3 => by rw [upd_o (by omega)]; exact g2 r j h1 h2 h3, fun j hj => by rw [upd_o (by omega)]; exact g3 j hj, fun j hj => by rw [upd_o (by omega)]; exact g4 j hj⟩, by rw [upd_o (by omega)]; exact g5, fun t t0 t1 => by rw [upd_o (by omega)]; exact g6 t t0 t1, fun j j0 j1 => ?_⟩
      by_cases hj : j = i
      · rw [hj, upd_at]; exact e5
      · rw [upd_o (by omega)]; exact g7 j j0 (by omega)
    · refine ⟨fun h0 => ?_, fun h0 => ?_⟩
      · refine ⟨oM_0 (by omega) km0 24 rfl, ?_⟩
        refine ⟨⟨by omega, by omega⟩, ?_⟩
        refine ⟨oM_0 (by omega) km0 24 rfl, ?_⟩
        refine ⟨oM_0 (by omega) km0 26 rfl, ?_⟩
        refine ⟨fun h1 => ?_, fun h1 => ?_⟩
        · exact ⟨rfl, hF, Or.inl rfl⟩
        · exact ⟨rfl, hfin h0 (by rw [e26] at h1; exact h1)⟩
      · refine ⟨oM_0 (by omega) km0 28 rfl, ?_⟩
        refine ⟨oM_0 (by omega) km0 24 rfl, ?_⟩
        refine ⟨⟨by omega, by omega⟩, ?_⟩
        refine ⟨⟨by omega, by omega⟩, ?_⟩
        refine ⟨oM_0 (by omega) km0 9 rfl, ?_⟩
        refine ⟨aM_5 (r := B 0 9) (by rw [c9]; omega) (by rw [c9]; exact kn5) (by omega) (by omega), ?_⟩
        have e1 : B (B 0 9) i = B 5 i := by rw [c9]
        refine ⟨tM_18 (r := B 0 28) (by rw [c28]; omega) (by rw [c28]; exact kn18) (by omega) (by omega) rfl, ?_⟩
        refine ⟨⟨by omega, by omega⟩, ?_⟩
        exact ⟨rfl, h0, rfl⟩
def cmI (A B : pm_A) (i : Int) : Prop := cmF A B ∧ B 0 24 = A 0 24 ∧ ∀ t : Int, 0 ≤ t → t < i → B 17 (6 * A 0 24 + t) = A 23 t
theorem cm_14 {A : pm_A} (hA : gH wM A) (hs : A 0 24 < 150) (hth : ∀ t : Int, 0 ≤ t → t < A 0 7 → 0 ≤ A 23 t ∧ A 23 t ≤ 100) : ∀ (m : Nat) (i : Int) (B : pm_A), (6 - i).toNat < m → 0 ≤ i → i ≤ A 0 7 → cmI A B i → Tm pmt (an_sh wM) o_X10_comes 14 ([(2, 0), (0, i)], [], B) (cm_post A) := by
  have p24 := fM_0_24 hA (r := 0) (by omega) km0
  have p7 := fM_0_7 hA (r := 0) (by omega) km0
  intro m
  induction m with
  | zero => intro i B h; omega
  | succ m ih =>
    intro i B hm i0 i1 hJ
    obtain ⟨⟨g1, g2, g3, g4⟩, g5, g6⟩ := hJ
    have c27 := pM_27 g1
    have c35 := pM_35 g1
    have e7 : B 0 7 = A 0 7 := g2 0 7 (by omega) (by omega) (by omega)
    have e23 : B 23 i = A 23 i := g2 23 i (by omega) (by omega) (by omega)
    refine wq_ok srt_comes (fr := []) (cuts := [14, 50]) (J := fun pc st => (pc = 50 ∧ ((B 0 7) ≤ i) ∧ st = ([(2, 0), (0, 0)], [], B)) ∨ (pc = 14 ∧ (i < (B 0 7)) ∧ st = ([(2, 0), (0, i + 1)], [], pm_upd B (B 0 27) ((6 * (B 0 24)) + i) (B (B 0 35) i)))) ?_ 24 14 _ ?_
    · rintro pc st (⟨rfl, h0, rfl⟩ | ⟨rfl, h0, rfl⟩)
      · exact cm_50 hA hs _ 0 B (Nat.lt_succ_self _) (by omega) (by omega) ⟨⟨g1, g2, g3, g4⟩, g5, fun t t0 t1 => g6 t t0 (by rw [e7] at h0; omega), fun j j0 j1 => by omega⟩
      · rw [e7] at h0
        rw [c27, c35, g5]
        have b := hth i i0 h0
        refine ih (i + 1) _ (by omega) (by omega) (by omega) ⟨⟨uM_17 g1 kn17 (by omega) (by omega), fun r j h1 h2 h3 => by rw [upd_o (by omega)]; exact g2 r j h1 h2 h3, fun j hj => by rw [upd_o (by omega)]; exact g3 j hj, fun j hj => by rw [upd_o (by omega)]; exact g4 j hj⟩, by rw [upd_o (by omega)]; exact g5, fun t t0 t1 => ?_⟩
        by_cases hj : t = i
        · rw [hj, upd_at]; exact e23
        · rw [upd_o (by omega)]; exact g6 t t0 (by omega)
    · refine ⟨oM_0 (by omega) km0 7 rfl, ?_⟩
      refine ⟨fun h0 => ?_, fun h0 => ?_⟩
      · exact Or.inl (⟨rfl, h0, rfl⟩)
      · refine ⟨oM_0 (by omega) km0 27 rfl, ?_⟩
        refine ⟨oM_0 (by omega) km0 24 rfl, ?_⟩
        refine ⟨⟨by omega, by omega⟩, ?_⟩
        refine ⟨⟨by omega, by omega⟩, ?_⟩
        refine ⟨oM_0 (by omega) km0 35 rfl, ?_⟩
        refine ⟨aM_23 (r := B 0 35) (by rw [c35]; omega) (by rw [c35]; exact kn23) (by omega) (by omega), ?_⟩
        have e1 : B (B 0 35) i = B 23 i := by rw [c35]
        refine ⟨tM_17 (r := B 0 27) (by rw [c27]; omega) (by rw [c27]; exact kn17) (by omega) (by omega) rfl, ?_⟩
        refine ⟨⟨by omega, by omega⟩, ?_⟩
        exact Or.inr (⟨rfl, h0, rfl⟩)
theorem comes_ex {A : pm_A} (hA : gH wM A) (hth : ∀ t : Int, 0 ≤ t → t < A 0 7 → 0 ≤ A 23 t ∧ A 23 t ≤ 100) : Cl pmt (an_sh wM) 132 [(2, 0)] A (cm_post A) := by
  have p24 := fM_0_24 hA (r := 0) (by omega) km0
  have p7 := fM_0_7 hA (r := 0) (by omega) km0
  have hF : cmF A A := ⟨hA, fun _ _ _ _ _ => rfl, fun _ _ => rfl, fun _ _ => rfl⟩
  refine Cl.of (Nat.le_of_ble_eq_true rfl) ?_
  refine wq_ok (full := o_X10_comes) srt_comes (fr := []) (cuts := [14]) (J := fun pc st => (pc = 14 ∧ (¬ (A 0 24) = 150) ∧ st = ([(2, 0), (0, 0)], [], A))) ?_ 11 0 _ ?_
  · rintro pc st (⟨rfl, h0, rfl⟩)
    exact cm_14 hA (by omega) hth _ 0 A (Nat.lt_succ_self _) (by omega) (by omega) ⟨hF, rfl, fun t t0 t1 => by omega⟩
  · refine ⟨oM_0 (by omega) km0 24 rfl, ?_⟩
    refine ⟨fun h0 => ?_, fun h0 => ?_⟩
    · exact ⟨rfl, h0, rfl⟩
    · exact ⟨rfl, hF, Or.inl rfl⟩
end

section
/-! goesThrough -/
def gtF (A B : pm_A) : Prop := gH wM B ∧ ∀ r j : Int, 0 ≤ r → r ≤ 38 → 0 ≤ j → (r = 0 → j < 100) → (∀ t : Int, (0 ≤ t ∧ t ≤ 5) ∨ (42 ≤ t ∧ t ≤ 47) ∨ (50 ≤ t ∧ t ≤ 151) → ¬ inS t r j) → (r ≠ 4 ∧ r ≠ 5 ∧ r ≠ 12 ∧ r ≠ 16 ∧ r ≠ 17 ∧ r ≠ 18 ∧ r ≠ 23) → ¬ (r = 0 ∧ (j = 4 ∨ j = 5 ∨ j = 24 ∨ j = 26)) → B r j = A r j
theorem gtF.tr {A B C : pm_A} (h : gtF A B) (g : gtF B C) : gtF A C := ⟨g.1, fun r j r0 r1 j0 j1 a1 a2 a3 => (g.2 r j r0 r1 j0 j1 a1 a2 a3).trans (h.2 r j r0 r1 j0 j1 a1 a2 a3)⟩
theorem gtF.fld {A B : pm_A} (h : gtF A B) {j : Int} (j0 : 0 ≤ j) (j1 : j < 100) (h4 : j ≠ 4 ∧ j ≠ 5 ∧ j ≠ 24 ∧ j ≠ 26) : B 0 j = A 0 j := h.2 0 j (by omega) (by omega) j0 (fun _ => j1) (fun t t0 ht => by unfold inS at ht; omega) (by omega) (by omega)
theorem gtF.od {A B : pm_A} (h : odF A B) : gtF A B := ⟨h.1, fun r j r0 r1 j0 j1 a1 a2 a3 => h.2 r j r0 r1 j0 j1 (fun t ht => a1 t (by omega)) a2.1 a2.2.1 a2.2.2.1 a2.2.2.2.1 (fun e => a3 ⟨e.1, by omega⟩)⟩
def gtS (B : pm_A) : Prop := ∀ σ : Int, 0 ≤ σ → σ < B 0 24 → (∀ t : Int, 0 ≤ t → t < B 0 7 → 0 ≤ B 17 (6 * σ + t) ∧ B 17 (6 * σ + t) < B 0 26) ∧ ∃ s ks, TruX s ks (B 0 7) (B 0 8) (fun j => B 18 (72 * σ + j)) (fun t => LSm B (50 + B 17 (6 * σ + t)))
theorem gtS.keep {B C : pm_A} (hB : gH wM B) (h : gtS B) (e7 : C 0 7 = B 0 7) (e8 : C 0 8 = B 0 8) (e24 : C 0 24 = B 0 24) (e26 : B 0 26 ≤ C 0 26) (e17 : ∀ j : Int, 0 ≤ j → C 17 j = B 17 j) (e18 : ∀ j : Int, 0 ≤ j → C 18 j = B 18 j) (hp : ∀ l : Int, 0 ≤ l → l < B 0 26 → ∀ r j, inS (50 + l) r j → C r j = B r j) : gtS C := by
  have p26 := fM_0_26 hB (r := 0) (by omega) km0
  intro σ s0 s1
  obtain ⟨h1, s, ks, h2⟩ := h σ s0 (by omega)
  refine ⟨fun t t0 t1 => by rw [e17 _ (by omega)]; have := h1 t t0 (by omega); omega, s, ks, ?_⟩
  rw [e7, e8]
  refine h2.congr (fun j j0 j1 => e18 _ (by omega)) (fun t t0 t1 => ?_)
  show LSm C (50 + C 17 (6 * σ + t)) = LSm B (50 + B 17 (6 * σ + t))
  rw [e17 _ (by omega)]
  have := h1 t t0 t1
  have m := eM_1 hB (r := 1) (by omega) kn1 (j := 50 + B 17 (6 * σ + t)) (by omega) (by omega)
  exact LSm_same m.2 (hp _ this.1 this.2)
theorem gtS.add {B C : pm_A} (hB : gH wM B) (h : gtS B) (hT : ∃ s ks, Tru s ks B) (hth : ∀ t : Int, 0 ≤ t → t < B 0 7 → (0 ≤ B 23 t ∧ B 23 t < B 0 26) ∧ LSm B (50 + B 23 t) = LSm B t) (hC : cmF B C) (e24 : C 0 24 = B 0 24 + 1) (n17 : ∀ t : Int, 0 ≤ t → t < B 0 7 → C 17 (6 * B 0 24 + t) = B 23 t) (n18 : ∀ j : Int, 0 ≤ j → j < 72 → C 18 (72 * B 0 24 + j) = B 5 j) : gtS C := by
  have p26 := fM_0_26 hB (r := 0) (by omega) km0
  have p7 := fM_0_7 hB (r := 0) (by omega) km0
  have e7 : C 0 7 = B 0 7 := hC.2.1 0 7 (by omega) (by omega) (by omega)
  have e8 : C 0 8 = B 0 8 := hC.2.1 0 8 (by omega) (by omega) (by omega)
  have e26 : C 0 26 = B 0 26 := hC.2.1 0 26 (by omega) (by omega) (by omega)
  have hsl : ∀ l : Int, 0 ≤ l → l < B 0 26 → LSm C (50 + l) = LSm B (50 + l) := fun l l0 l1 => by
    have m := eM_1 hB (r := 1) (by omega) kn1 (j := 50 + l) (by omega) (by omega)
    exact LSm_same m.2 (fun r j hr => hC.2.1 r j (by unfold inS at hr; omega) (by unfold inS at hr; omega) (by unfold inS at hr; omega))
  intro σ s0 s1
  by_cases e : σ = B 0 24
  · obtain ⟨s, ks, hT⟩ := hT
    subst e
    refine ⟨fun t t0 t1 => by rw [n17 t t0 (by omega), e26]; exact (hth t t0 (by omega)).1, s, ks, ?_⟩
    rw [e7, e8]
    refine hT.x.congr (fun j j0 j1 => n18 j j0 j1) (fun t t0 t1 => ?_)
    show LSm C (50 + C 17 (6 * B 0 24 + t)) = LSm B t
    have := hth t t0 t1
    rw [n17 t t0 t1, hsl _ this.1.1 this.1.2]
    exact this.2
  · obtain ⟨h1, s, ks, h2⟩ := h σ s0 (by omega)
    refine ⟨fun t t0 t1 => by rw [hC.2.2.1 _ (by omega), e26]; exact h1 t t0 (by omega), s, ks, ?_⟩
    rw [e7, e8]
    refine h2.congr (fun j j0 j1 => hC.2.2.2 _ (by omega)) (fun t t0 t1 => ?_)
    show LSm C (50 + C 17 (6 * σ + t)) = LSm B (50 + B 17 (6 * σ + t))
    have := h1 t t0 t1
    rw [hC.2.2.1 _ (by omega), hsl _ this.1 this.2]
theorem cm_gtF {B C : pm_A} (h : cmF B C) : gtF B C := ⟨h.1, fun r j r0 r1 j0 j1 a1 a2 a3 => h.2.1 r j a2.2.2.2.2.1 a2.2.2.2.2.2.1 (fun e => a3 ⟨e.1, by omega⟩)⟩
theorem srt_goesThrough : pm_srt o_X10_goesThrough = true := by decide +kernel
def gt_post (A : pm_A) (r : pm_R) : Prop := gtF A r.2 ∧ (r.1 = some (0, 0) ∨ (r.1 = some (0, 1) ∧ r.2 0 26 ≤ 100))
def gtI (A B : pm_A) : Prop := gtF A B ∧ gtS B ∧ B 0 26 ≤ 100
theorem gt_137 {A D B : pm_A} {σ k : Int} (hF : gtF A B) (hS : gtS B) (hT : ∃ s ks, Tru s ks B) (hth : ∀ t : Int, 0 ≤ t → t < B 0 7 → (0 ≤ B 23 t ∧ B 23 t < B 0 26) ∧ LSm B (50 + B 23 t) = LSm B t) (hl : D 0 26 ≤ 100) (k0 : 0 ≤ k) (k1 : k ≤ 5) (hσ : σ < B 0 24) (H : ∀ C w3 w4, gtI A C → σ < C 0 24 → Tm pmt (an_sh wM) o_X10_goesThrough 58 ([(2, 0), (0, σ), (0, k + 1), w3, w4], [], C) (gt_post A)) (w4 : pm_V) : Tm pmt (an_sh wM) o_X10_goesThrough 137 ([(2, 0), (0, σ), (0, k), (0, D 0 26), w4], [], B) (gt_post A) := by
  have p26 := fM_0_26 hF.1 (r := 0) (by omega) km0
  have h164 : ∀ C, gtI A C → σ < C 0 24 → Tm pmt (an_sh wM) o_X10_goesThrough 164 ([(2, 0), (0, σ), (0, k), (0, D 0 26), w4], [], C) (gt_post A) := fun C hC hσC => by
    refine wq_ok srt_goesThrough (fr := []) (cuts := [58]) (J := fun pc st => (pc = 58 ∧ st = ([(2, 0), (0, σ), (0, k + 1), (0, D 0 26), w4], [], C))) ?_ 7 164 _ ?_
    · rintro pc st (⟨rfl, rfl⟩)
      exact H C _ _ hC hσC
    · refine ⟨⟨by omega, by omega⟩, ?_⟩
      exact ⟨rfl, rfl⟩
  have h155 : ∀ B, σ < B 0 24 → gtF A B → gtS B → (∃ s ks, Tru s ks B) → (∀ t : Int, 0 ≤ t → t < B 0 7 → (0 ≤ B 23 t ∧ B 23 t < B 0 26) ∧ LSm B (50 + B 23 t) = LSm B t) → Tm pmt (an_sh wM) o_X10_goesThrough 155 ([(2, 0), (0, σ), (0, k), (0, D 0 26), w4], [], B) (gt_post A) := fun B hσ hF hS hT hth => by
    have p26 := fM_0_26 hF.1 (r := 0) (by omega) km0
    refine wq_ok srt_goesThrough (fr := []) (cuts := [159]) (J := fun pc st => (pc = 159 ∧ ∃ C y, gtF A C ∧ (y = 0 ∨ (y = 1 ∧ gtI A C ∧ σ < C 0 24)) ∧ st = ([(2, 0), (0, σ), (0, k), (0, D 0 26), w4], [(0, y)], C))) ?_ 6 155 _ ?_
    · rintro pc st (⟨rfl, C, y, hCF, hy, rfl⟩)
      refine wq_ok srt_goesThrough (fr := []) (cuts := [164]) (J := fun pc st => (pc = 164 ∧ (¬ y = 0) ∧ st = ([(2, 0), (0, σ), (0, k), (0, D 0 26), w4], [], C))) ?_ 7 159 _ ?_
      · rintro pc st (⟨rfl, h0, rfl⟩)
        have hy2 : gtI A C ∧ σ < C 0 24 := by rcases hy with h | h; exact absurd h h0; exact h.2
        exact h164 C hy2.1 hy2.2
      · refine ⟨fun h0 => ?_, fun h0 => ?_⟩
        · exact ⟨rfl, h0, rfl⟩
        · exact ⟨rfl, hCF, Or.inl rfl⟩
    · refine ⟨rM_0 (by omega) km0, ?_⟩
      refine (comes_ex hF.1 (fun t t0 t1 => by have := (hth t t0 t1).1; omega)).imp ?_
      rintro ⟨r1, C⟩ ⟨q1, q2⟩
      simp only at q1 q2
      rcases q2 with q2 | ⟨q2, q3, q4, q5, q6, q7⟩
      · subst q2
        exact ⟨rfl, C, 0, hF.tr (cm_gtF q1), Or.inl rfl, rfl⟩
      · subst q2
        exact ⟨rfl, C, 1, hF.tr (cm_gtF q1), Or.inr ⟨rfl, ⟨hF.tr (cm_gtF q1), hS.add hF.1 hT hth q1 q4 q6 q7, by rw [q1.2.1 0 26 (by omega) (by omega) (by omega)]; exact q5⟩, by omega⟩, rfl⟩
  refine wq_ok srt_goesThrough (fr := []) (cuts := [149, 155]) (J := fun pc st => (pc = 155 ∧ (¬ (B 0 26) = (D 0 26)) ∧ st = ([(2, 0), (0, σ), (0, k), (0, D 0 26), w4], [], B)) ∨ (pc = 149 ∧ B 0 26 = D 0 26 ∧ ∃ C y, it_I B C ∧ st = ([(2, 0), (0, σ), (0, k), (0, D 0 26), w4], [(0, y)], C))) ?_ 10 137 _ ?_
  · rintro pc st (⟨rfl, h0, rfl⟩ | ⟨rfl, hbe, C, y, hC, rfl⟩)
    · exact h155 B hσ hF hS hT hth
    · have hf : ∀ r j : Int, 0 ≤ r → r ≤ 38 → 0 ≤ j → (r = 0 → j < 100) → r ≠ 16 → C r j = B r j := fun r j r0 r1 j0 j1 hne => hC.2 r j r0 j0 (fr_out r0 r1 j0 j1 (fun h => by rw [List.mem_singleton]; omega) (fun h => by rw [List.mem_singleton]; omega))
      have hsl : ∀ p r j, 0 ≤ p → inS p r j → C r j = B r j := fun p r j p0 hr => hf r j (by unfold inS at hr; omega) (by unfold inS at hr; omega) (by unfold inS at hr; omega) (by unfold inS at hr; omega) (by unfold inS at hr; omega)
      have f7 := hf 0 7 (by omega) (by omega) (by omega) (by omega) (by omega)
      have f26 := hf 0 26 (by omega) (by omega) (by omega) (by omega) (by omega)
      have f24 := hf 0 24 (by omega) (by omega) (by omega) (by omega) (by omega)
      have p7 := fM_0_7 hF.1 (r := 0) (by omega) km0
      have hCF : gtF A C := hF.tr ⟨hC.1, fun r j r0 r1 j0 j1 a1 a2 a3 => hf r j r0 r1 j0 j1 a2.2.2.2.1⟩
      have hCS : gtS C := hS.keep hF.1 f7 (hf 0 8 (by omega) (by omega) (by omega) (by omega) (by omega)) (hf 0 24 (by omega) (by omega) (by omega) (by omega) (by omega)) (by omega) (fun j j0 => hf 17 j (by omega) (by omega) j0 (by omega) (by omega)) (fun j j0 => hf 18 j (by omega) (by omega) j0 (by omega) (by omega)) (fun l l0 l1 r j hr => hsl _ r j (by omega) hr)
      have hCT : ∃ s ks, Tru s ks C := by obtain ⟨s, ks, h⟩ := hT; exact ⟨s, ks, h.same hC.1 f7 (hf 0 8 (by omega) (by omega) (by omega) (by omega) (by omega)) (fun j j0 _ => hf 5 j (by omega) (by omega) j0 (by omega) (by omega)) (fun p p0 p1 r j hr => hsl p r j p0 hr)⟩
      have hCth : ∀ t : Int, 0 ≤ t → t < C 0 7 → (0 ≤ C 23 t ∧ C 23 t < C 0 26) ∧ LSm C (50 + C 23 t) = LSm C t := fun t t0 t1 => by
        have e := hf 23 t (by omega) (by omega) t0 (by omega) (by omega)
        have h := hth t t0 (by omega)
        have m1 := eM_1 hF.1 (r := 1) (by omega) kn1 (j := 50 + B 23 t) (by omega) (by omega)
        have m2 := eM_1 hF.1 (r := 1) (by omega) kn1 (j := t) t0 (by omega)
        rw [e, f26, LSm_same m1.2 (fun r j hr => hsl _ r j (by omega) hr), LSm_same m2.2 (fun r j hr => hsl _ r j t0 hr)]
        exact h
      refine wq_ok srt_goesThrough (fr := []) (cuts := [155, 164]) (J := fun pc st => (pc = 155 ∧ (y = 0) ∧ st = ([(2, 0), (0, σ), (0, k), (0, D 0 26), w4], [], C)) ∨ (pc = 164 ∧ (¬ y = 0) ∧ st = ([(2, 0), (0, σ), (0, k), (0, D 0 26), w4], [], C))) ?_ 7 149 _ ?_
      · rintro pc st (⟨rfl, h0, rfl⟩ | ⟨rfl, h0, rfl⟩)
        · exact h155 C (by rw [f24]; exact hσ) hCF hCS hCT hCth
        · exact h164 C ⟨hCF, hCS, by rw [hf 0 26 (by omega) (by omega) (by omega) (by omega) (by omega)]; omega⟩ (by rw [f24]; exact hσ)
      · refine ⟨fun h0 => ?_, fun h0 => ?_⟩
        · exact Or.inl (⟨rfl, h0, rfl⟩)
        · exact Or.inr (⟨rfl, h0, rfl⟩)
  · refine ⟨oM_0 (by omega) km0 26 rfl, ?_⟩
    refine ⟨fun h0 => ?_, fun h0 => ?_⟩
    · exact Or.inl (⟨rfl, h0, rfl⟩)
    · refine ⟨rM_0 (by omega) km0, ?_⟩
      refine (isThere_ct hF.1).imp ?_
      rintro ⟨r1, C⟩ ⟨y, q1, q2, q3, q4⟩
      simp only at q1 q2 q3 q4
      subst q1
      exact Or.inr (⟨rfl, h0, C, y, ⟨q3, q4⟩, rfl⟩)
def h89 (D B : pm_A) (k i : Int) : Prop := gH wM B ∧ (∀ r j, ¬ inS (50 + D 0 26) r j → r ≠ 23 → ¬ (r = 0 ∧ j = 26) → B r j = D r j) ∧ (D 0 26 ≤ B 0 26 ∧ B 0 26 ≤ D 0 26 + 1) ∧ (i ≤ k → B 0 26 = D 0 26) ∧ ∀ t : Int, 0 ≤ t → t < i → (0 ≤ B 23 t ∧ B 23 t < B 0 26) ∧ LSm B (50 + B 23 t) = LSm D t
theorem gt_89 {A D : pm_A} {σ k : Int} (hF : gtF A D) (hS : gtS D) (hT : ∃ s ks, Tru s ks D) (hl : D 0 26 ≤ 100) (s0 : 0 ≤ σ) (s1 : σ ≤ 149) (hσ : σ < D 0 24) (k0 : 0 ≤ k) (k1 : k < D 0 7) (hD : ∀ t : Int, 0 ≤ t → t < D 0 7 → t ≠ k → LSm D (50 + D 17 (6 * σ + t)) = LSm D t) (H : ∀ C w3 w4, gtI A C → σ < C 0 24 → Tm pmt (an_sh wM) o_X10_goesThrough 58 ([(2, 0), (0, σ), (0, k + 1), w3, w4], [], C) (gt_post A)) : ∀ (m : Nat) (i : Int) (B : pm_A), (6 - i).toNat < m → 0 ≤ i → i ≤ D 0 7 → h89 D B k i → Tm pmt (an_sh wM) o_X10_goesThrough 89 ([(2, 0), (0, σ), (0, k), (0, D 0 26), (0, i)], [], B) (gt_post A) := by
  have p7 := fM_0_7 hF.1 (r := 0) (by omega) km0
  have p26 := fM_0_26 hF.1 (r := 0) (by omega) km0
  obtain ⟨hS1, _⟩ := hS σ s0 hσ
  intro m
  induction m with
  | zero => intro i B h; omega
  | succ m ih =>
    intro i B hm i0 i1 hB
    obtain ⟨g1, g2, g3, g4, g5⟩ := hB
    have c35 := pM_35 g1
    have c27 := pM_27 g1
    have f : ∀ j : Int, j ≠ 26 → B 0 j = D 0 j := fun j hj => g2 0 j (by unfold inS; omega) (by omega) (by omega)
    have e7 := f 7 (by omega)
    have e17 : B 17 (6 * σ + i) = D 17 (6 * σ + i) := g2 17 _ (by unfold inS; omega) (by omega) (by omega)
    have hsl : ∀ p : Int, p ≠ 50 + D 0 26 → ∀ r j, inS p r j → B r j = D r j := fun p hp r j hr => g2 r j (by unfold inS at *; omega) (by unfold inS at hr; omega) (by unfold inS at hr; omega)
    have hput : ∀ (C : pm_A) (l : Int), gH wM C → (∀ q j, ¬ inS (50 + D 0 26) q j → ¬ (q = 0 ∧ j = 26) → C q j = B q j) → (0 ≤ l ∧ l < C 0 26) → (B 0 26 ≤ C 0 26 ∧ C 0 26 ≤ D 0 26 + 1) → (C 0 26 = B 0 26 ∨ i = k) → (∀ t : Int, 0 ≤ t → t < i → LSm C (50 + B 23 t) = LSm B (50 + B 23 t)) → i < D 0 7 → LSm C (50 + l) = LSm D i → h89 D (pm_upd C 23 i l) k (i + 1) := fun C l hC hCF hl2 hl3 hor hsm hi hLC => by
      have hu : ∀ p : Int, LSm (pm_upd C 23 i l) p = LSm C p := fun p => LSm_ext (upd_o (by omega)) (fun q v q0 q1 v0 v1 => ⟨upd_o (by omega), upd_o (by omega)⟩)
      have u26 : pm_upd C 23 i l 0 26 = C 0 26 := upd_o (by omega)
      refine ⟨uM_23 hC kn23 (by omega) (by omega), fun r j h1 h2 h3 => ?_, by rw [u26]; omega, fun hk => by rw [u26]; rcases hor with h | h; have := g4 (by omega); omega; omega, fun t t0 t1 => ?_⟩
      · rw [upd_o (by omega), hCF r j h1 h3]; exact g2 r j h1 h2 h3
      · rw [u26]
        by_cases e : t = i
        · rw [e, upd_at, hu]; exact ⟨hl2, hLC⟩
        · rw [upd_o (by omega), hCF 23 t (by unfold inS; omega) (by omega), hu, hsm t t0 (by omega)]
          obtain ⟨h1, h2⟩ := g5 t t0 (by omega)
          exact ⟨by omega, h2⟩
    have hend : D 0 7 ≤ i → Tm pmt (an_sh wM) o_X10_goesThrough 137 ([(2, 0), (0, σ), (0, k), (0, D 0 26), (0, i)], [], B) (gt_post A) := fun hi => by
      have hie : i = D 0 7 := by omega
      have hBF : gtF A B := hF.tr ⟨g1, fun r j r0 r1 j0 j1 a1 a2 a3 => g2 r j (a1 _ (by omega)) a2.2.2.2.2.2.2 (fun e => a3 ⟨e.1, by omega⟩)⟩
      have hBT : ∃ s ks, Tru s ks B := by obtain ⟨s, ks, h⟩ := hT; exact ⟨s, ks, h.same g1 e7 (f 8 (by omega)) (fun j j0 _ => g2 5 j (by unfold inS; omega) (by omega) (by omega)) (fun p p0 p1 r j hr => hsl p (by omega) r j hr)⟩
      have hBS : gtS B := hS.keep hF.1 e7 (f 8 (by omega)) (f 24 (by omega)) g3.1 (fun j j0 => g2 17 j (by unfold inS; omega) (by omega) (by omega)) (fun j j0 => g2 18 j (by unfold inS; omega) (by omega) (by omega)) (fun l l0 l1 r j hr => hsl _ (by omega) r j hr)
      refine gt_137 (D := D) hBF hBS hBT (fun t t0 t1 => ?_) hl k0 (by omega) (by rw [f 24 (by omega)]; exact hσ) H _
      obtain ⟨h1, h2⟩ := g5 t t0 (by omega)
      have m2 := eM_1 hF.1 (r := 1) (by omega) kn1 (j := t) t0 (by omega)
      exact ⟨h1, by rw [h2]; exact (LSm_same m2.2 (hsl t (by omega))).symm⟩
    refine wq_ok srt_goesThrough (fr := []) (cuts := [89, 115, 137]) (J := fun pc st => (pc = 137 ∧ ((B 0 7) ≤ i) ∧ st = ([(2, 0), (0, σ), (0, k), (0, D 0 26), (0, i)], [], B)) ∨ (pc = 89 ∧ (i < (B 0 7)) ∧ (¬ i = k) ∧ st = ([(2, 0), (0, σ), (0, k), (0, D 0 26), (0, i + 1)], [], pm_upd B (B 0 35) i (B (B 0 27) ((6 * σ) + i)))) ∨ (pc = 115 ∧ i < B 0 7 ∧ i = k ∧ ∃ C l, gH wM C ∧ (∀ q j, ¬ inS (50 + B 0 26) q j → ¬ (q = 0 ∧ j = 26) → C q j = B q j) ∧ (0 ≤ l ∧ l < C 0 26) ∧ (B 0 26 ≤ C 0 26 ∧ C 0 26 ≤ B 0 26 + 1) ∧ LSm C (50 + l) = LSm B k ∧ st = ([(2, 0), (0, σ), (0, k), (0, D 0 26), (0, i)], [(0, l), (0, i), (2, B 0 35)], C))) ?_ 26 89 _ ?_
    · rintro pc st (⟨rfl, h0, rfl⟩ | ⟨rfl, h0, h1, rfl⟩ | ⟨rfl, h0, hik, C, l, q2, q3, q4, q5, q6, rfl⟩)
      · exact hend (by rw [e7] at h0; exact h0)
      · rw [c35, c27, e17]
        rw [e7] at h0
        have hb := hS1 i i0 h0
        have m2 := eM_1 hF.1 (r := 1) (by omega) kn1 (j := 50 + D 17 (6 * σ + i)) (by omega) (by omega)
        refine ih (i + 1) _ (by omega) (by omega) (by omega) (hput B _ g1 (fun _ _ _ _ => rfl) (by omega) (by omega) (Or.inl rfl) (fun t t0 t1 => rfl) h0 ?_)
        rw [LSm_same m2.2 (hsl _ (by omega))]; exact hD i i0 h0 h1
      · refine wq_ok srt_goesThrough (fr := []) (cuts := [89]) (J := fun pc st => (pc = 89 ∧ st = ([(2, 0), (0, σ), (0, k), (0, D 0 26), (0, i + 1)], [], pm_upd C (B 0 35) i l))) ?_ 9 115 _ ?_
        · rintro pc st (⟨rfl, rfl⟩)
          rw [c35]
          rw [e7] at h0
          have e26 := g4 (by omega)
          have m2 := eM_1 hF.1 (r := 1) (by omega) kn1 (j := k) k0 (by omega)
          refine ih (i + 1) _ (by omega) (by omega) (by omega) (hput C l q2 (fun q j h1 h2 => q3 q j (by rw [e26]; exact h1) h2) q4 (by omega) (Or.inr hik) (fun t t0 t1 => ?_) h0 ?_)
          · obtain ⟨h1, _⟩ := g5 t t0 t1
            have m1 := eM_1 g1 (r := 1) (by omega) kn1 (j := 50 + B 23 t) (by omega) (by omega)
            exact LSm_same m1.2 (fun r j hr => q3 r j (by unfold inS at *; omega) (by unfold inS at hr; omega))
          · rw [q6, hik]; exact LSm_same m2.2 (hsl k (by omega))
        · refine ⟨tM_23 (r := B 0 35) (by rw [c35]; omega) (by rw [c35]; exact kn23) (by omega) (by omega) rfl, ?_⟩
          refine ⟨⟨by omega, by omega⟩, ?_⟩
          exact ⟨rfl, rfl⟩
    · refine ⟨oM_0 (by omega) km0 7 rfl, ?_⟩
      refine ⟨fun h0 => ?_, fun h0 => ?_⟩
      · exact Or.inl (⟨rfl, h0, rfl⟩)
      · refine ⟨oM_0 (by omega) km0 35 rfl, ?_⟩
        refine ⟨fun h1 => ?_, fun h1 => ?_⟩
        · refine ⟨oM_0 (by omega) km0 27 rfl, ?_⟩
          refine ⟨⟨by omega, by omega⟩, ?_⟩
          refine ⟨⟨by omega, by omega⟩, ?_⟩
          refine ⟨aM_17 (r := B 0 27) (by rw [c27]; omega) (by rw [c27]; exact kn17) (by omega) (by omega), ?_⟩
          have e1 : B (B 0 27) ((6 * σ) + i) = B 17 ((6 * σ) + i) := by rw [c27]
          refine ⟨tM_23 (r := B 0 35) (by rw [c35]; omega) (by rw [c35]; exact kn23) (by omega) (by omega) rfl, ?_⟩
          refine ⟨⟨by omega, by omega⟩, ?_⟩
          exact Or.inr (Or.inl (⟨rfl, h0, h1, rfl⟩))
        · refine ⟨rM_0 (by omega) km0, ?_⟩
          refine (letterOf_ex (s := k) g1 (by omega) (by rw [g4 (by omega)]; exact hl)).imp ?_
          rintro ⟨r1, C⟩ ⟨l, q1, q2, q3, q4, q5, q6⟩
          simp only at q1 q2 q3 q4 q5 q6
          subst q1
          exact Or.inr (Or.inr (⟨rfl, h0, h1, C, l, q2, q3, q4, q5, q6, rfl⟩))
theorem gt_58 {A : pm_A} {σ : Int} (s0 : 0 ≤ σ) (s1 : σ ≤ 149) (H : ∀ C w2 w3 w4, gtI A C → σ < C 0 24 → Tm pmt (an_sh wM) o_X10_goesThrough 48 ([(2, 0), (0, σ + 1), w2, w3, w4], [], C) (gt_post A)) : ∀ (m : Nat) (k : Int) (w3 w4 : pm_V) (B : pm_A), (6 - k).toNat < m → 0 ≤ k → k ≤ 6 → gtI A B → σ < B 0 24 → Tm pmt (an_sh wM) o_X10_goesThrough 58 ([(2, 0), (0, σ), (0, k), w3, w4], [], B) (gt_post A) := by
  intro m
  induction m with
  | zero => intro k w3 w4 B h; omega
  | succ m ih =>
    intro k w3 w4 B hm k0 k1 hB hσ
    obtain ⟨hF, hS, hl⟩ := hB
    have p7 := fM_0_7 hF.1 (r := 0) (by omega) km0
    have p26 := fM_0_26 hF.1 (r := 0) (by omega) km0
    have h170 : Tm pmt (an_sh wM) o_X10_goesThrough 170 ([(2, 0), (0, σ), (0, k), w3, w4], [], B) (gt_post A) := by
      refine wq_ok srt_goesThrough (fr := []) (cuts := [48]) (J := fun pc st => (pc = 48 ∧ st = ([(2, 0), (0, σ + 1), (0, k), w3, w4], [], B))) ?_ 7 170 _ ?_
      · rintro pc st (⟨rfl, rfl⟩)
        exact H B _ _ _ ⟨hF, hS, hl⟩ hσ
      · refine ⟨⟨by omega, by omega⟩, ?_⟩
        exact ⟨rfl, rfl⟩
    refine wq_ok srt_goesThrough (fr := []) (cuts := [71, 170]) (J := fun pc st => (pc = 170 ∧ ((B 0 7) ≤ k) ∧ st = ([(2, 0), (0, σ), (0, k), w3, w4], [], B)) ∨ (pc = 71 ∧ k < B 0 7 ∧ ∃ C, tkJ B C σ 72 ∧ st = ([(2, 0), (0, σ), (0, k), w3, w4], [], C))) ?_ 11 58 _ ?_
    · rintro pc st (⟨rfl, h0, rfl⟩ | ⟨rfl, hk, C, hC, rfl⟩)
      · exact h170
      · have hCc : ∀ r j : Int, (r = 0 ∨ 5 < r) → r ≠ 5 → C r j = B r j := fun r j h1 h2 => hC.2.1 r j (fun t t0 t1 ht => by unfold inS at ht; omega) h2
        have c7 := hCc 0 7 (by omega) (by omega)
        have c8 := hCc 0 8 (by omega) (by omega)
        obtain ⟨_, s, ks, hX⟩ := hS σ s0 hσ
        have hCT : Tru s ks C := hX.to hC.1 c7 c8 (fun j j0 j1 => hC.2.2.2 j j0 j1) (fun t t0 t1 => hC.2.2.1 t t0 t1)
        have hCF : gtF A C := hF.tr ⟨hC.1, fun r j r0 r1 j0 j1 a1 a2 a3 => hC.2.1 r j (fun x x0 x1 => a1 x (by omega)) a2.2.1⟩
        have hkk : ((⟨k.toNat, by omega⟩ : Fin 12).1 : Int) = k := by show ((k.toNat : Nat) : Int) = k; omega
        have hk2 : ((⟨k.toNat, by omega⟩ : Fin 12).1 : Int) < C 0 7 := by rw [hkk, c7]; exact hk
        refine wq_ok srt_goesThrough (fr := []) (cuts := [76]) (J := fun pc st => (pc = 76 ∧ ∃ D y, ((y = 0 ∧ gtF A D) ∨ (y = 1 ∧ (∃ s ks, Tru s ks D) ∧ gH wM D ∧ ∀ q j, (∀ t : Int, 42 ≤ t → t ≤ 47 → ¬ inS t q j) → ¬ inS k q j → q ≠ 4 → q ≠ 5 → q ≠ 12 → ¬ (q = 0 ∧ (j = 4 ∨ j = 5)) → D q j = C q j)) ∧ st = ([(2, 0), (0, σ), (0, k), w3, w4], [(0, y)], D))) ?_ 7 71 _ ?_
        · rintro pc st (⟨rfl, D, y, hy, rfl⟩)
          refine wq_ok srt_goesThrough (fr := []) (cuts := [81]) (J := fun pc st => (pc = 81 ∧ (¬ y = 0) ∧ st = ([(2, 0), (0, σ), (0, k), w3, w4], [], D))) ?_ 7 76 _ ?_
          · rintro pc st (⟨rfl, h0, rfl⟩)
            obtain ⟨_, hDT, hDg, hDf⟩ : y = 1 ∧ (∃ s ks, Tru s ks D) ∧ gH wM D ∧ ∀ q j, (∀ t : Int, 42 ≤ t → t ≤ 47 → ¬ inS t q j) → ¬ inS k q j → q ≠ 4 → q ≠ 5 → q ≠ 12 → ¬ (q = 0 ∧ (j = 4 ∨ j = 5)) → D q j = C q j := by rcases hy with h | h; exact absurd h.1 h0; exact h
            have d0 : ∀ j : Int, j ≠ 4 → j ≠ 5 → D 0 j = B 0 j := fun j a b => by rw [hDf 0 j (fun x x0 x1 hx => by unfold inS at hx; omega) (by unfold inS; omega) (by omega) (by omega) (by omega) (by omega)]; exact hCc 0 j (by omega) (by omega)
            have d7 := d0 7 (by omega) (by omega)
            have d8 := d0 8 (by omega) (by omega)
            have d24 := d0 24 (by omega) (by omega)
            have d26 := d0 26 (by omega) (by omega)
            have hDF : gtF A D := hF.tr ⟨hDg, fun r j r0 r1 j0 j1 a1 a2 a3 => by rw [hDf r j (fun x x0 x1 => a1 x (by omega)) (a1 k (by omega)) a2.1 a2.2.1 a2.2.2.1 (fun e => a3 ⟨e.1, by omega⟩)]; exact hC.2.1 r j (fun x x0 x1 => a1 x (by omega)) a2.2.1⟩
            have hDS : gtS D := hS.keep hF.1 d7 d8 d24 (by omega) (fun j j0 => by rw [hDf 17 j (fun x x0 x1 hx => by unfold inS at hx; omega) (by unfold inS; omega) (by omega) (by omega) (by omega) (by omega)]; exact hCc 17 j (by omega) (by omega)) (fun j j0 => by rw [hDf 18 j (fun x x0 x1 hx => by unfold inS at hx; omega) (by unfold inS; omega) (by omega) (by omega) (by omega) (by omega)]; exact hCc 18 j (by omega) (by omega)) (fun l l0 l1 r j hr => by rw [hDf r j (fun x x0 x1 hx => by unfold inS at *; omega) (by unfold inS at *; omega) (by unfold inS at hr; omega) (by unfold inS at hr; omega) (by unfold inS at hr; omega) (by unfold inS at hr; omega)]; exact hC.2.1 r j (fun x x0 x1 hx => by unfold inS at *; omega) (by unfold inS at hr; omega))
            refine wq_ok srt_goesThrough (fr := []) (cuts := [89]) (J := fun pc st => (pc = 89 ∧ st = ([(2, 0), (0, σ), (0, k), (0, D 0 26), (0, 0)], [], D))) ?_ 10 81 _ ?_
            · rintro pc st (⟨rfl, rfl⟩)
              refine gt_89 (D := D) hDF hDS hDT (by omega) s0 s1 (by omega) k0 (by omega) (fun t t0 t1 hne => ?_) (fun E w3 w4 hE hE2 => ih (k + 1) w3 w4 E (by omega) (by omega) (by omega) hE hE2) _ 0 D (Nat.lt_succ_self _) (by omega) (by omega) ⟨hDg, fun _ _ _ _ _ => rfl, ⟨by omega, by omega⟩, fun _ => rfl, fun t t0 t1 => by omega⟩
              have hb := (hS σ s0 hσ).1 t t0 (by omega)
              have e17 : D 17 (6 * σ + t) = B 17 (6 * σ + t) := by rw [hDf 17 _ (fun x x0 x1 hx => by unfold inS at hx; omega) (by unfold inS; omega) (by omega) (by omega) (by omega) (by omega)]; exact hCc 17 _ (by omega) (by omega)
              have m1 := eM_1 hC.1 (r := 1) (by omega) kn1 (j := t) t0 (by omega)
              have m2 := eM_1 hF.1 (r := 1) (by omega) kn1 (j := 50 + B 17 (6 * σ + t)) (by omega) (by omega)
              rw [e17, LSm_same m1.2 (fun r j hr => hDf r j (fun x x0 x1 hx => by unfold inS at *; omega) (by unfold inS at *; omega) (by unfold inS at hr; omega) (by unfold inS at hr; omega) (by unfold inS at hr; omega) (by unfold inS at hr; omega)), hC.2.2.1 t t0 (by omega)]
              refine LSm_same m2.2 (fun r j hr => ?_)
              rw [hDf r j (fun x x0 x1 hx => by unfold inS at *; omega) (by unfold inS at *; omega) (by unfold inS at hr; omega) (by unfold inS at hr; omega) (by unfold inS at hr; omega) (by unfold inS at hr; omega)]
              exact hC.2.1 r j (fun x x0 x1 hx => by unfold inS at *; omega) (by unfold inS at hr; omega)
            · refine ⟨oM_0 (by omega) km0 26 rfl, ?_⟩
              exact ⟨rfl, rfl⟩
          · refine ⟨fun h0 => ?_, fun h0 => ?_⟩
            · exact ⟨rfl, h0, rfl⟩
            · exact ⟨rfl, by rcases hy with h | h; exact h.2; omega, Or.inl rfl⟩
        · refine ⟨rM_0 (by omega) km0, ?_⟩
          show Cl pmt (an_sh wM) 200 [(2, 0), (0, k)] C _
          rw [← hkk]
          refine (turns_ex hCT hk2).imp ?_
          rintro ⟨r1, D⟩ hD
          rcases hD with ⟨q1, q2, q3⟩ | ⟨q1, q2, q3, q4⟩
          · simp only at q1 q2 q3
            subst q1
            exact ⟨rfl, D, 0, Or.inl ⟨rfl, hCF.tr ⟨q2.1, fun r j r0 r1 j0 j1 a1 a2 a3 => q2.2 r j (fun x x0 x1 => a1 x (by omega)) a2.1 a2.2.2.1 (fun e => a3 ⟨e.1, by omega⟩)⟩⟩, rfl⟩
          · simp only at q1 q2 q3 q4
            subst q1
            exact ⟨rfl, D, 1, Or.inr ⟨rfl, ⟨_, _, q2⟩, q3, fun q j a1 a2 a3 a4 a5 a6 => q4 q j a1 a2 a3 a4 a5 a6⟩, rfl⟩
    · refine ⟨oM_0 (by omega) km0 7 rfl, ?_⟩
      refine ⟨fun h0 => ?_, fun h0 => ?_⟩
      · exact Or.inl (⟨rfl, h0, rfl⟩)
      · refine ⟨rM_0 (by omega) km0, ?_⟩
        refine (takes_ex hF.1 s0 s1).imp ?_
        rintro ⟨r1, C⟩ ⟨q1, q2⟩
        simp only at q1 q2
        subst q1
        exact Or.inr (⟨rfl, h0, C, q2, rfl⟩)
end

section
/-! goesThrough, all: the ends -/
theorem gt_48 {A : pm_A} : ∀ (m : Nat) (σ : Int) (w2 w3 w4 : pm_V) (B : pm_A), (150 - σ).toNat < m → 0 ≤ σ → σ ≤ 150 → gtI A B → Tm pmt (an_sh wM) o_X10_goesThrough 48 ([(2, 0), (0, σ), w2, w3, w4], [], B) (gt_post A) := by
  intro m
  induction m with
  | zero => intro σ w2 w3 w4 B h; omega
  | succ m ih =>
    intro σ w2 w3 w4 B hm s0 s1 hB
    have p24 := fM_0_24 hB.1.1 (r := 0) (by omega) km0
    refine wq_ok srt_goesThrough (fr := []) (cuts := [58]) (J := fun pc st => (pc = 58 ∧ (σ < (B 0 24)) ∧ st = ([(2, 0), (0, σ), (0, 0), w3, w4], [], B))) ?_ 11 48 _ ?_
    · rintro pc st (⟨rfl, h0, rfl⟩)
      exact gt_58 s0 (by omega) (fun C w2 w3 w4 hC _ => ih (σ + 1) w2 w3 w4 C (by omega) (by omega) (by omega) hC) _ 0 _ _ B (Nat.lt_succ_self _) (by omega) (by omega) hB h0
    · refine ⟨oM_0 (by omega) km0 24 rfl, ?_⟩
      refine ⟨fun h0 => ?_, fun h0 => ?_⟩
      · exact ⟨rfl, hB.1, Or.inr ⟨rfl, hB.2.2⟩⟩
      · exact ⟨rfl, h0, rfl⟩
def g12 (A B : pm_A) (i : Int) : Prop := gtF A B ∧ B 0 24 = 0 ∧ (0 ≤ B 0 26 ∧ B 0 26 ≤ i) ∧ (∀ p : Int, 0 ≤ p → p ≤ 5 → ∀ r j, inS p r j → B r j = A r j) ∧ (∀ j : Int, 0 ≤ j → B 5 j = A 5 j) ∧ ∀ t : Int, 0 ≤ t → t < i → (0 ≤ B 23 t ∧ B 23 t < B 0 26) ∧ LSm B (50 + B 23 t) = LSm B t
theorem gt_37 {A B : pm_A} (hT : ∃ s ks, Tru s ks A) (h : g12 A B (A 0 7)) (w1 w2 w3 w4 : pm_V) : Tm pmt (an_sh wM) o_X10_goesThrough 37 ([(2, 0), w1, w2, w3, w4], [], B) (gt_post A) := by
  obtain ⟨hF, h24, h26, hsl, h5, hth⟩ := h
  have e7 := hF.fld (j := 7) (by omega) (by omega) (by omega)
  have e8 := hF.fld (j := 8) (by omega) (by omega) (by omega)
  have p7 := fM_0_7 hF.1 (r := 0) (by omega) km0
  have hBT : ∃ s ks, Tru s ks B := by obtain ⟨s, ks, h⟩ := hT; exact ⟨s, ks, h.same hF.1 e7 e8 (fun j j0 _ => h5 j j0) (fun p p0 p1 => hsl p p0 (by omega))⟩
  have hS : gtS B := fun σ s0 s1 => by omega
  refine wq_ok srt_goesThrough (fr := []) (cuts := [41]) (J := fun pc st => (pc = 41 ∧ ∃ C y, gtF A C ∧ (y = 0 ∨ (y = 1 ∧ gtI A C)) ∧ st = ([(2, 0), w1, w2, w3, w4], [(0, y)], C))) ?_ 6 37 _ ?_
  · rintro pc st (⟨rfl, C, y, hCF, hy, rfl⟩)
    refine wq_ok srt_goesThrough (fr := []) (cuts := [48]) (J := fun pc st => (pc = 48 ∧ (¬ y = 0) ∧ st = ([(2, 0), (0, 0), w2, w3, w4], [], C))) ?_ 8 41 _ ?_
    · rintro pc st (⟨rfl, h0, rfl⟩)
      exact gt_48 _ 0 _ _ _ C (Nat.lt_succ_self _) (by omega) (by omega) (by rcases hy with h | h; exact absurd h h0; exact h.2)
    · refine ⟨fun h0 => ?_, fun h0 => ?_⟩
      · exact ⟨rfl, h0, rfl⟩
      · exact ⟨rfl, hCF, Or.inl rfl⟩
  · refine ⟨rM_0 (by omega) km0, ?_⟩
    refine (comes_ex hF.1 (fun t t0 t1 => by have := (hth t t0 (by omega)).1; omega)).imp ?_
    rintro ⟨r1, C⟩ ⟨q1, q2⟩
    simp only at q1 q2
    rcases q2 with q2 | ⟨q2, q3, q4, q5, q6, q7⟩
    · subst q2
      exact ⟨rfl, C, 0, hF.tr (cm_gtF q1), Or.inl rfl, rfl⟩
    · subst q2
      exact ⟨rfl, C, 1, hF.tr (cm_gtF q1), Or.inr ⟨rfl, hF.tr (cm_gtF q1), hS.add hF.1 hBT (fun t t0 t1 => hth t t0 (by omega)) q1 q4 q6 q7, by rw [q1.2.1 0 26 (by omega) (by omega) (by omega)]; exact q5⟩, rfl⟩
theorem gt_12 {A : pm_A} (hT : ∃ s ks, Tru s ks A) : ∀ (m : Nat) (i : Int) (w2 w3 w4 : pm_V) (B : pm_A), (6 - i).toNat < m → 0 ≤ i → i ≤ A 0 7 → g12 A B i → Tm pmt (an_sh wM) o_X10_goesThrough 12 ([(2, 0), (0, i), w2, w3, w4], [], B) (gt_post A) := by
  have hA : gH wM A := by obtain ⟨s, ks, h⟩ := hT; exact h.1
  have p7 := fM_0_7 hA (r := 0) (by omega) km0
  intro m
  induction m with
  | zero => intro i w2 w3 w4 B h; omega
  | succ m ih =>
    intro i w2 w3 w4 B hm i0 i1 hB
    have hB0 := hB
    obtain ⟨hF, h24, h26, hsl, h5, hth⟩ := hB
    have e7 := hF.fld (j := 7) (by omega) (by omega) (by omega)
    have c35 := pM_35 hF.1
    refine wq_ok srt_goesThrough (fr := []) (cuts := [30, 37]) (J := fun pc st => (pc = 37 ∧ ((B 0 7) ≤ i) ∧ st = ([(2, 0), (0, i), w2, w3, w4], [], B)) ∨ (pc = 30 ∧ i < B 0 7 ∧ ∃ C l, gH wM C ∧ (∀ q j, ¬ inS (50 + B 0 26) q j → ¬ (q = 0 ∧ j = 26) → C q j = B q j) ∧ (0 ≤ l ∧ l < C 0 26) ∧ (B 0 26 ≤ C 0 26 ∧ C 0 26 ≤ B 0 26 + 1) ∧ LSm C (50 + l) = LSm B i ∧ st = ([(2, 0), (0, i), w2, w3, w4], [(0, l), (0, i), (2, B 0 35)], C))) ?_ 14 12 _ ?_
    · rintro pc st (⟨rfl, h0, rfl⟩ | ⟨rfl, h0, C, l, q2, q3, q4, q5, q6, rfl⟩)
      · rw [e7] at h0
        have hi : i = A 0 7 := by omega
        rw [hi] at hB0
        exact gt_37 hT hB0 _ _ _ _
      · refine wq_ok srt_goesThrough (fr := []) (cuts := [12]) (J := fun pc st => (pc = 12 ∧ st = ([(2, 0), (0, i + 1), w2, w3, w4], [], pm_upd C (B 0 35) i l))) ?_ 8 30 _ ?_
        · rintro pc st (⟨rfl, rfl⟩)
          rw [c35]
          rw [e7] at h0
          have hu : ∀ p : Int, LSm (pm_upd C 23 i l) p = LSm C p := fun p => LSm_ext (upd_o (by omega)) (fun q v q0 q1 v0 v1 => ⟨upd_o (by omega), upd_o (by omega)⟩)
          have u26 : pm_upd C 23 i l 0 26 = C 0 26 := upd_o (by omega)
          have cls : ∀ p : Int, p ≠ 50 + B 0 26 → ∀ r j, inS p r j → C r j = B r j := fun p hp r j hr => q3 r j (by unfold inS at *; omega) (by unfold inS at hr; omega)
          have sls : ∀ p : Int, 0 ≤ p → p ≤ 5 → LSm C p = LSm B p := fun p p0 p1 => by have m := eM_1 hF.1 (r := 1) (by omega) kn1 (j := p) p0 (by omega); exact LSm_same m.2 (cls p (by omega))
          refine ih (i + 1) _ _ _ _ (by omega) (by omega) (by omega) ⟨hF.tr ⟨uM_23 q2 kn23 (by omega) (by omega), fun r j r0 r1 j0 j1 a1 a2 a3 => ?_⟩, ?_, by rw [u26]; omega, fun p p0 p1 r j hr => ?_, fun j j0 => ?_, fun t t0 t1 => ?_⟩
          · rw [upd_o (by omega)]; exact q3 r j (a1 _ (by omega)) (fun e => a3 ⟨e.1, by omega⟩)
          · rw [upd_o (by omega), q3 0 24 (by unfold inS; omega) (by omega)]; exact h24
          · rw [upd_o (by unfold inS at hr; omega), cls p (by omega) r j hr]; exact hsl p p0 p1 r j hr
          · rw [upd_o (by omega), q3 5 j (by unfold inS; omega) (by omega)]; exact h5 j j0
          · rw [u26]
            by_cases e : t = i
            · rw [e, upd_at, hu, hu, q6, sls i i0 (by omega)]; exact ⟨q4, rfl⟩
            · rw [upd_o (by omega), q3 23 t (by unfold inS; omega) (by omega), hu, hu, sls t t0 (by omega)]
              obtain ⟨h1, h2⟩ := hth t t0 (by omega)
              have m1 := eM_1 hF.1 (r := 1) (by omega) kn1 (j := 50 + B 23 t) (by omega) (by omega)
              exact ⟨by omega, by rw [LSm_same m1.2 (cls _ (by omega))]; exact h2⟩
        · refine ⟨tM_23 (r := B 0 35) (by rw [c35]; omega) (by rw [c35]; exact kn23) (by omega) (by omega) rfl, ?_⟩
          refine ⟨⟨by omega, by omega⟩, ?_⟩
          exact ⟨rfl, rfl⟩
    · refine ⟨oM_0 (by omega) km0 7 rfl, ?_⟩
      refine ⟨fun h0 => ?_, fun h0 => ?_⟩
      · exact Or.inl (⟨rfl, h0, rfl⟩)
      · refine ⟨oM_0 (by omega) km0 35 rfl, ?_⟩
        refine ⟨rM_0 (by omega) km0, ?_⟩
        refine (letterOf_ex (s := i) hF.1 (by omega) (by omega)).imp ?_
        rintro ⟨r1, C⟩ ⟨l, q1, q2, q3, q4, q5, q6⟩
        simp only at q1 q2 q3 q4 q5 q6
        subst q1
        exact Or.inr (⟨rfl, h0, C, l, q2, q3, q4, q5, q6, rfl⟩)
theorem goesThrough_ex {A : pm_A} (hT : ∃ s ks, Tru s ks A) : Cl pmt (an_sh wM) 147 [(2, 0)] A (gt_post A) := by
  have hA : gH wM A := by obtain ⟨s, ks, h⟩ := hT; exact h.1
  have p7 := fM_0_7 hA (r := 0) (by omega) km0
  refine Cl.of (Nat.le_of_ble_eq_true rfl) ?_
  refine wq_ok (full := o_X10_goesThrough) srt_goesThrough (fr := []) (cuts := [12]) (J := fun pc st => (pc = 12 ∧ st = ([(2, 0), (0, 0), (9, 0), (9, 0), (9, 0)], [], pm_upd (pm_upd A 0 24 0) 0 26 0))) ?_ 13 0 _ ?_
  · rintro pc st (⟨rfl, rfl⟩)
    refine gt_12 hT _ 0 _ _ _ _ (Nat.lt_succ_self _) (by omega) (by omega) ⟨⟨uM_0_26 (uM_0_24 hA (by omega) (by omega)) (by omega) (by omega), fun r j r0 r1 j0 j1 a1 a2 a3 => ?_⟩, ?_, ?_, fun p p0 p1 r j hr => ?_, fun j j0 => ?_, fun t t0 t1 => by omega⟩
    · rw [upd_o (fun e => a3 ⟨e.1, by omega⟩), upd_o (fun e => a3 ⟨e.1, by omega⟩)]
    · rw [upd_o (by omega), upd_at]
    · rw [upd_at]; omega
    · rw [upd_o (by unfold inS at hr; omega), upd_o (by unfold inS at hr; omega)]
    · rw [upd_o (by omega), upd_o (by omega)]
  · refine ⟨oM_0 (by omega) km0 24 rfl, ?_⟩
    refine ⟨oM_0 (by omega) km0 26 rfl, ?_⟩
    exact ⟨rfl, rfl⟩
theorem RI.upd {A : pm_A} {r j x : Int} (h : RI A) (hB : gH wM (pm_upd A r j x)) (h1 : r ≠ 1 ∧ r ≠ 2 ∧ r ≠ 3 ∧ r ≠ 5 ∧ r ≠ 6 ∧ r ≠ 7 ∧ r ≠ 31 ∧ r ≠ 32) (h2 : ¬ (r = 0 ∧ (j = 7 ∨ j = 8 ∨ j = 10))) : RI (pm_upd A r j x) := by
  obtain ⟨⟨s, ks, hT⟩, ⟨b1, b2⟩, hRG⟩ := h
  refine ⟨⟨s, ks, hT.same hB (upd_o (by omega)) (upd_o (by omega)) (fun i _ _ => upd_o (by omega)) (fun p p0 p1 q i hq => upd_o (by unfold inS at hq; omega))⟩, ⟨fun i i0 i1 => by rw [upd_o (by omega)]; exact b1 i i0 i1, fun d d0 d1 => ?_⟩, hRG.same (fun i => upd_o (by omega)) (fun i => upd_o (by omega))⟩
  rw [upd_o (by omega), upd_o (by omega)]
  rw [upd_o (by omega)] at d1
  exact b2 d d0 d1
theorem restored {A A1 B C : pm_A} (hA : RI A) (h1 : savesJ A A1 30 72) (hB : gH wM B) (hf : ∀ r j : Int, 0 ≤ j → (r = 0 → j < 100) → (r = 0 ∧ j ≠ 4 ∧ j ≠ 5 ∧ j ≠ 24 ∧ j ≠ 26 ∧ j ≠ 40 ∧ j ≠ 41 ∧ j ≠ 42) ∨ (r = 6 ∨ r = 7 ∨ r = 22 ∨ r = 31 ∨ r = 32) → B r j = A1 r j) (hs : ∀ p : Int, 30 ≤ p → p ≤ 35 → ∀ r j, inS p r j → B r j = A1 r j) (hC : restoresJ B C 30 72) : RI C := by
  obtain ⟨⟨s, ks, hT⟩, ⟨b1, b2⟩, hRG⟩ := hA
  have p7 := fM_0_7 hT.1 (r := 0) (by omega) km0
  obtain ⟨q2, q3, q4, q5⟩ := hC
  have s1 : ∀ r j : Int, r ≠ 22 → (∀ t : Int, 30 ≤ t → t ≤ 35 → ¬ inS t r j) → A1 r j = A r j := fun r j hr hn => h1.2.1 r j (fun t t0 t1 ht => hn (30 + t) (by omega) (by omega) ht) hr
  have e7 : B 0 7 = A 0 7 := by rw [hf 0 7 (by omega) (by omega) (by omega)]; exact s1 0 7 (by omega) (fun t t0 t1 ht => by unfold inS at ht; omega)
  have c0 : ∀ j : Int, j = 7 ∨ j = 8 ∨ j = 10 → C 0 j = A 0 j := fun j hj => by
    rw [q3 0 j (fun t t0 t1 ht => by unfold inS at ht; omega) (by omega), hf 0 j (by omega) (by omega) (by omega)]; exact s1 0 j (by omega) (fun t t0 t1 ht => by unfold inS at ht; omega)
  have cC : ∀ r j : Int, 0 ≤ j → r = 6 ∨ r = 7 ∨ r = 31 ∨ r = 32 → C r j = A r j := fun r j j0 hr => by
    rw [q3 r j (fun t t0 t1 ht => by unfold inS at ht; omega) (by omega), hf r j j0 (by omega) (by omega)]; exact s1 r j (by omega) (fun t t0 t1 ht => by unfold inS at ht; omega)
  refine ⟨⟨s, ks, hT.ls q2 (c0 7 (by omega)) (c0 8 (by omega)) (fun j j0 j1 => ?_) (fun p p0 p1 => ?_)⟩, ⟨fun j j0 j1 => by rw [cC 7 j j0 (by omega)]; exact b1 j j0 j1, fun d d0 d1 => ?_⟩, hRG.same2 (fun j j0 => cC 31 j j0 (by omega)) (fun j j0 => cC 32 j j0 (by omega))⟩
  · rw [q5 j j0 j1, hf 22 j j0 (by omega) (by omega)]; exact h1.2.2.2 j j0 j1
  · rw [q4 p p0 (by omega)]
    have m1 := eM_1 h1.1 (r := 1) (by omega) kn1 (j := 30 + p) (by omega) (by omega)
    rw [LSm_same m1.2 (hs (30 + p) (by omega) (by omega))]
    exact h1.2.2.1 p p0 p1
  · rw [cC 6 d d0 (by omega), c0 7 (by omega)]
    rw [c0 10 (by omega)] at d1
    exact b2 d d0 d1
theorem srt_Mall : pm_srt o_X10_all = true := by decide +kernel
def alI (B : pm_A) : Prop := RI B ∧ B 0 26 ≤ 100
theorem al_94 {l : Int} (l0 : 0 ≤ l) (l1 : l ≤ 99) (H : ∀ C w3, alI C → Tm pmt (an_sh wM) o_X10_all 55 ([(2, 0), (0, 1), (0, l + 1), w3], [], C) ri_post) : ∀ (m : Nat) (v : Int) (B : pm_A), (12 - v).toNat < m → 0 ≤ v → v ≤ 12 → alI B → Tm pmt (an_sh wM) o_X10_all 94 ([(2, 0), (0, 1), (0, l), (0, v)], [], B) ri_post := by
  intro m
  induction m with
  | zero => intro v B h; omega
  | succ m ih =>
    intro v B hm v0 v1 hB
    have hg := hB.1.g
    have c33 := pM_33 hg
    refine wq_ok srt_Mall (fr := []) (cuts := [55, 119]) (J := fun pc st => (pc = 55 ∧ (12 ≤ v) ∧ st = ([(2, 0), (0, 1), (0, l + 1), (0, v)], [], B)) ∨ (pc = 119 ∧ v < 12 ∧ ∃ C x, alI C ∧ (-2147483648 ≤ x ∧ x ≤ 2147483647) ∧ st = ([(2, 0), (0, 1), (0, l), (0, v)], [(0, x), (0, 12 * l + v), (2, B 0 33)], C))) ?_ 20 94 _ ?_
    · rintro pc st (⟨rfl, h0, rfl⟩ | ⟨rfl, hv, C, x, hC, hx, rfl⟩)
      · exact H B _ hB
      · refine wq_ok srt_Mall (fr := []) (cuts := [94]) (J := fun pc st => (pc = 94 ∧ st = ([(2, 0), (0, 1), (0, l), (0, v + 1)], [], pm_upd C (B 0 33) (12 * l + v) x))) ?_ 8 119 _ ?_
        · rintro pc st (⟨rfl, rfl⟩)
          rw [c33]
          exact ih (v + 1) _ (by omega) (by omega) (by omega) ⟨hC.1.upd (uM_21 hC.1.g kn21 hx.1 hx.2) (by omega) (by omega), by rw [upd_o (by omega)]; exact hC.2⟩
        · refine ⟨tM_21 (r := B 0 33) (by rw [c33]; omega) (by rw [c33]; exact kn21) (by omega) (by omega) rfl, ?_⟩
          refine ⟨⟨by omega, by omega⟩, ?_⟩
          exact ⟨rfl, rfl⟩
    · refine ⟨fun h0 => ?_, fun h0 => ?_⟩
      · refine ⟨⟨by omega, by omega⟩, ?_⟩
        exact Or.inl (⟨rfl, h0, rfl⟩)
      · refine ⟨oM_0 (by omega) km0 33 rfl, ?_⟩
        refine ⟨⟨by omega, by omega⟩, ?_⟩
        refine ⟨⟨by omega, by omega⟩, ?_⟩
        refine ⟨⟨by omega, by omega⟩, ?_⟩
        refine ⟨rM_0 (by omega) km0, ?_⟩
        refine Cl.gct q_X10_leastOf_0 (A := B) (a := [(2, 0), (0, 50 + l), (0, v)]) ⟨gv_ref (by omega) km0, ⟨rfl, by simp only; omega, by simp only; omega⟩, ⟨rfl, by simp only; omega, by simp only; omega⟩, trivial⟩ hg ?_
        rintro ⟨r1, C⟩ f1 f2 f3
        simp only at f1 f2 f3
        match r1, f1 with
        | some (0, x), fx => exact Or.inr (⟨rfl, h0, C, x, ⟨hB.1.typed f2 f3 (by decide), by rw [f3 0 26 (by omega) (by omega) (by rw [mc_0]; decide)]; exact hB.2⟩, ⟨fx.1.2.1, fx.1.2.2⟩, rfl⟩)
        | some (n + 1, x), ⟨⟨q, _⟩, _⟩ => exact absurd q (by intro q; cases q)
        | none, q => exact absurd q (by intro q; cases q)
theorem al_55 : ∀ (m : Nat) (l : Int) (w3 : pm_V) (B : pm_A), (101 - l).toNat < m → 0 ≤ l → l ≤ 100 → alI B → Tm pmt (an_sh wM) o_X10_all 55 ([(2, 0), (0, 1), (0, l), w3], [], B) ri_post := by
  intro m
  induction m with
  | zero => intro l w3 B h; omega
  | succ m ih =>
    intro l w3 B hm l0 l1 hB
    have hg := hB.1.g
    have h26 := hB.2
    have p7 := fM_0_7 hg (r := 0) (by omega) km0
    have p8 := fM_0_8 hg (r := 0) (by omega) km0
    have c31 := pM_31 hg
    have c1 := pM_1 hg
    have ml : l < 100 → 0 ≤ B 1 (50 + l) ∧ B 1 (50 + l) ≤ 200 := fun h => eM_1 hg (r := 1) (by omega) kn1 (by omega) (by omega)
    have h78 : ∀ C, l < 100 → alI C → Tm pmt (an_sh wM) o_X10_all 78 ([(2, 0), (0, 1), (0, l), w3], [], C) ri_post := fun C hl hC => by
      have hgC := hC.1.g
      have c32 := pM_32 hgC
      refine wq_ok srt_Mall (fr := []) (cuts := [91]) (J := fun pc st => (pc = 91 ∧ ∃ D x, alI D ∧ (-9223372036854775808 ≤ x ∧ x ≤ 9223372036854775807) ∧ st = ([(2, 0), (0, 1), (0, l), w3], [(1, x), (0, l), (2, C 0 32)], D))) ?_ 12 78 _ ?_
      · rintro pc st (⟨rfl, D, x, hD, hx, rfl⟩)
        refine wq_ok srt_Mall (fr := []) (cuts := [94]) (J := fun pc st => (pc = 94 ∧ st = ([(2, 0), (0, 1), (0, l), (0, 0)], [], pm_upd D (C 0 32) l x))) ?_ 8 91 _ ?_
        · rintro pc st (⟨rfl, rfl⟩)
          rw [c32]
          exact al_94 l0 (by omega) (fun E w3 hE => ih (l + 1) w3 E (by omega) (by omega) (by omega) hE) _ 0 _ (Nat.lt_succ_self _) (by omega) (by omega) ⟨hD.1.upd (uM_20 hD.1.g kn20 hx.1 hx.2) (by omega) (by omega), by rw [upd_o (by omega)]; exact hD.2⟩
        · refine ⟨tM_20 (r := C 0 32) (by rw [c32]; omega) (by rw [c32]; exact kn20) (by omega) (by omega) rfl, ?_⟩
          exact ⟨rfl, rfl⟩
      · refine ⟨oM_0 (by omega) km0 32 rfl, ?_⟩
        refine ⟨⟨by omega, by omega⟩, ?_⟩
        refine ⟨rM_0 (by omega) km0, ?_⟩
        refine Cl.gct q_X10_sumOf_0 (A := C) (a := [(2, 0), (0, 50 + l)]) ⟨gv_ref (by omega) km0, ⟨rfl, by simp only; omega, by simp only; omega⟩, trivial⟩ hgC ?_
        rintro ⟨r1, D⟩ f1 f2 f3
        simp only at f1 f2 f3
        match r1, f1 with
        | some (1, x), fx => exact ⟨rfl, D, x, ⟨hC.1.typed f2 f3 (by decide), by rw [f3 0 26 (by omega) (by omega) (by rw [mc_0]; decide)]; exact hC.2⟩, ⟨fx.1.2.1, fx.1.2.2⟩, rfl⟩
        | some (0, x), ⟨⟨q, _⟩, _⟩ => exact absurd q (by intro q; cases q)
        | some (n + 2, x), ⟨⟨q, _⟩, _⟩ => exact absurd q (by intro q; cases q)
        | none, q => exact absurd q (by intro q; cases q)
    refine wq_ok srt_Mall (fr := []) (cuts := [78]) (J := fun pc st => (pc = 78 ∧ (l < (B 0 26)) ∧ st = ([(2, 0), (0, 1), (0, l), w3], [], pm_upd B (B 0 31) l (B (B 0 1) (50 + l))))) ?_ 19 55 _ ?_
    · rintro pc st (⟨rfl, h0, rfl⟩)
      rw [c31, c1]
      have b := ml (by omega)
      exact h78 _ (by omega) ⟨hB.1.upd (uM_19 hg kn19 (by omega) (by omega)) (by omega) (by omega), by rw [upd_o (by omega)]; exact hB.2⟩
    · refine ⟨oM_0 (by omega) km0 26 rfl, ?_⟩
      refine ⟨fun h0 => ?_, fun h0 => ?_⟩
      · refine ⟨oM_0 (by omega) km0 7 rfl, ?_⟩
        refine ⟨oM_0 (by omega) km0 8 rfl, ?_⟩
        refine ⟨⟨by omega, by omega⟩, ?_⟩
        refine ⟨oM_0 (by omega) km0 36 rfl, ?_⟩
        refine ⟨oM_0 (by omega) km0 24 rfl, ?_⟩
        exact ⟨rfl, ⟨_, rfl⟩, hB.1.upd (uM_0_36 hg (by omega) (by omega)) (by omega) (by omega)⟩
      · refine ⟨oM_0 (by omega) km0 31 rfl, ?_⟩
        refine ⟨oM_0 (by omega) km0 1 rfl, ?_⟩
        refine ⟨⟨by omega, by omega⟩, ?_⟩
        refine ⟨aM_1 (r := B 0 1) (by rw [c1]; omega) (by rw [c1]; exact kn1) (by omega) (by omega), ?_⟩
        have e1 : B (B 0 1) (50 + l) = B 1 (50 + l) := by rw [c1]
        refine ⟨tM_19 (r := B 0 31) (by rw [c31]; omega) (by rw [c31]; exact kn19) (by omega) (by omega) rfl, ?_⟩
        exact ⟨rfl, h0, rfl⟩
theorem al_33 {y : Int} {E : pm_A} (hy1 : y = 0 ∨ y = 1) (hE : RI E) (hlE : y ≠ 0 → E 0 26 ≤ 100) : Tm pmt (an_sh wM) o_X10_all 33 ([(2, 0), (0, y), (9, 0), (9, 0)], [], E) ri_post := by
  have hg := hE.g
  have p26 := fM_0_26 hg (r := 0) (by omega) km0
  rcases hy1 with rfl | rfl
  · refine wq_ok srt_Mall (fr := []) (cuts := [55]) (J := fun _ _ => False) ?_ 8 33 _ ?_
    · intro pc st h; exact h.elim
    · refine ⟨fun hh => absurd hh (by decide), fun _ => ?_⟩
      exact ⟨rfl, ⟨_, rfl⟩, hE⟩
  · have hl := hlE (by omega)
    have u29 : pm_upd E 0 29 1 0 26 = E 0 26 := upd_o (by omega)
    have hR1 := hE.upd (uM_0_29 hg (x := 1) (by omega) (by omega)) (by omega) (by omega)
    have hR2 := hR1.upd (uM_0_30 hR1.g (x := E 0 26) (by omega) (by omega)) (by omega) (by omega)
    refine wq_ok srt_Mall (fr := []) (cuts := [55]) (J := fun pc st => (pc = 55 ∧ st = ([(2, 0), (0, 1), (0, 0), (9, 0)], [], pm_upd (pm_upd E 0 29 1) 0 30 ((pm_upd E 0 29 1) 0 26)))) ?_ 16 33 _ ?_
    · rintro pc st (⟨rfl, rfl⟩)
      rw [u29]
      exact al_55 _ 0 _ _ (Nat.lt_succ_self _) (by omega) (by omega) ⟨hR2, by rw [upd_o (by omega), u29]; exact hl⟩
    · refine ⟨fun _ => ?_, fun hh => absurd hh (by decide)⟩
      refine ⟨oM_0 (by omega) km0 29 rfl, ?_⟩
      refine ⟨oM_0 (by omega) km0 26 rfl, ?_⟩
      refine ⟨oM_0 (by omega) km0 30 rfl, ?_⟩
      exact ⟨rfl, rfl⟩
theorem mall_ct {A : pm_A} (h : RI A) : Cl pmt (an_sh wM) 123 [(2, 0)] A ri_post := by
  have hg := h.g
  have p7 := fM_0_7 hg (r := 0) (by omega) km0
  refine Cl.of (Nat.le_of_ble_eq_true rfl) ?_
  refine wq_ok (full := o_X10_all) srt_Mall (fr := []) (cuts := [6]) (J := fun pc st => (pc = 6 ∧ ∃ C, savesJ A C 30 72 ∧ st = ([(2, 0), (9, 0), (9, 0), (9, 0)], [], C))) ?_ 7 0 _ ?_
  · rintro pc st (⟨rfl, C, hC, rfl⟩)
    have s1 : ∀ r j : Int, r ≠ 22 → (∀ t : Int, 30 ≤ t → t ≤ 35 → ¬ inS t r j) → C r j = A r j := fun r j hr hn => hC.2.1 r j (fun t t0 t1 ht => hn (30 + t) (by omega) (by omega) ht) hr
    have hCT : ∃ s ks, Tru s ks C := by
      obtain ⟨⟨s, ks, hT⟩, _⟩ := id h
      exact ⟨s, ks, hT.same hC.1 (s1 0 7 (by omega) (fun t t0 t1 ht => by unfold inS at ht; omega)) (s1 0 8 (by omega) (fun t t0 t1 ht => by unfold inS at ht; omega)) (fun i _ _ => s1 5 i (by omega) (fun t t0 t1 ht => by unfold inS at ht; omega)) (fun p p0 p1 r i hr => s1 r i (by unfold inS at hr; omega) (fun t t0 t1 ht => by unfold inS at *; omega))⟩
    refine wq_ok srt_Mall (fr := []) (cuts := [10]) (J := fun pc st => (pc = 10 ∧ ∃ B y, gtF C B ∧ (y = 0 ∨ (y = 1 ∧ B 0 26 ≤ 100)) ∧ st = ([(2, 0), (9, 0), (9, 0), (9, 0)], [(0, y)], B))) ?_ 6 6 _ ?_
    · rintro pc st (⟨rfl, B, y, hB, hy, rfl⟩)
      refine wq_ok srt_Mall (fr := []) (cuts := [17]) (J := fun pc st => (pc = 17 ∧ ∃ D, restoresJ B D 30 72 ∧ st = ([(2, 0), (0, y), (9, 0), (9, 0)], [], D))) ?_ 8 10 _ ?_
      · rintro pc st (⟨rfl, D, hD, rfl⟩)
        have hRI : RI D := restored h hC hB.1 (fun r j j0 j1 hr => hB.2 r j (by omega) (by omega) j0 j1 (fun t t0 ht => by unfold inS at ht; omega) (by omega) (by omega)) (fun p p0 p1 r j hr => hB.2 r j (by unfold inS at hr; omega) (by unfold inS at hr; omega) (by unfold inS at hr; omega) (by unfold inS at hr; omega) (fun t t0 ht => by unfold inS at *; omega) (by unfold inS at hr; omega) (by unfold inS at hr; omega)) hD
        have hgD := hRI.g
        have p24 := fM_0_24 hgD (r := 0) (by omega) km0
        have hl : y ≠ 0 → D 0 26 ≤ 100 := fun hne => by rw [hD.2.1 0 26 (fun t t0 t1 ht => by unfold inS at ht; omega) (by omega)]; rcases hy with e | e; exact absurd e hne; exact e.2
        have h33 : ∀ E, RI E → (y ≠ 0 → E 0 26 ≤ 100) → Tm pmt (an_sh wM) o_X10_all 33 ([(2, 0), (0, y), (9, 0), (9, 0)], [], E) ri_post := fun E hE hlE => by
          have hy1 : y = 0 ∨ y = 1 := by rcases hy with e | e; exact Or.inl e; exact Or.inr e.1
          exact al_33 hy1 hE hlE
        refine wq_ok srt_Mall (fr := []) (cuts := [33]) (J := fun pc st => (pc = 33 ∧ (y = 0) ∧ st = ([(2, 0), (0, y), (9, 0), (9, 0)], [], pm_upd D 0 25 0)) ∨ (pc = 33 ∧ (¬ y = 0) ∧ st = ([(2, 0), (0, y), (9, 0), (9, 0)], [], pm_upd D 0 25 (D 0 24)))) ?_ 12 17 _ ?_
        · rintro pc st (⟨rfl, h0, rfl⟩ | ⟨rfl, h0, rfl⟩)
          · have hR2 := hRI.upd (uM_0_25 hgD (x := 0) (by omega) (by omega)) (by omega) (by omega)
            exact h33 _ hR2 (fun hy1 => by rw [upd_o (by omega)]; exact hl hy1)
          · have hR2 := hRI.upd (uM_0_25 hgD (x := D 0 24) (by omega) (by omega)) (by omega) (by omega)
            exact h33 _ hR2 (fun hy1 => by rw [upd_o (by omega)]; exact hl hy1)
        · refine ⟨fun h0 => ?_, fun h0 => ?_⟩
          · refine ⟨oM_0 (by omega) km0 25 rfl, ?_⟩
            exact Or.inl (⟨rfl, h0, rfl⟩)
          · refine ⟨oM_0 (by omega) km0 24 rfl, ?_⟩
            refine ⟨oM_0 (by omega) km0 25 rfl, ?_⟩
            exact Or.inr (⟨rfl, h0, rfl⟩)
      · refine ⟨rM_0 (by omega) km0, ?_⟩
        refine (restores_ex (p := 30) hB.1 (by omega) (by omega)).imp ?_
        rintro ⟨r1, D⟩ ⟨q1, q2⟩
        simp only at q1 q2
        subst q1
        exact ⟨rfl, D, q2, rfl⟩
    · refine ⟨rM_0 (by omega) km0, ?_⟩
      refine (goesThrough_ex hCT).imp ?_
      rintro ⟨r1, B⟩ ⟨q1, q2⟩
      simp only at q1 q2
      rcases q2 with q2 | ⟨q2, q3⟩
      · subst q2
        exact ⟨rfl, B, 0, q1, Or.inl rfl, rfl⟩
      · subst q2
        exact ⟨rfl, B, 1, q1, Or.inr ⟨rfl, q3⟩, rfl⟩
  · refine ⟨rM_0 (by omega) km0, ?_⟩
    refine (saves_ex (p := 30) hg (by omega) (by omega)).imp ?_
    rintro ⟨r1, C⟩ ⟨q1, q2⟩
    simp only at q1 q2
    subst q1
    exact ⟨rfl, C, q2, rfl⟩
end

section
/-! keep, same -/
theorem sm_67 {A : pm_A} {q i : Int} (q0 : 0 ≤ q) (q1 : q ≤ 3) (i0 : 0 ≤ i) (i1 : i < A 0 7) (p7 : A 0 7 ≤ 6) (H : ∀ C w3 w4, it_I A C → ordn C i → -1 ≤ C 16 i → Tm pmt (an_sh wM) o_X10_same 105 ([(2, 0), (0, q), (0, i), w3, w4], [], C) (sr_post A)) : ∀ (m : Nat) (j : Int) (w4 : pm_V) (B : pm_A), (6 - j).toNat < m → 0 ≤ j → j ≤ 6 → it_I A B → ordn B i → Tm pmt (an_sh wM) o_X10_same 67 ([(2, 0), (0, q), (0, i), (0, j), w4], [], B) (sr_post A) := by
  intro m
  induction m with
  | zero => intro j w4 B h; omega
  | succ m ih =>
    intro j w4 B hm j0 j1 hB ho
    have e7 := it_0 hB (j := 7) (by omega) (by omega)
    have c23 := pM_23 hB.1
    have b16 := eM_16 hB.1 (r := 16) (by omega) km16 i0 (show i < 6 by omega)
    refine wq_ok srt_sameR (fr := []) (cuts := [89, 105]) (J := fun pc st => (pc = 105 ∧ ((B 0 7) ≤ j) ∧ st = ([(2, 0), (0, q), (0, i), (0, j), w4], [], B)) ∨ (pc = 89 ∧ j < B 0 7 ∧ ∃ y : Int, st = ([(2, 0), (0, q), (0, i), (0, j), w4], [(0, y)], B))) ?_ 18 67 _ ?_
    · rintro pc st (⟨rfl, h0, rfl⟩ | ⟨rfl, hj, y, rfl⟩)
      · exact H B _ _ hB ho b16.1
      · refine wq_ok srt_sameR (fr := []) (cuts := [67]) (J := fun pc st => (pc = 67 ∧ (y = 0) ∧ st = ([(2, 0), (0, q), (0, i), (0, j + 1), w4], [], B)) ∨ (pc = 67 ∧ (¬ y = 0) ∧ st = ([(2, 0), (0, q), (0, i), (0, j + 1), w4], [], pm_upd B (B 0 23) i j))) ?_ 13 89 _ ?_
        · rintro pc st (⟨rfl, h0, rfl⟩ | ⟨rfl, h0, rfl⟩)
          · exact ih (j + 1) _ B (by omega) (by omega) (by omega) hB ho
          · rw [c23]
            exact ih (j + 1) _ _ (by omega) (by omega) (by omega) (it_put hB (by omega) (by omega)) (ord_put ho)
        · refine ⟨fun h0 => ?_, fun h0 => ?_⟩
          · refine ⟨⟨by omega, by omega⟩, ?_⟩
            exact Or.inl (⟨rfl, h0, rfl⟩)
          · refine ⟨oM_0 (by omega) km0 23 rfl, ?_⟩
            refine ⟨tM_16 (r := B 0 23) (by rw [c23]; omega) (by rw [c23]; exact kn16) (by omega) (by omega) rfl, ?_⟩
            refine ⟨⟨by omega, by omega⟩, ?_⟩
            exact Or.inr (⟨rfl, h0, rfl⟩)
    · refine ⟨oM_0 (by omega) km0 7 rfl, ?_⟩
      refine ⟨fun h0 => ?_, fun h0 => ?_⟩
      · exact Or.inl (⟨rfl, h0, rfl⟩)
      · refine ⟨⟨by omega, by omega⟩, ?_⟩
        refine ⟨⟨by omega, by omega⟩, ?_⟩
        refine ⟨⟨by omega, by omega⟩, ?_⟩
        refine ⟨rM_0 (by omega) km0, ?_⟩
        refine (areAlike_ex (a := i) (b := (6 + (6 * q)) + j) hB.1 (by omega) (by omega)).imp ?_
        rintro ⟨r1, C⟩ ⟨f1, f2⟩
        simp only at f1 f2
        subst f1
        rcases f2 with f2 | ⟨f2, _⟩
        · subst f2
          exact Or.inr (⟨rfl, h0, 0, rfl⟩)
        · subst f2
          exact Or.inr (⟨rfl, h0, 1, rfl⟩)
theorem sm_50 {A : pm_A} {q : Int} (hA : gH wM A) (q0 : 0 ≤ q) (q1 : q ≤ 3) : ∀ (m : Nat) (i : Int) (w3 w4 : pm_V) (B : pm_A), (6 - i).toNat < m → 0 ≤ i → i ≤ A 0 7 → it_I A B → ordn B i → Tm pmt (an_sh wM) o_X10_same 50 ([(2, 0), (0, q), (0, i), w3, w4], [], B) (sr_post A) := by
  have p7 := fM_0_7 hA (r := 0) (by omega) km0
  intro m
  induction m with
  | zero => intro i w3 w4 B h; omega
  | succ m ih =>
    intro i w3 w4 B hm i0 i1 hB ho
    have e7 := it_0 hB (j := 7) (by omega) (by omega)
    have c23 := pM_23 hB.1
    have h105 : i < A 0 7 → ∀ C w3 w4, it_I A C → ordn C i → -1 ≤ C 16 i → Tm pmt (an_sh wM) o_X10_same 105 ([(2, 0), (0, q), (0, i), w3, w4], [], C) (sr_post A) := fun hi C w3 w4 hC hoC hm1 => by
      have c23 := pM_23 hC.1
      refine wq_ok srt_sameR (fr := []) (cuts := [50]) (J := fun pc st => (pc = 50 ∧ (¬ (C (C 0 23) i) = ((-1))) ∧ st = ([(2, 0), (0, q), (0, i + 1), w3, w4], [], C))) ?_ 13 105 _ ?_
      · rintro pc st (⟨rfl, h0, rfl⟩)
        rw [c23] at h0
        refine ih (i + 1) _ _ C (by omega) (by omega) (by omega) hC (fun j j0 j1 => ?_)
        by_cases e : j = i
        · rw [e]; omega
        · exact hoC j j0 (by omega)
      · refine ⟨oM_0 (by omega) km0 23 rfl, ?_⟩
        refine ⟨aM_16 (r := C 0 23) (by rw [c23]; omega) (by rw [c23]; exact kn16) (by omega) (by omega), ?_⟩
        have e1 : C (C 0 23) i = C 16 i := by rw [c23]
        refine ⟨fun h0 => ?_, fun h0 => ?_⟩
        · refine ⟨⟨by omega, by omega⟩, ?_⟩
          exact ⟨rfl, h0, rfl⟩
        · exact ⟨rfl, 0, rfl, ⟨by omega, by omega⟩, hC⟩
    refine wq_ok srt_sameR (fr := []) (cuts := [67, 125]) (J := fun pc st => (pc = 125 ∧ ((B 0 7) ≤ i) ∧ st = ([(2, 0), (0, q), (0, 0), w3, w4], [], B)) ∨ (pc = 67 ∧ (i < (B 0 7)) ∧ st = ([(2, 0), (0, q), (0, i), (0, 0), w4], [], pm_upd B (B 0 23) i ((-1))))) ?_ 16 50 _ ?_
    · rintro pc st (⟨rfl, h0, rfl⟩ | ⟨rfl, h0, rfl⟩)
      · rw [e7] at h0
        have hi : i = A 0 7 := by omega
        rw [hi] at ho
        exact sr_125 hB ho q0 q1 _ 0 _ _ (Nat.lt_succ_self _) (by omega) (by omega)
      · rw [e7] at h0
        rw [c23]
        exact sm_67 q0 q1 i0 h0 p7.2 (h105 h0) _ 0 _ _ (Nat.lt_succ_self _) (by omega) (by omega) (it_put hB (by omega) (by omega)) (ord_put ho)
    · refine ⟨oM_0 (by omega) km0 7 rfl, ?_⟩
      refine ⟨fun h0 => ?_, fun h0 => ?_⟩
      · exact Or.inl (⟨rfl, h0, rfl⟩)
      · refine ⟨oM_0 (by omega) km0 23 rfl, ?_⟩
        refine ⟨tM_16 (r := B 0 23) (by rw [c23]; omega) (by rw [c23]; exact kn16) (by omega) (by omega) rfl, ?_⟩
        exact Or.inr (⟨rfl, h0, rfl⟩)
theorem msame_ex {A : pm_A} (hA : gH wM A) (k : Int) : Cl pmt (an_sh wM) 180 [(2, 0), (0, k)] A (sr_post A) := by
  have p7 := fM_0_7 hA (r := 0) (by omega) km0
  have c20 := pM_20 hA
  have c21 := pM_21 hA
  have hI : it_I A A := ⟨hA, fun _ _ _ _ _ => rfl⟩
  refine Cl.of (Nat.le_of_ble_eq_true rfl) ?_
  refine wq_ok (full := o_X10_same) srt_sameR (fr := []) (cuts := [50]) (J := fun pc st => (pc = 50 ∧ (0 ≤ k) ∧ (k ≤ 3) ∧ (¬ (A (A 0 20) k) = 0) ∧ ((A (A 0 20) k) = (A 0 7)) ∧ ((A (A 0 21) k) = (A 0 8)) ∧ st = ([(2, 0), (0, k), (0, 0), (9, 0), (9, 0)], [], A))) ?_ 31 0 _ ?_
  · rintro pc st (⟨rfl, h0, h1, h2, h3, h4, rfl⟩)
    exact sm_50 hA (by omega) (by omega) _ 0 _ _ A (Nat.lt_succ_self _) (by omega) (by omega) hI (fun j j0 j1 => by omega)
  · refine ⟨fun h0 => ?_, fun h0 => ?_⟩
    · exact ⟨rfl, -1, rfl, ⟨by omega, by omega⟩, hI⟩
    · refine ⟨fun h1 => ?_, fun h1 => ?_⟩
      · exact ⟨rfl, -1, rfl, ⟨by omega, by omega⟩, hI⟩
      · refine ⟨oM_0 (by omega) km0 20 rfl, ?_⟩
        refine ⟨aM_13 (r := A 0 20) (by rw [c20]; omega) (by rw [c20]; exact kn13) (by omega) (by omega), ?_⟩
        have e1 : A (A 0 20) k = A 13 k := by rw [c20]
        refine ⟨fun h2 => ?_, fun h2 => ?_⟩
        · refine ⟨oM_0 (by omega) km0 20 rfl, ?_⟩
          refine ⟨aM_13 (r := A 0 20) (by rw [c20]; omega) (by rw [c20]; exact kn13) (by omega) (by omega), ?_⟩
          have e2 : A (A 0 20) k = A 13 k := by rw [c20]
          refine ⟨oM_0 (by omega) km0 7 rfl, ?_⟩
          refine ⟨fun h3 => ?_, fun h3 => ?_⟩
          · exact ⟨rfl, 0, rfl, ⟨by omega, by omega⟩, hI⟩
          · refine ⟨oM_0 (by omega) km0 21 rfl, ?_⟩
            refine ⟨aM_14 (r := A 0 21) (by rw [c21]; omega) (by rw [c21]; exact kn14) (by omega) (by omega), ?_⟩
            have e3 : A (A 0 21) k = A 14 k := by rw [c21]
            refine ⟨oM_0 (by omega) km0 8 rfl, ?_⟩
            refine ⟨fun h4 => ?_, fun h4 => ?_⟩
            · exact ⟨rfl, h0, h1, h2, h3, h4, rfl⟩
            · exact ⟨rfl, 0, rfl, ⟨by omega, by omega⟩, hI⟩
        · exact ⟨rfl, -1, rfl, ⟨by omega, by omega⟩, hI⟩
theorem RI.copy {A C : pm_A} {p : Int} (h : RI A) (hC : gH wM C) (p0 : 6 ≤ p) (hf : ∀ q j, ¬ inS p q j → C q j = A q j) : RI C := by
  obtain ⟨⟨s, ks, hT⟩, ⟨b1, b2⟩, hRG⟩ := h
  have p7 := fM_0_7 hT.1 (r := 0) (by omega) km0
  refine ⟨⟨s, ks, hT.same hC (hf 0 7 (by unfold inS; omega)) (hf 0 8 (by unfold inS; omega)) (fun i _ _ => hf 5 i (by unfold inS; omega)) (fun t t0 t1 q i hq => hf q i (by unfold inS at *; omega))⟩, ⟨fun i i0 i1 => by rw [hf 7 i (by unfold inS; omega)]; exact b1 i i0 i1, fun d d0 d1 => ?_⟩, hRG.same (fun i => hf 31 i (by unfold inS; omega)) (fun i => hf 32 i (by unfold inS; omega))⟩
  rw [hf 6 d (by unfold inS; omega), hf 0 7 (by unfold inS; omega)]
  rw [hf 0 10 (by unfold inS; omega)] at d1
  exact b2 d d0 d1
theorem srt_Mkeep : pm_srt o_X10_keep = true := by decide +kernel
theorem kp_64 {k : Int} (k0 : 0 ≤ k) (k1 : k ≤ 3) : ∀ (m : Nat) (i : Int) (B : pm_A), (6 - i).toNat < m → 0 ≤ i → i ≤ 6 → RI B → Tm pmt (an_sh wM) o_X10_keep 64 ([(2, 0), (0, k), (0, i)], [], B) ri_post := by
  intro m
  induction m with
  | zero => intro i B h; omega
  | succ m ih =>
    intro i B hm i0 i1 hB
    have p7 := fM_0_7 hB.g (r := 0) (by omega) km0
    refine wq_ok srt_Mkeep (fr := []) (cuts := [86]) (J := fun pc st => (pc = 86 ∧ i < B 0 7 ∧ ∃ C, RI C ∧ st = ([(2, 0), (0, k), (0, i)], [], C))) ?_ 18 64 _ ?_
    · rintro pc st (⟨rfl, h0, C, hC, rfl⟩)
      refine wq_ok srt_Mkeep (fr := []) (cuts := [64]) (J := fun pc st => (pc = 64 ∧ st = ([(2, 0), (0, k), (0, i + 1)], [], C))) ?_ 7 86 _ ?_
      · rintro pc st (⟨rfl, rfl⟩)
        exact ih (i + 1) C (by omega) (by omega) (by omega) hC
      · refine ⟨⟨by omega, by omega⟩, ?_⟩
        exact ⟨rfl, rfl⟩
    · refine ⟨oM_0 (by omega) km0 7 rfl, ?_⟩
      refine ⟨fun h0 => ?_, fun h0 => ?_⟩
      · exact ⟨rfl, ⟨_, rfl⟩, hB⟩
      · refine ⟨⟨by omega, by omega⟩, ?_⟩
        refine ⟨⟨by omega, by omega⟩, ?_⟩
        refine ⟨⟨by omega, by omega⟩, ?_⟩
        refine ⟨rM_0 (by omega) km0, ?_⟩
        refine (copy_ex (to := (6 + (6 * k)) + i) (fr := i) hB.g (by omega) (by omega) (by omega) (by omega) (by omega)).imp ?_
        rintro ⟨r1, C⟩ ⟨q1, q2, q3, q4⟩
        simp only at q1 q2 q3 q4
        subst q1
        exact ⟨rfl, h0, C, hB.copy q2 (by omega) q3, rfl⟩
theorem kp_33 {k : Int} (k0 : 0 ≤ k) (k1 : k ≤ 3) : ∀ (m : Nat) (i : Int) (B : pm_A), (72 - i).toNat < m → 0 ≤ i → i ≤ 72 → RI B → Tm pmt (an_sh wM) o_X10_keep 33 ([(2, 0), (0, k), (0, i)], [], B) ri_post := by
  intro m
  induction m with
  | zero => intro i B h; omega
  | succ m ih =>
    intro i B hm i0 i1 hB
    have c22 := pM_22 hB.g
    have c9 := pM_9 hB.g
    have b5 : i < 72 → -2147483648 ≤ B 5 i ∧ B 5 i ≤ 2147483647 := fun h => eM_5 hB.g (r := 5) (by omega) kn5 i0 h
    refine wq_ok srt_Mkeep (fr := []) (cuts := [33, 64]) (J := fun pc st => (pc = 64 ∧ (72 ≤ i) ∧ st = ([(2, 0), (0, k), (0, 0)], [], B)) ∨ (pc = 33 ∧ (i < 72) ∧ st = ([(2, 0), (0, k), (0, i + 1)], [], pm_upd B (B 0 22) ((72 * k) + i) (B (B 0 9) i)))) ?_ 22 33 _ ?_
    · rintro pc st (⟨rfl, h0, rfl⟩ | ⟨rfl, h0, rfl⟩)
      · exact kp_64 k0 k1 _ 0 B (Nat.lt_succ_self _) (by omega) (by omega) hB
      · rw [c22, c9]
        have b := b5 h0
        exact ih (i + 1) _ (by omega) (by omega) (by omega) (hB.upd (uM_15 hB.g kn15 b.1 b.2) (by omega) (by omega))
    · refine ⟨fun h0 => ?_, fun h0 => ?_⟩
      · exact Or.inl (⟨rfl, h0, rfl⟩)
      · refine ⟨oM_0 (by omega) km0 22 rfl, ?_⟩
        refine ⟨⟨by omega, by omega⟩, ?_⟩
        refine ⟨⟨by omega, by omega⟩, ?_⟩
        refine ⟨oM_0 (by omega) km0 9 rfl, ?_⟩
        refine ⟨aM_5 (r := B 0 9) (by rw [c9]; omega) (by rw [c9]; exact kn5) (by omega) (by omega), ?_⟩
        have e1 : B (B 0 9) i = B 5 i := by rw [c9]
        refine ⟨tM_15 (r := B 0 22) (by rw [c22]; omega) (by rw [c22]; exact kn15) (by omega) (by omega) rfl, ?_⟩
        refine ⟨⟨by omega, by omega⟩, ?_⟩
        exact Or.inr (⟨rfl, h0, rfl⟩)
theorem mkeep_ct {A : pm_A} (h : RI A) (k : Int) : Cl pmt (an_sh wM) 160 [(2, 0), (0, k)] A ri_post := by
  have hg := h.g
  have p7 := fM_0_7 hg (r := 0) (by omega) km0
  have p8 := fM_0_8 hg (r := 0) (by omega) km0
  have c20 := pM_20 hg
  have c21 : pm_upd A (A 0 20) k (A 0 7) 0 21 = 14 := by rw [c20, upd_o (by omega)]; exact pM_21 hg
  have hk1 : 0 ≤ k → k ≤ 3 → RI (pm_upd A 13 k (A 0 7)) := fun _ _ => h.upd (uM_13 hg kn13 (by omega) (by omega)) (by omega) (by omega)
  have e8 : pm_upd A (A 0 20) k (A 0 7) 0 8 = A 0 8 := by rw [c20, upd_o (by omega)]
  refine Cl.of (Nat.le_of_ble_eq_true rfl) ?_
  refine wq_ok (full := o_X10_keep) srt_Mkeep (fr := []) (cuts := [33]) (J := fun pc st => (pc = 33 ∧ (0 ≤ k) ∧ (k ≤ 3) ∧ st = ([(2, 0), (0, k), (0, 0)], [], pm_upd (pm_upd A (A 0 20) k (A 0 7)) ((pm_upd A (A 0 20) k (A 0 7)) 0 21) k ((pm_upd A (A 0 20) k (A 0 7)) 0 8)))) ?_ 24 0 _ ?_
  · rintro pc st (⟨rfl, h0, h1, rfl⟩)
    rw [c21, e8, c20]
    have hR := hk1 (by omega) (by omega)
    exact kp_33 (by omega) (by omega) _ 0 _ (Nat.lt_succ_self _) (by omega) (by omega) (hR.upd (uM_14 hR.g kn14 (by omega) (by omega)) (by omega) (by omega))
  · refine ⟨fun h0 => ?_, fun h0 => ?_⟩
    · exact ⟨rfl, ⟨_, rfl⟩, h⟩
    · refine ⟨fun h1 => ?_, fun h1 => ?_⟩
      · refine ⟨oM_0 (by omega) km0 20 rfl, ?_⟩
        refine ⟨oM_0 (by omega) km0 7 rfl, ?_⟩
        refine ⟨tM_13 (r := A 0 20) (by rw [c20]; omega) (by rw [c20]; exact kn13) (by omega) (by omega) rfl, ?_⟩
        refine ⟨oM_0 (by omega) km0 21 rfl, ?_⟩
        refine ⟨oM_0 (by omega) km0 8 rfl, ?_⟩
        refine ⟨tM_14 (r := (pm_upd A (A 0 20) k (A 0 7)) 0 21) (by rw [c21]; omega) (by rw [c21]; exact kn14) (by omega) (by omega) rfl, ?_⟩
        exact ⟨rfl, h0, h1, rfl⟩
      · exact ⟨rfl, ⟨_, rfl⟩, h⟩
end

section
/-! tells, searches, finite -/
def fms : List Nat := [1040, 1041, 1042, 10005, 10012, 10024, 10025, 10026, 10027, 10028, 10029]
def fF (A B : pm_A) : Prop := gH wM B ∧ gFr wM fms A B
theorem fF.tr {A B C : pm_A} {ms : List Nat} (h : fF A B) (hC : gH wM C) (g : gFr wM ms B C) (hs : ∀ x ∈ ms, x ∈ fms) : fF A C := ⟨hC, gFr_tr h.2 g hs⟩
theorem fF.p7 {A B : pm_A} (h : fF A B) : B 0 7 = A 0 7 := h.2 0 7 (by omega) (by omega) (by rw [mc_0]; decide)
def FL (B : pm_A) : Prop := (∀ h : Int, 0 ≤ h → h < 4096 → B 28 h < B 0 40) ∧ ∀ t : Int, 0 ≤ t → t < B 0 40 → B 29 t < t ∧ B 25 t < t
def te_post (A : pm_A) (B : pm_A) (r : pm_R) : Prop := ∃ x, r.1 = some (0, x) ∧ (0 ≤ x ∧ x ≤ 3) ∧ fF A r.2 ∧ FL r.2 ∧ B 0 40 ≤ r.2 0 40
theorem srt_tells : pm_srt o_X10_tells = true := by decide +kernel
theorem te_174 {A B C : pm_A} {w1 w2 w3 w4 : pm_V} (hF : fF A C) (h40 : C 0 40 < 3000) (hm : C 0 40 = B 0 40) (h1 : ∀ h : Int, 0 ≤ h → h < 4096 → C 28 h ≤ C 0 40) (h2 : ∀ t : Int, 0 ≤ t → t ≤ C 0 40 → C 29 t < t ∧ C 25 t < t) : Tm pmt (an_sh wM) o_X10_tells 174 ([(2, 0), w1, w2, w3, w4], [], C) (te_post A B) := by
  have p40 := fM_0_40 hF.1 (r := 0) (by omega) km0
  have hfin : te_post A B (some (0, 1), pm_upd C 0 40 (C 0 40 + 1)) := by
    have e : pm_upd C 0 40 (C 0 40 + 1) 0 40 = C 0 40 + 1 := upd_at
    refine ⟨1, rfl, ⟨by omega, by omega⟩, ⟨uM_0_40 hF.1 (by omega) (by omega), gFr_upd hF.2 (by rw [mc_0]; decide)⟩, ⟨fun h h0 h3 => ?_, fun t t0 t1 => ?_⟩, ?_⟩
    · show pm_upd C 0 40 (C 0 40 + 1) 28 h < pm_upd C 0 40 (C 0 40 + 1) 0 40
      rw [e, upd_o (by omega)]; have := h1 h h0 h3; omega
    · have t1 : t < pm_upd C 0 40 (C 0 40 + 1) 0 40 := t1
      rw [e] at t1
      show pm_upd C 0 40 (C 0 40 + 1) 29 t < t ∧ pm_upd C 0 40 (C 0 40 + 1) 25 t < t
      rw [upd_o (by omega), upd_o (by omega)]; exact h2 t t0 (by omega)
    · show B 0 40 ≤ pm_upd C 0 40 (C 0 40 + 1) 0 40
      rw [e]; omega
  refine wq_ok srt_tells (fr := []) (cuts := []) (J := fun _ _ => False) ?_ 12 174 _ ?_
  · intro pc st h; exact h.elim
  · refine ⟨oM_0 (by omega) km0 40 rfl, ?_⟩
    refine ⟨⟨by omega, by omega⟩, ?_⟩
    refine ⟨oM_0 (by omega) km0 40 rfl, ?_⟩
    exact ⟨rfl, hfin⟩
theorem te_164 {A B C : pm_A} {h : Int} {w1 w2 w4 : pm_V} (hF : fF A C) (h0 : 0 ≤ h) (h01 : h ≤ 4095) (h40 : C 0 40 < 3000) (hm : C 0 40 = B 0 40) (h1 : ∀ h : Int, 0 ≤ h → h < 4096 → C 28 h < C 0 40) (h2 : ∀ t : Int, 0 ≤ t → t ≤ C 0 40 → C 29 t < t ∧ C 25 t < t) : Tm pmt (an_sh wM) o_X10_tells 164 ([(2, 0), w1, w2, (0, h), w4], [], C) (te_post A B) := by
  have p40 := fM_0_40 hF.1 (r := 0) (by omega) km0
  have c44 := pM_44 hF.1
  refine wq_ok srt_tells (fr := []) (cuts := [174]) (J := fun pc st => (pc = 174 ∧ st = ([(2, 0), w1, w2, (0, h), w4], [], pm_upd C (C 0 44) h (C 0 40)))) ?_ 11 164 _ ?_
  · rintro pc st (⟨rfl, rfl⟩)
    rw [c44]
    have e40 : pm_upd C 28 h (C 0 40) 0 40 = C 0 40 := upd_o (by omega)
    refine te_174 ⟨uM_28 hF.1 kn28 (by omega) (by omega), gFr_upd hF.2 (mM_28 kn28 rfl)⟩ (by rw [e40]; exact h40) (by rw [e40]; exact hm) (fun i i0 i1 => ?_) (fun t t0 t1 => ?_)
    · rw [e40]
      by_cases e : i = h
      · rw [e, upd_at]; omega
      · rw [upd_o (by omega)]; have := h1 i i0 i1; omega
    · rw [e40] at t1; rw [upd_o (by omega), upd_o (by omega)]; exact h2 t t0 t1
  · refine ⟨oM_0 (by omega) km0 44 rfl, ?_⟩
    refine ⟨oM_0 (by omega) km0 40 rfl, ?_⟩
    refine ⟨tM_28 (r := C 0 44) (by rw [c44]; omega) (by rw [c44]; exact kn28) (by omega) (by omega) rfl, ?_⟩
    exact ⟨rfl, rfl⟩
theorem te_149 {A B C : pm_A} {h : Int} {w1 w2 w4 : pm_V} (hF : fF A C) (h0 : 0 ≤ h) (h01 : h ≤ 4095) (h40 : C 0 40 < 3000) (hm : C 0 40 = B 0 40) (h1 : ∀ h : Int, 0 ≤ h → h < 4096 → C 28 h < C 0 40) (h2 : ∀ t : Int, 0 ≤ t → t < C 0 40 → C 29 t < t) (h3 : ∀ t : Int, 0 ≤ t → t ≤ C 0 40 → C 25 t < t) : Tm pmt (an_sh wM) o_X10_tells 149 ([(2, 0), w1, w2, (0, h), w4], [], C) (te_post A B) := by
  have p40 := fM_0_40 hF.1 (r := 0) (by omega) km0
  have c44 := pM_44 hF.1
  have c45 := pM_45 hF.1
  have b28 := eM_28 hF.1 (r := 28) (by omega) kn28 h0 (show h < 4096 by omega)
  have hh := h1 h h0 (by omega)
  refine wq_ok srt_tells (fr := []) (cuts := [164]) (J := fun pc st => (pc = 164 ∧ st = ([(2, 0), w1, w2, (0, h), w4], [], pm_upd C (C 0 45) (C 0 40) (C (C 0 44) h)))) ?_ 14 149 _ ?_
  · rintro pc st (⟨rfl, rfl⟩)
    rw [c45, c44]
    have e40 : pm_upd C 29 (C 0 40) (C 28 h) 0 40 = C 0 40 := upd_o (by omega)
    refine te_164 ⟨uM_29 hF.1 kn29 (by omega) (by omega), gFr_upd hF.2 (mM_29 kn29 rfl)⟩ h0 h01 (by rw [e40]; exact h40) (by rw [e40]; exact hm) (fun i i0 i1 => ?_) (fun t t0 t1 => ?_)
    · rw [e40, upd_o (by omega)]; exact h1 i i0 i1
    · rw [e40] at t1
      rw [upd_o (show ¬ ((25 : Int) = 29 ∧ t = C 0 40) by omega)]
      refine ⟨?_, h3 t t0 t1⟩
      by_cases e : t = C 0 40
      · rw [e, upd_at]; omega
      · rw [upd_o (by omega)]; exact h2 t t0 (by omega)
  · refine ⟨oM_0 (by omega) km0 45 rfl, ?_⟩
    refine ⟨oM_0 (by omega) km0 40 rfl, ?_⟩
    refine ⟨oM_0 (by omega) km0 44 rfl, ?_⟩
    refine ⟨aM_28 (r := C 0 44) (by rw [c44]; omega) (by rw [c44]; exact kn28) (by omega) (by omega), ?_⟩
    have e1 : C (C 0 44) h = C 28 h := by rw [c44]
    refine ⟨tM_29 (r := C 0 45) (by rw [c45]; omega) (by rw [c45]; exact kn29) (by omega) (by omega) rfl, ?_⟩
    exact ⟨rfl, rfl⟩
theorem te_129 {A B C : pm_A} {h fr bb : Int} {w4 : pm_V} (hF : fF A C) (h0 : 0 ≤ h) (h01 : h ≤ 4095) (h40 : C 0 40 < 3000) (hm : C 0 40 = B 0 40) (hL : FL C) (hfr : -1 ≤ fr) (hfr2 : fr < C 0 40) (hbb : r32 bb) : Tm pmt (an_sh wM) o_X10_tells 129 ([(2, 0), (0, fr), (0, bb), (0, h), w4], [], C) (te_post A B) := by
  have p40 := fM_0_40 hF.1 (r := 0) (by omega) km0
  have c38 := pM_38 hF.1
  have c39 : pm_upd C (C 0 38) (C 0 40) fr 0 39 = 26 := by rw [c38, upd_o (by omega)]; exact pM_39 hF.1
  have f40 : pm_upd C (C 0 38) (C 0 40) fr 0 40 = C 0 40 := by rw [c38, upd_o (by omega)]
  refine wq_ok srt_tells (fr := []) (cuts := [149]) (J := fun pc st => (pc = 149 ∧ st = ([(2, 0), (0, fr), (0, bb), (0, h), w4], [], pm_upd (pm_upd C (C 0 38) (C 0 40) fr) ((pm_upd C (C 0 38) (C 0 40) fr) 0 39) ((pm_upd C (C 0 38) (C 0 40) fr) 0 40) bb))) ?_ 17 129 _ ?_
  · rintro pc st (⟨rfl, rfl⟩)
    rw [c39, f40, c38]
    have e40 : pm_upd (pm_upd C 25 (C 0 40) fr) 26 (C 0 40) bb 0 40 = C 0 40 := by rw [upd_o (by omega), upd_o (by omega)]
    have g1 := uM_25 hF.1 kn25 (i := C 0 40) hfr (show fr ≤ 2999 by omega)
    refine te_149 ⟨uM_26 g1 kn26 hbb.1 hbb.2, gFr_upd (gFr_upd hF.2 (mM_25 kn25 rfl)) (mM_26 kn26 rfl)⟩ h0 h01 (by rw [e40]; exact h40) (by rw [e40]; exact hm) (fun i i0 i1 => ?_) (fun t t0 t1 => ?_) (fun t t0 t1 => ?_)
    · rw [e40, upd_o (by omega), upd_o (by omega)]; exact hL.1 i i0 i1
    · rw [e40] at t1; rw [upd_o (by omega), upd_o (by omega)]; exact (hL.2 t t0 t1).1
    · rw [e40] at t1
      rw [upd_o (by omega)]
      by_cases e : t = C 0 40
      · rw [e, upd_at]; exact hfr2
      · rw [upd_o (by omega)]; exact (hL.2 t t0 (by omega)).2
  · refine ⟨oM_0 (by omega) km0 38 rfl, ?_⟩
    refine ⟨oM_0 (by omega) km0 40 rfl, ?_⟩
    refine ⟨tM_25 (r := C 0 38) (by rw [c38]; omega) (by rw [c38]; exact kn25) (by omega) (by omega) rfl, ?_⟩
    refine ⟨oM_0 (by omega) km0 39 rfl, ?_⟩
    refine ⟨oM_0 (by omega) km0 40 rfl, ?_⟩
    refine ⟨tM_26 (r := (pm_upd C (C 0 38) (C 0 40) fr) 0 39) (by rw [c39]; omega) (by rw [c39]; exact kn26) (by rw [f40]; omega) (by rw [f40]; omega) rfl, ?_⟩
    exact ⟨rfl, rfl⟩
theorem te_66 {A B : pm_A} {h fr bb : Int} (g0 : 0 ≤ h) (g1 : h ≤ 4095) (hfr : -1 ≤ fr) (hfr2 : fr < B 0 40) (hbb : r32 bb) : ∀ (m : Nat) (i : Int) (C : pm_A), (36 - i).toNat < m → 0 ≤ i → i ≤ 36 → fF A C → FL C → C 0 40 < 3000 → C 0 40 = B 0 40 → Tm pmt (an_sh wM) o_X10_tells 66 ([(2, 0), (0, fr), (0, bb), (0, h), (0, i)], [], C) (te_post A B) := by
  intro m
  induction m with
  | zero => intro i C h; omega
  | succ m ih =>
    intro i C hm i0 i1 hF hL h40 he
    have p40 := fM_0_40 hF.1 (r := 0) (by omega) km0
    have p7 := fM_0_7 hF.1 (r := 0) (by omega) km0
    have c37 := pM_37 hF.1
    have c9 := pM_9 hF.1
    have b5 : i < 36 → -2147483648 ≤ C 5 i ∧ C 5 i ≤ 2147483647 := fun h => eM_5 hF.1 (r := 5) (by omega) kn5 i0 (by omega)
    have hstep : ∀ x, -2147483648 ≤ x → x ≤ 2147483647 → i < 36 → Tm pmt (an_sh wM) o_X10_tells 66 ([(2, 0), (0, fr), (0, bb), (0, h), (0, i + 1)], [], pm_upd C 24 (36 * C 0 40 + i) x) (te_post A B) := fun x x0 x1 hi => by
      have e40 : pm_upd C 24 (36 * C 0 40 + i) x 0 40 = C 0 40 := upd_o (by omega)
      refine ih (i + 1) _ (by omega) (by omega) (by omega) ⟨uM_24 hF.1 kn24 x0 x1, gFr_upd hF.2 (mM_24 kn24 rfl)⟩ ⟨fun j j0 j1 => ?_, fun t t0 t1 => ?_⟩ (by rw [e40]; exact h40) (by rw [e40]; exact he)
      · rw [e40, upd_o (by omega)]; exact hL.1 j j0 j1
      · rw [e40] at t1; rw [upd_o (by omega), upd_o (by omega)]; exact hL.2 t t0 t1
    refine wq_ok srt_tells (fr := []) (cuts := [66, 129]) (J := fun pc st => (pc = 129 ∧ (36 ≤ i) ∧ st = ([(2, 0), (0, fr), (0, bb), (0, h), (0, i)], [], C)) ∨ (pc = 66 ∧ (i < 36) ∧ ((C 0 7) ≤ (i / 6)) ∧ st = ([(2, 0), (0, fr), (0, bb), (0, h), (0, i + 1)], [], pm_upd C (C 0 37) ((36 * (C 0 40)) + i) 0)) ∨ (pc = 66 ∧ (i < 36) ∧ ((i / 6) < (C 0 7)) ∧ ((C 0 7) ≤ (i % 6)) ∧ st = ([(2, 0), (0, fr), (0, bb), (0, h), (0, i + 1)], [], pm_upd C (C 0 37) ((36 * (C 0 40)) + i) 0)) ∨ (pc = 66 ∧ (i < 36) ∧ ((i / 6) < (C 0 7)) ∧ ((i % 6) < (C 0 7)) ∧ st = ([(2, 0), (0, fr), (0, bb), (0, h), (0, i + 1)], [], pm_upd C (C 0 37) ((36 * (C 0 40)) + i) (C (C 0 9) i)))) ?_ 36 66 _ ?_
    · rintro pc st (⟨rfl, h0, rfl⟩ | ⟨rfl, h0, h1, rfl⟩ | ⟨rfl, h0, h1, h2, rfl⟩ | ⟨rfl, h0, h1, h2, rfl⟩)
      · exact te_129 hF g0 g1 h40 he hL hfr (by omega) hbb
      · rw [c37]
        exact hstep 0 (by omega) (by omega) (by omega)
      · rw [c37]
        exact hstep 0 (by omega) (by omega) (by omega)
      · rw [c37, c9]
        have b := b5 (by omega)
        exact hstep _ b.1 b.2 (by omega)
    · refine ⟨fun h0 => ?_, fun h0 => ?_⟩
      · exact Or.inl (⟨rfl, h0, rfl⟩)
      · refine ⟨oM_0 (by omega) km0 37 rfl, ?_⟩
        refine ⟨oM_0 (by omega) km0 40 rfl, ?_⟩
        refine ⟨⟨by omega, by omega⟩, ?_⟩
        refine ⟨⟨by omega, by omega⟩, ?_⟩
        refine ⟨⟨by omega, by omega, by omega, by omega⟩, ?_⟩
        refine ⟨oM_0 (by omega) km0 7 rfl, ?_⟩
        refine ⟨fun h1 => ?_, fun h1 => ?_⟩
        · refine ⟨tM_24 (r := C 0 37) (by rw [c37]; omega) (by rw [c37]; exact kn24) (by omega) (by omega) rfl, ?_⟩
          refine ⟨⟨by omega, by omega⟩, ?_⟩
          exact Or.inr (Or.inl (⟨rfl, h0, h1, rfl⟩))
        · refine ⟨⟨by omega, by omega, by omega, by omega⟩, ?_⟩
          refine ⟨oM_0 (by omega) km0 7 rfl, ?_⟩
          refine ⟨fun h2 => ?_, fun h2 => ?_⟩
          · refine ⟨tM_24 (r := C 0 37) (by rw [c37]; omega) (by rw [c37]; exact kn24) (by omega) (by omega) rfl, ?_⟩
            refine ⟨⟨by omega, by omega⟩, ?_⟩
            exact Or.inr (Or.inr (Or.inl (⟨rfl, h0, h1, h2, rfl⟩)))
          · refine ⟨oM_0 (by omega) km0 9 rfl, ?_⟩
            refine ⟨aM_5 (r := C 0 9) (by rw [c9]; omega) (by rw [c9]; exact kn5) (by omega) (by omega), ?_⟩
            have e1 : C (C 0 9) i = C 5 i := by rw [c9]
            refine ⟨tM_24 (r := C 0 37) (by rw [c37]; omega) (by rw [c37]; exact kn24) (by omega) (by omega) rfl, ?_⟩
            refine ⟨⟨by omega, by omega⟩, ?_⟩
            exact Or.inr (Or.inr (Or.inr (⟨rfl, h0, h1, h2, rfl⟩)))
theorem te_42 {A B : pm_A} {h fr bb : Int} {w4 : pm_V} (hF : fF A B) (hL : FL B) (g0 : 0 ≤ h) (g1 : h ≤ 4095) (hfr : -1 ≤ fr) (hfr2 : fr < B 0 40) (hbb : r32 bb) : Tm pmt (an_sh wM) o_X10_tells 42 ([(2, 0), (0, fr), (0, bb), (0, h), w4], [], B) (te_post A B) := by
  refine wq_ok srt_tells (fr := []) (cuts := [46]) (J := fun pc st => (pc = 46 ∧ ∃ C x, gH wM C ∧ gFr wM [] B C ∧ st = ([(2, 0), (0, fr), (0, bb), (0, h), w4], [(0, x)], C))) ?_ 6 42 _ ?_
  · rintro pc st (⟨rfl, C, x, f2, f3, rfl⟩)
    have hFC : fF A C := hF.tr f2 f3 (fun x hx => by simp at hx)
    have ec : ∀ r j : Int, 0 ≤ r → 0 ≤ j → C r j = B r j := fun r j r0 j0 => f3 r j r0 j0 (by simp)
    have e40 := ec 0 40 (by omega) (by omega)
    have p40 := fM_0_40 f2 (r := 0) (by omega) km0
    have hLC : FL C := ⟨fun i i0 i1 => by rw [ec 28 i (by omega) i0, e40]; exact hL.1 i i0 i1, fun t t0 t1 => by rw [ec 29 t (by omega) t0, ec 25 t (by omega) t0]; exact hL.2 t t0 (by omega)⟩
    refine wq_ok srt_tells (fr := []) (cuts := [66]) (J := fun pc st => (pc = 66 ∧ (x = 0) ∧ (¬ (C 0 40) = 3000) ∧ st = ([(2, 0), (0, fr), (0, bb), (0, h), (0, 0)], [], C))) ?_ 12 46 _ ?_
    · rintro pc st (⟨rfl, h0, h1, rfl⟩)
      exact te_66 g0 g1 hfr hfr2 hbb _ 0 C (Nat.lt_succ_self _) (by omega) (by omega) hFC hLC (by omega) e40
    · refine ⟨fun h0 => ?_, fun h0 => ?_⟩
      · refine ⟨oM_0 (by omega) km0 40 rfl, ?_⟩
        refine ⟨fun h1 => ?_, fun h1 => ?_⟩
        · exact ⟨rfl, h0, h1, rfl⟩
        · exact ⟨rfl, 3, rfl, ⟨by omega, by omega⟩, hFC, hLC, by show B 0 40 ≤ C 0 40; omega⟩
      · exact ⟨rfl, 2, rfl, ⟨by omega, by omega⟩, hFC, hLC, by show B 0 40 ≤ C 0 40; omega⟩
  · refine ⟨rM_0 (by omega) km0, ?_⟩
    refine Cl.gct q_X10_isWild_0 (A := B) (a := [(2, 0)]) ⟨gv_ref (by omega) km0, trivial⟩ hF.1 ?_
    rintro ⟨r1, C⟩ f1 f2 f3
    simp only at f1 f2 f3
    match r1, f1 with
    | some (0, x), fx => exact ⟨rfl, C, x, f2, f3, rfl⟩
    | some (n + 1, x), ⟨⟨q, _⟩, _⟩ => exact absurd q (by intro q; cases q)
    | none, q => exact absurd q (by intro q; cases q)
theorem te_13 {A B0 : pm_A} {h fr bb : Int} (g0 : 0 ≤ h) (g1 : h ≤ 4095) (hfr : -1 ≤ fr) (hfr2 : fr < B0 0 40) (hbb : r32 bb) : ∀ (m : Nat) (t : Int) (B : pm_A), (t + 1).toNat < m → -1 ≤ t → t < B 0 40 → fF A B → FL B → B 0 40 = B0 0 40 → Tm pmt (an_sh wM) o_X10_tells 13 ([(2, 0), (0, fr), (0, bb), (0, h), (0, t)], [], B) (te_post A B0) := by
  intro m
  induction m with
  | zero => intro t B h; omega
  | succ m ih =>
    intro t B hm t0 t1 hF hL he
    have p40 := fM_0_40 hF.1 (r := 0) (by omega) km0
    refine wq_ok srt_tells (fr := []) (cuts := [25, 42]) (J := fun pc st => (pc = 42 ∧ (t = ((-1))) ∧ st = ([(2, 0), (0, fr), (0, bb), (0, h), (0, t)], [], B)) ∨ (pc = 25 ∧ ¬ t = (-1) ∧ ∃ C x, gH wM C ∧ gFr wM [] B C ∧ st = ([(2, 0), (0, fr), (0, bb), (0, h), (0, t)], [(0, x)], C))) ?_ 10 13 _ ?_
    · rintro pc st (⟨rfl, h0, rfl⟩ | ⟨rfl, hne, C, x, f2, f3, rfl⟩)
      · have hfr3 : fr < B 0 40 := by omega
        refine Tm.imp (te_42 hF hL g0 g1 hfr hfr3 hbb) (fun r hr => ?_)
        obtain ⟨y, y1, y2, y3, y4, y5⟩ := hr
        exact ⟨y, y1, y2, y3, y4, by omega⟩
      · have hFC : fF A C := hF.tr f2 f3 (fun x hx => by simp at hx)
        have ec : ∀ r j : Int, 0 ≤ r → 0 ≤ j → C r j = B r j := fun r j r0 j0 => f3 r j r0 j0 (by simp)
        have e40 := ec 0 40 (by omega) (by omega)
        have c45 := pM_45 f2
        have hLC : FL C := ⟨fun i i0 i1 => by rw [ec 28 i (by omega) i0, e40]; exact hL.1 i i0 i1, fun t t0 t1 => by rw [ec 29 t (by omega) t0, ec 25 t (by omega) t0]; exact hL.2 t t0 (by omega)⟩
        refine wq_ok srt_tells (fr := []) (cuts := [13]) (J := fun pc st => (pc = 13 ∧ (x = 0) ∧ st = ([(2, 0), (0, fr), (0, bb), (0, h), (0, C (C 0 45) t)], [], C))) ?_ 12 25 _ ?_
        · rintro pc st (⟨rfl, h0, rfl⟩)
          rw [c45]
          have hl := (hLC.2 t (by omega) (by omega)).1
          have b := eM_29 f2 (r := 29) (by omega) kn29 (j := t) (by omega) (by omega)
          exact ih _ C (by omega) b.1 (by omega) hFC hLC (by omega)
        · refine ⟨fun h0 => ?_, fun h0 => ?_⟩
          · refine ⟨oM_0 (by omega) km0 45 rfl, ?_⟩
            refine ⟨aM_29 (r := C 0 45) (by rw [c45]; omega) (by rw [c45]; exact kn29) (by omega) (by omega), ?_⟩
            have e1 : C (C 0 45) t = C 29 t := by rw [c45]
            exact ⟨rfl, h0, rfl⟩
          · exact ⟨rfl, 0, rfl, ⟨by omega, by omega⟩, hFC, hLC, by show B0 0 40 ≤ C 0 40; omega⟩
    · refine ⟨fun h0 => ?_, fun h0 => ?_⟩
      · exact Or.inl (⟨rfl, h0, rfl⟩)
      · refine ⟨rM_0 (by omega) km0, ?_⟩
        refine Cl.gct q_X10_isTable_0 (A := B) (a := [(2, 0), (0, t)]) ⟨gv_ref (by omega) km0, ⟨rfl, by simp only; omega, by simp only; omega⟩, trivial⟩ hF.1 ?_
        rintro ⟨r1, C⟩ f1 f2 f3
        simp only at f1 f2 f3
        match r1, f1 with
        | some (0, x), fx => exact Or.inr (⟨rfl, h0, C, x, f2, f3, rfl⟩)
        | some (n + 1, x), ⟨⟨q, _⟩, _⟩ => exact absurd q (by intro q; cases q)
        | none, q => exact absurd q (by intro q; cases q)
theorem tells_ex {A B : pm_A} {fr bb : Int} (hF : fF A B) (hL : FL B) (hfr : -1 ≤ fr) (hfr2 : fr < B 0 40 ∨ fr = -1) (hbb : r32 bb) : Cl pmt (an_sh wM) 192 [(2, 0), (0, fr), (0, bb)] B (te_post A B) := by
  have p40 := fM_0_40 hF.1 (r := 0) (by omega) km0
  refine Cl.of (Nat.le_of_ble_eq_true rfl) ?_
  refine wq_ok (full := o_X10_tells) srt_tells (fr := []) (cuts := [4]) (J := fun pc st => (pc = 4 ∧ ∃ C x, gH wM C ∧ gFr wM [] B C ∧ (0 ≤ x ∧ x ≤ 4095) ∧ st = ([(2, 0), (0, fr), (0, bb), (9, 0), (9, 0)], [(0, x)], C))) ?_ 6 0 _ ?_
  · rintro pc st (⟨rfl, C, x, f2, f3, hx, rfl⟩)
    have hFC : fF A C := hF.tr f2 f3 (fun x hx => by simp at hx)
    have ec : ∀ r j : Int, 0 ≤ r → 0 ≤ j → C r j = B r j := fun r j r0 j0 => f3 r j r0 j0 (by simp)
    have e40 := ec 0 40 (by omega) (by omega)
    have c44 := pM_44 f2
    have hLC : FL C := ⟨fun i i0 i1 => by rw [ec 28 i (by omega) i0, e40]; exact hL.1 i i0 i1, fun t t0 t1 => by rw [ec 29 t (by omega) t0, ec 25 t (by omega) t0]; exact hL.2 t t0 (by omega)⟩
    refine wq_ok srt_tells (fr := []) (cuts := [13]) (J := fun pc st => (pc = 13 ∧ st = ([(2, 0), (0, fr), (0, bb), (0, x), (0, C (C 0 44) x)], [], C))) ?_ 11 4 _ ?_
    · rintro pc st (⟨rfl, rfl⟩)
      rw [c44]
      have hh := hLC.1 x hx.1 (by omega)
      have b := eM_28 f2 (r := 28) (by omega) kn28 hx.1 (show x < 4096 by omega)
      exact te_13 hx.1 hx.2 hfr (by omega) hbb _ _ C (Nat.lt_succ_self _) b.1 hh hFC hLC e40
    · refine ⟨oM_0 (by omega) km0 44 rfl, ?_⟩
      refine ⟨aM_28 (r := C 0 44) (by rw [c44]; omega) (by rw [c44]; exact kn28) (by omega) (by omega), ?_⟩
      have e1 : C (C 0 44) x = C 28 x := by rw [c44]
      exact ⟨rfl, rfl⟩
  · refine ⟨rM_0 (by omega) km0, ?_⟩
    refine Cl.gct q_X10_tableHash_0 (A := B) (a := [(2, 0)]) ⟨gv_ref (by omega) km0, trivial⟩ hF.1 ?_
    rintro ⟨r1, C⟩ f1 f2 f3
    simp only at f1 f2 f3
    match r1, f1 with
    | some (0, x), fx => exact ⟨rfl, C, x, f2, f3, ⟨fx.1.2.1, fx.1.2.2⟩, rfl⟩
    | some (n + 1, x), ⟨⟨q, _⟩, _⟩ => exact absurd q (by intro q; cases q)
    | none, q => exact absurd q (by intro q; cases q)
end

section
/-! searches, finite -/
def cl (f : Int → Int) : Nat → Int → Int
  | 0, _ => 0
  | n + 1, t => if t = -1 then 0 else 1 + cl f n (f t)
theorem cl_none (f : Int → Int) (n : Nat) : cl f n (-1) = 0 := by cases n; rfl; exact if_pos rfl
theorem cl_nonneg (f : Int → Int) : ∀ (n : Nat) (t : Int), 0 ≤ cl f n t
  | 0, _ => Int.le_refl 0
  | n + 1, t => by
    unfold cl
    have := cl_nonneg f n (f t)
    split <;> omega
theorem cl_stab {f : Int → Int} {M : Int} (h : ∀ t : Int, 0 ≤ t → t < M → -1 ≤ f t ∧ f t < t) : ∀ (n : Nat) (t : Int), -1 ≤ t → t < n → t < M → cl f (n + 1) t = cl f n t
  | 0, t, h0, h1, _ => by
    have : t = -1 := by omega
    rw [this, cl_none, cl_none]
  | n + 1, t, h0, h1, h2 => by
    show (if t = -1 then 0 else 1 + cl f (n + 1) (f t)) = (if t = -1 then 0 else 1 + cl f n (f t))
    by_cases e : t = -1
    · rw [if_pos e, if_pos e]
    · have := h t (by omega) h2
      rw [if_neg e, if_neg e, cl_stab h n (f t) this.1 (by omega) (by omega)]
theorem cl_step {f : Int → Int} {M : Int} (h : ∀ t : Int, 0 ≤ t → t < M → -1 ≤ f t ∧ f t < t) : ∀ (N : Nat) (t : Int), -1 ≤ t → t < M → t < N → ¬ t = -1 → cl f N t = 1 + cl f N (f t)
  | 0, t, h0, h1, h2, h3 => by omega
  | n + 1, t, h0, h1, h2, h3 => by
    have := h t (by omega) h1
    rw [cl_stab h n (f t) this.1 (by omega) (by omega), cl, if_neg h3]
theorem cl_le {f : Int → Int} {M : Int} (h : ∀ t : Int, 0 ≤ t → t < M → -1 ≤ f t ∧ f t < t) : ∀ (n : Nat) (t : Int), -1 ≤ t → t < M → cl f n t ≤ t + 1
  | 0, t, h0, h2 => by show (0 : Int) ≤ t + 1; omega
  | n + 1, t, h0, h2 => by
    rw [cl]
    by_cases e : t = -1
    · rw [if_pos e]; omega
    · have := h t (by omega) h2
      have := cl_le h n (f t) this.1 (by omega)
      rw [if_neg e]; omega
theorem srt_searches : pm_srt o_X10_searches = true := by decide +kernel
def sch_post (A : pm_A) (r : pm_R) : Prop := (∃ x, r.1 = some (0, x)) ∧ fF A r.2
theorem FL.f {B : pm_A} (hB : gH wM B) (h : FL B) : ∀ t : Int, 0 ≤ t → t < B 0 40 → -1 ≤ B 25 t ∧ B 25 t < t := fun t t0 t1 => by
  have p40 := fM_0_40 hB (r := 0) (by omega) km0
  have b := eM_25 hB (r := 25) (by omega) kn25 t0 (show t < 3000 by omega)
  exact ⟨b.1, (h.2 t t0 t1).2⟩
theorem sch_302 {A : pm_A} {w1 w2 w3 : pm_V} {n4 : Int} {N : Nat} (hN : 3000 < N) : ∀ (m : Nat) (t b : Int) (B : pm_A), (t + 1).toNat < m → -1 ≤ t → t < B 0 40 → fF A B → FL B → r32 b → Tm pmt (an_sh wM) o_X10_searches 302 ([(2, 0), w1, w2, w3, (0, n4), (0, cl (B 25) N t), (0, b), (0, t)], [], B) (sch_post A) := by
  intro m
  induction m with
  | zero => intro t b B h; omega
  | succ m ih =>
    intro t b B hm t0 t1 hF hL hb
    have p40 := fM_0_40 hF.1 (r := 0) (by omega) km0
    have c43 := pM_43 hF.1
    have hf := hL.f hF.1
    have n0 := cl_nonneg (B 25) N t
    have n1 := cl_le hf N t t0 t1
    have hcl : ¬ t = -1 → cl (B 25) N t = 1 + cl (B 25) N (B 25 t) := fun e => by
      exact cl_step hf N t t0 t1 (by omega) e
    have n2 := cl_nonneg (B 25) N (B 25 t)
    have hstep : ¬ t = -1 → ∀ C : pm_A, C = pm_upd B 27 (cl (B 25) N t + (-1)) b → Tm pmt (an_sh wM) o_X10_searches 320 ([(2, 0), w1, w2, w3, (0, n4), (0, cl (B 25) N t + (-1)), (0, b), (0, t)], [], C) (sch_post A) := fun hne C hC => by
      have e25 : C 25 = B 25 := by rw [hC]; exact funext fun j => upd_o (by omega)
      have e40 : C 0 40 = B 0 40 := by rw [hC]; exact upd_o (by omega)
      have hg : gH wM C := by rw [hC]; exact uM_27 hF.1 kn27 hb.1 hb.2
      have hFC : fF A C := by rw [hC]; rw [hC] at hg; exact ⟨hg, gFr_upd hF.2 (mM_27 kn27 rfl)⟩
      have hLC : FL C := by
        refine ⟨fun i i0 i1 => ?_, fun i i0 i1 => ?_⟩
        · rw [e40, show C 28 i = B 28 i from by rw [hC]; exact upd_o (by omega)]; exact hL.1 i i0 i1
        · rw [e25, show C 29 i = B 29 i from by rw [hC]; exact upd_o (by omega)]; exact hL.2 i i0 (by omega)
      have c39 := pM_39 hg
      have c38 := pM_38 hg
      have h1 := hf t (by omega) t1
      have b26 := eM_26 hg (r := 26) (by omega) kn26 (j := t) (by omega) (by omega)
      refine wq_ok srt_searches (fr := []) (cuts := [302]) (J := fun pc st => (pc = 302 ∧ st = ([(2, 0), w1, w2, w3, (0, n4), (0, cl (B 25) N t + (-1)), (0, C (C 0 39) t), (0, C (C 0 38) t)], [], C))) ?_ 16 320 _ ?_
      · rintro pc st (⟨rfl, rfl⟩)
        rw [c38, c39, e25, hcl hne, show 1 + cl (B 25) N (B 25 t) + (-1) = cl (C 25) N (B 25 t) by rw [e25]; omega]
        exact ih _ _ C (by omega) h1.1 (by omega) hFC hLC b26
      · refine ⟨oM_0 (by omega) km0 39 rfl, ?_⟩
        refine ⟨aM_26 (r := C 0 39) (by rw [c39]; omega) (by rw [c39]; exact kn26) (by omega) (by omega), ?_⟩
        have e1 : C (C 0 39) t = C 26 t := by rw [c39]
        refine ⟨oM_0 (by omega) km0 38 rfl, ?_⟩
        refine ⟨aM_25 (r := C 0 38) (by rw [c38]; omega) (by rw [c38]; exact kn25) (by omega) (by omega), ?_⟩
        have e2 : C (C 0 38) t = C 25 t := by rw [c38]
        exact ⟨rfl, rfl⟩
    refine wq_ok srt_searches (fr := []) (cuts := [320]) (J := fun pc st => (pc = 320 ∧ (¬ t = ((-1))) ∧ st = ([(2, 0), w1, w2, w3, (0, n4), (0, (cl (B 25) N t) + (-1)), (0, b), (0, t)], [], pm_upd B (B 0 43) ((cl (B 25) N t) + (-1)) b))) ?_ 14 302 _ ?_
    · rintro pc st (⟨rfl, h0, rfl⟩)
      rw [c43]
      exact hstep h0 _ rfl
    · refine ⟨fun h0 => ?_, fun h0 => ?_⟩
      · exact ⟨rfl, ⟨_, rfl⟩, hF⟩
      · refine ⟨(by have := hcl h0; exact ⟨by omega, by omega⟩), ?_⟩
        refine ⟨oM_0 (by omega) km0 43 rfl, ?_⟩
        refine ⟨tM_27 (r := B 0 43) (by rw [c43]; omega) (by rw [c43]; exact kn27) (by have := hcl h0; omega) (by have := hcl h0; omega) rfl, ?_⟩
        exact ⟨rfl, h0, rfl⟩
theorem sch_275 {A B : pm_A} {w1 w5 w6 w7 : pm_V} {fr bb n : Int} {N : Nat} (hN : 3000 < N) (hF : fF A B) (hL : FL B) (f0 : -1 ≤ fr) (f1 : fr < B 0 40) (hb : r32 bb) (hn : n = cl (B 25) N fr) : Tm pmt (an_sh wM) o_X10_searches 275 ([(2, 0), w1, (0, fr), (0, bb), (0, n), w5, w6, w7], [], B) (sch_post A) := by
  have p40 := fM_0_40 hF.1 (r := 0) (by omega) km0
  have hf := hL.f hF.1
  have n0 := cl_nonneg (B 25) N fr
  have n1 := cl_le hf N fr f0 f1
  have go : ∀ x w4, x = cl (B 25) N fr → Tm pmt (an_sh wM) o_X10_searches 302 ([(2, 0), w1, (0, fr), (0, bb), (0, w4), (0, pm_upd B 0 42 x 0 42), (0, bb), (0, fr)], [], pm_upd B 0 42 x) (sch_post A) := fun x w4 hx => by
    have e : pm_upd B 0 42 x 0 42 = cl (pm_upd B 0 42 x 25) N fr := by
      rw [upd_at, hx]
      congr 1
    rw [e]
    have e40 : pm_upd B 0 42 x 0 40 = B 0 40 := upd_o (by omega)
    refine sch_302 hN _ fr bb _ (Nat.lt_succ_self _) f0 (by rw [e40]; exact f1) ⟨uM_0_42 hF.1 (by omega) (by omega), gFr_upd hF.2 (by rw [mc_0]; decide)⟩ ⟨fun i i0 i1 => ?_, fun i i0 i1 => ?_⟩ hb
    · rw [e40, upd_o (by omega)]; exact hL.1 i i0 i1
    · rw [e40] at i1; rw [upd_o (by omega), upd_o (by omega)]; exact hL.2 i i0 i1
  refine wq_ok srt_searches (fr := []) (cuts := [302]) (J := fun pc st => (pc = 302 ∧ (¬ fr = ((-1))) ∧ st = ([(2, 0), w1, (0, fr), (0, bb), (0, n), (0, (pm_upd B 0 42 n) 0 42), (0, bb), (0, fr)], [], pm_upd B 0 42 n)) ∨ (pc = 302 ∧ (fr = ((-1))) ∧ st = ([(2, 0), w1, (0, fr), (0, bb), (0, n), (0, (pm_upd B 0 42 0) 0 42), (0, bb), (0, fr)], [], pm_upd B 0 42 0))) ?_ 19 275 _ ?_
  · rintro pc st (⟨rfl, h0, rfl⟩ | ⟨rfl, h0, rfl⟩)
    · exact go n _ hn
    · exact go 0 _ (by rw [h0, cl_none])
  · refine ⟨fun h0 => ?_, fun h0 => ?_⟩
    · refine ⟨oM_0 (by omega) km0 42 rfl, ?_⟩
      refine ⟨oM_0 (by omega) km0 42 rfl, ?_⟩
      exact Or.inl (⟨rfl, h0, rfl⟩)
    · refine ⟨oM_0 (by omega) km0 42 rfl, ?_⟩
      refine ⟨oM_0 (by omega) km0 42 rfl, ?_⟩
      exact Or.inr (⟨rfl, h0, rfl⟩)
theorem sch_249 {A B : pm_A} {w1 w6 w7 : pm_V} {fr bb : Int} {N : Nat} (hN : 3000 < N) (hF : fF A B) (hL : FL B) (f0 : -1 ≤ fr) (f1 : fr < B 0 40) (hb : r32 bb) (hfb : bb = -1 → fr = -1) : ∀ (m : Nat) (n t : Int), (t + 1).toNat < m → -1 ≤ t → t < B 0 40 → 0 ≤ n → n + cl (B 25) N t = cl (B 25) N fr → (fr = -1 → t = -1) → Tm pmt (an_sh wM) o_X10_searches 249 ([(2, 0), w1, (0, fr), (0, bb), (0, n), (0, t), w6, w7], [], B) (sch_post A) := by
  have p40 := fM_0_40 hF.1 (r := 0) (by omega) km0
  have hf := hL.f hF.1
  have n1 := cl_le hf N fr f0 f1
  have c38 := pM_38 hF.1
  intro m
  induction m with
  | zero => intro n t h; omega
  | succ m ih =>
    intro n t hm t0 t1 n0 hn hft
    have n2 := cl_nonneg (B 25) N t
    have hcl : ¬ t = -1 → cl (B 25) N t = 1 + cl (B 25) N (B 25 t) := fun e => by
      exact cl_step hf N t t0 t1 (by omega) e
    refine wq_ok srt_searches (fr := []) (cuts := [249, 275]) (J := fun pc st => (pc = 275 ∧ (t = ((-1))) ∧ st = ([(2, 0), w1, (0, fr), (0, bb), (0, n), (0, t), w6, w7], [], B)) ∨ (pc = 275 ∧ (¬ t = ((-1))) ∧ (bb = ((-1))) ∧ st = ([(2, 0), w1, (0, fr), (0, bb), (0, n), (0, t), w6, w7], [], B)) ∨ (pc = 249 ∧ (¬ t = ((-1))) ∧ (¬ bb = ((-1))) ∧ st = ([(2, 0), w1, (0, fr), (0, bb), (0, n + 1), (0, B (B 0 38) t), w6, w7], [], B))) ?_ 18 249 _ ?_
    · rintro pc st (⟨rfl, h0, rfl⟩ | ⟨rfl, h0, h1, rfl⟩ | ⟨rfl, h0, h1, rfl⟩)
      · exact sch_275 hN hF hL f0 f1 hb (by rw [h0, cl_none] at hn; omega)
      · exact absurd (hft (hfb h1)) h0
      · rw [c38]
        have h2 := hcl h0
        have h3 := hf t (by omega) t1
        exact ih (n + 1) _ (by omega) h3.1 (by omega) (by omega) (by omega) (fun e => absurd (hft e) h0)
    · refine ⟨fun h0 => ?_, fun h0 => ?_⟩
      · exact Or.inl (⟨rfl, h0, rfl⟩)
      · refine ⟨fun h1 => ?_, fun h1 => ?_⟩
        · exact Or.inr (Or.inl (⟨rfl, h0, h1, rfl⟩))
        · refine ⟨⟨by omega, by omega⟩, ?_⟩
          refine ⟨oM_0 (by omega) km0 38 rfl, ?_⟩
          refine ⟨aM_25 (r := B 0 38) (by rw [c38]; omega) (by rw [c38]; exact kn25) (by omega) (by omega), ?_⟩
          have e1 : B (B 0 38) t = B 25 t := by rw [c38]
          exact Or.inr (Or.inr (⟨rfl, h0, h1, rfl⟩))
theorem ex_N : ∃ N : Nat, 3000 < N := ⟨3001, by omega⟩
theorem sch_206 {A B : pm_A} {w4 w5 w6 w7 : pm_V} {how fr bb : Int} (hF : fF A B) (hL : FL B) (f0 : -1 ≤ fr) (f1 : fr < B 0 40) (hb : r32 bb) (hfb : bb = -1 → fr = -1) : Tm pmt (an_sh wM) o_X10_searches 206 ([(2, 0), (0, how), (0, fr), (0, bb), w4, w5, w6, w7], [], B) (sch_post A) := by
  have p40 := fM_0_40 hF.1 (r := 0) (by omega) km0
  have go : ∀ x, -2147483648 ≤ x → x ≤ 2147483647 → Tm pmt (an_sh wM) o_X10_searches 228 ([(2, 0), (0, how), (0, fr), (0, bb), w4, w5, w6, w7], [], pm_upd B 0 41 x) (sch_post A) := fun x x0 x1 => by
    have e40 : pm_upd B 0 41 x 0 40 = B 0 40 := upd_o (by omega)
    have hFC : fF A (pm_upd B 0 41 x) := ⟨uM_0_41 hF.1 x0 x1, gFr_upd hF.2 (by rw [mc_0]; decide)⟩
    have hLC : FL (pm_upd B 0 41 x) := ⟨fun i i0 i1 => by rw [e40, upd_o (by omega)]; exact hL.1 i i0 i1, fun i i0 i1 => by rw [e40] at i1; rw [upd_o (by omega), upd_o (by omega)]; exact hL.2 i i0 i1⟩
    have f1' : fr < pm_upd B 0 41 x 0 40 := by rw [e40]; exact f1
    revert hFC hLC f1'
    generalize pm_upd B 0 41 x = C
    intro hFC hLC f1' 
    refine wq_ok srt_searches (fr := []) (cuts := [249]) (J := fun pc st => (pc = 249 ∧ (¬ how = 3) ∧ (2 ≤ how) ∧ st = ([(2, 0), (0, how), (0, fr), (0, bb), (0, 0), (0, fr), w6, w7], [], C))) ?_ 15 228 _ ?_
    · rintro pc st (⟨rfl, h0, h1, rfl⟩)
      obtain ⟨N, hN⟩ := ex_N
      exact sch_249 hN hFC hLC f0 f1' hb hfb _ 0 fr (Nat.lt_succ_self _) f0 f1' (by omega) (by omega) (fun e => e)
    · refine ⟨fun h0 => ?_, fun h0 => ?_⟩
      · refine ⟨fun h1 => ?_, fun h1 => ?_⟩
        · exact ⟨rfl, h0, h1, rfl⟩
        · exact ⟨rfl, ⟨_, rfl⟩, hFC⟩
      · exact ⟨rfl, ⟨_, rfl⟩, hFC⟩
  refine wq_ok srt_searches (fr := []) (cuts := [228]) (J := fun pc st => (pc = 228 ∧ (¬ how = 2) ∧ st = ([(2, 0), (0, how), (0, fr), (0, bb), w4, w5, w6, w7], [], pm_upd B 0 41 (B 0 40))) ∨ (pc = 228 ∧ (how = 2) ∧ st = ([(2, 0), (0, how), (0, fr), (0, bb), w4, w5, w6, w7], [], pm_upd B 0 41 ((B 0 40) + 1)))) ?_ 15 206 _ ?_
  · rintro pc st (⟨rfl, h0, rfl⟩ | ⟨rfl, h0, rfl⟩)
    · exact go _ (by omega) (by omega)
    · exact go _ (by omega) (by omega)
  · refine ⟨fun h0 => ?_, fun h0 => ?_⟩
    · refine ⟨oM_0 (by omega) km0 40 rfl, ?_⟩
      refine ⟨oM_0 (by omega) km0 41 rfl, ?_⟩
      exact Or.inl (⟨rfl, h0, rfl⟩)
    · refine ⟨oM_0 (by omega) km0 40 rfl, ?_⟩
      refine ⟨⟨by omega, by omega⟩, ?_⟩
      refine ⟨oM_0 (by omega) km0 41 rfl, ?_⟩
      exact Or.inr (⟨rfl, h0, rfl⟩)
def sI (A B : pm_A) (how fr bb : Int) : Prop := fF A B ∧ FL B ∧ (-1 ≤ fr ∧ fr < B 0 40) ∧ (-1 ≤ bb ∧ bb ≤ 5) ∧ (bb = -1 → fr = -1)
theorem fl_arr {A B : pm_A} {i x : Int} (hF : fF A B) (hL : FL B) (x0 : -2147483648 ≤ x) (x1 : x ≤ 2147483647) : fF A (pm_upd B 5 i x) ∧ FL (pm_upd B 5 i x) ∧ pm_upd B 5 i x 0 40 = B 0 40 := by
  have e40 : pm_upd B 5 i x 0 40 = B 0 40 := upd_o (by omega)
  exact ⟨⟨uM_5 hF.1 kn5 x0 x1, gFr_upd hF.2 (mM_5 kn5 rfl)⟩, ⟨fun j j0 j1 => by rw [e40, upd_o (by omega)]; exact hL.1 j j0 j1, fun j j0 j1 => by rw [e40] at j1; rw [upd_o (by omega), upd_o (by omega)]; exact hL.2 j j0 j1⟩, e40⟩
theorem sch_124 {A : pm_A} {w2 w3 : pm_V} {hw x6 t k : Int} (t0 : 0 ≤ t) (k0 : 0 ≤ k) (k1 : k ≤ 5) (H : ∀ how w6 w7 C, sI A C how t k → t < C 0 40 → Tm pmt (an_sh wM) o_X10_searches 63 ([(2, 0), (0, how), (0, t), (0, k), (0, t), (0, k + 1), w6, w7], [], C) (sch_post A)) : ∀ (m : Nat) (i : Int) (B : pm_A), (36 - i).toNat < m → 0 ≤ i → i ≤ 36 → fF A B → FL B → t < B 0 40 → Tm pmt (an_sh wM) o_X10_searches 124 ([(2, 0), (0, hw), w2, w3, (0, t), (0, k), (0, x6), (0, i)], [], B) (sch_post A) := by
  intro m
  induction m with
  | zero => intro i B h; omega
  | succ m ih =>
    intro i B hm i0 i1 hF hL ht
    have c9 := pM_9 hF.1
    have c19 := pM_19 hF.1
    have b12 : i < 36 → -2147483648 ≤ B 12 i ∧ B 12 i ≤ 2147483647 := fun h => eM_12 hF.1 (r := 12) (by omega) kn12 i0 (by omega)
    have p7 := fM_0_7 hF.1 (r := 0) (by omega) km0
    refine wq_ok srt_searches (fr := []) (cuts := [124, 193]) (J := fun pc st => (pc = 193 ∧ ∃ C x, (0 ≤ x ∧ x ≤ 3) ∧ fF A C ∧ FL C ∧ B 0 40 ≤ C 0 40 ∧ st = ([(2, 0), (0, hw), (0, t), (0, k), (0, t), (0, k), (0, x6), (0, i)], [(0, x)], C)) ∨ (pc = 124 ∧ (i < 36) ∧ ((B 0 7) ≤ (i / 6)) ∧ st = ([(2, 0), (0, hw), w2, w3, (0, t), (0, k), (0, x6), (0, i + 1)], [], pm_upd B (B 0 9) i 0)) ∨ (pc = 124 ∧ (i < 36) ∧ ((i / 6) < (B 0 7)) ∧ ((B 0 7) ≤ (i % 6)) ∧ st = ([(2, 0), (0, hw), w2, w3, (0, t), (0, k), (0, x6), (0, i + 1)], [], pm_upd B (B 0 9) i 0)) ∨ (pc = 124 ∧ (i < 36) ∧ ((i / 6) < (B 0 7)) ∧ ((i % 6) < (B 0 7)) ∧ st = ([(2, 0), (0, hw), w2, w3, (0, t), (0, k), (0, x6), (0, i + 1)], [], pm_upd B (B 0 9) i (B (B 0 19) i)))) ?_ 31 124 _ ?_
    · rintro pc st (⟨rfl, C, x, q2, q3, q4, q5, rfl⟩ | ⟨rfl, h0, h1, rfl⟩ | ⟨rfl, h0, h1, h2, rfl⟩ | ⟨rfl, h0, h1, h2, rfl⟩)
      · refine wq_ok srt_searches (fr := []) (cuts := [63]) (J := fun pc st => (pc = 63 ∧ st = ([(2, 0), (0, x), (0, t), (0, k), (0, t), (0, k + 1), (0, x6), (0, i)], [], C))) ?_ 8 193 _ ?_
        · rintro pc st (⟨rfl, rfl⟩)
          exact H x _ _ C ⟨q3, q4, ⟨by omega, by omega⟩, ⟨by omega, by omega⟩, fun e => by omega⟩ (by omega)
        · refine ⟨⟨by omega, by omega⟩, ?_⟩
          exact ⟨rfl, rfl⟩
      · rw [c9]
        obtain ⟨g1, g2, g3⟩ := fl_arr (i := i) (x := 0) hF hL (by omega) (by omega)
        exact ih (i + 1) _ (by omega) (by omega) (by omega) g1 g2 (by rw [g3]; exact ht)
      · rw [c9]
        obtain ⟨g1, g2, g3⟩ := fl_arr (i := i) (x := 0) hF hL (by omega) (by omega)
        exact ih (i + 1) _ (by omega) (by omega) (by omega) g1 g2 (by rw [g3]; exact ht)
      · rw [c9, c19]
        have b := b12 h0
        obtain ⟨g1, g2, g3⟩ := fl_arr (i := i) hF hL b.1 b.2
        exact ih (i + 1) _ (by omega) (by omega) (by omega) g1 g2 (by rw [g3]; exact ht)
    · refine ⟨fun h0 => ?_, fun h0 => ?_⟩
      · refine ⟨rM_0 (by omega) km0, ?_⟩
        refine (tells_ex (fr := t) (bb := k) hF hL (by omega) (Or.inl ht) ⟨by omega, by omega⟩).imp ?_
        rintro ⟨r1, C⟩ ⟨x, q1, q2, q3, q4, q5⟩
        simp only at q1 q2 q3 q4 q5
        subst q1
        exact Or.inl (⟨rfl, C, x, q2, q3, q4, q5, rfl⟩)
      · refine ⟨oM_0 (by omega) km0 9 rfl, ?_⟩
        refine ⟨⟨by omega, by omega, by omega, by omega⟩, ?_⟩
        refine ⟨oM_0 (by omega) km0 7 rfl, ?_⟩
        refine ⟨fun h1 => ?_, fun h1 => ?_⟩
        · refine ⟨tM_5 (r := B 0 9) (by rw [c9]; omega) (by rw [c9]; exact kn5) (by omega) (by omega) rfl, ?_⟩
          refine ⟨⟨by omega, by omega⟩, ?_⟩
          exact Or.inr (Or.inl (⟨rfl, h0, h1, rfl⟩))
        · refine ⟨⟨by omega, by omega, by omega, by omega⟩, ?_⟩
          refine ⟨oM_0 (by omega) km0 7 rfl, ?_⟩
          refine ⟨fun h2 => ?_, fun h2 => ?_⟩
          · refine ⟨tM_5 (r := B 0 9) (by rw [c9]; omega) (by rw [c9]; exact kn5) (by omega) (by omega) rfl, ?_⟩
            refine ⟨⟨by omega, by omega⟩, ?_⟩
            exact Or.inr (Or.inr (Or.inl (⟨rfl, h0, h1, h2, rfl⟩)))
          · refine ⟨oM_0 (by omega) km0 19 rfl, ?_⟩
            refine ⟨aM_12 (r := B 0 19) (by rw [c19]; omega) (by rw [c19]; exact kn12) (by omega) (by omega), ?_⟩
            have e1 : B (B 0 19) i = B 12 i := by rw [c19]
            refine ⟨tM_5 (r := B 0 9) (by rw [c9]; omega) (by rw [c9]; exact kn5) (by omega) (by omega) rfl, ?_⟩
            refine ⟨⟨by omega, by omega⟩, ?_⟩
            exact Or.inr (Or.inr (Or.inr (⟨rfl, h0, h1, h2, rfl⟩)))
theorem sch_80 {A : pm_A} {w2 w3 w7 : pm_V} {hw t k : Int} (t0 : 0 ≤ t) (k0 : 0 ≤ k) (k1 : k ≤ 5) (H : ∀ how w6 w7 C, sI A C how t k → t < C 0 40 → Tm pmt (an_sh wM) o_X10_searches 63 ([(2, 0), (0, how), (0, t), (0, k), (0, t), (0, k + 1), w6, w7], [], C) (sch_post A)) : ∀ (m : Nat) (i : Int) (B : pm_A), (36 - i).toNat < m → 0 ≤ i → i ≤ 36 → fF A B → FL B → t < B 0 40 → Tm pmt (an_sh wM) o_X10_searches 80 ([(2, 0), (0, hw), w2, w3, (0, t), (0, k), (0, i), w7], [], B) (sch_post A) := by
  intro m
  induction m with
  | zero => intro i B h; omega
  | succ m ih =>
    intro i B hm i0 i1 hF hL ht
    have p40 := fM_0_40 hF.1 (r := 0) (by omega) km0
    have c9 := pM_9 hF.1
    have c37 := pM_37 hF.1
    have b24 : i < 36 → -2147483648 ≤ B 24 (36 * t + i) ∧ B 24 (36 * t + i) ≤ 2147483647 := fun h => eM_24 hF.1 (r := 24) (by omega) kn24 (by omega) (by omega)
    refine wq_ok srt_searches (fr := []) (cuts := [80, 119]) (J := fun pc st => (pc = 119 ∧ ∃ C x, gH wM C ∧ gFr wM [10012] B C ∧ st = ([(2, 0), (0, hw), w2, w3, (0, t), (0, k), (0, i), w7], [(0, x)], C)) ∨ (pc = 80 ∧ (i < 36) ∧ st = ([(2, 0), (0, hw), w2, w3, (0, t), (0, k), (0, i + 1), w7], [], pm_upd B (B 0 9) i (B (B 0 37) ((36 * t) + i))))) ?_ 22 80 _ ?_
    · rintro pc st (⟨rfl, C, x, f2, f3, rfl⟩ | ⟨rfl, h0, rfl⟩)
      · have hFC : fF A C := hF.tr f2 f3 (fun x hx => by rw [List.mem_singleton] at hx; rw [hx]; decide)
        have ec : ∀ r j : Int, 0 ≤ r → r ≤ 38 → 0 ≤ j → (r = 0 → j < 100) → r ≠ 12 → C r j = B r j := fun r j r0 r1 j0 j1 hne => f3 r j r0 j0 (fr_out r0 r1 j0 j1 (fun h => by rw [List.mem_singleton]; omega) (fun h => by rw [List.mem_singleton]; omega))
        have e40 := ec 0 40 (by omega) (by omega) (by omega) (by omega) (by omega)
        have hLC : FL C := ⟨fun i i0 i1 => by rw [ec 28 i (by omega) (by omega) i0 (by omega) (by omega), e40]; exact hL.1 i i0 i1, fun t t0 t1 => by rw [ec 29 t (by omega) (by omega) t0 (by omega) (by omega), ec 25 t (by omega) (by omega) t0 (by omega) (by omega)]; exact hL.2 t t0 (by omega)⟩
        refine wq_ok srt_searches (fr := []) (cuts := [124]) (J := fun pc st => (pc = 124 ∧ st = ([(2, 0), (0, hw), w2, w3, (0, t), (0, k), (0, x), (0, 0)], [], C))) ?_ 8 119 _ ?_
        · rintro pc st (⟨rfl, rfl⟩)
          exact sch_124 t0 k0 k1 H _ 0 C (Nat.lt_succ_self _) (by omega) (by omega) hFC hLC (by omega)
        · exact ⟨rfl, rfl⟩
      · rw [c9, c37]
        have b := b24 h0
        obtain ⟨g1, g2, g3⟩ := fl_arr (i := i) hF hL b.1 b.2
        exact ih (i + 1) _ (by omega) (by omega) (by omega) g1 g2 (by rw [g3]; exact ht)
    · refine ⟨fun h0 => ?_, fun h0 => ?_⟩
      · refine ⟨rM_0 (by omega) km0, ?_⟩
        refine Cl.gct q_X10_turnsArrows_0 (A := B) (a := [(2, 0), (0, k)]) ⟨gv_ref (by omega) km0, ⟨rfl, by simp only; omega, by simp only; omega⟩, trivial⟩ hF.1 ?_
        rintro ⟨r1, C⟩ f1 f2 f3
        simp only at f1 f2 f3
        match r1, f1 with
        | some (0, x), fx => exact Or.inl (⟨rfl, C, x, f2, f3, rfl⟩)
        | some (n + 1, x), ⟨⟨q, _⟩, _⟩ => exact absurd q (by intro q; cases q)
        | none, q => exact absurd q (by intro q; cases q)
      · refine ⟨oM_0 (by omega) km0 9 rfl, ?_⟩
        refine ⟨oM_0 (by omega) km0 37 rfl, ?_⟩
        refine ⟨⟨by omega, by omega⟩, ?_⟩
        refine ⟨⟨by omega, by omega⟩, ?_⟩
        refine ⟨aM_24 (r := B 0 37) (by rw [c37]; omega) (by rw [c37]; exact kn24) (by omega) (by omega), ?_⟩
        have e1 : B (B 0 37) ((36 * t) + i) = B 24 ((36 * t) + i) := by rw [c37]
        refine ⟨tM_5 (r := B 0 9) (by rw [c9]; omega) (by rw [c9]; exact kn5) (by omega) (by omega) rfl, ?_⟩
        refine ⟨⟨by omega, by omega⟩, ?_⟩
        exact Or.inr (⟨rfl, h0, rfl⟩)
theorem sch_63 {A : pm_A} {t : Int} (t0 : 0 ≤ t) (H : ∀ how fr bb w5 w6 w7 C, sI A C how fr bb → t < C 0 40 → Tm pmt (an_sh wM) o_X10_searches 46 ([(2, 0), (0, how), (0, fr), (0, bb), (0, t + 1), w5, w6, w7], [], C) (sch_post A)) : ∀ (m : Nat) (k how fr bb : Int) (w6 w7 : pm_V) (B : pm_A), (6 - k).toNat < m → 0 ≤ k → k ≤ 6 → sI A B how fr bb → t < B 0 40 → Tm pmt (an_sh wM) o_X10_searches 63 ([(2, 0), (0, how), (0, fr), (0, bb), (0, t), (0, k), w6, w7], [], B) (sch_post A) := by
  intro m
  induction m with
  | zero => intro k how fr bb w6 w7 B h; omega
  | succ m ih =>
    intro k how fr bb w6 w7 B hm k0 k1 hI ht
    have p40 := fM_0_40 hI.1.1 (r := 0) (by omega) km0
    have p7 := fM_0_7 hI.1.1 (r := 0) (by omega) km0
    have h200 : Tm pmt (an_sh wM) o_X10_searches 200 ([(2, 0), (0, how), (0, fr), (0, bb), (0, t), (0, k), w6, w7], [], B) (sch_post A) := by
      refine wq_ok srt_searches (fr := []) (cuts := [46]) (J := fun pc st => (pc = 46 ∧ st = ([(2, 0), (0, how), (0, fr), (0, bb), (0, t + 1), (0, k), w6, w7], [], B))) ?_ 7 200 _ ?_
      · rintro pc st (⟨rfl, rfl⟩)
        exact H _ _ _ _ _ _ B hI ht
      · refine ⟨⟨by omega, by omega⟩, ?_⟩
        exact ⟨rfl, rfl⟩
    refine wq_ok srt_searches (fr := []) (cuts := [80, 200]) (J := fun pc st => (pc = 200 ∧ ((B 0 7) ≤ k) ∧ st = ([(2, 0), (0, how), (0, fr), (0, bb), (0, t), (0, k), w6, w7], [], B)) ∨ (pc = 200 ∧ (k < (B 0 7)) ∧ (2 ≤ how) ∧ st = ([(2, 0), (0, how), (0, fr), (0, bb), (0, t), (0, k), w6, w7], [], B)) ∨ (pc = 80 ∧ (k < (B 0 7)) ∧ (how < 2) ∧ st = ([(2, 0), (0, how), (0, fr), (0, bb), (0, t), (0, k), (0, 0), w7], [], B))) ?_ 14 63 _ ?_
    · rintro pc st (⟨rfl, h0, rfl⟩ | ⟨rfl, h0, h1, rfl⟩ | ⟨rfl, h0, h1, rfl⟩)
      · exact h200
      · exact h200
      · exact sch_80 t0 k0 (by omega) (fun how w6 w7 C hC hC2 => ih (k + 1) how t k w6 w7 C (by omega) (by omega) (by omega) hC hC2) _ 0 B (Nat.lt_succ_self _) (by omega) (by omega) hI.1 hI.2.1 ht
    · refine ⟨oM_0 (by omega) km0 7 rfl, ?_⟩
      refine ⟨fun h0 => ?_, fun h0 => ?_⟩
      · exact Or.inl (⟨rfl, h0, rfl⟩)
      · refine ⟨fun h1 => ?_, fun h1 => ?_⟩
        · exact Or.inr (Or.inl (⟨rfl, h0, h1, rfl⟩))
        · exact Or.inr (Or.inr (⟨rfl, h0, h1, rfl⟩))
theorem sch_46 {A : pm_A} : ∀ (m : Nat) (t how fr bb : Int) (w5 w6 w7 : pm_V) (B : pm_A), (3001 - t).toNat < m → 0 ≤ t → t ≤ 3000 → sI A B how fr bb → Tm pmt (an_sh wM) o_X10_searches 46 ([(2, 0), (0, how), (0, fr), (0, bb), (0, t), w5, w6, w7], [], B) (sch_post A) := by
  intro m
  induction m with
  | zero => intro t how fr bb w5 w6 w7 B h; omega
  | succ m ih =>
    intro t how fr bb w5 w6 w7 B hm t0 t1 hI
    have p40 := fM_0_40 hI.1.1 (r := 0) (by omega) km0
    obtain ⟨i1, i2, i3, i4, i5⟩ := id hI
    refine wq_ok srt_searches (fr := []) (cuts := [63, 206]) (J := fun pc st => (pc = 206 ∧ ((B 0 40) ≤ t) ∧ st = ([(2, 0), (0, how), (0, fr), (0, bb), (0, t), w5, w6, w7], [], B)) ∨ (pc = 206 ∧ (t < (B 0 40)) ∧ (2 ≤ how) ∧ st = ([(2, 0), (0, how), (0, fr), (0, bb), (0, t), w5, w6, w7], [], B)) ∨ (pc = 63 ∧ (t < (B 0 40)) ∧ (how < 2) ∧ st = ([(2, 0), (0, how), (0, fr), (0, bb), (0, t), (0, 0), w6, w7], [], B))) ?_ 14 46 _ ?_
    · rintro pc st (⟨rfl, h0, rfl⟩ | ⟨rfl, h0, h1, rfl⟩ | ⟨rfl, h0, h1, rfl⟩)
      · exact sch_206 i1 i2 i3.1 i3.2 ⟨by omega, by omega⟩ i5
      · exact sch_206 i1 i2 i3.1 i3.2 ⟨by omega, by omega⟩ i5
      · exact sch_63 t0 (fun how fr bb w5 w6 w7 C hC hC2 => ih (t + 1) how fr bb w5 w6 w7 C (by omega) (by omega) (by have := fM_0_40 hC.1.1 (r := 0) (by omega) km0; omega) hC) _ 0 _ _ _ _ _ B (Nat.lt_succ_self _) (by omega) (by omega) hI h0
    · refine ⟨oM_0 (by omega) km0 40 rfl, ?_⟩
      refine ⟨fun h0 => ?_, fun h0 => ?_⟩
      · exact Or.inl (⟨rfl, h0, rfl⟩)
      · refine ⟨fun h1 => ?_, fun h1 => ?_⟩
        · exact Or.inr (Or.inl (⟨rfl, h0, h1, rfl⟩))
        · exact Or.inr (Or.inr (⟨rfl, h0, h1, rfl⟩))
theorem sch_12 {A : pm_A} : ∀ (m : Nat) (i : Int) (w2 w3 w4 w5 w6 w7 : pm_V) (B : pm_A), (4096 - i).toNat < m → 0 ≤ i → i ≤ 4096 → fF A B → B 0 40 = 0 → (∀ h : Int, 0 ≤ h → h < i → B 28 h = -1) → Tm pmt (an_sh wM) o_X10_searches 12 ([(2, 0), (0, i), w2, w3, w4, w5, w6, w7], [], B) (sch_post A) := by
  intro m
  induction m with
  | zero => intro i w2 w3 w4 w5 w6 w7 B h; omega
  | succ m ih =>
    intro i w2 w3 w4 w5 w6 w7 B hm i0 i1 hF h40 hh
    have c44 := pM_44 hF.1
    have hL : 4096 ≤ i → FL B := fun hi => ⟨fun h h0 h1 => by rw [hh h h0 (by omega)]; omega, fun t t0 t1 => by omega⟩
    refine wq_ok srt_searches (fr := []) (cuts := [12, 38]) (J := fun pc st => (pc = 38 ∧ ∃ C x, fF A C ∧ FL C ∧ B 0 40 ≤ C 0 40 ∧ st = ([(2, 0), (0, i), w2, w3, w4, w5, w6, w7], [(0, x)], C)) ∨ (pc = 12 ∧ (i < 4096) ∧ st = ([(2, 0), (0, i + 1), w2, w3, w4, w5, w6, w7], [], pm_upd B (B 0 44) i ((-1))))) ?_ 15 12 _ ?_
    · rintro pc st (⟨rfl, C, x, q3, q4, q5, rfl⟩ | ⟨rfl, h0, rfl⟩)
      · refine wq_ok srt_searches (fr := []) (cuts := [46]) (J := fun pc st => (pc = 46 ∧ st = ([(2, 0), (0, x), (0, (-1)), (0, (-1)), (0, 0), w5, w6, w7], [], C))) ?_ 12 38 _ ?_
        · rintro pc st (⟨rfl, rfl⟩)
          exact sch_46 _ 0 x (-1) (-1) _ _ _ C (Nat.lt_succ_self _) (by omega) (by omega) ⟨q3, q4, ⟨by omega, by omega⟩, ⟨by omega, by omega⟩, fun _ => rfl⟩
        · exact ⟨rfl, rfl⟩
      · rw [c44]
        refine ih (i + 1) _ _ _ _ _ _ _ (by omega) (by omega) (by omega) ⟨uM_28 hF.1 kn28 (by omega) (by omega), gFr_upd hF.2 (mM_28 kn28 rfl)⟩ (by rw [upd_o (by omega)]; exact h40) (fun h g0 g1 => ?_)
        by_cases e : h = i
        · rw [e, upd_at]
        · rw [upd_o (by omega)]; exact hh h g0 (by omega)
    · refine ⟨fun h0 => ?_, fun h0 => ?_⟩
      · refine ⟨rM_0 (by omega) km0, ?_⟩
        refine (tells_ex (fr := -1) (bb := -1) hF (hL h0) (by omega) (Or.inr rfl) ⟨by omega, by omega⟩).imp ?_
        rintro ⟨r1, C⟩ ⟨x, q1, q2, q3, q4, q5⟩
        simp only at q1 q2 q3 q4 q5
        subst q1
        exact Or.inl (⟨rfl, C, x, q3, q4, q5, rfl⟩)
      · refine ⟨oM_0 (by omega) km0 44 rfl, ?_⟩
        refine ⟨tM_28 (r := B 0 44) (by rw [c44]; omega) (by rw [c44]; exact kn28) (by omega) (by omega) rfl, ?_⟩
        refine ⟨⟨by omega, by omega⟩, ?_⟩
        exact Or.inr (⟨rfl, h0, rfl⟩)
theorem searches_ex {A : pm_A} (hA : gH wM A) : Cl pmt (an_sh wM) 182 [(2, 0)] A (sch_post A) := by
  refine Cl.of (Nat.le_of_ble_eq_true rfl) ?_
  refine wq_ok (full := o_X10_searches) srt_searches (fr := []) (cuts := [12]) (J := fun pc st => (pc = 12 ∧ st = ([(2, 0), (0, 0), (9, 0), (9, 0), (9, 0), (9, 0), (9, 0), (9, 0)], [], pm_upd (pm_upd A 0 40 0) 0 42 0))) ?_ 13 0 _ ?_
  · rintro pc st (⟨rfl, rfl⟩)
    exact sch_12 _ 0 _ _ _ _ _ _ _ (Nat.lt_succ_self _) (by omega) (by omega) ⟨uM_0_42 (uM_0_40 hA (by omega) (by omega)) (by omega) (by omega), gFr_upd (gFr_upd (fun _ _ _ _ _ => rfl) (by rw [mc_0]; decide)) (by rw [mc_0]; decide)⟩ (by rw [upd_o (by omega), upd_at]) (fun h g0 g1 => by omega)
  · refine ⟨oM_0 (by omega) km0 40 rfl, ?_⟩
    refine ⟨oM_0 (by omega) km0 42 rfl, ?_⟩
    exact ⟨rfl, rfl⟩
theorem srt_Mfinite : pm_srt o_X10_finite = true := by decide +kernel
theorem mfinite_ct {A : pm_A} (h : RI A) : Cl pmt (an_sh wM) 141 [(2, 0)] A ri_post := by
  have hg := h.g
  refine Cl.of (Nat.le_of_ble_eq_true rfl) ?_
  refine wq_ok (full := o_X10_finite) srt_Mfinite (fr := []) (cuts := [6]) (J := fun pc st => (pc = 6 ∧ ∃ C, savesJ A C 30 72 ∧ st = ([(2, 0), (9, 0)], [], C))) ?_ 7 0 _ ?_
  · rintro pc st (⟨rfl, C, hC, rfl⟩)
    refine wq_ok srt_Mfinite (fr := []) (cuts := [10]) (J := fun pc st => (pc = 10 ∧ ∃ B x, fF C B ∧ st = ([(2, 0), (9, 0)], [(0, x)], B))) ?_ 6 6 _ ?_
    · rintro pc st (⟨rfl, B, x, hB, rfl⟩)
      refine wq_ok srt_Mfinite (fr := []) (cuts := [17]) (J := fun pc st => (pc = 17 ∧ ∃ D, restoresJ B D 30 72 ∧ st = ([(2, 0), (0, x)], [], D))) ?_ 8 10 _ ?_
      · rintro pc st (⟨rfl, D, hD, rfl⟩)
        have hout : ∀ r j : Int, 0 ≤ r → r ≤ 38 → 0 ≤ j → (r = 0 → j < 100) → (r = 0 ∧ j ≠ 40 ∧ j ≠ 41 ∧ j ≠ 42) ∨ (r ≠ 0 ∧ r ≠ 5 ∧ r ≠ 12 ∧ r ≠ 24 ∧ r ≠ 25 ∧ r ≠ 26 ∧ r ≠ 27 ∧ r ≠ 28 ∧ r ≠ 29) → B r j = C r j := fun r j r0 r1 j0 j1 hr => hB.2 r j r0 j0 (fr_out r0 r1 j0 j1 (fun e => by unfold fms; simp only [List.mem_cons, List.not_mem_nil, or_false]; omega) (fun e => by unfold fms; simp only [List.mem_cons, List.not_mem_nil, or_false]; omega))
        have hRI : RI D := restored h hC hB.1 (fun r j j0 j1 hr => hout r j (by omega) (by omega) j0 j1 (by omega)) (fun p p0 p1 r j hr => hout r j (by unfold inS at hr; omega) (by unfold inS at hr; omega) (by unfold inS at hr; omega) (by unfold inS at hr; omega) (by unfold inS at hr; omega)) hD
        refine wq_ok srt_Mfinite (fr := []) (cuts := []) (J := fun _ _ => False) ?_ 6 17 _ ?_
        · intro pc st h; exact h.elim
        · exact ⟨rfl, ⟨_, rfl⟩, hRI⟩
      · refine ⟨rM_0 (by omega) km0, ?_⟩
        refine (restores_ex (p := 30) hB.1 (by omega) (by omega)).imp ?_
        rintro ⟨r1, D⟩ ⟨q1, q2⟩
        simp only at q1 q2
        subst q1
        exact ⟨rfl, D, q2, rfl⟩
    · refine ⟨rM_0 (by omega) km0, ?_⟩
      refine (searches_ex hC.1).imp ?_
      rintro ⟨r1, B⟩ ⟨⟨x, q1⟩, q2⟩
      simp only at q1 q2
      subst q1
      exact ⟨rfl, B, x, q2, rfl⟩
  · refine ⟨rM_0 (by omega) km0, ?_⟩
    refine (saves_ex (p := 30) hg (by omega) (by omega)).imp ?_
    rintro ⟨r1, C⟩ ⟨q1, q2⟩
    simp only at q1 q2
    subst q1
    exact ⟨rfl, C, q2, rfl⟩
end
