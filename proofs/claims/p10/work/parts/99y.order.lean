/-! order of the reference -/
def odF (A B : pm_A) : Prop := gH wM B ∧ ∀ r j : Int, 0 ≤ r → r ≤ 38 → 0 ≤ j → (r = 0 → j < 100) → (∀ t : Int, (0 ≤ t ∧ t ≤ 5) ∨ (42 ≤ t ∧ t ≤ 47) → ¬ inS t r j) → r ≠ 4 → r ≠ 5 → r ≠ 12 → r ≠ 16 → ¬ (r = 0 ∧ (j = 4 ∨ j = 5)) → B r j = A r j
theorem odF.tr {A B C : pm_A} (h : odF A B) (g : odF B C) : odF A C := ⟨g.1, fun r j r0 r1 j0 j1 a1 a2 a3 a4 a5 a6 => (g.2 r j r0 r1 j0 j1 a1 a2 a3 a4 a5 a6).trans (h.2 r j r0 r1 j0 j1 a1 a2 a3 a4 a5 a6)⟩
theorem odF.fld {A B : pm_A} (h : odF A B) {j : Int} (j0 : 0 ≤ j) (j1 : j < 100) (h4 : j ≠ 4) (h5 : j ≠ 5) : B 0 j = A 0 j := h.2 0 j (by omega) (by omega) j0 (fun _ => j1) (fun t t0 ht => by unfold inS at ht; omega) (by omega) (by omega) (by omega) (by omega) (by omega)
theorem odF.cell {A B : pm_A} (h : odF A B) {r j : Int} (h0 : 5 < r) (h38 : r ≤ 38) (h1 : r ≠ 12) (h2 : r ≠ 16) (j0 : 0 ≤ j) : B r j = A r j := h.2 r j (by omega) h38 j0 (by omega) (fun t t0 ht => by unfold inS at ht; omega) (by omega) (by omega) h1 h2 (by omega)
theorem odF.slot {A B : pm_A} (h : odF A B) {p : Int} (h0 : 6 ≤ p) (h1 : p ≤ 41 ∨ 48 ≤ p) : ∀ r j, inS p r j → B r j = A r j := fun r j hj => h.2 r j (by unfold inS at hj; omega) (by unfold inS at hj; omega) (by unfold inS at hj; omega) (by unfold inS at hj; omega) (fun t t0 ht => by unfold inS at *; omega) (by unfold inS at hj; omega) (by unfold inS at hj; omega) (by unfold inS at hj; omega) (by unfold inS at hj; omega) (by unfold inS at hj; omega)
theorem sh_arr : ∀ i, i < 39 → (1 ≤ i → (an_sh wM ((i : Nat) : Int)).1 = 1 ∧ wM.2 ((i : Nat) : Int) = i) := by decide
theorem fr_out {r j : Int} (r0 : 0 ≤ r) (r1 : r ≤ 38) (j0 : 0 ≤ j) (j1 : r = 0 → j < 100) {ms : List Nat} (h1 : r = 0 → ¬ (1000 + j.toNat) ∈ ms) (h2 : r ≠ 0 → ¬ (10000 + r.toNat) ∈ ms) : ¬ mcode wM r j ∈ ms := by
  by_cases e : r = 0
  · subst e; rw [mc_0]; exact h1 rfl
  · have h := sh_arr r.toNat (by omega) (by omega)
    rw [Int.toNat_of_nonneg r0] at h
    unfold mcode
    rw [h.1, h.2]
    exact h2 e
theorem turns_od {B : pm_A} (h : ∃ s ks, Tru s ks B) {k : Int} (k0 : 0 ≤ k) (k1 : k < B 0 7) : Cl pmt (an_sh wM) 200 [(2, 0), (0, k)] B (fun r => (r.1 = some (0, 0) ∨ r.1 = some (0, 1)) ∧ (∃ s ks, Tru s ks r.2) ∧ odF B r.2) := by
  obtain ⟨s, ks, hT⟩ := h
  have p7 := fM_0_7 hT.1 (r := 0) (by omega) km0
  have hk : k = ((⟨k.toNat, by omega⟩ : Fin 12).1 : Int) := by show k = ((k.toNat : Nat) : Int); omega
  have hk1 : ((⟨k.toNat, by omega⟩ : Fin 12).1 : Int) < B 0 7 := by rw [← hk]; exact k1
  rw [hk]
  refine (turns_ex hT hk1).imp ?_
  rintro ⟨r1, C⟩ (⟨q1, q2, q3⟩ | ⟨q1, q2, q3, q4⟩)
  · exact ⟨Or.inl q1, ⟨s, ks, q3⟩, q2.1, fun r j r0 r1 j0 j1 a1 a2 a3 a4 a5 a6 => q2.2 r j (fun t t0 t1 => a1 t (Or.inr ⟨t0, t1⟩)) a2 a4 a6⟩
  · exact ⟨Or.inr q1, ⟨s, _, q2⟩, q3, fun r j r0 r1 j0 j1 a1 a2 a3 a4 a5 a6 => q4 r j (fun t t0 t1 => a1 t (Or.inr ⟨t0, t1⟩)) (a1 _ (Or.inl ⟨by omega, by omega⟩)) a2 a3 a4 a6⟩
theorem begun_od {B : pm_A} (h : ∃ s ks, Tru s ks B) : Cl pmt (an_sh wM) 153 [(2, 0)] B (fun r => (∃ x, r.1 = some (0, x) ∧ 0 ≤ x ∧ x ≤ 1) ∧ (∃ s ks, Tru s ks r.2) ∧ odF B r.2) := by
  obtain ⟨s, ks, hT⟩ := h
  have p7 := fM_0_7 hT.1 (r := 0) (by omega) km0
  refine (isBegun_ct hT.1).imp ?_
  rintro ⟨r1, C⟩ ⟨x, hx, hx2, q1, q2⟩
  simp only at q1 q2
  have hf : ∀ r j : Int, 0 ≤ r → r ≤ 38 → 0 ≤ j → (r = 0 → j < 100) → r ≠ 16 → C r j = B r j := fun r j r0 r1 j0 j1 hne => q2 r j r0 j0 (fr_out r0 r1 j0 j1 (fun h => by rw [List.mem_singleton]; omega) (fun h => by rw [List.mem_singleton]; omega))
  exact ⟨⟨x, hx, hx2⟩, ⟨s, ks, hT.same q1 (hf 0 7 (by omega) (by omega) (by omega) (by omega) (by omega)) (hf 0 8 (by omega) (by omega) (by omega) (by omega) (by omega)) (fun j j0 _ => hf 5 j (by omega) (by omega) j0 (by omega) (by omega)) (fun p p0 p1 r j hr => hf r j (by unfold inS at hr; omega) (by unfold inS at hr; omega) (by unfold inS at hr; omega) (by unfold inS at hr; omega) (by unfold inS at hr; omega))⟩, q1, fun r j r0 r1 j0 j1 _ _ _ _ h16 _ => hf r j r0 r1 j0 j1 h16⟩
def odI (A B : pm_A) : Prop := (∃ s ks, Tru s ks B) ∧ odF A B
theorem srt_Morder : pm_srt o_X10_order = true := by decide +kernel
theorem od_120 {A A1 B : pm_A} (hA : RI A) (h1 : savesJ A A1 36 72) (hB : odI A1 B) {ans : Int} (w2 w3 w4 : pm_V) : Tm pmt (an_sh wM) o_X10_order 120 ([(2, 0), (0, ans), w2, w3, w4], [], B) ri_post := by
  obtain ⟨⟨s, ks, hT⟩, ⟨b1, b2⟩, hRG⟩ := hA
  have p7 := fM_0_7 hT.1 (r := 0) (by omega) km0
  have s1 : ∀ r j : Int, r ≠ 22 → (∀ t : Int, 36 ≤ t → t ≤ 41 → ¬ inS t r j) → A1 r j = A r j := fun r j hr hn => h1.2.1 r j (fun t t0 t1 ht => hn (36 + t) (by omega) (by omega) ht) hr
  have e7 : B 0 7 = A 0 7 := by rw [hB.2.fld (by omega) (by omega) (by omega) (by omega)]; exact s1 0 7 (by omega) (fun t t0 t1 ht => by unfold inS at ht; omega)
  refine wq_ok srt_Morder (fr := []) (cuts := [126]) (J := fun pc st => (pc = 126 ∧ ∃ C, restoresJ B C 36 72 ∧ st = ([(2, 0), (0, ans), w2, w3, w4], [], C))) ?_ 7 120 _ ?_
  · rintro pc st (⟨rfl, C, ⟨q2, q3, q4, q5⟩, rfl⟩)
    have cC : ∀ r j : Int, 5 < r → r ≤ 38 → r ≠ 12 → r ≠ 16 → r ≠ 22 → 0 ≤ j → C r j = A r j := fun r j a1 a5 a2 a3 a4 j0 => by rw [q3 r j (fun t t0 t1 ht => by unfold inS at ht; omega) (by omega), hB.2.cell a1 a5 a2 a3 j0]; exact s1 r j a4 (fun t t0 t1 ht => by unfold inS at ht; omega)
    have c0 : ∀ j : Int, 0 ≤ j → j < 100 → j ≠ 4 → j ≠ 5 → C 0 j = A 0 j := fun j j0 j3 j1 j2 => by rw [q3 0 j (fun t t0 t1 ht => by unfold inS at ht; omega) (by omega), hB.2.fld j0 j3 j1 j2]; exact s1 0 j (by omega) (fun t t0 t1 ht => by unfold inS at ht; omega)
    have hC : RI C := by
      refine ⟨⟨s, ks, hT.ls q2 (c0 7 (by omega) (by omega) (by omega) (by omega)) (c0 8 (by omega) (by omega) (by omega) (by omega)) (fun j j0 j1 => ?_) (fun p p0 p1 => ?_)⟩, ⟨fun j j0 j1 => by rw [cC 7 j (by omega) (by omega) (by omega) (by omega) (by omega) j0]; exact b1 j j0 j1, fun d d0 d1 => ?_⟩, hRG.same2 (fun j j0 => cC 31 j (by omega) (by omega) (by omega) (by omega) (by omega) j0) (fun j j0 => cC 32 j (by omega) (by omega) (by omega) (by omega) (by omega) j0)⟩
      · rw [q5 j j0 j1, hB.2.cell (by omega) (by omega) (by omega) (by omega) j0]; exact h1.2.2.2 j j0 j1
      · rw [q4 p p0 (by omega)]
        have m1 := eM_1 h1.1 (r := 1) (by omega) kn1 (j := 36 + p) (by omega) (by omega)
        rw [LSm_same m1.2 (hB.2.slot (p := 36 + p) (by omega) (by omega))]
        exact h1.2.2.1 p p0 p1
      · rw [cC 6 d (by omega) (by omega) (by omega) (by omega) (by omega) d0, c0 7 (by omega) (by omega) (by omega) (by omega)]
        rw [c0 10 (by omega) (by omega) (by omega) (by omega)] at d1
        exact b2 d d0 d1
    refine wq_ok srt_Morder (fr := []) (cuts := []) (J := fun _ _ => False) ?_ 6 126 _ ?_
    · intro pc st h; exact h.elim
    · exact ⟨rfl, ⟨_, rfl⟩, hC⟩
  · refine ⟨rM_0 (by omega) km0, ?_⟩
    refine (restores_ex (p := 36) hB.2.1 (by omega) (by omega)).imp ?_
    rintro ⟨r1, C⟩ ⟨q1, q2, q3, q4, q5⟩
    simp only at q1 q2 q3 q4 q5
    subst q1
    exact ⟨rfl, C, ⟨q2, q3, q4, q5⟩, rfl⟩
theorem od_70 {A1 : pm_A} {ans n : Int} {z : pm_R → Prop} (hr : A1 0 46 ≤ 12) (hrow : ∀ j : Int, 0 ≤ j → j < A1 0 46 → 0 ≤ A1 30 j ∧ A1 30 j < A1 0 7) (H : ∀ g w4 B, odI A1 B → (g = 0 ∨ g = 1) → Tm pmt (an_sh wM) o_X10_order 101 ([(2, 0), (0, ans), (0, g), (0, n), w4], [], B) z) : ∀ (m : Nat) (g j : Int) (B : pm_A), (12 - j).toNat < m → 0 ≤ j → j ≤ 12 → (g = 0 ∨ g = 1) → odI A1 B → Tm pmt (an_sh wM) o_X10_order 70 ([(2, 0), (0, ans), (0, g), (0, n), (0, j)], [], B) z := by
  intro m
  induction m with
  | zero => intro g j B h; omega
  | succ m ih =>
    intro g j B hm j0 j1 hg hB
    have hgB := hB.2.1
    have c47 := pM_47 hgB
    have e46 : B 0 46 = A1 0 46 := hB.2.fld (by omega) (by omega) (by omega) (by omega)
    have e7 : B 0 7 = A1 0 7 := hB.2.fld (by omega) (by omega) (by omega) (by omega)
    have e30 : B 30 j = A1 30 j := hB.2.cell (by omega) (by omega) (by omega) (by omega) j0
    refine wq_ok srt_Morder (fr := []) (cuts := [94, 101]) (J := fun pc st => (pc = 101 ∧ ((B 0 46) ≤ j) ∧ st = ([(2, 0), (0, ans), (0, g), (0, n), (0, j)], [], B)) ∨ (pc = 101 ∧ (j < (B 0 46)) ∧ (g = 0) ∧ st = ([(2, 0), (0, ans), (0, g), (0, n), (0, j)], [], B)) ∨ (pc = 94 ∧ j < B 0 46 ∧ ∃ C y, (y = 0 ∨ y = 1) ∧ odI A1 C ∧ st = ([(2, 0), (0, ans), (0, g), (0, n), (0, j)], [(0, y)], C))) ?_ 16 70 _ ?_
    · rintro pc st (⟨rfl, h0, rfl⟩ | ⟨rfl, h0, h1, rfl⟩ | ⟨rfl, hj, C, y, hy, hC, rfl⟩)
      · exact H g _ B hB hg
      · exact H g _ B hB hg
      · refine wq_ok srt_Morder (fr := []) (cuts := [70]) (J := fun pc st => (pc = 70 ∧ st = ([(2, 0), (0, ans), (0, y), (0, n), (0, j + 1)], [], C))) ?_ 8 94 _ ?_
        · rintro pc st (⟨rfl, rfl⟩)
          exact ih y (j + 1) C (by omega) (by omega) (by omega) hy hC
        · refine ⟨⟨by omega, by omega⟩, ?_⟩
          exact ⟨rfl, rfl⟩
    · refine ⟨oM_0 (by omega) km0 46 rfl, ?_⟩
      refine ⟨fun h0 => ?_, fun h0 => ?_⟩
      · exact Or.inl (⟨rfl, h0, rfl⟩)
      · refine ⟨fun h1 => ?_, fun h1 => ?_⟩
        · exact Or.inr (Or.inl (⟨rfl, h0, h1, rfl⟩))
        · refine ⟨oM_0 (by omega) km0 47 rfl, ?_⟩
          refine ⟨aM_30 (r := B 0 47) (by rw [c47]; omega) (by rw [c47]; exact kn30) (by omega) (by omega), ?_⟩
          have e1 : B (B 0 47) j = B 30 j := by rw [c47]
          refine ⟨rM_0 (by omega) km0, ?_⟩
          have hj : j < A1 0 46 := by omega
          have hk := hrow j j0 hj
          show Cl pmt (an_sh wM) 200 [(2, 0), (0, B (B 0 47) j)] B _
          rw [c47, e30]
          refine (turns_od hB.1 hk.1 (by omega)).imp ?_
          rintro ⟨r1, C⟩ ⟨q1, q2, q3⟩
          simp only at q1 q2 q3
          rcases q1 with q1 | q1
          · subst q1
            exact Or.inr (Or.inr (⟨rfl, by omega, C, 0, Or.inl rfl, ⟨q2, hB.2.tr q3⟩, rfl⟩))
          · subst q1
            exact Or.inr (Or.inr (⟨rfl, by omega, C, 1, Or.inr rfl, ⟨q2, hB.2.tr q3⟩, rfl⟩))
theorem od_53 {A A1 : pm_A} (hA : RI A) (hsv : savesJ A A1 36 72) (hr : A1 0 46 ≤ 12) (hrow : ∀ j : Int, 0 ≤ j → j < A1 0 46 → 0 ≤ A1 30 j ∧ A1 30 j < A1 0 7) : ∀ (m : Nat) (ans g n : Int) (w4 : pm_V) (B : pm_A), (41 - n).toNat < m → 1 ≤ n → n ≤ 41 → (g = 0 ∨ g = 1) → odI A1 B → Tm pmt (an_sh wM) o_X10_order 53 ([(2, 0), (0, ans), (0, g), (0, n), w4], [], B) ri_post := by
  intro m
  induction m with
  | zero => intro ans g n w4 B h; omega
  | succ m ih =>
    intro ans g n w4 B hm n0 n1 hg hB
    have h114 : ∀ ans g w4 B, n ≤ 40 → (g = 0 ∨ g = 1) → odI A1 B → Tm pmt (an_sh wM) o_X10_order 114 ([(2, 0), (0, ans), (0, g), (0, n), w4], [], B) ri_post := fun ans g w4 B hn hg hB => by
      refine wq_ok srt_Morder (fr := []) (cuts := [53]) (J := fun pc st => (pc = 53 ∧ st = ([(2, 0), (0, ans), (0, g), (0, n + 1), w4], [], B))) ?_ 7 114 _ ?_
      · rintro pc st (⟨rfl, rfl⟩)
        exact ih ans g (n + 1) w4 B (by omega) (by omega) (by omega) hg hB
      · refine ⟨⟨by omega, by omega⟩, ?_⟩
        exact ⟨rfl, rfl⟩
    have h101 : n ≤ 40 → ∀ g w4 B, odI A1 B → (g = 0 ∨ g = 1) → Tm pmt (an_sh wM) o_X10_order 101 ([(2, 0), (0, ans), (0, g), (0, n), w4], [], B) ri_post := fun hn g w4 B hB hg => by
      refine wq_ok srt_Morder (fr := []) (cuts := [109, 114]) (J := fun pc st => (pc = 114 ∧ (g = 0) ∧ st = ([(2, 0), (0, ans), (0, g), (0, n), w4], [], B)) ∨ (pc = 109 ∧ ∃ C y, odI A1 C ∧ st = ([(2, 0), (0, ans), (0, g), (0, n), w4], [(0, y)], C))) ?_ 8 101 _ ?_
      · rintro pc st (⟨rfl, h0, rfl⟩ | ⟨rfl, C, y, hC, rfl⟩)
        · exact h114 _ _ _ _ hn hg hB
        · refine wq_ok srt_Morder (fr := []) (cuts := [114]) (J := fun pc st => (pc = 114 ∧ (y = 0) ∧ st = ([(2, 0), (0, ans), (0, g), (0, n), w4], [], C)) ∨ (pc = 114 ∧ (¬ y = 0) ∧ st = ([(2, 0), (0, n), (0, g), (0, n), w4], [], C))) ?_ 8 109 _ ?_
          · rintro pc st (⟨rfl, h0, rfl⟩ | ⟨rfl, h0, rfl⟩)
            · exact h114 _ _ _ _ hn hg hC
            · exact h114 _ _ _ _ hn hg hC
          · refine ⟨fun h0 => ?_, fun h0 => ?_⟩
            · exact Or.inl (⟨rfl, h0, rfl⟩)
            · exact Or.inr (⟨rfl, h0, rfl⟩)
      · refine ⟨fun h0 => ?_, fun h0 => ?_⟩
        · exact Or.inl (⟨rfl, h0, rfl⟩)
        · refine ⟨rM_0 (by omega) km0, ?_⟩
          refine (begun_od hB.1).imp ?_
          rintro ⟨r1, C⟩ ⟨⟨y, q1, q0⟩, q2, q3⟩
          simp only at q1 q2 q3
          subst q1
          exact Or.inr (⟨rfl, C, y, ⟨q2, hB.2.tr q3⟩, rfl⟩)
    refine wq_ok srt_Morder (fr := []) (cuts := [70, 120]) (J := fun pc st => (pc = 120 ∧ (40 < n) ∧ st = ([(2, 0), (0, ans), (0, g), (0, n), w4], [], B)) ∨ (pc = 120 ∧ (n ≤ 40) ∧ (g = 0) ∧ st = ([(2, 0), (0, ans), (0, g), (0, n), w4], [], B)) ∨ (pc = 120 ∧ (n ≤ 40) ∧ (¬ g = 0) ∧ (0 ≤ ans) ∧ st = ([(2, 0), (0, ans), (0, g), (0, n), w4], [], B)) ∨ (pc = 70 ∧ (n ≤ 40) ∧ (¬ g = 0) ∧ (ans < 0) ∧ st = ([(2, 0), (0, ans), (0, g), (0, n), (0, 0)], [], B))) ?_ 14 53 _ ?_
    · rintro pc st (⟨rfl, h0, rfl⟩ | ⟨rfl, h0, h1, rfl⟩ | ⟨rfl, h0, h1, h2, rfl⟩ | ⟨rfl, h0, h1, h2, rfl⟩)
      · exact od_120 hA hsv hB _ _ _
      · exact od_120 hA hsv hB _ _ _
      · exact od_120 hA hsv hB _ _ _
      · exact od_70 hr hrow (h101 (by omega)) _ g 0 B (Nat.lt_succ_self _) (by omega) (by omega) hg hB
    · refine ⟨fun h0 => ?_, fun h0 => ?_⟩
      · exact Or.inl (⟨rfl, h0, rfl⟩)
      · refine ⟨fun h1 => ?_, fun h1 => ?_⟩
        · exact Or.inr (Or.inl (⟨rfl, h0, h1, rfl⟩))
        · refine ⟨fun h2 => ?_, fun h2 => ?_⟩
          · exact Or.inr (Or.inr (Or.inl (⟨rfl, h0, h1, h2, rfl⟩)))
          · exact Or.inr (Or.inr (Or.inr (⟨rfl, h0, h1, h2, rfl⟩)))
theorem od_11 {A : pm_A} (h : RI A) (h0 : ¬ A 0 46 = 0) : ∀ (m : Nat) (j : Int) (w2 w3 w4 : pm_V), (12 - j).toNat < m → 0 ≤ j → j ≤ 12 → (∀ i : Int, 0 ≤ i → i < j → A 30 i < A 0 7) → Tm pmt (an_sh wM) o_X10_order 11 ([(2, 0), (0, j), w2, w3, w4], [], A) ri_post := by
  have hg := h.g
  have c47 := pM_47 hg
  have p46 := fM_0_46 hg (r := 0) (by omega) km0
  have p7 := fM_0_7 hg (r := 0) (by omega) km0
  intro m
  induction m with
  | zero => intro j w2 w3 w4 h; omega
  | succ m ih =>
    intro j w2 w3 w4 hm j0 j1 hj
    refine wq_ok srt_Morder (fr := []) (cuts := [11, 46]) (J := fun pc st => (pc = 46 ∧ A 0 46 ≤ j ∧ ∃ C, savesJ A C 36 72 ∧ st = ([(2, 0), (0, j), w2, w3, w4], [], C)) ∨ (pc = 11 ∧ (j < (A 0 46)) ∧ ((A (A 0 47) j) < (A 0 7)) ∧ st = ([(2, 0), (0, j + 1), w2, w3, w4], [], A))) ?_ 18 11 _ ?_
    · rintro pc st (⟨rfl, hjj, C, q2, rfl⟩ | ⟨rfl, h0, h1, rfl⟩)
      · refine wq_ok srt_Morder (fr := []) (cuts := [53]) (J := fun pc st => (pc = 53 ∧ st = ([(2, 0), (0, (-2)), (0, 1), (0, 1), w4], [], C))) ?_ 11 46 _ ?_
        · rintro pc st (⟨rfl, rfl⟩)
          have s1 : ∀ r j : Int, r ≠ 22 → (∀ t : Int, 36 ≤ t → t ≤ 41 → ¬ inS t r j) → C r j = A r j := fun r j hr hn => q2.2.1 r j (fun t t0 t1 ht => hn (36 + t) (by omega) (by omega) ht) hr
          have f7 : C 0 7 = A 0 7 := s1 0 7 (by omega) (fun t t0 t1 ht => by unfold inS at ht; omega)
          have f8 : C 0 8 = A 0 8 := s1 0 8 (by omega) (fun t t0 t1 ht => by unfold inS at ht; omega)
          have f46 : C 0 46 = A 0 46 := s1 0 46 (by omega) (fun t t0 t1 ht => by unfold inS at ht; omega)
          obtain ⟨⟨s, ks, hT⟩, _⟩ := id h
          have hTC : Tru s ks C := hT.same q2.1 f7 f8 (fun i _ _ => s1 5 i (by omega) (fun t t0 t1 ht => by unfold inS at ht; omega)) (fun p p0 p1 r i hr => s1 r i (by unfold inS at hr; omega) (fun t t0 t1 ht => by unfold inS at *; omega))
          refine od_53 h q2 (by omega) (fun i i0 i1 => ?_) _ _ _ 1 _ C (Nat.lt_succ_self _) (by omega) (by omega) (Or.inr rfl) ⟨⟨s, ks, hTC⟩, q2.1, fun _ _ _ _ _ _ _ _ _ _ _ _ => rfl⟩
          rw [s1 30 i (by omega) (fun t t0 t1 ht => by unfold inS at ht; omega), f7]
          have b := eM_30 hg (r := 30) (by omega) kn30 i0 (show i < 12 by omega)
          exact ⟨b.1, hj i i0 (by omega)⟩
        · exact ⟨rfl, rfl⟩
      · rw [c47] at h1
        refine ih (j + 1) _ _ _ (by omega) (by omega) (by omega) (fun i i0 i1 => ?_)
        by_cases e : i = j
        · rw [e]; exact h1
        · exact hj i i0 (by omega)
    · refine ⟨oM_0 (by omega) km0 46 rfl, ?_⟩
      refine ⟨fun h0 => ?_, fun h0 => ?_⟩
      · refine ⟨rM_0 (by omega) km0, ?_⟩
        refine (saves_ex (p := 36) hg (by omega) (by omega)).imp ?_
        rintro ⟨r1, C⟩ ⟨q1, q2⟩
        simp only at q1 q2
        subst q1
        exact Or.inl (⟨rfl, h0, C, q2, rfl⟩)
      · refine ⟨oM_0 (by omega) km0 47 rfl, ?_⟩
        refine ⟨aM_30 (r := A 0 47) (by rw [c47]; omega) (by rw [c47]; exact kn30) (by omega) (by omega), ?_⟩
        have e1 : A (A 0 47) j = A 30 j := by rw [c47]
        refine ⟨oM_0 (by omega) km0 7 rfl, ?_⟩
        refine ⟨fun h1 => ?_, fun h1 => ?_⟩
        · refine ⟨⟨by omega, by omega⟩, ?_⟩
          exact Or.inr (⟨rfl, h0, h1, rfl⟩)
        · exact ⟨rfl, ⟨_, rfl⟩, h⟩
theorem morder_ct {A : pm_A} (h : RI A) : Cl pmt (an_sh wM) 170 [(2, 0)] A ri_post := by
  refine Cl.of (Nat.le_of_ble_eq_true rfl) ?_
  refine wq_ok (full := o_X10_order) srt_Morder (fr := []) (cuts := [11]) (J := fun pc st => (pc = 11 ∧ (¬ (A 0 46) = 0) ∧ st = ([(2, 0), (0, 0), (9, 0), (9, 0), (9, 0)], [], A))) ?_ 10 0 _ ?_
  · rintro pc st (⟨rfl, h0, rfl⟩)
    exact od_11 h h0 _ 0 _ _ _ (Nat.lt_succ_self _) (by omega) (by omega) (fun i i0 i1 => by omega)
  · refine ⟨oM_0 (by omega) km0 46 rfl, ?_⟩
    refine ⟨fun h0 => ?_, fun h0 => ?_⟩
    · exact ⟨rfl, h0, rfl⟩
    · exact ⟨rfl, ⟨_, rfl⟩, h⟩
