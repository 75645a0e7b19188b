/-! turns -/
theorem srt_turns : pm_srt o_X10_turns = true := by decide +kernel
def tuG (A B : pm_A) : Prop := gH wM B ∧ ∀ r j, (∀ t : Int, 42 ≤ t → t ≤ 47 → ¬ inS t r j) → r ≠ 4 → r ≠ 12 → ¬ (r = 0 ∧ (j = 4 ∨ j = 5)) → B r j = A r j
theorem tuG.tr {A B C : pm_A} (h : tuG A B) (g : tuG B C) : tuG A C := ⟨g.1, fun r j a1 a2 a3 a4 => (g.2 r j a1 a2 a3 a4).trans (h.2 r j a1 a2 a3 a4)⟩
theorem tuG.slot {A B : pm_A} (h : tuG A B) {p : Int} (hp : p < 42) : ∀ r j, inS p r j → B r j = A r j := fun r j hj => h.2 r j (fun t t0 t1 ht => by unfold inS at *; omega) (by unfold inS at hj; omega) (by unfold inS at hj; omega) (by unfold inS at hj; omega)
theorem tuG.arr {A B : pm_A} (h : tuG A B) (j : Int) : B 5 j = A 5 j := h.2 5 j (fun t t0 t1 ht => by unfold inS at ht; omega) (by omega) (by omega) (by omega)
theorem tuG.fld {A B : pm_A} (h : tuG A B) {j : Int} (h4 : j ≠ 4) (h5 : j ≠ 5) : B 0 j = A 0 j := h.2 0 j (fun t t0 t1 ht => by unfold inS at ht; omega) (by omega) (by omega) (by omega)
theorem srtd_same {A B : pm_A} {p : Int} (hm : A 1 p ≤ 200) (h : ∀ r j, inS p r j → B r j = A r j) (hx : srtd A p) : srtd B p := by
  intro q q' q0 hq hq'
  rw [h 1 p (Or.inl ⟨rfl, rfl⟩)] at hq'
  have e : ∀ i : Int, 0 ≤ i → i < A 1 p → xe B p i = xe A p i := fun i i0 i1 => funext fun v => h 3 _ (by unfold inS; have := v.2; omega)
  rw [e q q0 (by omega), e q' (by omega) hq']
  exact hx q q' q0 hq hq'
theorem Tru.keep {s : cx_Sd 12} {ks : List (Fin 12)} {A B : pm_A} (h : Tru s ks A) (g : tuG A B) : Tru s ks B := by
  obtain ⟨hg, h1, hb, hks, h9, ha, hl⟩ := h
  have p7 := fM_0_7 hg (r := 0) (by omega) km0
  have e7 := g.fld (j := 7) (by omega) (by omega)
  have e8 := g.fld (j := 8) (by omega) (by omega)
  refine ⟨g.1, by omega, fun i j hj => ?_, fun k hk => by rw [e7]; exact hks k hk, fun v k hk => h9 v k (by omega), fun i j i0 i1 j0 j1 => ?_, fun i hi => ?_⟩
  · rw [e7, e8, g.arr]; rw [e7] at hj; exact hb i j hj
  · rw [g.arr]; exact ha i j i0 (by omega) j0 (by omega)
  · rw [e7] at hi
    have m := eM_1 hg (r := 1) (by omega) kn1 (j := i.1) (by omega) (by have := i.2; omega)
    have hs := g.slot (p := i.1) (by omega)
    obtain ⟨l1, l2, l3⟩ := hl i hi
    exact ⟨srtd_same m.2 hs l1, cfs_same m.2 hs l2, fun x => by rw [l3 x]; exact (congrFun (VS_of (LSm_same m.2 hs)) x).symm⟩
def tu_post (s : cx_Sd 12) (ks : List (Fin 12)) (A : pm_A) (k : Fin 12) (r : pm_R) : Prop := (r.1 = some (0, 0) ∧ tuG A r.2 ∧ Tru s ks r.2) ∨ (r.1 = some (0, 1) ∧ Tru s (ks ++ [k]) r.2 ∧ gH wM r.2 ∧ ∀ q j, (∀ t : Int, 42 ≤ t → t ≤ 47 → ¬ inS t q j) → ¬ inS k.1 q j → q ≠ 4 → q ≠ 5 → q ≠ 12 → ¬ (q = 0 ∧ (j = 4 ∨ j = 5)) → r.2 q j = A q j)
def a47 (C0 B : pm_A) (t : Int) : Prop := tmF C0 B 44 ∧ (B 0 4 = 1 ∨ (B 0 4 = 0 ∧ srtd B 44 ∧ cfs B 44 ∧ ∀ c, cr_co (LSm B 44) c = cr_co (LSm C0 44) c + cr_co (lsf t.toNat (fa C0 43)) c))
theorem tu_81 {C0 : pm_A} {k t : Int} (hc : cfs C0 43) (hC0 : gH wM C0) (t0 : 0 ≤ t) (t1 : t < C0 1 43) {z : pm_R → Prop} (H : ∀ C w3, a47 C0 C (t + 1) → Tm pmt (an_sh wM) o_X10_turns 47 ([(2, 0), (0, k), (0, t + 1), w3], [], C) z) : ∀ (m : Nat) (v : Int) (B : pm_A), (12 - v).toNat < m → 0 ≤ v → v ≤ 12 → tmF C0 B 44 → B 0 4 = 0 → srtd B 44 → cfs B 44 → (∀ c, cr_co (LSm B 44) c = cr_co (LSm C0 44) c + cr_co (lsf t.toNat (fa C0 43)) c) → B 0 5 = C0 2 (8600 + t) → (∀ i : Int, 0 ≤ i → i < v → B 4 i = C0 3 (12 * (8600 + t) + i)) → Tm pmt (an_sh wM) o_X10_turns 81 ([(2, 0), (0, k), (0, t), (0, v)], [], B) z := by
  have m43 := eM_1 hC0 (r := 1) (by omega) kn1 (j := 43) (by omega) (by omega)
  have ct := hc t t0 t1
  rw [show 200 * 43 + t = 8600 + t by omega] at ct
  intro m
  induction m with
  | zero => intro v B h; omega
  | succ m ih =>
    intro v B hm v0 v1 hF h4 hs hcf hG h5 hp
    have c3 := pM_3 hF.1
    have c6 := pM_6 hF.1
    have e3 : v < 12 → B 3 (12 * (8600 + t) + v) = C0 3 (12 * (8600 + t) + v) := fun h => hF.2 3 _ (by unfold inS; omega) (by omega) (by omega)
    refine wq_ok srt_turns (fr := []) (cuts := [81, 120]) (J := fun pc st => (pc = 120 ∧ 12 ≤ v ∧ ∃ C, adF B C 44 ∧ (C 0 4 = 1 ∨ (C 0 4 = 0 ∧ srtd C 44 ∧ cfs C 44 ∧ ∀ c, cr_co (LSm C 44) c = cr_co (LSm B 44) c + si (B 0 5, xp B) c)) ∧ st = ([(2, 0), (0, k), (0, t), (0, v)], [], C)) ∨ (pc = 81 ∧ (v < 12) ∧ st = ([(2, 0), (0, k), (0, t), (0, v + 1)], [], pm_upd B (B 0 6) v (B (B 0 3) ((12 * (8600 + t)) + v))))) ?_ 24 81 _ ?_
    · rintro pc st (⟨rfl, hv, C, hF2, hC, rfl⟩ | ⟨rfl, h0, rfl⟩)
      · refine wq_ok srt_turns (fr := []) (cuts := [47]) (J := fun pc st => (pc = 47 ∧ st = ([(2, 0), (0, k), (0, t + 1), (0, v)], [], C))) ?_ 7 120 _ ?_
        · rintro pc st (⟨rfl, rfl⟩)
          refine H C _ ⟨⟨hF2.1, fun r j hr h4 h5 => (hF2.2 r j hr (fun e => h5 ⟨e.1, Or.inl e.2⟩)).trans (hF.2 r j hr h4 h5)⟩, ?_⟩
          rcases hC with hC | ⟨hC1, hC2, hC3, hC4⟩
          · exact Or.inl hC
          · refine Or.inr ⟨hC1, hC2, hC3, fun c => ?_⟩
            rw [hC4 c, hG c, show (t + 1).toNat = t.toNat + 1 by omega, lsf_succ, co_snoc]
            have e1 : (B 0 5, xp B) = fa C0 43 t.toNat := by
              refine Prod.ext ?_ (funext fun i => ?_)
              · show B 0 5 = C0 2 (200 * 43 + ((t.toNat : Nat) : Int))
                rw [Int.toNat_of_nonneg t0, h5, show 200 * 43 + t = 8600 + t by omega]
              · show B 4 (i.1 : Int) = C0 3 (12 * (200 * 43 + ((t.toNat : Nat) : Int)) + (i.1 : Int))
                rw [Int.toNat_of_nonneg t0, show 200 * 43 + t = 8600 + t by omega]; exact hp i.1 (by omega) (by have := i.2; omega)
            rw [e1]; omega
        · refine ⟨⟨by omega, by omega⟩, ?_⟩
          exact ⟨rfl, rfl⟩
      · rw [c3, c6]
        have r1 := e3 h0
        have b3 := eM_3 hF.1 (r := 3) (by omega) kn3 (j := 12 * (8600 + t) + v) (by omega) (by omega)
        refine ih (v + 1) _ (by omega) (by omega) (by omega) ⟨uM_4 hF.1 kn4 b3.1 b3.2, fun r j hr h4 h5 => ?_⟩ (by rw [upd_o (by omega)]; exact h4) hs hcf hG (by rw [upd_o (by omega)]; exact h5) (fun i i0 i1 => ?_)
        · rw [upd_o (by omega)]; exact hF.2 r j hr h4 h5
        · by_cases hi : i = v
          · rw [hi, upd_at, r1]
          · rw [upd_o (by omega)]; exact hp i i0 (by omega)
    · refine ⟨fun h0 => ?_, fun h0 => ?_⟩
      · refine ⟨rM_0 (by omega) km0, ?_⟩
        refine (add_ex (s := 44) ⟨hF.1, by omega, hs, hcf, by rw [h5]; exact ct, h4⟩).imp ?_
        rintro ⟨r1, C⟩ ⟨hr1, hF2, hC⟩
        simp only at hr1 hF2 hC
        subst hr1
        exact Or.inl (⟨rfl, h0, C, hF2, hC, rfl⟩)
      · refine ⟨oM_0 (by omega) km0 6 rfl, ?_⟩
        refine ⟨oM_0 (by omega) km0 3 rfl, ?_⟩
        refine ⟨⟨by omega, by omega⟩, ?_⟩
        refine ⟨⟨by omega, by omega⟩, ?_⟩
        refine ⟨⟨by omega, by omega⟩, ?_⟩
        refine ⟨aM_3 (r := B 0 3) (by rw [c3]; omega) (by rw [c3]; exact kn3) (by omega) (by omega), ?_⟩
        have e1 : B (B 0 3) ((12 * (8600 + t)) + v) = B 3 ((12 * (8600 + t)) + v) := by rw [c3]
        refine ⟨tM_4 (r := B 0 6) (by rw [c6]; omega) (by rw [c6]; exact kn4) (by omega) (by omega) rfl, ?_⟩
        refine ⟨⟨by omega, by omega⟩, ?_⟩
        exact Or.inr (⟨rfl, h0, rfl⟩)
theorem tu_47 {C0 : pm_A} {k : Int} (hc : cfs C0 43) (hC0 : gH wM C0) {z : pm_R → Prop} (H : ∀ C w2 w3, a47 C0 C (C0 1 43) → Tm pmt (an_sh wM) o_X10_turns 126 ([(2, 0), (0, k), w2, w3], [], C) z) : ∀ (m : Nat) (t : Int) (w3 : pm_V) (B : pm_A), (C0 1 43 - t).toNat < m → 0 ≤ t → t ≤ C0 1 43 → a47 C0 B t → Tm pmt (an_sh wM) o_X10_turns 47 ([(2, 0), (0, k), (0, t), w3], [], B) z := by
  have m43 := eM_1 hC0 (r := 1) (by omega) kn1 (j := 43) (by omega) (by omega)
  intro m
  induction m with
  | zero => intro t w3 B h; omega
  | succ m ih =>
    intro t w3 B hm t0 t1 hI
    obtain ⟨hF, hI2⟩ := hI
    have c1 := pM_1 hF.1
    have c2 := pM_2 hF.1
    have s4 := fM_0_4 hF.1 (r := 0) (by omega) km0
    have mB : B 1 43 = C0 1 43 := hF.2 1 43 (by unfold inS; omega) (by omega) (by omega)
    have nB : t < C0 1 43 → B 2 (8600 + t) = C0 2 (8600 + t) ∧ 1 ≤ B 2 (8600 + t) ∧ B 2 (8600 + t) ≤ 1000000000000 := fun h => by
      have e : B 2 (8600 + t) = C0 2 (8600 + t) := hF.2 2 _ (by unfold inS; omega) (by omega) (by omega)
      have ct := hc t t0 h
      rw [show 200 * 43 + t = 8600 + t by omega] at ct
      exact ⟨e, by omega⟩
    have hend : (B 0 4 ≠ 0 ∨ C0 1 43 ≤ t) → a47 C0 B (C0 1 43) := fun hcc => ⟨hF, by
      rcases hI2 with h | h
      · exact Or.inl h
      · have e : t = C0 1 43 := by rcases hcc with h5 | h5; exact absurd h.1 h5; omega
        rw [e] at h
        exact Or.inr h⟩
    refine wq_ok srt_turns (fr := []) (cuts := [81, 126]) (J := fun pc st => (pc = 126 ∧ ((B (B 0 1) 43) ≤ t) ∧ st = ([(2, 0), (0, k), (0, t), w3], [], B)) ∨ (pc = 126 ∧ (t < (B (B 0 1) 43)) ∧ (¬ (B 0 4) = 0) ∧ st = ([(2, 0), (0, k), (0, t), w3], [], B)) ∨ (pc = 81 ∧ (t < (B (B 0 1) 43)) ∧ ((B 0 4) = 0) ∧ st = ([(2, 0), (0, k), (0, t), (0, 0)], [], pm_upd B 0 5 (B (B 0 2) (8600 + t))))) ?_ 24 47 _ ?_
    · rintro pc st (⟨rfl, h0, rfl⟩ | ⟨rfl, h0, h1, rfl⟩ | ⟨rfl, h0, h1, rfl⟩)
      · exact H B _ _ (hend (Or.inr (by rw [c1, mB] at h0; exact h0)))
      · exact H B _ _ (hend (Or.inl h1))
      · rw [c1, mB] at h0
        rw [c2]
        have hn := nB h0
        obtain ⟨i1, i2, i3, i4⟩ : B 0 4 = 0 ∧ srtd B 44 ∧ cfs B 44 ∧ ∀ c, cr_co (LSm B 44) c = cr_co (LSm C0 44) c + cr_co (lsf t.toNat (fa C0 43)) c := by rcases hI2 with h | h; omega; exact h
        refine tu_81 hc hC0 t0 h0 (fun C w3 hC => ih (t + 1) w3 C (by omega) (by omega) (by omega) hC) _ 0 _ (Nat.lt_succ_self _) (by omega) (by omega) ⟨uM_0_5 hF.1 (by omega) (by omega), fun r j hr h4 h5 => ?_⟩ (by rw [upd_o (by omega)]; exact i1) i2 i3 i4 (by rw [upd_at]; exact hn.1) (fun i i0 i1 => by omega)
        rw [upd_o (fun e => h5 ⟨e.1, Or.inr e.2⟩)]; exact hF.2 r j hr h4 h5
    · refine ⟨oM_0 (by omega) km0 1 rfl, ?_⟩
      refine ⟨aM_1 (r := B 0 1) (by rw [c1]; omega) (by rw [c1]; exact kn1) (by omega) (by omega), ?_⟩
      have e1 : B (B 0 1) 43 = B 1 43 := by rw [c1]
      refine ⟨fun h0 => ?_, fun h0 => ?_⟩
      · exact Or.inl (⟨rfl, h0, rfl⟩)
      · refine ⟨oM_0 (by omega) km0 4 rfl, ?_⟩
        refine ⟨fun h1 => ?_, fun h1 => ?_⟩
        · exact Or.inr (Or.inl (⟨rfl, h0, h1, rfl⟩))
        · refine ⟨oM_0 (by omega) km0 2 rfl, ?_⟩
          refine ⟨⟨by omega, by omega⟩, ?_⟩
          refine ⟨aM_2 (r := B 0 2) (by rw [c2]; omega) (by rw [c2]; exact kn2) (by omega) (by omega), ?_⟩
          have e2 : B (B 0 2) (8600 + t) = B 2 (8600 + t) := by rw [c2]
          refine ⟨oM_0 (by omega) km0 5 rfl, ?_⟩
          exact Or.inr (Or.inr (⟨rfl, h0, h1, rfl⟩))
def arI (A B : pm_A) (k i : Int) : Prop := gH wM B ∧ (∀ r j, r ≠ 5 → B r j = A r j) ∧ (∀ j : Int, 0 ≤ j → j < i → B 5 j = if j % 6 < A 0 7 then A 12 j else A 5 j) ∧ ∀ j : Int, i ≤ j → B 5 j = A 5 j
theorem tu_161 {A : pm_A} {k : Int} (hA : gH wM A) {z : pm_R → Prop} (H : ∀ C, arI A C k (6 * (A 0 7 + A 0 8)) → z (some (0, 1), C)) : ∀ (m : Nat) (i : Int) (w3 : pm_V) (B : pm_A), (72 - i).toNat < m → 0 ≤ i → i ≤ 6 * (A 0 7 + A 0 8) → arI A B k i → Tm pmt (an_sh wM) o_X10_turns 161 ([(2, 0), (0, k), (0, i), w3], [], B) z := by
  have p7 := fM_0_7 hA (r := 0) (by omega) km0
  have p8 := fM_0_8 hA (r := 0) (by omega) km0
  intro m
  induction m with
  | zero => intro i w3 B h; omega
  | succ m ih =>
    intro i w3 B hm i0 i1 hI
    have hI0 := hI
    obtain ⟨g1, g2, g3, g4⟩ := hI
    have c9 := pM_9 g1
    have c19 := pM_19 g1
    have e7 := g2 0 7 (by omega)
    have e8 := g2 0 8 (by omega)
    have hend : 6 * (A 0 7 + A 0 8) ≤ i → arI A B k (6 * (A 0 7 + A 0 8)) := fun h => by rw [show 6 * (A 0 7 + A 0 8) = i by omega]; exact hI0
    have hstep : ∀ x, -2147483648 ≤ x → x ≤ 2147483647 → (x = if i % 6 < A 0 7 then A 12 i else A 5 i) → arI A (pm_upd B 5 i x) k (i + 1) := fun x x0 x1 hx => by
      refine ⟨uM_5 g1 kn5 x0 x1, fun r j hr => by rw [upd_o (by omega)]; exact g2 r j hr, fun j j0 j1 => ?_, fun j j0 => by rw [upd_o (by omega)]; exact g4 j (by omega)⟩
      by_cases hj : j = i
      · rw [hj, upd_at]; exact hx
      · rw [upd_o (by omega)]; exact g3 j j0 (by omega)
    refine wq_ok srt_turns (fr := []) (cuts := [161]) (J := fun pc st => (pc = 161 ∧ (i < (6 * ((B 0 7) + (B 0 8)))) ∧ ((B 0 7) ≤ (i % 6)) ∧ st = ([(2, 0), (0, k), (0, i + 1), w3], [], pm_upd B (B 0 9) i (B (B 0 9) i))) ∨ (pc = 161 ∧ (i < (6 * ((B 0 7) + (B 0 8)))) ∧ ((i % 6) < (B 0 7)) ∧ st = ([(2, 0), (0, k), (0, i + 1), w3], [], pm_upd B (B 0 9) i (B (B 0 19) i)))) ?_ 31 161 _ ?_
    · rintro pc st (⟨rfl, h0, h1, rfl⟩ | ⟨rfl, h0, h1, rfl⟩)
      · rw [e7, e8] at h0
        rw [e7] at h1
        rw [c9]
        have b := eM_5 g1 (r := 5) (by omega) kn5 i0 (show i < 72 by omega)
        exact ih (i + 1) _ _ (by omega) (by omega) (by omega) (hstep _ b.1 b.2 (by rw [if_neg (by omega)]; exact g4 i (by omega)))
      · rw [e7, e8] at h0
        rw [e7] at h1
        rw [c19, c9]
        have b := eM_12 g1 (r := 12) (by omega) kn12 i0 (show i < 72 by omega)
        exact ih (i + 1) _ _ (by omega) (by omega) (by omega) (hstep _ b.1 b.2 (by rw [if_pos h1]; exact g2 12 i (by omega)))
    · refine ⟨oM_0 (by omega) km0 7 rfl, ?_⟩
      refine ⟨oM_0 (by omega) km0 8 rfl, ?_⟩
      refine ⟨⟨by omega, by omega⟩, ?_⟩
      refine ⟨⟨by omega, by omega⟩, ?_⟩
      refine ⟨fun h0 => ?_, fun h0 => ?_⟩
      · exact ⟨rfl, H B (hend (by rw [e7, e8] at h0; exact h0))⟩
      · refine ⟨oM_0 (by omega) km0 9 rfl, ?_⟩
        refine ⟨⟨by omega, by omega, by omega, by omega⟩, ?_⟩
        refine ⟨oM_0 (by omega) km0 7 rfl, ?_⟩
        refine ⟨fun h1 => ?_, fun h1 => ?_⟩
        · refine ⟨oM_0 (by omega) km0 9 rfl, ?_⟩
          refine ⟨aM_5 (r := B 0 9) (by rw [c9]; omega) (by rw [c9]; exact kn5) (by omega) (by omega), ?_⟩
          have e1 : B (B 0 9) i = B 5 i := by rw [c9]
          refine ⟨tM_5 (r := B 0 9) (by rw [c9]; omega) (by rw [c9]; exact kn5) (by omega) (by omega) rfl, ?_⟩
          refine ⟨⟨by omega, by omega⟩, ?_⟩
          exact Or.inl (⟨rfl, h0, h1, rfl⟩)
        · refine ⟨oM_0 (by omega) km0 19 rfl, ?_⟩
          refine ⟨aM_12 (r := B 0 19) (by rw [c19]; omega) (by rw [c19]; exact kn12) (by omega) (by omega), ?_⟩
          have e2 : B (B 0 19) i = B 12 i := by rw [c19]
          refine ⟨tM_5 (r := B 0 9) (by rw [c9]; omega) (by rw [c9]; exact kn5) (by omega) (by omega) rfl, ?_⟩
          refine ⟨⟨by omega, by omega⟩, ?_⟩
          exact Or.inr (⟨rfl, h0, h1, rfl⟩)
