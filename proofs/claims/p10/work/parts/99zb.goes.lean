/-! goesThrough -/
def gtF (A B : pm_A) : Prop := gH wM B ∧ ∀ r j : Int, 0 ≤ r → r ≤ 38 → 0 ≤ j → (r = 0 → j < 100) → (∀ t : Int, (0 ≤ t ∧ t ≤ 5) ∨ (42 ≤ t ∧ t ≤ 47) ∨ (50 ≤ t ∧ t ≤ 151) → ¬ inS t r j) → (r ≠ 4 ∧ r ≠ 5 ∧ r ≠ 12 ∧ r ≠ 16 ∧ r ≠ 17 ∧ r ≠ 18 ∧ r ≠ 23) → ¬ (r = 0 ∧ (j = 4 ∨ j = 5 ∨ j = 24 ∨ j = 26)) → B r j = A r j
theorem gtF.tr {A B C : pm_A} (h : gtF A B) (g : gtF B C) : gtF A C := ⟨g.1, fun r j r0 r1 j0 j1 a1 a2 a3 => (g.2 r j r0 r1 j0 j1 a1 a2 a3).trans (h.2 r j r0 r1 j0 j1 a1 a2 a3)⟩
theorem gtF.fld {A B : pm_A} (h : gtF A B) {j : Int} (j0 : 0 ≤ j) (j1 : j < 100) (h4 : j ≠ 4 ∧ j ≠ 5 ∧ j ≠ 24 ∧ j ≠ 26) : B 0 j = A 0 j := h.2 0 j (by omega) (by omega) j0 (fun _ => j1) (fun t t0 ht => by unfold inS at ht; omega) (by omega) (by omega)
theorem gtF.od {A B : pm_A} (h : odF A B) : gtF A B := ⟨h.1, fun r j r0 r1 j0 j1 a1 a2 a3 => h.2 r j r0 r1 j0 j1 (fun t ht => a1 t (by omega)) a2.1 a2.2.1 a2.2.2.1 a2.2.2.2.1 (fun e => a3 ⟨e.1, by omega⟩)⟩
def gtS (B : pm_A) : Prop := ∀ σ : Int, 0 ≤ σ → σ < B 0 24 → (∀ t : Int, 0 ≤ t → t < B 0 7 → 0 ≤ B 17 (6 * σ + t) ∧ B 17 (6 * σ + t) < B 0 26) ∧ ∃ s ks, TruX s ks (B 0 7) (B 0 8) (fun j => B 18 (72 * σ + j)) (fun t => LSm B (50 + B 17 (6 * σ + t)))
theorem gtS.keep {B C : pm_A} (hB : gH wM B) (h : gtS B) (e7 : C 0 7 = B 0 7) (e8 : C 0 8 = B 0 8) (e24 : C 0 24 = B 0 24) (e26 : B 0 26 ≤ C 0 26) (e17 : ∀ j : Int, 0 ≤ j → C 17 j = B 17 j) (e18 : ∀ j : Int, 0 ≤ j → C 18 j = B 18 j) (hp : ∀ l : Int, 0 ≤ l → l < B 0 26 → ∀ r j, inS (50 + l) r j → C r j = B r j) : gtS C := by
  have p26 := fM_0_26 hB (r := 0) (by omega) km0
  intro σ s0 s1
  obtain ⟨h1, s, ks, h2⟩ := h σ s0 (by omega)
  refine ⟨fun t t0 t1 => by rw [e17 _ (by omega)]; have := h1 t t0 (by omega); omega, s, ks, ?_⟩
  rw [e7, e8]
  refine h2.congr (fun j j0 j1 => e18 _ (by omega)) (fun t t0 t1 => ?_)
  show LSm C (50 + C 17 (6 * σ + t)) = LSm B (50 + B 17 (6 * σ + t))
  rw [e17 _ (by omega)]
  have := h1 t t0 t1
  have m := eM_1 hB (r := 1) (by omega) kn1 (j := 50 + B 17 (6 * σ + t)) (by omega) (by omega)
  exact LSm_same m.2 (hp _ this.1 this.2)
theorem gtS.add {B C : pm_A} (hB : gH wM B) (h : gtS B) (hT : ∃ s ks, Tru s ks B) (hth : ∀ t : Int, 0 ≤ t → t < B 0 7 → (0 ≤ B 23 t ∧ B 23 t < B 0 26) ∧ LSm B (50 + B 23 t) = LSm B t) (hC : cmF B C) (e24 : C 0 24 = B 0 24 + 1) (n17 : ∀ t : Int, 0 ≤ t → t < B 0 7 → C 17 (6 * B 0 24 + t) = B 23 t) (n18 : ∀ j : Int, 0 ≤ j → j < 72 → C 18 (72 * B 0 24 + j) = B 5 j) : gtS C := by
  have p26 := fM_0_26 hB (r := 0) (by omega) km0
  have p7 := fM_0_7 hB (r := 0) (by omega) km0
  have e7 : C 0 7 = B 0 7 := hC.2.1 0 7 (by omega) (by omega) (by omega)
  have e8 : C 0 8 = B 0 8 := hC.2.1 0 8 (by omega) (by omega) (by omega)
  have e26 : C 0 26 = B 0 26 := hC.2.1 0 26 (by omega) (by omega) (by omega)
  have hsl : ∀ l : Int, 0 ≤ l → l < B 0 26 → LSm C (50 + l) = LSm B (50 + l) := fun l l0 l1 => by
    have m := eM_1 hB (r := 1) (by omega) kn1 (j := 50 + l) (by omega) (by omega)
    exact LSm_same m.2 (fun r j hr => hC.2.1 r j (by unfold inS at hr; omega) (by unfold inS at hr; omega) (by unfold inS at hr; omega))
  intro σ s0 s1
  by_cases e : σ = B 0 24
  · obtain ⟨s, ks, hT⟩ := hT
    subst e
    refine ⟨fun t t0 t1 => by rw [n17 t t0 (by omega), e26]; exact (hth t t0 (by omega)).1, s, ks, ?_⟩
    rw [e7, e8]
    refine hT.x.congr (fun j j0 j1 => n18 j j0 j1) (fun t t0 t1 => ?_)
    show LSm C (50 + C 17 (6 * B 0 24 + t)) = LSm B t
    have := hth t t0 t1
    rw [n17 t t0 t1, hsl _ this.1.1 this.1.2]
    exact this.2
  · obtain ⟨h1, s, ks, h2⟩ := h σ s0 (by omega)
    refine ⟨fun t t0 t1 => by rw [hC.2.2.1 _ (by omega), e26]; exact h1 t t0 (by omega), s, ks, ?_⟩
    rw [e7, e8]
    refine h2.congr (fun j j0 j1 => hC.2.2.2 _ (by omega)) (fun t t0 t1 => ?_)
    show LSm C (50 + C 17 (6 * σ + t)) = LSm B (50 + B 17 (6 * σ + t))
    have := h1 t t0 t1
    rw [hC.2.2.1 _ (by omega), hsl _ this.1 this.2]
theorem cm_gtF {B C : pm_A} (h : cmF B C) : gtF B C := ⟨h.1, fun r j r0 r1 j0 j1 a1 a2 a3 => h.2.1 r j a2.2.2.2.2.1 a2.2.2.2.2.2.1 (fun e => a3 ⟨e.1, by omega⟩)⟩
theorem srt_goesThrough : pm_srt o_X10_goesThrough = true := by decide +kernel
def gt_post (A : pm_A) (r : pm_R) : Prop := gtF A r.2 ∧ (r.1 = some (0, 0) ∨ (r.1 = some (0, 1) ∧ r.2 0 26 ≤ 100))
def gtI (A B : pm_A) : Prop := gtF A B ∧ gtS B ∧ B 0 26 ≤ 100
theorem gt_137 {A D B : pm_A} {σ k : Int} (hF : gtF A B) (hS : gtS B) (hT : ∃ s ks, Tru s ks B) (hth : ∀ t : Int, 0 ≤ t → t < B 0 7 → (0 ≤ B 23 t ∧ B 23 t < B 0 26) ∧ LSm B (50 + B 23 t) = LSm B t) (hl : D 0 26 ≤ 100) (k0 : 0 ≤ k) (k1 : k ≤ 5) (hσ : σ < B 0 24) (H : ∀ C w3 w4, gtI A C → σ < C 0 24 → Tm pmt (an_sh wM) o_X10_goesThrough 58 ([(2, 0), (0, σ), (0, k + 1), w3, w4], [], C) (gt_post A)) (w4 : pm_V) : Tm pmt (an_sh wM) o_X10_goesThrough 137 ([(2, 0), (0, σ), (0, k), (0, D 0 26), w4], [], B) (gt_post A) := by
  have p26 := fM_0_26 hF.1 (r := 0) (by omega) km0
  have h164 : ∀ C, gtI A C → σ < C 0 24 → Tm pmt (an_sh wM) o_X10_goesThrough 164 ([(2, 0), (0, σ), (0, k), (0, D 0 26), w4], [], C) (gt_post A) := fun C hC hσC => by
    refine wq_ok srt_goesThrough (fr := []) (cuts := [58]) (J := fun pc st => (pc = 58 ∧ st = ([(2, 0), (0, σ), (0, k + 1), (0, D 0 26), w4], [], C))) ?_ 7 164 _ ?_
    · rintro pc st (⟨rfl, rfl⟩)
      exact H C _ _ hC hσC
    · refine ⟨⟨by omega, by omega⟩, ?_⟩
      exact ⟨rfl, rfl⟩
  have h155 : ∀ B, σ < B 0 24 → gtF A B → gtS B → (∃ s ks, Tru s ks B) → (∀ t : Int, 0 ≤ t → t < B 0 7 → (0 ≤ B 23 t ∧ B 23 t < B 0 26) ∧ LSm B (50 + B 23 t) = LSm B t) → Tm pmt (an_sh wM) o_X10_goesThrough 155 ([(2, 0), (0, σ), (0, k), (0, D 0 26), w4], [], B) (gt_post A) := fun B hσ hF hS hT hth => by
    have p26 := fM_0_26 hF.1 (r := 0) (by omega) km0
    refine wq_ok srt_goesThrough (fr := []) (cuts := [159]) (J := fun pc st => (pc = 159 ∧ ∃ C y, gtF A C ∧ (y = 0 ∨ (y = 1 ∧ gtI A C ∧ σ < C 0 24)) ∧ st = ([(2, 0), (0, σ), (0, k), (0, D 0 26), w4], [(0, y)], C))) ?_ 6 155 _ ?_
    · rintro pc st (⟨rfl, C, y, hCF, hy, rfl⟩)
      refine wq_ok srt_goesThrough (fr := []) (cuts := [164]) (J := fun pc st => (pc = 164 ∧ (¬ y = 0) ∧ st = ([(2, 0), (0, σ), (0, k), (0, D 0 26), w4], [], C))) ?_ 7 159 _ ?_
      · rintro pc st (⟨rfl, h0, rfl⟩)
        have hy2 : gtI A C ∧ σ < C 0 24 := by rcases hy with h | h; exact absurd h h0; exact h.2
        exact h164 C hy2.1 hy2.2
      · refine ⟨fun h0 => ?_, fun h0 => ?_⟩
        · exact ⟨rfl, h0, rfl⟩
        · exact ⟨rfl, hCF, Or.inl rfl⟩
    · refine ⟨rM_0 (by omega) km0, ?_⟩
      refine (comes_ex hF.1 (fun t t0 t1 => by have := (hth t t0 t1).1; omega)).imp ?_
      rintro ⟨r1, C⟩ ⟨q1, q2⟩
      simp only at q1 q2
      rcases q2 with q2 | ⟨q2, q3, q4, q5, q6, q7⟩
      · subst q2
        exact ⟨rfl, C, 0, hF.tr (cm_gtF q1), Or.inl rfl, rfl⟩
      · subst q2
        exact ⟨rfl, C, 1, hF.tr (cm_gtF q1), Or.inr ⟨rfl, ⟨hF.tr (cm_gtF q1), hS.add hF.1 hT hth q1 q4 q6 q7, by rw [q1.2.1 0 26 (by omega) (by omega) (by omega)]; exact q5⟩, by omega⟩, rfl⟩
  refine wq_ok srt_goesThrough (fr := []) (cuts := [149, 155]) (J := fun pc st => (pc = 155 ∧ (¬ (B 0 26) = (D 0 26)) ∧ st = ([(2, 0), (0, σ), (0, k), (0, D 0 26), w4], [], B)) ∨ (pc = 149 ∧ B 0 26 = D 0 26 ∧ ∃ C y, it_I B C ∧ st = ([(2, 0), (0, σ), (0, k), (0, D 0 26), w4], [(0, y)], C))) ?_ 10 137 _ ?_
  · rintro pc st (⟨rfl, h0, rfl⟩ | ⟨rfl, hbe, C, y, hC, rfl⟩)
    · exact h155 B hσ hF hS hT hth
    · have hf : ∀ r j : Int, 0 ≤ r → r ≤ 38 → 0 ≤ j → (r = 0 → j < 100) → r ≠ 16 → C r j = B r j := fun r j r0 r1 j0 j1 hne => hC.2 r j r0 j0 (fr_out r0 r1 j0 j1 (fun h => by rw [List.mem_singleton]; omega) (fun h => by rw [List.mem_singleton]; omega))
      have hsl : ∀ p r j, 0 ≤ p → inS p r j → C r j = B r j := fun p r j p0 hr => hf r j (by unfold inS at hr; omega) (by unfold inS at hr; omega) (by unfold inS at hr; omega) (by unfold inS at hr; omega) (by unfold inS at hr; omega)
      have f7 := hf 0 7 (by omega) (by omega) (by omega) (by omega) (by omega)
      have f26 := hf 0 26 (by omega) (by omega) (by omega) (by omega) (by omega)
      have f24 := hf 0 24 (by omega) (by omega) (by omega) (by omega) (by omega)
      have p7 := fM_0_7 hF.1 (r := 0) (by omega) km0
      have hCF : gtF A C := hF.tr ⟨hC.1, fun r j r0 r1 j0 j1 a1 a2 a3 => hf r j r0 r1 j0 j1 a2.2.2.2.1⟩
      have hCS : gtS C := hS.keep hF.1 f7 (hf 0 8 (by omega) (by omega) (by omega) (by omega) (by omega)) (hf 0 24 (by omega) (by omega) (by omega) (by omega) (by omega)) (by omega) (fun j j0 => hf 17 j (by omega) (by omega) j0 (by omega) (by omega)) (fun j j0 => hf 18 j (by omega) (by omega) j0 (by omega) (by omega)) (fun l l0 l1 r j hr => hsl _ r j (by omega) hr)
      have hCT : ∃ s ks, Tru s ks C := by obtain ⟨s, ks, h⟩ := hT; exact ⟨s, ks, h.same hC.1 f7 (hf 0 8 (by omega) (by omega) (by omega) (by omega) (by omega)) (fun j j0 _ => hf 5 j (by omega) (by omega) j0 (by omega) (by omega)) (fun p p0 p1 r j hr => hsl p r j p0 hr)⟩
      have hCth : ∀ t : Int, 0 ≤ t → t < C 0 7 → (0 ≤ C 23 t ∧ C 23 t < C 0 26) ∧ LSm C (50 + C 23 t) = LSm C t := fun t t0 t1 => by
        have e := hf 23 t (by omega) (by omega) t0 (by omega) (by omega)
        have h := hth t t0 (by omega)
        have m1 := eM_1 hF.1 (r := 1) (by omega) kn1 (j := 50 + B 23 t) (by omega) (by omega)
        have m2 := eM_1 hF.1 (r := 1) (by omega) kn1 (j := t) t0 (by omega)
        rw [e, f26, LSm_same m1.2 (fun r j hr => hsl _ r j (by omega) hr), LSm_same m2.2 (fun r j hr => hsl _ r j t0 hr)]
        exact h
      refine wq_ok srt_goesThrough (fr := []) (cuts := [155, 164]) (J := fun pc st => (pc = 155 ∧ (y = 0) ∧ st = ([(2, 0), (0, σ), (0, k), (0, D 0 26), w4], [], C)) ∨ (pc = 164 ∧ (¬ y = 0) ∧ st = ([(2, 0), (0, σ), (0, k), (0, D 0 26), w4], [], C))) ?_ 7 149 _ ?_
      · rintro pc st (⟨rfl, h0, rfl⟩ | ⟨rfl, h0, rfl⟩)
        · exact h155 C (by rw [f24]; exact hσ) hCF hCS hCT hCth
        · exact h164 C ⟨hCF, hCS, by rw [hf 0 26 (by omega) (by omega) (by omega) (by omega) (by omega)]; omega⟩ (by rw [f24]; exact hσ)
      · refine ⟨fun h0 => ?_, fun h0 => ?_⟩
        · exact Or.inl (⟨rfl, h0, rfl⟩)
        · exact Or.inr (⟨rfl, h0, rfl⟩)
  · refine ⟨oM_0 (by omega) km0 26 rfl, ?_⟩
    refine ⟨fun h0 => ?_, fun h0 => ?_⟩
    · exact Or.inl (⟨rfl, h0, rfl⟩)
    · refine ⟨rM_0 (by omega) km0, ?_⟩
      refine (isThere_ct hF.1).imp ?_
      rintro ⟨r1, C⟩ ⟨y, q1, q2, q3, q4⟩
      simp only at q1 q2 q3 q4
      subst q1
      exact Or.inr (⟨rfl, h0, C, y, ⟨q3, q4⟩, rfl⟩)
def h89 (D B : pm_A) (k i : Int) : Prop := gH wM B ∧ (∀ r j, ¬ inS (50 + D 0 26) r j → r ≠ 23 → ¬ (r = 0 ∧ j = 26) → B r j = D r j) ∧ (D 0 26 ≤ B 0 26 ∧ B 0 26 ≤ D 0 26 + 1) ∧ (i ≤ k → B 0 26 = D 0 26) ∧ ∀ t : Int, 0 ≤ t → t < i → (0 ≤ B 23 t ∧ B 23 t < B 0 26) ∧ LSm B (50 + B 23 t) = LSm D t
theorem gt_89 {A D : pm_A} {σ k : Int} (hF : gtF A D) (hS : gtS D) (hT : ∃ s ks, Tru s ks D) (hl : D 0 26 ≤ 100) (s0 : 0 ≤ σ) (s1 : σ ≤ 149) (hσ : σ < D 0 24) (k0 : 0 ≤ k) (k1 : k < D 0 7) (hD : ∀ t : Int, 0 ≤ t → t < D 0 7 → t ≠ k → LSm D (50 + D 17 (6 * σ + t)) = LSm D t) (H : ∀ C w3 w4, gtI A C → σ < C 0 24 → Tm pmt (an_sh wM) o_X10_goesThrough 58 ([(2, 0), (0, σ), (0, k + 1), w3, w4], [], C) (gt_post A)) : ∀ (m : Nat) (i : Int) (B : pm_A), (6 - i).toNat < m → 0 ≤ i → i ≤ D 0 7 → h89 D B k i → Tm pmt (an_sh wM) o_X10_goesThrough 89 ([(2, 0), (0, σ), (0, k), (0, D 0 26), (0, i)], [], B) (gt_post A) := by
  have p7 := fM_0_7 hF.1 (r := 0) (by omega) km0
  have p26 := fM_0_26 hF.1 (r := 0) (by omega) km0
  obtain ⟨hS1, _⟩ := hS σ s0 hσ
  intro m
  induction m with
  | zero => intro i B h; omega
  | succ m ih =>
    intro i B hm i0 i1 hB
    obtain ⟨g1, g2, g3, g4, g5⟩ := hB
    have c35 := pM_35 g1
    have c27 := pM_27 g1
    have f : ∀ j : Int, j ≠ 26 → B 0 j = D 0 j := fun j hj => g2 0 j (by unfold inS; omega) (by omega) (by omega)
    have e7 := f 7 (by omega)
    have e17 : B 17 (6 * σ + i) = D 17 (6 * σ + i) := g2 17 _ (by unfold inS; omega) (by omega) (by omega)
    have hsl : ∀ p : Int, p ≠ 50 + D 0 26 → ∀ r j, inS p r j → B r j = D r j := fun p hp r j hr => g2 r j (by unfold inS at *; omega) (by unfold inS at hr; omega) (by unfold inS at hr; omega)
    have hput : ∀ (C : pm_A) (l : Int), gH wM C → (∀ q j, ¬ inS (50 + D 0 26) q j → ¬ (q = 0 ∧ j = 26) → C q j = B q j) → (0 ≤ l ∧ l < C 0 26) → (B 0 26 ≤ C 0 26 ∧ C 0 26 ≤ D 0 26 + 1) → (C 0 26 = B 0 26 ∨ i = k) → (∀ t : Int, 0 ≤ t → t < i → LSm C (50 + B 23 t) = LSm B (50 + B 23 t)) → i < D 0 7 → LSm C (50 + l) = LSm D i → h89 D (pm_upd C 23 i l) k (i + 1) := fun C l hC hCF hl2 hl3 hor hsm hi hLC => by
      have hu : ∀ p : Int, LSm (pm_upd C 23 i l) p = LSm C p := fun p => LSm_ext (upd_o (by omega)) (fun q v q0 q1 v0 v1 => ⟨upd_o (by omega), upd_o (by omega)⟩)
      have u26 : pm_upd C 23 i l 0 26 = C 0 26 := upd_o (by omega)
      refine ⟨uM_23 hC kn23 (by omega) (by omega), fun r j h1 h2 h3 => ?_, by rw [u26]; omega, fun hk => by rw [u26]; rcases hor with h | h; have := g4 (by omega); omega; omega, fun t t0 t1 => ?_⟩
      · rw [upd_o (by omega), hCF r j h1 h3]; exact g2 r j h1 h2 h3
      · rw [u26]
        by_cases e : t = i
        · rw [e, upd_at, hu]; exact ⟨hl2, hLC⟩
        · rw [upd_o (by omega), hCF 23 t (by unfold inS; omega) (by omega), hu, hsm t t0 (by omega)]
          obtain ⟨h1, h2⟩ := g5 t t0 (by omega)
          exact ⟨by omega, h2⟩
    have hend : D 0 7 ≤ i → Tm pmt (an_sh wM) o_X10_goesThrough 137 ([(2, 0), (0, σ), (0, k), (0, D 0 26), (0, i)], [], B) (gt_post A) := fun hi => by
      have hie : i = D 0 7 := by omega
      have hBF : gtF A B := hF.tr ⟨g1, fun r j r0 r1 j0 j1 a1 a2 a3 => g2 r j (a1 _ (by omega)) a2.2.2.2.2.2.2 (fun e => a3 ⟨e.1, by omega⟩)⟩
      have hBT : ∃ s ks, Tru s ks B := by obtain ⟨s, ks, h⟩ := hT; exact ⟨s, ks, h.same g1 e7 (f 8 (by omega)) (fun j j0 _ => g2 5 j (by unfold inS; omega) (by omega) (by omega)) (fun p p0 p1 r j hr => hsl p (by omega) r j hr)⟩
      have hBS : gtS B := hS.keep hF.1 e7 (f 8 (by omega)) (f 24 (by omega)) g3.1 (fun j j0 => g2 17 j (by unfold inS; omega) (by omega) (by omega)) (fun j j0 => g2 18 j (by unfold inS; omega) (by omega) (by omega)) (fun l l0 l1 r j hr => hsl _ (by omega) r j hr)
      refine gt_137 (D := D) hBF hBS hBT (fun t t0 t1 => ?_) hl k0 (by omega) (by rw [f 24 (by omega)]; exact hσ) H _
      obtain ⟨h1, h2⟩ := g5 t t0 (by omega)
      have m2 := eM_1 hF.1 (r := 1) (by omega) kn1 (j := t) t0 (by omega)
      exact ⟨h1, by rw [h2]; exact (LSm_same m2.2 (hsl t (by omega))).symm⟩
    refine wq_ok srt_goesThrough (fr := []) (cuts := [89, 115, 137]) (J := fun pc st => (pc = 137 ∧ ((B 0 7) ≤ i) ∧ st = ([(2, 0), (0, σ), (0, k), (0, D 0 26), (0, i)], [], B)) ∨ (pc = 89 ∧ (i < (B 0 7)) ∧ (¬ i = k) ∧ st = ([(2, 0), (0, σ), (0, k), (0, D 0 26), (0, i + 1)], [], pm_upd B (B 0 35) i (B (B 0 27) ((6 * σ) + i)))) ∨ (pc = 115 ∧ i < B 0 7 ∧ i = k ∧ ∃ C l, gH wM C ∧ (∀ q j, ¬ inS (50 + B 0 26) q j → ¬ (q = 0 ∧ j = 26) → C q j = B q j) ∧ (0 ≤ l ∧ l < C 0 26) ∧ (B 0 26 ≤ C 0 26 ∧ C 0 26 ≤ B 0 26 + 1) ∧ LSm C (50 + l) = LSm B k ∧ st = ([(2, 0), (0, σ), (0, k), (0, D 0 26), (0, i)], [(0, l), (0, i), (2, B 0 35)], C))) ?_ 26 89 _ ?_
    · rintro pc st (⟨rfl, h0, rfl⟩ | ⟨rfl, h0, h1, rfl⟩ | ⟨rfl, h0, hik, C, l, q2, q3, q4, q5, q6, rfl⟩)
      · exact hend (by rw [e7] at h0; exact h0)
      · rw [c35, c27, e17]
        rw [e7] at h0
        have hb := hS1 i i0 h0
        have m2 := eM_1 hF.1 (r := 1) (by omega) kn1 (j := 50 + D 17 (6 * σ + i)) (by omega) (by omega)
        refine ih (i + 1) _ (by omega) (by omega) (by omega) (hput B _ g1 (fun _ _ _ _ => rfl) (by omega) (by omega) (Or.inl rfl) (fun t t0 t1 => rfl) h0 ?_)
        rw [LSm_same m2.2 (hsl _ (by omega))]; exact hD i i0 h0 h1
      · refine wq_ok srt_goesThrough (fr := []) (cuts := [89]) (J := fun pc st => (pc = 89 ∧ st = ([(2, 0), (0, σ), (0, k), (0, D 0 26), (0, i + 1)], [], pm_upd C (B 0 35) i l))) ?_ 9 115 _ ?_
        · rintro pc st (⟨rfl, rfl⟩)
          rw [c35]
          rw [e7] at h0
          have e26 := g4 (by omega)
          have m2 := eM_1 hF.1 (r := 1) (by omega) kn1 (j := k) k0 (by omega)
          refine ih (i + 1) _ (by omega) (by omega) (by omega) (hput C l q2 (fun q j h1 h2 => q3 q j (by rw [e26]; exact h1) h2) q4 (by omega) (Or.inr hik) (fun t t0 t1 => ?_) h0 ?_)
          · obtain ⟨h1, _⟩ := g5 t t0 t1
            have m1 := eM_1 g1 (r := 1) (by omega) kn1 (j := 50 + B 23 t) (by omega) (by omega)
            exact LSm_same m1.2 (fun r j hr => q3 r j (by unfold inS at *; omega) (by unfold inS at hr; omega))
          · rw [q6, hik]; exact LSm_same m2.2 (hsl k (by omega))
        · refine ⟨tM_23 (r := B 0 35) (by rw [c35]; omega) (by rw [c35]; exact kn23) (by omega) (by omega) rfl, ?_⟩
          refine ⟨⟨by omega, by omega⟩, ?_⟩
          exact ⟨rfl, rfl⟩
    · refine ⟨oM_0 (by omega) km0 7 rfl, ?_⟩
      refine ⟨fun h0 => ?_, fun h0 => ?_⟩
      · exact Or.inl (⟨rfl, h0, rfl⟩)
      · refine ⟨oM_0 (by omega) km0 35 rfl, ?_⟩
        refine ⟨fun h1 => ?_, fun h1 => ?_⟩
        · refine ⟨oM_0 (by omega) km0 27 rfl, ?_⟩
          refine ⟨⟨by omega, by omega⟩, ?_⟩
          refine ⟨⟨by omega, by omega⟩, ?_⟩
          refine ⟨aM_17 (r := B 0 27) (by rw [c27]; omega) (by rw [c27]; exact kn17) (by omega) (by omega), ?_⟩
          have e1 : B (B 0 27) ((6 * σ) + i) = B 17 ((6 * σ) + i) := by rw [c27]
          refine ⟨tM_23 (r := B 0 35) (by rw [c35]; omega) (by rw [c35]; exact kn23) (by omega) (by omega) rfl, ?_⟩
          refine ⟨⟨by omega, by omega⟩, ?_⟩
          exact Or.inr (Or.inl (⟨rfl, h0, h1, rfl⟩))
        · refine ⟨rM_0 (by omega) km0, ?_⟩
          refine (letterOf_ex (s := k) g1 (by omega) (by rw [g4 (by omega)]; exact hl)).imp ?_
          rintro ⟨r1, C⟩ ⟨l, q1, q2, q3, q4, q5, q6⟩
          simp only at q1 q2 q3 q4 q5 q6
          subst q1
          exact Or.inr (Or.inr (⟨rfl, h0, h1, C, l, q2, q3, q4, q5, q6, rfl⟩))
theorem gt_58 {A : pm_A} {σ : Int} (s0 : 0 ≤ σ) (s1 : σ ≤ 149) (H : ∀ C w2 w3 w4, gtI A C → σ < C 0 24 → Tm pmt (an_sh wM) o_X10_goesThrough 48 ([(2, 0), (0, σ + 1), w2, w3, w4], [], C) (gt_post A)) : ∀ (m : Nat) (k : Int) (w3 w4 : pm_V) (B : pm_A), (6 - k).toNat < m → 0 ≤ k → k ≤ 6 → gtI A B → σ < B 0 24 → Tm pmt (an_sh wM) o_X10_goesThrough 58 ([(2, 0), (0, σ), (0, k), w3, w4], [], B) (gt_post A) := by
  intro m
  induction m with
  | zero => intro k w3 w4 B h; omega
  | succ m ih =>
    intro k w3 w4 B hm k0 k1 hB hσ
    obtain ⟨hF, hS, hl⟩ := hB
    have p7 := fM_0_7 hF.1 (r := 0) (by omega) km0
    have p26 := fM_0_26 hF.1 (r := 0) (by omega) km0
    have h170 : Tm pmt (an_sh wM) o_X10_goesThrough 170 ([(2, 0), (0, σ), (0, k), w3, w4], [], B) (gt_post A) := by
      refine wq_ok srt_goesThrough (fr := []) (cuts := [48]) (J := fun pc st => (pc = 48 ∧ st = ([(2, 0), (0, σ + 1), (0, k), w3, w4], [], B))) ?_ 7 170 _ ?_
      · rintro pc st (⟨rfl, rfl⟩)
        exact H B _ _ _ ⟨hF, hS, hl⟩ hσ
      · refine ⟨⟨by omega, by omega⟩, ?_⟩
        exact ⟨rfl, rfl⟩
    refine wq_ok srt_goesThrough (fr := []) (cuts := [71, 170]) (J := fun pc st => (pc = 170 ∧ ((B 0 7) ≤ k) ∧ st = ([(2, 0), (0, σ), (0, k), w3, w4], [], B)) ∨ (pc = 71 ∧ k < B 0 7 ∧ ∃ C, tkJ B C σ 72 ∧ st = ([(2, 0), (0, σ), (0, k), w3, w4], [], C))) ?_ 11 58 _ ?_
    · rintro pc st (⟨rfl, h0, rfl⟩ | ⟨rfl, hk, C, hC, rfl⟩)
      · exact h170
      · have hCc : ∀ r j : Int, (r = 0 ∨ 5 < r) → r ≠ 5 → C r j = B r j := fun r j h1 h2 => hC.2.1 r j (fun t t0 t1 ht => by unfold inS at ht; omega) h2
        have c7 := hCc 0 7 (by omega) (by omega)
        have c8 := hCc 0 8 (by omega) (by omega)
        obtain ⟨_, s, ks, hX⟩ := hS σ s0 hσ
        have hCT : Tru s ks C := hX.to hC.1 c7 c8 (fun j j0 j1 => hC.2.2.2 j j0 j1) (fun t t0 t1 => hC.2.2.1 t t0 t1)
        have hCF : gtF A C := hF.tr ⟨hC.1, fun r j r0 r1 j0 j1 a1 a2 a3 => hC.2.1 r j (fun x x0 x1 => a1 x (by omega)) a2.2.1⟩
        have hkk : ((⟨k.toNat, by omega⟩ : Fin 12).1 : Int) = k := by show ((k.toNat : Nat) : Int) = k; omega
        have hk2 : ((⟨k.toNat, by omega⟩ : Fin 12).1 : Int) < C 0 7 := by rw [hkk, c7]; exact hk
        refine wq_ok srt_goesThrough (fr := []) (cuts := [76]) (J := fun pc st => (pc = 76 ∧ ∃ D y, ((y = 0 ∧ gtF A D) ∨ (y = 1 ∧ (∃ s ks, Tru s ks D) ∧ gH wM D ∧ ∀ q j, (∀ t : Int, 42 ≤ t → t ≤ 47 → ¬ inS t q j) → ¬ inS k q j → q ≠ 4 → q ≠ 5 → q ≠ 12 → ¬ (q = 0 ∧ (j = 4 ∨ j = 5)) → D q j = C q j)) ∧ st = ([(2, 0), (0, σ), (0, k), w3, w4], [(0, y)], D))) ?_ 7 71 _ ?_
        · rintro pc st (⟨rfl, D, y, hy, rfl⟩)
          refine wq_ok srt_goesThrough (fr := []) (cuts := [81]) (J := fun pc st => (pc = 81 ∧ (¬ y = 0) ∧ st = ([(2, 0), (0, σ), (0, k), w3, w4], [], D))) ?_ 7 76 _ ?_
          · rintro pc st (⟨rfl, h0, rfl⟩)
            obtain ⟨_, hDT, hDg, hDf⟩ : y = 1 ∧ (∃ s ks, Tru s ks D) ∧ gH wM D ∧ ∀ q j, (∀ t : Int, 42 ≤ t → t ≤ 47 → ¬ inS t q j) → ¬ inS k q j → q ≠ 4 → q ≠ 5 → q ≠ 12 → ¬ (q = 0 ∧ (j = 4 ∨ j = 5)) → D q j = C q j := by rcases hy with h | h; exact absurd h.1 h0; exact h
            have d0 : ∀ j : Int, j ≠ 4 → j ≠ 5 → D 0 j = B 0 j := fun j a b => by rw [hDf 0 j (fun x x0 x1 hx => by unfold inS at hx; omega) (by unfold inS; omega) (by omega) (by omega) (by omega) (by omega)]; exact hCc 0 j (by omega) (by omega)
            have d7 := d0 7 (by omega) (by omega)
            have d8 := d0 8 (by omega) (by omega)
            have d24 := d0 24 (by omega) (by omega)
            have d26 := d0 26 (by omega) (by omega)
            have hDF : gtF A D := hF.tr ⟨hDg, fun r j r0 r1 j0 j1 a1 a2 a3 => by rw [hDf r j (fun x x0 x1 => a1 x (by omega)) (a1 k (by omega)) a2.1 a2.2.1 a2.2.2.1 (fun e => a3 ⟨e.1, by omega⟩)]; exact hC.2.1 r j (fun x x0 x1 => a1 x (by omega)) a2.2.1⟩
            have hDS : gtS D := hS.keep hF.1 d7 d8 d24 (by omega) (fun j j0 => by rw [hDf 17 j (fun x x0 x1 hx => by unfold inS at hx; omega) (by unfold inS; omega) (by omega) (by omega) (by omega) (by omega)]; exact hCc 17 j (by omega) (by omega)) (fun j j0 => by rw [hDf 18 j (fun x x0 x1 hx => by unfold inS at hx; omega) (by unfold inS; omega) (by omega) (by omega) (by omega) (by omega)]; exact hCc 18 j (by omega) (by omega)) (fun l l0 l1 r j hr => by rw [hDf r j (fun x x0 x1 hx => by unfold inS at *; omega) (by unfold inS at *; omega) (by unfold inS at hr; omega) (by unfold inS at hr; omega) (by unfold inS at hr; omega) (by unfold inS at hr; omega)]; exact hC.2.1 r j (fun x x0 x1 hx => by unfold inS at *; omega) (by unfold inS at hr; omega))
            refine wq_ok srt_goesThrough (fr := []) (cuts := [89]) (J := fun pc st => (pc = 89 ∧ st = ([(2, 0), (0, σ), (0, k), (0, D 0 26), (0, 0)], [], D))) ?_ 10 81 _ ?_
            · rintro pc st (⟨rfl, rfl⟩)
              refine gt_89 (D := D) hDF hDS hDT (by omega) s0 s1 (by omega) k0 (by omega) (fun t t0 t1 hne => ?_) (fun E w3 w4 hE hE2 => ih (k + 1) w3 w4 E (by omega) (by omega) (by omega) hE hE2) _ 0 D (Nat.lt_succ_self _) (by omega) (by omega) ⟨hDg, fun _ _ _ _ _ => rfl, ⟨by omega, by omega⟩, fun _ => rfl, fun t t0 t1 => by omega⟩
              have hb := (hS σ s0 hσ).1 t t0 (by omega)
              have e17 : D 17 (6 * σ + t) = B 17 (6 * σ + t) := by rw [hDf 17 _ (fun x x0 x1 hx => by unfold inS at hx; omega) (by unfold inS; omega) (by omega) (by omega) (by omega) (by omega)]; exact hCc 17 _ (by omega) (by omega)
              have m1 := eM_1 hC.1 (r := 1) (by omega) kn1 (j := t) t0 (by omega)
              have m2 := eM_1 hF.1 (r := 1) (by omega) kn1 (j := 50 + B 17 (6 * σ + t)) (by omega) (by omega)
              rw [e17, LSm_same m1.2 (fun r j hr => hDf r j (fun x x0 x1 hx => by unfold inS at *; omega) (by unfold inS at *; omega) (by unfold inS at hr; omega) (by unfold inS at hr; omega) (by unfold inS at hr; omega) (by unfold inS at hr; omega)), hC.2.2.1 t t0 (by omega)]
              refine LSm_same m2.2 (fun r j hr => ?_)
              rw [hDf r j (fun x x0 x1 hx => by unfold inS at *; omega) (by unfold inS at *; omega) (by unfold inS at hr; omega) (by unfold inS at hr; omega) (by unfold inS at hr; omega) (by unfold inS at hr; omega)]
              exact hC.2.1 r j (fun x x0 x1 hx => by unfold inS at *; omega) (by unfold inS at hr; omega)
            · refine ⟨oM_0 (by omega) km0 26 rfl, ?_⟩
              exact ⟨rfl, rfl⟩
          · refine ⟨fun h0 => ?_, fun h0 => ?_⟩
            · exact ⟨rfl, h0, rfl⟩
            · exact ⟨rfl, by rcases hy with h | h; exact h.2; omega, Or.inl rfl⟩
        · refine ⟨rM_0 (by omega) km0, ?_⟩
          show Cl pmt (an_sh wM) 200 [(2, 0), (0, k)] C _
          rw [← hkk]
          refine (turns_ex hCT hk2).imp ?_
          rintro ⟨r1, D⟩ hD
          rcases hD with ⟨q1, q2, q3⟩ | ⟨q1, q2, q3, q4⟩
          · simp only at q1 q2 q3
            subst q1
            exact ⟨rfl, D, 0, Or.inl ⟨rfl, hCF.tr ⟨q2.1, fun r j r0 r1 j0 j1 a1 a2 a3 => q2.2 r j (fun x x0 x1 => a1 x (by omega)) a2.1 a2.2.2.1 (fun e => a3 ⟨e.1, by omega⟩)⟩⟩, rfl⟩
          · simp only at q1 q2 q3 q4
            subst q1
            exact ⟨rfl, D, 1, Or.inr ⟨rfl, ⟨_, _, q2⟩, q3, fun q j a1 a2 a3 a4 a5 a6 => q4 q j a1 a2 a3 a4 a5 a6⟩, rfl⟩
    · refine ⟨oM_0 (by omega) km0 7 rfl, ?_⟩
      refine ⟨fun h0 => ?_, fun h0 => ?_⟩
      · exact Or.inl (⟨rfl, h0, rfl⟩)
      · refine ⟨rM_0 (by omega) km0, ?_⟩
        refine (takes_ex hF.1 s0 s1).imp ?_
        rintro ⟨r1, C⟩ ⟨q1, q2⟩
        simp only at q1 q2
        subst q1
        exact Or.inr (⟨rfl, h0, C, q2, rfl⟩)
