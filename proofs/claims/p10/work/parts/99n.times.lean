/-! times -/
def fa (A : pm_A) (p : Int) (q : Nat) : Int × cr_Xp 12 := (A 2 (200 * p + (q : Int)), xe A p (q : Int))
theorem LSm_fa (A : pm_A) (p : Int) : LSm A p = lsf (A 1 p).toNat (fa A p) := rfl
theorem shz_snoc (y z : Int × cr_Xp 12) (l : cr_Pl_ 12) : cr_shz y (l ++ [z]) = cr_shz y l ++ [(y.1 * z.1, fun i => y.2 i + z.2 i)] := by unfold cr_shz; rw [List.map_append]; rfl
theorem pmz_snoc (y : Int × cr_Xp 12) (l L : cr_Pl_ 12) : cr_pmz (l ++ [y]) L = cr_pmz l L ++ cr_shz y L := by unfold cr_pmz; rw [List.flatMap_append]; simp
def xb (A : pm_A) (p E : Int) : Prop := ∀ q v : Int, 0 ≤ q → q < A 1 p → 0 ≤ v → v < 12 → - E ≤ A 3 (12 * (200 * p + q) + v) ∧ A 3 (12 * (200 * p + q) + v) ≤ E
def tmF (A B : pm_A) (to : Int) : Prop := gH wM B ∧ ∀ r j, ¬ inS to r j → r ≠ 4 → ¬ (r = 0 ∧ (j = 4 ∨ j = 5)) → B r j = A r j
theorem srt_times : pm_srt o_X10_times = true := by decide +kernel
def tmG (A B : pm_A) (to a b t u : Int) : Prop := srtd B to ∧ cfs B to ∧ ∀ c, cr_co (LSm B to) c = cr_co (cr_pmz (lsf t.toNat (fa A a)) (LSm A b)) c + cr_co (cr_shz (fa A a t.toNat) (lsf u.toNat (fa A b))) c
def tmI (A B : pm_A) (to a b t u : Int) : Prop := tmF A B to ∧ (B 0 4 = 1 ∨ (B 0 4 = 0 ∧ tmG A B to a b t u))
def tm_post (A : pm_A) (to a b : Int) (r : pm_R) : Prop := r.1 = none ∧ tmF A r.2 to ∧ (r.2 0 4 = 1 ∨ (r.2 0 4 = 0 ∧ srtd r.2 to ∧ cfs r.2 to ∧ ∀ c, cr_co (LSm r.2 to) c = cr_co (cr_pmz (LSm A a) (LSm A b)) c))
def tmH (A : pm_A) (to a b E1 E2 : Int) : Prop := gH wM A ∧ (0 ≤ to ∧ to ≤ 151) ∧ (0 ≤ a ∧ a ≤ 151) ∧ (0 ≤ b ∧ b ≤ 151) ∧ (to ≠ a ∧ to ≠ b) ∧ cfs A a ∧ cfs A b ∧ xb A a E1 ∧ xb A b E2 ∧ (0 ≤ E1 ∧ 0 ≤ E2 ∧ E1 + E2 ≤ 2147483647)
theorem tm_slot {A B : pm_A} {to p : Int} (hF : tmF A B to) (hne : to ≠ p) : ∀ r j, inS p r j → B r j = A r j := fun r j h => hF.2 r j (by unfold inS at *; omega) (by unfold inS at h; omega) (by unfold inS at h; omega)
theorem tm_175 {C : pm_A} {to a b t u : Int} {w6 w7 w8 w9 w10 : pm_V} (u0 : 0 ≤ u) (u1 : u < 2147483647) {z : pm_R → Prop} (H : Tm pmt (an_sh wM) o_X10_times 31 ([(2, 0), (0, to), (0, a), (0, b), (0, t), (0, u + 1), w6, w7, w8, w9, w10], [], C) z) : Tm pmt (an_sh wM) o_X10_times 175 ([(2, 0), (0, to), (0, a), (0, b), (0, t), (0, u), w6, w7, w8, w9, w10], [], C) z := by
  refine wq_ok srt_times (fr := []) (cuts := [31]) (J := fun pc st => (pc = 31 ∧ st = ([(2, 0), (0, to), (0, a), (0, b), (0, t), (0, u + 1), w6, w7, w8, w9, w10], [], C))) ?_ 7 175 _ ?_
  · rintro pc st (⟨rfl, rfl⟩)
    exact H
  · refine ⟨⟨by omega, by omega⟩, ?_⟩
    exact ⟨rfl, rfl⟩
theorem tm_111 {A : pm_A} {to a b E1 E2 t u x y : Int} (hH : tmH A to a b E1 E2) (t0 : 0 ≤ t) (t1 : t < A 1 a) (u0 : 0 ≤ u) (u1 : u < A 1 b) (hx : x = A 2 (200 * a + t)) (hy : y = A 2 (200 * b + u)) (hxy : x * y ≤ 1000000000000) {z : pm_R → Prop}
    (H : ∀ C w10, tmI A C to a b t (u + 1) → Tm pmt (an_sh wM) o_X10_times 31 ([(2, 0), (0, to), (0, a), (0, b), (0, t), (0, u + 1), (1, x), (9, 0), (1, y), (9, 0), w10], [], C) z) : ∀ (n : Nat) (v : Int) (B : pm_A), (12 - v).toNat < n → 0 ≤ v → v ≤ 12 → tmF A B to → B 0 4 = 0 → tmG A B to a b t u → B 0 5 = x * y → (∀ i : Int, 0 ≤ i → i < v → B 4 i = A 3 (12 * (200 * a + t) + i) + A 3 (12 * (200 * b + u) + i)) → Tm pmt (an_sh wM) o_X10_times 111 ([(2, 0), (0, to), (0, a), (0, b), (0, t), (0, u), (1, x), (9, 0), (1, y), (9, 0), (0, v)], [], B) z := by
  obtain ⟨hA, hto, ha, hb, hne, cfa, cfb, xa, xbb, hE⟩ := hH
  have ma := eM_1 hA (r := 1) (by omega) kn1 ha.1 (show a < 152 by omega)
  have mb := eM_1 hA (r := 1) (by omega) kn1 hb.1 (show b < 152 by omega)
  have ca := cfa t t0 t1
  have cb := cfb u u0 u1
  intro n
  induction n with
  | zero => intro v B h; omega
  | succ n ih =>
    intro v B hn v0 v1 hF h4 hG h5 hp
    have c3 := pM_3 hF.1
    have c6 := pM_6 hF.1
    have xa1 : v < 12 → - E1 ≤ B 3 (12 * (200 * a + t) + v) ∧ B 3 (12 * (200 * a + t) + v) ≤ E1 := fun hv => by
      rw [tm_slot hF hne.1 3 _ (by unfold inS; omega)]; exact xa t v t0 t1 v0 hv
    have xb1 : v < 12 → - E2 ≤ B 3 (12 * (200 * b + u) + v) ∧ B 3 (12 * (200 * b + u) + v) ≤ E2 := fun hv => by
      rw [tm_slot hF hne.2 3 _ (by unfold inS; omega)]; exact xbb u v u0 u1 v0 hv
    have hxy1 : 1 ≤ x * y := by
      have := Int.mul_pos (show 0 < x by omega) (show 0 < y by omega)
      omega
    refine wq_ok srt_times (fr := []) (cuts := [111, 175]) (J := fun pc st => (pc = 175 ∧ 12 ≤ v ∧ ∃ C, adF B C to ∧ (C 0 4 = 1 ∨ (C 0 4 = 0 ∧ srtd C to ∧ cfs C to ∧ ∀ c, cr_co (LSm C to) c = cr_co (LSm B to) c + si (B 0 5, xp B) c)) ∧ st = ([(2, 0), (0, to), (0, a), (0, b), (0, t), (0, u), (1, x), (9, 0), (1, y), (9, 0), (0, v)], [], C)) ∨ (pc = 111 ∧ (v < 12) ∧ st = ([(2, 0), (0, to), (0, a), (0, b), (0, t), (0, u), (1, x), (9, 0), (1, y), (9, 0), (0, v + 1)], [], pm_upd B (B 0 6) v ((B (B 0 3) ((12 * ((200 * a) + t)) + v)) + (B (B 0 3) ((12 * ((200 * b) + u)) + v)))))) ?_ 39 111 _ ?_
    · rintro pc st (⟨rfl, hv, C, hF2, hC, rfl⟩ | ⟨rfl, h0, rfl⟩)
      · refine tm_175 u0 (by omega) (H C _ ⟨⟨hF2.1, fun r j hr h4 h5 => (hF2.2 r j hr (fun e => h5 ⟨e.1, Or.inl e.2⟩)).trans (hF.2 r j hr h4 h5)⟩, ?_⟩)
        rcases hC with hC | ⟨hC1, hC2, hC3, hC4⟩
        · exact Or.inl hC
        · refine Or.inr ⟨hC1, hC2, hC3, fun c => ?_⟩
          rw [hC4 c, hG.2.2 c, show (u + 1).toNat = u.toNat + 1 by omega, lsf_succ, shz_snoc, co_snoc]
          have e1 : (B 0 5, xp B) = ((fa A a t.toNat).1 * (fa A b u.toNat).1, fun i => (fa A a t.toNat).2 i + (fa A b u.toNat).2 i) := by
            refine Prod.ext ?_ (funext fun i => ?_)
            · show B 0 5 = A 2 (200 * a + ((t.toNat : Nat) : Int)) * A 2 (200 * b + ((u.toNat : Nat) : Int))
              rw [Int.toNat_of_nonneg t0, Int.toNat_of_nonneg u0, h5, hx, hy]
            · show B 4 (i.1 : Int) = A 3 (12 * (200 * a + ((t.toNat : Nat) : Int)) + (i.1 : Int)) + A 3 (12 * (200 * b + ((u.toNat : Nat) : Int)) + (i.1 : Int))
              rw [Int.toNat_of_nonneg t0, Int.toNat_of_nonneg u0]; exact hp i.1 (by omega) (by have := i.2; omega)
          rw [e1]; omega
      · rw [c3, c6]
        have r1 := xa1 h0
        have r2 := xb1 h0
        refine ih (v + 1) _ (by omega) (by omega) (by omega) ⟨uM_4 hF.1 kn4 (by omega) (by omega), fun r j hr h4 h5 => ?_⟩ (by rw [upd_o (by omega)]; exact h4) ⟨?_, ?_, fun c => ?_⟩ (by rw [upd_o (by omega)]; exact h5) (fun i i0 i1 => ?_)
        · rw [upd_o (by omega)]; exact hF.2 r j hr h4 h5
        · exact hG.1
        · exact hG.2.1
        · exact hG.2.2 c
        · by_cases hi : i = v
          · rw [hi, upd_at, tm_slot hF hne.1 3 _ (by unfold inS; omega), tm_slot hF hne.2 3 _ (by unfold inS; omega)]
          · rw [upd_o (by omega)]; exact hp i i0 (by omega)
    · refine ⟨fun h0 => ?_, fun h0 => ?_⟩
      · refine ⟨rM_0 (by omega) km0, ?_⟩
        refine (add_ex (s := to) ⟨hF.1, hto, hG.1, hG.2.1, by rw [h5]; exact ⟨hxy1, hxy⟩, h4⟩).imp ?_
        rintro ⟨r1, C⟩ ⟨hr1, hF2, hC⟩
        simp only at hr1 hF2 hC
        subst hr1
        exact Or.inl (⟨rfl, h0, C, hF2, hC, rfl⟩)
      · refine ⟨oM_0 (by omega) km0 6 rfl, ?_⟩
        refine ⟨oM_0 (by omega) km0 3 rfl, ?_⟩
        refine ⟨⟨by omega, by omega⟩, ?_⟩
        refine ⟨⟨by omega, by omega⟩, ?_⟩
        refine ⟨⟨by omega, by omega⟩, ?_⟩
        refine ⟨⟨by omega, by omega⟩, ?_⟩
        refine ⟨aM_3 (r := B 0 3) (by rw [c3]; omega) (by rw [c3]; exact kn3) (by omega) (by omega), ?_⟩
        have e1 : B (B 0 3) ((12 * ((200 * a) + t)) + v) = B 3 ((12 * ((200 * a) + t)) + v) := by rw [c3]
        refine ⟨oM_0 (by omega) km0 3 rfl, ?_⟩
        refine ⟨⟨by omega, by omega⟩, ?_⟩
        refine ⟨⟨by omega, by omega⟩, ?_⟩
        refine ⟨⟨by omega, by omega⟩, ?_⟩
        refine ⟨⟨by omega, by omega⟩, ?_⟩
        refine ⟨aM_3 (r := B 0 3) (by rw [c3]; omega) (by rw [c3]; exact kn3) (by omega) (by omega), ?_⟩
        have e2 : B (B 0 3) ((12 * ((200 * b) + u)) + v) = B 3 ((12 * ((200 * b) + u)) + v) := by rw [c3]
        refine ⟨⟨by omega, by omega⟩, ?_⟩
        refine ⟨tM_4 (r := B 0 6) (by rw [c6]; omega) (by rw [c6]; exact kn4) (by omega) (by omega) rfl, ?_⟩
        refine ⟨⟨by omega, by omega⟩, ?_⟩
        exact Or.inr (⟨rfl, h0, rfl⟩)
theorem tm_31 {A : pm_A} {to a b E1 E2 t : Int} (hH : tmH A to a b E1 E2) (t0 : 0 ≤ t) (t1 : t < A 1 a) {z : pm_R → Prop} (H : ∀ C v5 w6 w7 w8 w9 w10, tmF A C to → (C 0 4 = 1 ∨ (C 0 4 = 0 ∧ srtd C to ∧ cfs C to ∧ ∀ c, cr_co (LSm C to) c = cr_co (cr_pmz (lsf (t + 1).toNat (fa A a)) (LSm A b)) c)) → Tm pmt (an_sh wM) o_X10_times 10 ([(2, 0), (0, to), (0, a), (0, b), (0, t + 1), v5, w6, w7, w8, w9, w10], [], C) z) : ∀ (n : Nat) (u : Int) (w6 w7 w8 w9 w10 : pm_V) (B : pm_A), (A 1 b - u).toNat < n → 0 ≤ u → u ≤ A 1 b → tmI A B to a b t u → Tm pmt (an_sh wM) o_X10_times 31 ([(2, 0), (0, to), (0, a), (0, b), (0, t), (0, u), w6, w7, w8, w9, w10], [], B) z := by
  have hH0 := hH
  obtain ⟨hA, hto, ha, hb, hne, cfa, cfb, xa, xbb, hE⟩ := hH
  have ma := eM_1 hA (r := 1) (by omega) kn1 ha.1 (show a < 152 by omega)
  have mb := eM_1 hA (r := 1) (by omega) kn1 hb.1 (show b < 152 by omega)
  intro n
  induction n with
  | zero => intro u w6 w7 w8 w9 w10 B h; omega
  | succ n ih =>
    intro u w6 w7 w8 w9 w10 B hn u0 u1 hI
    obtain ⟨hF, hI2⟩ := hI
    have c1 := pM_1 hF.1
    have c2 := pM_2 hF.1
    have mB : B 1 b = A 1 b := tm_slot hF hne.2 1 b (Or.inl ⟨rfl, rfl⟩)
    have s4 := fM_0_4 hF.1 (r := 0) (by omega) km0
    have nx : ∀ q : Int, 0 ≤ q → q < 200 → B 2 (200 * a + q) = A 2 (200 * a + q) := fun q q0 q1 => tm_slot hF hne.1 2 _ (by unfold inS; omega)
    have ny : ∀ q : Int, 0 ≤ q → q < 200 → B 2 (200 * b + q) = A 2 (200 * b + q) := fun q q0 q1 => tm_slot hF hne.2 2 _ (by unfold inS; omega)
    have ca := cfa t t0 t1
    have nxt := nx t t0 (by omega)
    have cbu : u < A 1 b → (1 ≤ A 2 (200 * b + u) ∧ A 2 (200 * b + u) ≤ 1000000000000) ∧ B 2 (200 * b + u) = A 2 (200 * b + u) := fun h => ⟨cfb u u0 h, ny u u0 (by omega)⟩
    have hend : (B 0 4 ≠ 0 ∨ A 1 b ≤ u) → Tm pmt (an_sh wM) o_X10_times 181 ([(2, 0), (0, to), (0, a), (0, b), (0, t), (0, u), w6, w7, w8, w9, w10], [], B) z := fun hc => by
      refine wq_ok srt_times (fr := []) (cuts := [10]) (J := fun pc st => (pc = 10 ∧ st = ([(2, 0), (0, to), (0, a), (0, b), (0, t + 1), (0, u), w6, w7, w8, w9, w10], [], B))) ?_ 7 181 _ ?_
      · rintro pc st (⟨rfl, rfl⟩)
        refine H B _ _ _ _ _ _ hF ?_
        rcases hI2 with h | ⟨h1, h2, h3, h4⟩
        · exact Or.inl h
        · refine Or.inr ⟨h1, h2, h3, fun c => ?_⟩
          have hu : u = A 1 b := by omega
          rw [h4 c, show (t + 1).toNat = t.toNat + 1 by omega, lsf_succ, pmz_snoc, cr_co_app, hu, ← LSm_fa]
      · refine ⟨⟨by omega, by omega⟩, ?_⟩
        exact ⟨rfl, rfl⟩
    refine wq_ok srt_times (fr := []) (cuts := [111, 175, 181]) (J := fun pc st => (pc = 181 ∧ ((B (B 0 1) b) ≤ u) ∧ st = ([(2, 0), (0, to), (0, a), (0, b), (0, t), (0, u), w6, w7, w8, w9, w10], [], B)) ∨ (pc = 181 ∧ (u < (B (B 0 1) b)) ∧ (¬ (B 0 4) = 0) ∧ st = ([(2, 0), (0, to), (0, a), (0, b), (0, t), (0, u), w6, w7, w8, w9, w10], [], B)) ∨ (pc = 175 ∧ (u < (B (B 0 1) b)) ∧ ((B 0 4) = 0) ∧ ((Int.tdiv 1000000000000 (B (B 0 2) ((200 * b) + u))) < (B (B 0 2) ((200 * a) + t))) ∧ st = ([(2, 0), (0, to), (0, a), (0, b), (0, t), (0, u), (1, B (B 0 2) ((200 * a) + t)), (9, 0), (1, B (B 0 2) ((200 * b) + u)), (9, 0), w10], [], pm_upd B 0 4 1)) ∨ (pc = 111 ∧ (u < (B (B 0 1) b)) ∧ ((B 0 4) = 0) ∧ ((B (B 0 2) ((200 * a) + t)) = (Int.tdiv 1000000000000 (B (B 0 2) ((200 * b) + u)))) ∧ st = ([(2, 0), (0, to), (0, a), (0, b), (0, t), (0, u), (1, B (B 0 2) ((200 * a) + t)), (9, 0), (1, B (B 0 2) ((200 * b) + u)), (9, 0), (0, 0)], [], pm_upd B 0 5 ((B (B 0 2) ((200 * a) + t)) * (B (B 0 2) ((200 * b) + u))))) ∨ (pc = 111 ∧ (u < (B (B 0 1) b)) ∧ ((B 0 4) = 0) ∧ ((B (B 0 2) ((200 * a) + t)) < (Int.tdiv 1000000000000 (B (B 0 2) ((200 * b) + u)))) ∧ st = ([(2, 0), (0, to), (0, a), (0, b), (0, t), (0, u), (1, B (B 0 2) ((200 * a) + t)), (9, 0), (1, B (B 0 2) ((200 * b) + u)), (9, 0), (0, 0)], [], pm_upd B 0 5 ((B (B 0 2) ((200 * a) + t)) * (B (B 0 2) ((200 * b) + u)))))) ?_ 45 31 _ ?_
    · rintro pc st (⟨rfl, h0, rfl⟩ | ⟨rfl, h0, h1, rfl⟩ | ⟨rfl, h0, h1, h2, rfl⟩ | ⟨rfl, h0, h1, h2, rfl⟩ | ⟨rfl, h0, h1, h2, rfl⟩)
      · exact hend (by rw [c1] at h0; omega)
      · exact hend (Or.inl h1)
      · have hu : u < A 1 b := by rw [c1, mB] at h0; exact h0
        refine tm_175 u0 (by omega) (ih (u + 1) _ _ _ _ _ _ (by omega) (by omega) (by omega) ⟨⟨uM_0_4 hF.1 (by omega) (by omega), fun r j hr h4 h5 => ?_⟩, Or.inl upd_at⟩)
        rw [upd_o (fun e => h5 ⟨e.1, Or.inl e.2⟩)]; exact hF.2 r j hr h4 h5
      · rw [c1] at h0
        rw [c2] at h2 ⊢
        have hb1 := cbu (by omega)
        obtain ⟨hI3, hG⟩ : B 0 4 = 0 ∧ tmG A B to a b t u := by rcases hI2 with h | h; omega; exact h
        have hxy : B 2 (200 * a + t) * B 2 (200 * b + u) ≤ 1000000000000 := by
          rw [Int.tdiv_eq_ediv_of_nonneg (by omega)] at h2
          exact (Int.le_ediv_iff_mul_le (by omega)).1 (by omega)
        have hp := Int.mul_pos (show 0 < B 2 (200 * a + t) by omega) (show 0 < B 2 (200 * b + u) by omega)
        refine tm_111 (E1 := E1) (E2 := E2) (x := B 2 (200 * a + t)) (y := B 2 (200 * b + u)) hH0 t0 t1 u0 (by omega) nxt hb1.2 hxy (fun C w10 hC => ih (u + 1) _ _ _ _ _ C (by omega) (by omega) (by omega) hC) _ 0 _ (Nat.lt_succ_self _) (by omega) (by omega) ⟨uM_0_5 hF.1 (by omega) (by omega), fun r j hr h4 h5 => ?_⟩ (by rw [upd_o (by omega)]; exact hI3) hG upd_at (fun i i0 i1 => by omega)
        rw [upd_o (fun e => h5 ⟨e.1, Or.inr e.2⟩)]; exact hF.2 r j hr h4 h5
      · rw [c1] at h0
        rw [c2] at h2 ⊢
        have hb1 := cbu (by omega)
        obtain ⟨hI3, hG⟩ : B 0 4 = 0 ∧ tmG A B to a b t u := by rcases hI2 with h | h; omega; exact h
        have hxy : B 2 (200 * a + t) * B 2 (200 * b + u) ≤ 1000000000000 := by
          rw [Int.tdiv_eq_ediv_of_nonneg (by omega)] at h2
          exact (Int.le_ediv_iff_mul_le (by omega)).1 (by omega)
        have hp := Int.mul_pos (show 0 < B 2 (200 * a + t) by omega) (show 0 < B 2 (200 * b + u) by omega)
        refine tm_111 (E1 := E1) (E2 := E2) (x := B 2 (200 * a + t)) (y := B 2 (200 * b + u)) hH0 t0 t1 u0 (by omega) nxt hb1.2 hxy (fun C w10 hC => ih (u + 1) _ _ _ _ _ C (by omega) (by omega) (by omega) hC) _ 0 _ (Nat.lt_succ_self _) (by omega) (by omega) ⟨uM_0_5 hF.1 (by omega) (by omega), fun r j hr h4 h5 => ?_⟩ (by rw [upd_o (by omega)]; exact hI3) hG upd_at (fun i i0 i1 => by omega)
        rw [upd_o (fun e => h5 ⟨e.1, Or.inr e.2⟩)]; exact hF.2 r j hr h4 h5
    · refine ⟨oM_0 (by omega) km0 1 rfl, ?_⟩
      refine ⟨aM_1 (r := B 0 1) (by rw [c1]; omega) (by rw [c1]; exact kn1) (by omega) (by omega), ?_⟩
      have e1 : B (B 0 1) b = B 1 b := by rw [c1]
      refine ⟨fun h0 => ?_, fun h0 => ?_⟩
      · exact Or.inl (⟨rfl, h0, rfl⟩)
      · refine ⟨oM_0 (by omega) km0 4 rfl, ?_⟩
        refine ⟨fun h1 => ?_, fun h1 => ?_⟩
        · exact Or.inr (Or.inl (⟨rfl, h0, h1, rfl⟩))
        · refine ⟨oM_0 (by omega) km0 2 rfl, ?_⟩
          refine ⟨⟨by omega, by omega⟩, ?_⟩
          refine ⟨⟨by omega, by omega⟩, ?_⟩
          refine ⟨aM_2 (r := B 0 2) (by rw [c2]; omega) (by rw [c2]; exact kn2) (by omega) (by omega), ?_⟩
          have e2 : B (B 0 2) ((200 * a) + t) = B 2 ((200 * a) + t) := by rw [c2]
          refine ⟨oM_0 (by omega) km0 2 rfl, ?_⟩
          refine ⟨⟨by omega, by omega⟩, ?_⟩
          refine ⟨⟨by omega, by omega⟩, ?_⟩
          refine ⟨aM_2 (r := B 0 2) (by rw [c2]; omega) (by rw [c2]; exact kn2) (by omega) (by omega), ?_⟩
          have e3 : B (B 0 2) ((200 * b) + u) = B 2 ((200 * b) + u) := by rw [c2]
          refine ⟨⟨by rw [e3]; have := cbu (by omega); omega, ⟨by omega, by omega⟩, ⟨by rw [e3]; have := cbu (by omega); omega, by rw [e3]; have := cbu (by omega); omega⟩, fun hh => absurd hh (by decide)⟩, ?_⟩
          refine ⟨fun h2 => ?_, fun h2 => ?_, fun h2 => ?_⟩
          · refine ⟨fun hh => absurd hh (by decide), fun _ => ?_⟩
            refine ⟨oM_0 (by omega) km0 4 rfl, ?_⟩
            exact Or.inr (Or.inr (Or.inl (⟨rfl, h0, h1, h2, rfl⟩)))
          · refine ⟨fun _ => ?_, fun hh => absurd hh (by decide)⟩
            refine ⟨(by have h2q : B (B 0 2) ((200 * a) + t) ≤ Int.tdiv 1000000000000 (B (B 0 2) ((200 * b) + u)) := (by first | exact Int.le_of_eq h2 | exact Int.le_of_lt h2); rw [e2, e3]; have hb1 := cbu (by omega); rw [e2, e3] at h2q; rw [Int.tdiv_eq_ediv_of_nonneg (by omega)] at h2q; have hl := (Int.le_ediv_iff_mul_le (show 0 < B 2 (200 * b + u) by omega)).1 (show B 2 (200 * a + t) ≤ 1000000000000 / B 2 (200 * b + u) by omega); have hp := Int.mul_pos (show 0 < B 2 (200 * a + t) by omega) (show 0 < B 2 (200 * b + u) by omega); exact ⟨by omega, by omega⟩), ?_⟩
            refine ⟨oM_0 (by omega) km0 5 rfl, ?_⟩
            exact Or.inr (Or.inr (Or.inr (Or.inl (⟨rfl, h0, h1, h2, rfl⟩))))
          · refine ⟨fun _ => ?_, fun hh => absurd hh (by decide)⟩
            refine ⟨(by have h2q : B (B 0 2) ((200 * a) + t) ≤ Int.tdiv 1000000000000 (B (B 0 2) ((200 * b) + u)) := (by first | exact Int.le_of_eq h2 | exact Int.le_of_lt h2); rw [e2, e3]; have hb1 := cbu (by omega); rw [e2, e3] at h2q; rw [Int.tdiv_eq_ediv_of_nonneg (by omega)] at h2q; have hl := (Int.le_ediv_iff_mul_le (show 0 < B 2 (200 * b + u) by omega)).1 (show B 2 (200 * a + t) ≤ 1000000000000 / B 2 (200 * b + u) by omega); have hp := Int.mul_pos (show 0 < B 2 (200 * a + t) by omega) (show 0 < B 2 (200 * b + u) by omega); exact ⟨by omega, by omega⟩), ?_⟩
            refine ⟨oM_0 (by omega) km0 5 rfl, ?_⟩
            exact Or.inr (Or.inr (Or.inr (Or.inr (⟨rfl, h0, h1, h2, rfl⟩))))
theorem tm_10 {A : pm_A} {to a b E1 E2 : Int} (hH : tmH A to a b E1 E2) : ∀ (n : Nat) (t : Int) (v5 w6 w7 w8 w9 w10 : pm_V) (B : pm_A), (A 1 a - t).toNat < n → 0 ≤ t → t ≤ A 1 a → tmF A B to → (B 0 4 = 1 ∨ (B 0 4 = 0 ∧ srtd B to ∧ cfs B to ∧ ∀ c, cr_co (LSm B to) c = cr_co (cr_pmz (lsf t.toNat (fa A a)) (LSm A b)) c)) → Tm pmt (an_sh wM) o_X10_times 10 ([(2, 0), (0, to), (0, a), (0, b), (0, t), v5, w6, w7, w8, w9, w10], [], B) (tm_post A to a b) := by
  have hH0 := hH
  obtain ⟨hA, hto, ha, hb, hne, cfa, cfb, xa, xbb, hE⟩ := hH
  have ma := eM_1 hA (r := 1) (by omega) kn1 ha.1 (show a < 152 by omega)
  have mb := eM_1 hA (r := 1) (by omega) kn1 hb.1 (show b < 152 by omega)
  intro n
  induction n with
  | zero => intro t v5 w6 w7 w8 w9 w10 B h; omega
  | succ n ih =>
    intro t v5 w6 w7 w8 w9 w10 B hn t0 t1 hF hI
    have c1 := pM_1 hF.1
    have mB : B 1 a = A 1 a := tm_slot hF hne.1 1 a (Or.inl ⟨rfl, rfl⟩)
    have s4 := fM_0_4 hF.1 (r := 0) (by omega) km0
    have hend : (B 0 4 ≠ 0 ∨ A 1 a ≤ t) → tm_post A to a b (none, B) := fun hc => ⟨rfl, hF, by
      rcases hI with h | ⟨h1, h2, h3, h4⟩
      · exact Or.inl h
      · refine Or.inr ⟨h1, h2, h3, fun c => ?_⟩
        have ht : t = A 1 a := by omega
        rw [h4 c, ht, ← LSm_fa]⟩
    refine wq_ok srt_times (fr := []) (cuts := [31]) (J := fun pc st => (pc = 31 ∧ (t < (B (B 0 1) a)) ∧ ((B 0 4) = 0) ∧ st = ([(2, 0), (0, to), (0, a), (0, b), (0, t), (0, 0), w6, w7, w8, w9, w10], [], B))) ?_ 16 10 _ ?_
    · rintro pc st (⟨rfl, h0, h1, rfl⟩)
      rw [c1, mB] at h0
      refine tm_31 hH0 t0 (by omega) (fun C v5 w6 w7 w8 w9 w10 hC hC2 => ih (t + 1) v5 w6 w7 w8 w9 w10 C (by omega) (by omega) (by omega) hC hC2) _ 0 _ _ _ _ _ B (Nat.lt_succ_self _) (by omega) (by omega) ⟨hF, ?_⟩
      rcases hI with h | ⟨h1, h2, h3, h4⟩
      · exact Or.inl h
      · exact Or.inr ⟨h1, h2, h3, fun c => by rw [h4 c]; show _ = _ + (0 : Int); omega⟩
    · refine ⟨oM_0 (by omega) km0 1 rfl, ?_⟩
      refine ⟨aM_1 (r := B 0 1) (by rw [c1]; omega) (by rw [c1]; exact kn1) (by omega) (by omega), ?_⟩
      have e1 : B (B 0 1) a = B 1 a := by rw [c1]
      refine ⟨fun h0 => ?_, fun h0 => ?_⟩
      · exact hend (Or.inr (by rw [c1, mB] at h0; omega))
      · refine ⟨oM_0 (by omega) km0 4 rfl, ?_⟩
        refine ⟨fun h1 => ?_, fun h1 => ?_⟩
        · exact hend (Or.inl h1)
        · exact ⟨rfl, h0, h1, rfl⟩
theorem times_ex {A : pm_A} {to a b E1 E2 : Int} (hH : tmH A to a b E1 E2) (h4 : A 0 4 = 0) : Cl pmt (an_sh wM) 196 [(2, 0), (0, to), (0, a), (0, b)] A (tm_post A to a b) := by
  have hH0 := hH
  obtain ⟨hA, hto, ha, hb, hne, cfa, cfb, xa, xbb, hE⟩ := hH
  have ma := eM_1 hA (r := 1) (by omega) kn1 ha.1 (show a < 152 by omega)
  have c1 := pM_1 hA
  refine Cl.of (Nat.le_of_ble_eq_true rfl) ?_
  refine wq_ok (full := o_X10_times) srt_times (fr := []) (cuts := [10]) (J := fun pc st => (pc = 10 ∧ st = ([(2, 0), (0, to), (0, a), (0, b), (0, 0), (9, 0), (9, 0), (9, 0), (9, 0), (9, 0), (9, 0)], [], pm_upd A (A 0 1) to 0))) ?_ 12 0 _ ?_
  · rintro pc st (⟨rfl, rfl⟩)
    rw [c1]
    have hm : pm_upd A 1 to 0 1 to = 0 := upd_at
    refine tm_10 hH0 _ 0 _ _ _ _ _ _ _ (Nat.lt_succ_self _) (by omega) (by omega) ⟨uM_1 hA kn1 (by omega) (by omega), fun r j hr _ _ => upd_o (fun e => hr (by unfold inS; omega))⟩ (Or.inr ⟨by rw [upd_o (by omega)]; exact h4, fun q q2 h1 h2 h3 => by rw [hm] at h3; omega, fun q h1 h2 => by rw [hm] at h2; omega, fun c => ?_⟩)
    unfold LSm
    rw [hm]
    rfl
  · refine ⟨oM_0 (by omega) km0 1 rfl, ?_⟩
    refine ⟨tM_1 (r := A 0 1) (by rw [c1]; omega) (by rw [c1]; exact kn1) (by omega) (by omega) rfl, ?_⟩
    exact ⟨rfl, rfl⟩
