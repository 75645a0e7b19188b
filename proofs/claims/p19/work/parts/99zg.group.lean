section
/-! group -/
def nz (x : Int) : Int := if x = 0 then 0 else 1
def cn (f : Int → Int) : Int := nz (f 0) + nz (f 1) + nz (f 2) + nz (f 3) + nz (f 4) + nz (f 5)
theorem nz_b (x : Int) : 0 ≤ nz x ∧ nz x ≤ 1 := by unfold nz; split <;> omega
theorem cn_b (f : Int → Int) : 0 ≤ cn f ∧ cn f ≤ 6 := by
  unfold cn
  have := nz_b (f 0); have := nz_b (f 1); have := nz_b (f 2); have := nz_b (f 3); have := nz_b (f 4); have := nz_b (f 5)
  omega
theorem cn_put {f g : Int → Int} {j : Int} (j0 : 0 ≤ j) (j1 : j ≤ 5) (h : ∀ k, k ≠ j → g k = f k) (hf : f j = 0) (hg : g j ≠ 0) : cn g = cn f + 1 := by
  have hk : ∀ k, nz (g k) = nz (f k) + (if k = j then 1 else 0) := fun k => by
    by_cases e : k = j
    · rw [e, if_pos rfl, hf]; unfold nz; rw [if_neg hg, if_pos rfl]; rfl
    · rw [if_neg e, h k e]; omega
  have hh : j = 0 ∨ j = 1 ∨ j = 2 ∨ j = 3 ∨ j = 4 ∨ j = 5 := by omega
  unfold cn
  rw [hk 0, hk 1, hk 2, hk 3, hk 4, hk 5]
  rcases hh with rfl | rfl | rfl | rfl | rfl | rfl <;> simp <;> omega
def p9 (c : Int) : Int := 9 ^ c.toNat
theorem p9_succ {c : Int} (h : 0 ≤ c) : p9 (c + 1) = 9 * p9 c := by unfold p9; rw [show (c + 1).toNat = c.toNat + 1 by omega, Int.pow_succ, Int.mul_comm]
theorem p9_pos (c : Int) : 1 ≤ p9 c := by
  unfold p9
  have : (0 : Int) < 9 ^ c.toNat := Int.pow_pos (by omega)
  omega
theorem p9_le {c : Int} (h : c ≤ 6) : p9 c ≤ 531441 := by
  have hh : c.toNat = 0 ∨ c.toNat = 1 ∨ c.toNat = 2 ∨ c.toNat = 3 ∨ c.toNat = 4 ∨ c.toNat = 5 ∨ c.toNat = 6 := by omega
  unfold p9
  rcases hh with h | h | h | h | h | h | h <;> rw [h] <;> decide
theorem gcd_pos1 {a b : Int} (ha : 1 ≤ a) : (1 : Int) ≤ (Int.gcd a b : Int) := by
  have : Int.gcd a b ≠ 0 := fun e => by
    have := (Int.gcd_eq_zero_iff.1 e).1
    omega
  omega
/-- a fraction without its common factor -/
theorem red1 {a b : Int} (ha : 1 ≤ a) (hb : 1 ≤ b) : ∃ u v : Int, a.tdiv (Int.gcd a b : Int) = u ∧ b.tdiv (Int.gcd a b : Int) = v ∧ a = (Int.gcd a b : Int) * u ∧ b = (Int.gcd a b : Int) * v ∧ 1 ≤ u ∧ 1 ≤ v ∧ u ≤ a ∧ v ≤ b := by
  have g1 := gcd_pos1 (b := b) ha
  obtain ⟨u, hu⟩ := Int.gcd_dvd_left (a := a) (b := b)
  obtain ⟨v, hv⟩ := Int.gcd_dvd_right (a := a) (b := b)
  generalize (Int.gcd a b : Int) = g at *
  have u1 : 1 ≤ u := by
    refine Classical.byContradiction (fun h => ?_)
    have := Int.mul_le_mul_of_nonneg_left (show u ≤ 0 by omega) (show 0 ≤ g by omega)
    omega
  have v1 : 1 ≤ v := by
    refine Classical.byContradiction (fun h => ?_)
    have := Int.mul_le_mul_of_nonneg_left (show v ≤ 0 by omega) (show 0 ≤ g by omega)
    omega
  have := Int.mul_le_mul_of_nonneg_right g1 (show 0 ≤ u by omega)
  have := Int.mul_le_mul_of_nonneg_right g1 (show 0 ≤ v by omega)
  refine ⟨u, v, ?_, ?_, hu, hv, u1, v1, by omega, by omega⟩
  · rw [hu]; exact Int.mul_tdiv_cancel_left _ (by omega)
  · rw [hv]; exact Int.mul_tdiv_cancel_left _ (by omega)
theorem lcm1 {l x D : Int} (hl : 1 ≤ l) (hx : 1 ≤ x) (h1 : l ∣ D) (h2 : x ∣ D) : l.tdiv (Int.gcd l x : Int) * x ∣ D ∧ l ∣ l.tdiv (Int.gcd l x : Int) * x ∧ x ∣ l.tdiv (Int.gcd l x : Int) * x ∧ 1 ≤ l.tdiv (Int.gcd l x : Int) * x := by
  have e : l.tdiv (Int.gcd l x : Int) * x = (Int.lcm l x : Int) := by
    obtain ⟨u, v, hu, hv, e1, e2, u1, v1, _⟩ := red1 hl hx
    have g1 := gcd_pos1 (b := x) hl
    have h := Int.gcd_mul_lcm l x
    have h' : (Int.gcd l x : Int) * (Int.lcm l x : Int) = l * x := by
      have : ((l * x).natAbs : Int) = l * x := Int.natAbs_of_nonneg (Int.mul_nonneg (by omega) (by omega))
      rw [← this, Int.natAbs_mul, ← h]; rfl
    rw [hu]
    have : (Int.gcd l x : Int) * (Int.lcm l x : Int) = (Int.gcd l x : Int) * (u * x) := by rw [h', ← Int.mul_assoc, ← e1]
    exact (Int.eq_of_mul_eq_mul_left (by omega) this).symm
  rw [e]
  refine ⟨Int.coe_lcm_dvd h1 h2, Int.dvd_lcm_left _ _, Int.dvd_lcm_right _ _, ?_⟩
  rw [← e]
  obtain ⟨u, v, hu, hv, e1, e2, u1, v1, _⟩ := red1 hl hx
  rw [hu]
  have := Int.mul_le_mul_of_nonneg_left hx (show 0 ≤ u by omega)
  omega
theorem mulb {x t : Int} (h1 : 1 ≤ x) (h2 : x ≤ 531441) (h3 : 1 ≤ t) (h4 : t ≤ 9) : 1 ≤ x * t ∧ x * t ≤ 4782969 := by
  have a := Int.mul_le_mul h2 h4 (by omega) (by omega)
  have b := Int.mul_le_mul h1 h3 (by omega) (by omega)
  omega
def gpF (A B : pm_A) : Prop := gH wM B ∧ ∀ r j, r ≠ 8 → r ≠ 9 → r ≠ 11 → B r j = A r j
def Zs (p : Int) (B : pm_A) (i : Int) : Prop := p ≤ i ∨ B 9 i = 0 ∨ (B 9 i = 1 ∧ 1 ≤ B 8 i ∧ B 8 i ≤ 531441)
def gMem (B : pm_A) (D i : Int) : Prop := ∃ c, 1 ≤ c ∧ D = B 9 i * c ∧ B 8 i * c ≤ p9 (cn (B 9)) ∧ 1 ≤ B 8 i ∧ 1 ≤ B 9 i
def gpI (p : Int) (B : pm_A) (D : Int) : Prop := (1 ≤ D ∧ D ≤ p9 (cn (B 9))) ∧ ∀ i : Int, 0 ≤ i → i ≤ 5 → (B 11 i = 0 ∧ Zs p B i) ∨ (B 11 i = 1 ∧ i < p ∧ gMem B D i)
def kpz (A B : pm_A) : Prop := ∀ i : Int, A 9 i ≠ 0 → B 9 i ≠ 0
def GI (A B : pm_A) : Prop := gpF A B ∧ (∃ D, gpI (A 0 12) B D) ∧ kpz A B
theorem gpI.bd {p D i : Int} {B : pm_A} (h : gpI p B D) (i0 : 0 ≤ i) (i1 : i ≤ 5) (hi : B 11 i = 1) : (1 ≤ B 8 i ∧ B 8 i ≤ 531441) ∧ 1 ≤ B 9 i ∧ B 9 i ≤ 531441 := by
  rcases h.2 i i0 i1 with ⟨h1, _⟩ | ⟨_, _, c, c1, c2, c3, c4, c5⟩
  · omega
  · have := p9_le (cn_b (B 9)).2
    have a := Int.mul_le_mul_of_nonneg_left c1 (show 0 ≤ B 8 i by omega)
    have b := Int.mul_le_mul_of_nonneg_left c1 (show 0 ≤ B 9 i by omega)
    have := h.1
    omega
theorem gpI.step {p D : Int} {B C : pm_A} (h : gpI p B D) {i j t t' g u v : Int} (i0 : 0 ≤ i) (i1 : i ≤ 5) (hi : B 11 i = 1) (j0 : 0 ≤ j) (j1 : j < p) (p6 : p ≤ 6) (hj : B 9 j = 0) (t1 : 1 ≤ t ∧ t ≤ 9) (t2 : 1 ≤ t' ∧ t' ≤ 9) (hu : B 8 i * t = g * u) (hv : B 9 i * t' = g * v) (g1 : 1 ≤ g) (u1 : 1 ≤ u) (v1 : 1 ≤ v) (e8 : ∀ k, k ≠ j → C 8 k = B 8 k) (e9 : ∀ k, k ≠ j → C 9 k = B 9 k) (e11 : ∀ k, k ≠ j → C 11 k = B 11 k) (f8 : C 8 j = u) (f9 : C 9 j = v) (f11 : C 11 j = 1) : gpI p C (D * t') ∧ cn (C 9) = cn (B 9) + 1 := by
  have hc : cn (C 9) = cn (B 9) + 1 := cn_put j0 (by omega) e9 hj (by rw [f9]; omega)
  refine ⟨?_, hc⟩
  have hp := p9_succ (cn_b (B 9)).1
  have hq := p9_pos (cn (B 9))
  unfold gpI
  rw [hc, hp]
  refine ⟨⟨?_, ?_⟩, fun k k0 k1 => ?_⟩
  · have := Int.mul_le_mul_of_nonneg_left t2.1 (show 0 ≤ D by have := h.1; omega)
    have := h.1; omega
  · have := Int.mul_le_mul h.1.2 t2.2 (by omega) (show 0 ≤ p9 (cn (B 9)) by omega)
    omega
  · by_cases e : k = j
    · subst e
      refine Or.inr ⟨f11, j1, ?_⟩
      rcases h.2 i i0 i1 with ⟨h1, _⟩ | ⟨_, _, c, c1, c2, c3, c4, c5⟩
      · omega
      · refine ⟨g * c, ?_, ?_, ?_, by rw [f8]; exact u1, by rw [f9]; exact v1⟩
        · have := Int.mul_le_mul g1 c1 (by omega) (by omega); omega
        · rw [f9, c2, Int.mul_right_comm, hv, ← Int.mul_assoc, Int.mul_comm v g]
        · rw [f8, hc, hp, ← Int.mul_assoc, Int.mul_comm u g, ← hu, Int.mul_right_comm]
          have := Int.mul_le_mul c3 t1.2 (by omega) (show 0 ≤ p9 (cn (B 9)) by omega)
          omega
    · rcases h.2 k k0 k1 with ⟨h1, h2⟩ | ⟨h1, h2, c, c1, c2, c3, c4, c5⟩
      · refine Or.inl ⟨by rw [e11 k e]; exact h1, ?_⟩
        unfold Zs; rw [e9 k e, e8 k e]; exact h2
      · refine Or.inr ⟨by rw [e11 k e]; exact h1, h2, c * t', ?_, ?_, ?_, by rw [e8 k e]; exact c4, by rw [e9 k e]; exact c5⟩
        · have := Int.mul_le_mul c1 t2.1 (by omega) (by omega); omega
        · rw [e9 k e, c2, Int.mul_assoc]
        · rw [e8 k e, hc, hp, ← Int.mul_assoc]
          have := Int.mul_le_mul c3 t2.2 (by omega) (show 0 ≤ p9 (cn (B 9)) by omega)
          omega
theorem srt_Mgroup : pm_srt o_X10_group = true := by decide +kernel
def gp_post (A : pm_A) (r : pm_R) : Prop := r.1 = none ∧ gpF A r.2 ∧ (∀ i : Int, 0 ≤ i → i ≤ 5 → Zs (A 0 12) r.2 i) ∧ kpz A r.2
theorem gpF.u8 {A B : pm_A} (h : gpF A B) {i x : Int} (x0 : -9223372036854775808 ≤ x) (x1 : x ≤ 9223372036854775807) : gpF A (pm_upd B 8 i x) := ⟨uM_8 h.1 kn8 x0 x1, fun r j h1 h2 h3 => by rw [upd_o (by omega)]; exact h.2 r j h1 h2 h3⟩
theorem gpF.u9 {A B : pm_A} (h : gpF A B) {i x : Int} (x0 : -9223372036854775808 ≤ x) (x1 : x ≤ 9223372036854775807) : gpF A (pm_upd B 9 i x) := ⟨uM_9 h.1 kn9 x0 x1, fun r j h1 h2 h3 => by rw [upd_o (by omega)]; exact h.2 r j h1 h2 h3⟩
theorem gpF.u11 {A B : pm_A} (h : gpF A B) {i x : Int} (x0 : 0 ≤ x) (x1 : x ≤ 1) : gpF A (pm_upd B 11 i x) := ⟨uM_11 h.1 kn11 x0 x1, fun r j h1 h2 h3 => by rw [upd_o (by omega)]; exact h.2 r j h1 h2 h3⟩

def gfin (B : pm_A) (L G i : Int) : Prop := ∃ m x, L = B 9 i * m ∧ 1 ≤ m ∧ B 8 i * m = G * x ∧ 1 ≤ x ∧ x ≤ 531441 ∧ 1 ≤ G ∧ 1 ≤ B 8 i ∧ 1 ≤ B 9 i ∧ L ≤ 531441 ∧ B 8 i * m ≤ 531441
theorem gp_317 {A : pm_A} {L G : Int} {w1 w2 w8 w9 w10 : pm_V} (hLG : (1 ≤ L ∧ L ≤ 531441) ∧ 0 ≤ G ∧ G ≤ 531441) (p6 : A 0 12 ≤ 6) : ∀ (m : Nat) (u : Int) (B : pm_A), (6 - u).toNat < m → 0 ≤ u → u ≤ 6 → gpF A B → kpz A B → (∀ i : Int, 0 ≤ i → i ≤ 5 → ((i < u ∨ B 11 i = 0) ∧ Zs (A 0 12) B i) ∨ (u ≤ i ∧ i < A 0 12 ∧ B 11 i = 1 ∧ gfin B L G i)) → Tm pmt (an_sh wM) o_X10_group 317 ([(2, 0), w1, w2, (1, L), (9, 0), (1, G), (9, 0), (0, u), w8, w9, w10], [], B) (gp_post A) := by
  intro m
  induction m with
  | zero => intro u B h; omega
  | succ m ih =>
    intro u B hm u0 u1 hF hk hI
    have e12 : B 0 12 = A 0 12 := hF.2 0 12 (by omega) (by omega) (by omega)
    have c15 := pM_15 hF.1
    have c16 := pM_16 hF.1
    have c18 := pM_18 hF.1
    have hfin : A 0 12 ≤ u → gp_post A (none, B) := fun hu => ⟨rfl, hF, fun i i0 i1 => by
      rcases hI i i0 i1 with h | h
      · exact h.2
      · omega, hk⟩
    have h366 : ∀ (x : Int) (C : pm_A), 1 ≤ x → x ≤ 531441 → u < A 0 12 → C = pm_upd B 8 u x → Tm pmt (an_sh wM) o_X10_group 366 ([(2, 0), w1, w2, (1, L), (9, 0), (1, G), (9, 0), (0, u), w8, w9, w10], [], C) (gp_post A) := fun x C x1 x2 hu hC => by
      have hFC : gpF A C := by rw [hC]; exact hF.u8 (by omega) (by omega)
      have c16 := pM_16 hFC.1
      refine wq_ok srt_Mgroup (fr := []) (cuts := [317]) (J := fun pc st => (pc = 317 ∧ st = ([(2, 0), w1, w2, (1, L), (9, 0), (1, G), (9, 0), (0, u + 1), w8, w9, w10], [], pm_upd C (C 0 16) u 1))) ?_ 12 366 _ ?_
      · rintro pc st (⟨rfl, rfl⟩)
        rw [c16]
        have o9 : ∀ k, k ≠ u → pm_upd C 9 u 1 9 k = B 9 k := fun k hk => by rw [upd_o (by omega), hC, upd_o (by omega)]
        have o8 : ∀ k, k ≠ u → pm_upd C 9 u 1 8 k = B 8 k := fun k hk => by rw [upd_o (by omega), hC, upd_o (by omega)]
        have o11 : ∀ k, pm_upd C 9 u 1 11 k = B 11 k := fun k => by rw [upd_o (by omega), hC, upd_o (by omega)]
        refine ih (u + 1) _ (by omega) (by omega) (by omega) (hFC.u9 (by omega) (by omega)) (fun k hk1 => ?_) (fun k k0 k1 => ?_)
        · by_cases e : k = u
          · rw [e, upd_at]; omega
          · rw [o9 k e]; exact hk k hk1
        · by_cases e : k = u
          · refine Or.inl ⟨Or.inl (by omega), Or.inr (Or.inr ⟨by rw [e, upd_at], ?_⟩)⟩
            rw [e, upd_o (by omega), hC, upd_at]; omega
          · unfold Zs gfin
            rw [o9 k e, o8 k e, o11]
            rcases hI k k0 k1 with ⟨h1, h2⟩ | ⟨h1, h2, h3, h4⟩
            · exact Or.inl ⟨by omega, h2⟩
            · exact Or.inr ⟨by omega, h2, h3, h4⟩
      · refine ⟨oM_0 (by omega) km0 16 rfl, ?_⟩
        refine ⟨tM_9 (r := C 0 16) (by rw [c16]; omega) (by rw [c16]; exact kn9) (by omega) (by omega) rfl, ?_⟩
        refine ⟨⟨by omega, by omega⟩, ?_⟩
        exact ⟨rfl, rfl⟩
    by_cases hb : u < A 0 12 ∧ ¬ B 11 u = 0
    · have hmem : ∃ mm x, Int.tdiv L (B 9 u) = mm ∧ Int.tdiv (B 8 u * mm) G = x ∧ 1 ≤ x ∧ x ≤ 531441 ∧ 1 ≤ B 8 u * mm ∧ B 8 u * mm ≤ 531441 ∧ 1 ≤ G ∧ 1 ≤ B 9 u ∧ B 9 u ≤ 531441 := by
        rcases hI u u0 (by omega) with ⟨h1, h2⟩ | ⟨h1, h2, h3, mm, x, q1, q2, q3, q4, q5, q6, q7, q8, q9, q10⟩
        · omega
        · have a := Int.mul_le_mul q7 q2 (by omega) (by omega)
          have b := Int.mul_le_mul_of_nonneg_left q2 (show 0 ≤ B 9 u by omega)
          refine ⟨mm, x, ?_, ?_, q4, q5, by omega, q10, q6, q8, by omega⟩
          · rw [q1]; exact Int.mul_tdiv_cancel_left _ (by omega)
          · rw [q3]; exact Int.mul_tdiv_cancel_left _ (by omega)
      obtain ⟨mm, x, d1, d2, x1, x2, y1, y2, G1, z1, z2⟩ := hmem
      refine wq_ok srt_Mgroup (fr := []) (cuts := [317, 366]) (J := fun pc st => (pc = 366 ∧ (u < (B 0 12)) ∧ (¬ (B (B 0 18) u) = 0) ∧ st = ([(2, 0), w1, w2, (1, L), (9, 0), (1, G), (9, 0), (0, u), w8, w9, w10], [], pm_upd B (B 0 15) u (Int.tdiv ((B (B 0 15) u) * (Int.tdiv L (B (B 0 16) u))) G))) ∨ (pc = 317 ∧ (u < (B 0 12)) ∧ ((B (B 0 18) u) = 0) ∧ st = ([(2, 0), w1, w2, (1, L), (9, 0), (1, G), (9, 0), (0, u + 1), w8, w9, w10], [], B))) ?_ 31 317 _ ?_
      · rintro pc st (⟨rfl, h0, h1, rfl⟩ | ⟨rfl, h0, h1, rfl⟩)
        · rw [c15, c16, d1, d2]
          exact h366 x _ x1 x2 hb.1 rfl
        · rw [c18] at h1
          exact absurd h1 hb.2
      · refine ⟨oM_0 (by omega) km0 12 rfl, ?_⟩
        refine ⟨fun h0 => ?_, fun h0 => ?_⟩
        · exact absurd h0 (by omega)
        · refine ⟨oM_0 (by omega) km0 18 rfl, ?_⟩
          refine ⟨aM_11 (r := B 0 18) (by rw [c18]; omega) (by rw [c18]; exact kn11) (by omega) (by omega), ?_⟩
          have e1 : B (B 0 18) u = B 11 u := by rw [c18]
          refine ⟨fun h1 => ?_, fun h1 => ?_⟩
          · refine ⟨oM_0 (by omega) km0 15 rfl, ?_⟩
            refine ⟨oM_0 (by omega) km0 15 rfl, ?_⟩
            refine ⟨aM_8 (r := B 0 15) (by rw [c15]; omega) (by rw [c15]; exact kn8) (by omega) (by omega), ?_⟩
            have e2 : B (B 0 15) u = B 8 u := by rw [c15]
            refine ⟨oM_0 (by omega) km0 16 rfl, ?_⟩
            refine ⟨aM_9 (r := B 0 16) (by rw [c16]; omega) (by rw [c16]; exact kn9) (by omega) (by omega), ?_⟩
            have e3 : B (B 0 16) u = B 9 u := by rw [c16]
            refine ⟨⟨by omega, ⟨by omega, by omega⟩, ⟨by omega, by omega⟩, fun _ => by omega⟩, ?_⟩
            refine ⟨(show r64 (B (B 0 15) u * Int.tdiv L (B (B 0 16) u)) by rw [c15, c16, d1]; exact ⟨by omega, by omega⟩), ?_⟩
            refine ⟨(show ¬ G = 0 ∧ r64 (B (B 0 15) u * Int.tdiv L (B (B 0 16) u)) ∧ r64 G ∧ (B (B 0 15) u * Int.tdiv L (B (B 0 16) u) = -9223372036854775808 → ¬ G = -1) by rw [c15, c16, d1]; exact ⟨by omega, ⟨by omega, by omega⟩, ⟨by omega, by omega⟩, fun _ => by omega⟩), ?_⟩
            refine ⟨tM_8 (r := B 0 15) (by rw [c15]; omega) (by rw [c15]; exact kn8) (by omega) (by omega) rfl, ?_⟩
            exact Or.inl (⟨rfl, h0, h1, rfl⟩)
          · refine ⟨⟨by omega, by omega⟩, ?_⟩
            exact Or.inr (⟨rfl, h0, h1, rfl⟩)
    · have hz : u < A 0 12 → B 11 u = 0 := fun h => Classical.byContradiction (fun h2 => hb ⟨h, h2⟩)
      refine wq_ok srt_Mgroup (fr := []) (cuts := [317, 339]) (J := fun pc st => (pc = 339 ∧ (u < (B 0 12)) ∧ (¬ (B (B 0 18) u) = 0) ∧ st = ([(2, 0), w1, w2, (1, L), (9, 0), (1, G), (9, 0), (0, u), w8, w9, w10], [], B)) ∨ (pc = 317 ∧ (u < (B 0 12)) ∧ ((B (B 0 18) u) = 0) ∧ st = ([(2, 0), w1, w2, (1, L), (9, 0), (1, G), (9, 0), (0, u + 1), w8, w9, w10], [], B))) ?_ 17 317 _ ?_
      · rintro pc st (⟨rfl, h0, h1, rfl⟩ | ⟨rfl, h0, h1, rfl⟩)
        · rw [c18] at h1
          exact absurd (hz (by omega)) h1
        · rw [c18] at h1
          refine ih (u + 1) B (by omega) (by omega) (by omega) hF hk (fun k k0 k1 => ?_)
          rcases hI k k0 k1 with ⟨g1, g2⟩ | ⟨g1, g2, g3, g4⟩
          · exact Or.inl ⟨by omega, g2⟩
          · by_cases e : k = u
            · subst e; omega
            · exact Or.inr ⟨by omega, g2, g3, g4⟩
      · refine ⟨oM_0 (by omega) km0 12 rfl, ?_⟩
        refine ⟨fun h0 => ?_, fun h0 => ?_⟩
        · exact hfin (by omega)
        · refine ⟨oM_0 (by omega) km0 18 rfl, ?_⟩
          refine ⟨aM_11 (r := B 0 18) (by rw [c18]; omega) (by rw [c18]; exact kn11) (by omega) (by omega), ?_⟩
          have e1 : B (B 0 18) u = B 11 u := by rw [c18]
          refine ⟨fun h1 => ?_, fun h1 => ?_⟩
          · exact Or.inl (⟨rfl, h0, h1, rfl⟩)
          · refine ⟨⟨by omega, by omega⟩, ?_⟩
            exact Or.inr (⟨rfl, h0, h1, rfl⟩)
def memL (B : pm_A) (p L : Int) : Prop := ∀ i : Int, 0 ≤ i → i ≤ 5 → (B 11 i = 0 ∧ Zs p B i) ∨ (B 11 i = 1 ∧ i < p ∧ ∃ m, L = B 9 i * m ∧ 1 ≤ m ∧ B 8 i * m ≤ 531441 ∧ 1 ≤ B 8 i ∧ 1 ≤ B 9 i)
theorem gp_265 {A B : pm_A} {L : Int} {w1 w2 w8 w9 w10 : pm_V} (hL : 1 ≤ L ∧ L ≤ 531441) (p6 : A 0 12 ≤ 6) (hF : gpF A B) (hk : kpz A B) (hM : memL B (A 0 12) L) : ∀ (m : Nat) (u G : Int), (6 - u).toNat < m → 0 ≤ u → u ≤ 6 → 0 ≤ G → G ≤ 531441 → (∀ i m : Int, 0 ≤ i → i < u → i ≤ 5 → B 11 i = 1 → L = B 9 i * m → G ∣ B 8 i * m) → Tm pmt (an_sh wM) o_X10_group 265 ([(2, 0), w1, w2, (1, L), (9, 0), (1, G), (9, 0), (0, u), w8, w9, w10], [], B) (gp_post A) := by
  have e12 : B 0 12 = A 0 12 := hF.2 0 12 (by omega) (by omega) (by omega)
  have c15 := pM_15 hF.1
  have c16 := pM_16 hF.1
  have c18 := pM_18 hF.1
  intro m
  induction m with
  | zero => intro u G h; omega
  | succ m ih =>
    intro u G hm u0 u1 G0 G1 hG
    have hend : A 0 12 ≤ u → Tm pmt (an_sh wM) o_X10_group 317 ([(2, 0), w1, w2, (1, L), (9, 0), (1, G), (9, 0), (0, 0), w8, w9, w10], [], B) (gp_post A) := fun hu => gp_317 ⟨hL, G0, G1⟩ p6 _ 0 B (Nat.lt_succ_self _) (by omega) (by omega) hF hk (fun i i0 i1 => by
      rcases hM i i0 i1 with ⟨h1, h2⟩ | ⟨h1, h2, mm, q1, q2, q3, q4, q5⟩
      · exact Or.inl ⟨Or.inr h1, h2⟩
      · obtain ⟨x, hx⟩ := hG i mm i0 (by omega) i1 h1 q1
        have a := Int.mul_le_mul q4 q2 (by omega) (by omega)
        have G2 : 1 ≤ G := by
          refine Classical.byContradiction (fun h => ?_)
          rw [show G = 0 by omega, Int.zero_mul] at hx
          omega
        have x1 : 1 ≤ x := by
          refine Classical.byContradiction (fun h => ?_)
          have := Int.mul_le_mul_of_nonneg_left (show x ≤ 0 by omega) G0
          omega
        have := Int.mul_le_mul_of_nonneg_right G2 (show 0 ≤ x by omega)
        exact Or.inr ⟨i0, h2, h1, mm, x, q1, q2, hx, x1, by omega, G2, q4, q5, hL.2, q3⟩)
    by_cases hb : u < A 0 12 ∧ ¬ B 11 u = 0
    · have hmem : ∃ mm, Int.tdiv L (B 9 u) = mm ∧ L = B 9 u * mm ∧ 1 ≤ mm ∧ 1 ≤ B 8 u * mm ∧ B 8 u * mm ≤ 531441 ∧ 1 ≤ B 9 u ∧ B 9 u ≤ 531441 := by
        rcases hM u u0 (by omega) with ⟨h1, h2⟩ | ⟨h1, h2, mm, q1, q2, q3, q4, q5⟩
        · omega
        · have a := Int.mul_le_mul q4 q2 (by omega) (by omega)
          have b := Int.mul_le_mul_of_nonneg_left q2 (show 0 ≤ B 9 u by omega)
          refine ⟨mm, ?_, q1, q2, by omega, q3, q5, by omega⟩
          rw [q1]; exact Int.mul_tdiv_cancel_left _ (by omega)
      obtain ⟨mm, d1, d2, d3, y1, y2, z1, z2⟩ := hmem
      refine wq_ok srt_Mgroup (fr := []) (cuts := [265, 306, 317]) (J := fun pc st => (pc = 317 ∧ ((B 0 12) ≤ u) ∧ st = ([(2, 0), w1, w2, (1, L), (9, 0), (1, G), (9, 0), (0, 0), w8, w9, w10], [], B)) ∨ (pc = 265 ∧ (u < (B 0 12)) ∧ ((B (B 0 18) u) = 0) ∧ st = ([(2, 0), w1, w2, (1, L), (9, 0), (1, G), (9, 0), (0, u + 1), w8, w9, w10], [], B)) ∨ (pc = 306 ∧ st = ([(2, 0), w1, w2, (1, L), (9, 0), (1, G), (9, 0), (0, u), w8, w9, w10], [(1, (Int.gcd (B 8 u * mm) G : Int))], B))) ?_ 26 265 _ ?_
      · rintro pc st (⟨rfl, h0, rfl⟩ | ⟨rfl, h0, h1, rfl⟩ | ⟨rfl, rfl⟩)
        · exact hend (by omega)
        · rw [c18] at h1
          exact absurd h1 hb.2
        · refine wq_ok srt_Mgroup (fr := []) (cuts := [265]) (J := fun pc st => (pc = 265 ∧ st = ([(2, 0), w1, w2, (1, L), (9, 0), (1, (Int.gcd (B 8 u * mm) G : Int)), (9, 0), (0, u + 1), w8, w9, w10], [], B))) ?_ 8 306 _ ?_
          · rintro pc st (⟨rfl, rfl⟩)
            have dv := Int.gcd_dvd_left (B 8 u * mm) G
            have dw := Int.gcd_dvd_right (B 8 u * mm) G
            have g1 := Int.le_of_dvd (by omega) dv
            refine ih (u + 1) _ (by omega) (by omega) (by omega) (by omega) (by omega) (fun i m i0 i1 i2 h1 h2 => ?_)
            by_cases e : i = u
            · subst e
              have : m = mm := Int.eq_of_mul_eq_mul_left (show B 9 i ≠ 0 by omega) (by rw [← h2, ← d2])
              rw [this]; exact dv
            · exact Int.dvd_trans dw (hG i m i0 (by omega) i2 h1 h2)
          · refine ⟨⟨by omega, by omega⟩, ?_⟩
            exact ⟨rfl, rfl⟩
      · refine ⟨oM_0 (by omega) km0 12 rfl, ?_⟩
        refine ⟨fun h0 => ?_, fun h0 => ?_⟩
        · exact Or.inl (⟨rfl, h0, rfl⟩)
        · refine ⟨oM_0 (by omega) km0 18 rfl, ?_⟩
          refine ⟨aM_11 (r := B 0 18) (by rw [c18]; omega) (by rw [c18]; exact kn11) (by omega) (by omega), ?_⟩
          have e1 : B (B 0 18) u = B 11 u := by rw [c18]
          refine ⟨fun h1 => ?_, fun h1 => ?_⟩
          · refine ⟨⟨by omega, by omega⟩, ?_⟩
            exact Or.inr (Or.inl (⟨rfl, h0, h1, rfl⟩))
          · refine ⟨oM_0 (by omega) km0 15 rfl, ?_⟩
            refine ⟨aM_8 (r := B 0 15) (by rw [c15]; omega) (by rw [c15]; exact kn8) (by omega) (by omega), ?_⟩
            have e2 : B (B 0 15) u = B 8 u := by rw [c15]
            refine ⟨oM_0 (by omega) km0 16 rfl, ?_⟩
            refine ⟨aM_9 (r := B 0 16) (by rw [c16]; omega) (by rw [c16]; exact kn9) (by omega) (by omega), ?_⟩
            have e3 : B (B 0 16) u = B 9 u := by rw [c16]
            refine ⟨⟨by omega, ⟨by omega, by omega⟩, ⟨by omega, by omega⟩, fun _ => by omega⟩, ?_⟩
            refine ⟨(show r64 (B (B 0 15) u * Int.tdiv L (B (B 0 16) u)) by rw [c15, c16, d1]; exact ⟨by omega, by omega⟩), ?_⟩
            refine ⟨rfl, ?_⟩
            rw [c15, c16, d1]
            refine (common_ct (an_sh wM) B (a := B 8 u * mm) (b := G) (by omega) G0 (by omega) (by omega)).imp ?_
            rintro r rfl
            exact Or.inr (Or.inr (⟨rfl, rfl⟩))
    · have hz : u < A 0 12 → B 11 u = 0 := fun h => Classical.byContradiction (fun h2 => hb ⟨h, h2⟩)
      refine wq_ok srt_Mgroup (fr := []) (cuts := [265, 284, 317]) (J := fun pc st => (pc = 317 ∧ ((B 0 12) ≤ u) ∧ st = ([(2, 0), w1, w2, (1, L), (9, 0), (1, G), (9, 0), (0, 0), w8, w9, w10], [], B)) ∨ (pc = 265 ∧ (u < (B 0 12)) ∧ ((B (B 0 18) u) = 0) ∧ st = ([(2, 0), w1, w2, (1, L), (9, 0), (1, G), (9, 0), (0, u + 1), w8, w9, w10], [], B)) ∨ (pc = 284 ∧ (u < (B 0 12)) ∧ (¬ (B (B 0 18) u) = 0) ∧ st = ([(2, 0), w1, w2, (1, L), (9, 0), (1, G), (9, 0), (0, u), w8, w9, w10], [], B))) ?_ 16 265 _ ?_
      · rintro pc st (⟨rfl, h0, rfl⟩ | ⟨rfl, h0, h1, rfl⟩ | ⟨rfl, h0, h1, rfl⟩)
        · exact hend (by omega)
        · rw [c18] at h1
          refine ih (u + 1) G (by omega) (by omega) (by omega) G0 G1 (fun i m i0 i1 i2 g1 g2 => ?_)
          by_cases e : i = u
          · subst e; omega
          · exact hG i m i0 (by omega) i2 g1 g2
        · rw [c18] at h1
          exact absurd (hz (by omega)) h1
      · refine ⟨oM_0 (by omega) km0 12 rfl, ?_⟩
        refine ⟨fun h0 => ?_, fun h0 => ?_⟩
        · exact Or.inl (⟨rfl, h0, rfl⟩)
        · refine ⟨oM_0 (by omega) km0 18 rfl, ?_⟩
          refine ⟨aM_11 (r := B 0 18) (by rw [c18]; omega) (by rw [c18]; exact kn11) (by omega) (by omega), ?_⟩
          have e1 : B (B 0 18) u = B 11 u := by rw [c18]
          refine ⟨fun h1 => ?_, fun h1 => ?_⟩
          · refine ⟨⟨by omega, by omega⟩, ?_⟩
            exact Or.inr (Or.inl (⟨rfl, h0, h1, rfl⟩))
          · exact Or.inr (Or.inr (⟨rfl, h0, h1, rfl⟩))
theorem gp_212 {A B : pm_A} {D : Int} {w1 w6 w7 w8 w9 w10 : pm_V} {f : Int} (p6 : A 0 12 ≤ 6) (hF : gpF A B) (hk : kpz A B) (hI : gpI (A 0 12) B D) : ∀ (m : Nat) (u L : Int), (6 - u).toNat < m → 0 ≤ u → u ≤ 6 → 1 ≤ L → L ∣ D → (∀ i : Int, 0 ≤ i → i < u → i ≤ 5 → B 11 i = 1 → B 9 i ∣ L) → Tm pmt (an_sh wM) o_X10_group 212 ([(2, 0), w1, (0, f), (1, L), (9, 0), (0, u), w6, w7, w8, w9, w10], [], B) (gp_post A) := by
  have e12 : B 0 12 = A 0 12 := hF.2 0 12 (by omega) (by omega) (by omega)
  have c16 := pM_16 hF.1
  have c18 := pM_18 hF.1
  have hP := p9_le (cn_b (B 9)).2
  intro m
  induction m with
  | zero => intro u L h; omega
  | succ m ih =>
    intro u L hm u0 u1 L1 hLD hG
    have L2 := Int.le_of_dvd (by have := hI.1; omega) hLD
    have D1 := hI.1
    have hend : A 0 12 ≤ u → Tm pmt (an_sh wM) o_X10_group 265 ([(2, 0), w1, (0, f), (1, L), (9, 0), (1, 0), (9, 0), (0, 0), w8, w9, w10], [], B) (gp_post A) := fun hu => gp_265 ⟨L1, by omega⟩ p6 hF hk (fun i i0 i1 => by
      rcases hI.2 i i0 i1 with h | ⟨h1, h2, c, c1, c2, c3, c4, c5⟩
      · exact Or.inl h
      · obtain ⟨mm, hm⟩ := hG i i0 (by omega) i1 h1
        obtain ⟨e, he⟩ := hLD
        have hce : c = mm * e := Int.eq_of_mul_eq_mul_left (show B 9 i ≠ 0 by omega) (by rw [← c2, he, hm, Int.mul_assoc])
        have m1 : 1 ≤ mm := by
          refine Classical.byContradiction (fun h => ?_)
          have := Int.mul_le_mul_of_nonneg_left (show mm ≤ 0 by omega) (show 0 ≤ B 9 i by omega)
          omega
        have e1 : 1 ≤ e := by
          refine Classical.byContradiction (fun h => ?_)
          have := Int.mul_le_mul_of_nonneg_left (show e ≤ 0 by omega) (show 0 ≤ mm by omega)
          omega
        have hle : mm ≤ c := by
          have := Int.mul_le_mul_of_nonneg_left e1 (show 0 ≤ mm by omega)
          omega
        have := Int.mul_le_mul_of_nonneg_left hle (show 0 ≤ B 8 i by omega)
        exact Or.inr ⟨h1, h2, mm, hm, m1, by omega, c4, c5⟩) _ 0 0 (Nat.lt_succ_self _) (by omega) (by omega) (by omega) (by omega) (fun i m i0 i1 => by omega)
    by_cases hb : u < A 0 12 ∧ ¬ B 11 u = 0
    · have b11 := eM_11 hF.1 (r := 11) (by omega) kn11 u0 (show u < 6 by omega)
      have hbd := hI.bd u0 (by omega) (show B 11 u = 1 by omega)
      have hdv : B 9 u ∣ D := by
        rcases hI.2 u u0 (by omega) with ⟨h1, h2⟩ | ⟨h1, h2, c, c1, c2, c3, c4, c5⟩
        · omega
        · exact ⟨c, c2⟩
      have hl := lcm1 L1 hbd.2.1 hLD hdv
      have hg1 := gcd_pos1 (b := B 9 u) L1
      have hle := Int.le_of_dvd (by omega) hl.1
      have hg2 := Int.le_of_dvd (by omega) (Int.gcd_dvd_left L (B 9 u))
      refine wq_ok srt_Mgroup (fr := []) (cuts := [212, 243, 265]) (J := fun pc st => (pc = 265 ∧ ((B 0 12) ≤ u) ∧ st = ([(2, 0), w1, (0, f), (1, L), (9, 0), (1, 0), (9, 0), (0, 0), w8, w9, w10], [], B)) ∨ (pc = 212 ∧ (u < (B 0 12)) ∧ ((B (B 0 18) u) = 0) ∧ st = ([(2, 0), w1, (0, f), (1, L), (9, 0), (0, u + 1), w6, w7, w8, w9, w10], [], B)) ∨ (pc = 243 ∧ st = ([(2, 0), w1, (0, f), (1, L), (9, 0), (0, u), w6, w7, w8, w9, w10], [(1, (Int.gcd L (B 9 u) : Int)), (1, L)], B))) ?_ 20 212 _ ?_
      · rintro pc st (⟨rfl, h0, rfl⟩ | ⟨rfl, h0, h1, rfl⟩ | ⟨rfl, rfl⟩)
        · exact hend (by omega)
        · rw [c18] at h1
          exact absurd h1 hb.2
        · refine wq_ok srt_Mgroup (fr := []) (cuts := [212]) (J := fun pc st => (pc = 212 ∧ st = ([(2, 0), w1, (0, f), (1, (Int.tdiv L ((Int.gcd L (B 9 u) : Int))) * (B (B 0 16) u)), (9, 0), (0, u + 1), w6, w7, w8, w9, w10], [], B))) ?_ 14 243 _ ?_
          · rintro pc st (⟨rfl, rfl⟩)
            rw [c16]
            refine ih (u + 1) _ (by omega) (by omega) (by omega) hl.2.2.2 hl.1 (fun i i0 i1 i2 h1 => ?_)
            by_cases e : i = u
            · subst e; exact hl.2.2.1
            · exact Int.dvd_trans (hG i i0 (by omega) i2 h1) hl.2.1
          · refine ⟨⟨by omega, ⟨by omega, by omega⟩, ⟨by omega, by omega⟩, fun _ => by omega⟩, ?_⟩
            refine ⟨oM_0 (by omega) km0 16 rfl, ?_⟩
            refine ⟨aM_9 (r := B 0 16) (by rw [c16]; omega) (by rw [c16]; exact kn9) (by omega) (by omega), ?_⟩
            have e1 : B (B 0 16) u = B 9 u := by rw [c16]
            refine ⟨(show r64 (Int.tdiv L (Int.gcd L (B 9 u) : Int) * B (B 0 16) u) by rw [c16]; exact ⟨by omega, by omega⟩), ?_⟩
            refine ⟨⟨by omega, by omega⟩, ?_⟩
            exact ⟨rfl, rfl⟩
      · refine ⟨oM_0 (by omega) km0 12 rfl, ?_⟩
        refine ⟨fun h0 => ?_, fun h0 => ?_⟩
        · exact Or.inl (⟨rfl, h0, rfl⟩)
        · refine ⟨oM_0 (by omega) km0 18 rfl, ?_⟩
          refine ⟨aM_11 (r := B 0 18) (by rw [c18]; omega) (by rw [c18]; exact kn11) (by omega) (by omega), ?_⟩
          have e1 : B (B 0 18) u = B 11 u := by rw [c18]
          refine ⟨fun h1 => ?_, fun h1 => ?_⟩
          · refine ⟨⟨by omega, by omega⟩, ?_⟩
            exact Or.inr (Or.inl (⟨rfl, h0, h1, rfl⟩))
          · refine ⟨oM_0 (by omega) km0 16 rfl, ?_⟩
            refine ⟨aM_9 (r := B 0 16) (by rw [c16]; omega) (by rw [c16]; exact kn9) (by omega) (by omega), ?_⟩
            have e2 : B (B 0 16) u = B 9 u := by rw [c16]
            refine ⟨rfl, ?_⟩
            rw [c16]
            refine (common_ct (an_sh wM) B (a := L) (b := B 9 u) (by omega) (by omega) (by omega) (by omega)).imp ?_
            rintro r rfl
            exact Or.inr (Or.inr (⟨rfl, rfl⟩))
    · have hz : u < A 0 12 → B 11 u = 0 := fun h => Classical.byContradiction (fun h2 => hb ⟨h, h2⟩)
      refine wq_ok srt_Mgroup (fr := []) (cuts := [212, 231, 265]) (J := fun pc st => (pc = 265 ∧ ((B 0 12) ≤ u) ∧ st = ([(2, 0), w1, (0, f), (1, L), (9, 0), (1, 0), (9, 0), (0, 0), w8, w9, w10], [], B)) ∨ (pc = 212 ∧ (u < (B 0 12)) ∧ ((B (B 0 18) u) = 0) ∧ st = ([(2, 0), w1, (0, f), (1, L), (9, 0), (0, u + 1), w6, w7, w8, w9, w10], [], B)) ∨ (pc = 231 ∧ (u < (B 0 12)) ∧ (¬ (B (B 0 18) u) = 0) ∧ st = ([(2, 0), w1, (0, f), (1, L), (9, 0), (0, u), w6, w7, w8, w9, w10], [], B))) ?_ 16 212 _ ?_
      · rintro pc st (⟨rfl, h0, rfl⟩ | ⟨rfl, h0, h1, rfl⟩ | ⟨rfl, h0, h1, rfl⟩)
        · exact hend (by omega)
        · rw [c18] at h1
          refine ih (u + 1) L (by omega) (by omega) (by omega) L1 hLD (fun i i0 i1 i2 g1 => ?_)
          by_cases e : i = u
          · subst e; omega
          · exact hG i i0 (by omega) i2 g1
        · rw [c18] at h1
          exact absurd (hz (by omega)) h1
      · refine ⟨oM_0 (by omega) km0 12 rfl, ?_⟩
        refine ⟨fun h0 => ?_, fun h0 => ?_⟩
        · exact Or.inl (⟨rfl, h0, rfl⟩)
        · refine ⟨oM_0 (by omega) km0 18 rfl, ?_⟩
          refine ⟨aM_11 (r := B 0 18) (by rw [c18]; omega) (by rw [c18]; exact kn11) (by omega) (by omega), ?_⟩
          have e1 : B (B 0 18) u = B 11 u := by rw [c18]
          refine ⟨fun h1 => ?_, fun h1 => ?_⟩
          · refine ⟨⟨by omega, by omega⟩, ?_⟩
            exact Or.inr (Or.inl (⟨rfl, h0, h1, rfl⟩))
          · exact Or.inr (Or.inr (⟨rfl, h0, h1, rfl⟩))
theorem gp_156 {A B : pm_A} {r f i j t t' a b : Int} {w9 w10 : pm_V} (p6 : A 0 12 ≤ 6) (hG : GI A B) (i0 : 0 ≤ i) (i1 : i ≤ 5) (hi : B 11 i = 1) (j0 : 0 ≤ j) (j1 : j < A 0 12) (hj : B 9 j = 0) (t1 : 1 ≤ t ∧ t ≤ 9) (t2 : 1 ≤ t' ∧ t' ≤ 9) (ha : a = B 8 i * t) (hb : b = B 9 i * t') (H : ∀ C w5 w6 w7 w8 w9 w10, GI A C → cn (C 9) = cn (B 9) + 1 → Tm pmt (an_sh wM) o_X10_group 192 ([(2, 0), (0, r), (0, 1), (0, i), (0, j), w5, w6, w7, w8, w9, w10], [], C) (gp_post A)) : Tm pmt (an_sh wM) o_X10_group 156 ([(2, 0), (0, r), (0, f), (0, i), (0, j), (1, a), (9, 0), (1, b), (9, 0), w9, w10], [(1, (Int.gcd a b : Int))], B) (gp_post A) := by
  obtain ⟨hF, ⟨D, hI⟩, hk⟩ := hG
  have hbd := hI.bd i0 i1 hi
  have ma := mulb hbd.1.1 hbd.1.2 t1.1 t1.2
  have mb := mulb hbd.2.1 hbd.2.2 t2.1 t2.2
  rw [← ha] at ma
  rw [← hb] at mb
  obtain ⟨u, v, hu, hv, e1, e2, u1, v1, u2, v2⟩ := red1 ma.1 mb.1
  have g1 := gcd_pos1 (b := b) ma.1
  have g2 := Int.le_of_dvd (by omega) (Int.gcd_dvd_left a b)
  revert hu hv e1 e2 g1 g2
  generalize (Int.gcd a b : Int) = g
  intro hu hv e1 e2 g1 g2
  have c15 := pM_15 hF.1
  have c16 : pm_upd B (B 0 15) j (Int.tdiv a g) 0 16 = 9 := by rw [c15, upd_o (by omega)]; exact pM_16 hF.1
  have c18 : pm_upd (pm_upd B (B 0 15) j (Int.tdiv a g)) (pm_upd B (B 0 15) j (Int.tdiv a g) 0 16) j (Int.tdiv b g) 0 18 = 11 := by rw [c16, c15, upd_o (by omega), upd_o (by omega)]; exact pM_18 hF.1
  refine wq_ok srt_Mgroup (fr := []) (cuts := [192]) (J := fun pc st => (pc = 192 ∧ st = ([(2, 0), (0, r), (0, 1), (0, i), (0, j), (1, a), (9, 0), (1, b), (9, 0), (1, g), (9, 0)], [], pm_upd (pm_upd (pm_upd B (B 0 15) j (Int.tdiv a g)) ((pm_upd B (B 0 15) j (Int.tdiv a g)) 0 16) j (Int.tdiv b g)) ((pm_upd (pm_upd B (B 0 15) j (Int.tdiv a g)) ((pm_upd B (B 0 15) j (Int.tdiv a g)) 0 16) j (Int.tdiv b g)) 0 18) j 1))) ?_ 27 156 _ ?_
  · rintro pc st (⟨rfl, rfl⟩)
    rw [c18, c16, c15, hu, hv]
    have hFC : gpF A (pm_upd (pm_upd (pm_upd B 8 j u) 9 j v) 11 j 1) := gpF.u11 (gpF.u9 (hF.u8 (by omega) (by omega)) (by omega) (by omega)) (by omega) (by omega)
    have st := hI.step (C := pm_upd (pm_upd (pm_upd B 8 j u) 9 j v) 11 j 1) (t := t) (t' := t') (g := g) (u := u) (v := v) i0 i1 hi j0 j1 p6 hj t1 t2 (by rw [← ha, ← e1]) (by rw [← hb, ← e2]) g1 u1 v1 (fun k hk => by rw [upd_o (by omega), upd_o (by omega), upd_o (by omega)]) (fun k hk => by rw [upd_o (by omega), upd_o (by omega), upd_o (by omega)]) (fun k hk => by rw [upd_o (by omega), upd_o (by omega), upd_o (by omega)]) (by rw [upd_o (by omega), upd_o (by omega), upd_at]) (by rw [upd_o (by omega), upd_at]) upd_at
    refine H _ _ _ _ _ _ _ ⟨hFC, ⟨_, st.1⟩, fun k hk1 => ?_⟩ st.2
    by_cases e : k = j
    · rw [e, upd_o (by omega), upd_at]; omega
    · rw [upd_o (by omega), upd_o (by omega), upd_o (by omega)]; exact hk k hk1
  · refine ⟨oM_0 (by omega) km0 15 rfl, ?_⟩
    refine ⟨⟨by omega, ⟨by omega, by omega⟩, ⟨by omega, by omega⟩, fun _ => by omega⟩, ?_⟩
    refine ⟨tM_8 (r := B 0 15) (by rw [c15]; omega) (by rw [c15]; exact kn8) (by omega) (by omega) rfl, ?_⟩
    refine ⟨oM_0 (by omega) km0 16 rfl, ?_⟩
    refine ⟨⟨by omega, ⟨by omega, by omega⟩, ⟨by omega, by omega⟩, fun _ => by omega⟩, ?_⟩
    refine ⟨tM_9 (r := (pm_upd B (B 0 15) j (Int.tdiv a g)) 0 16) (by rw [c16]; omega) (by rw [c16]; exact kn9) (by omega) (by omega) rfl, ?_⟩
    refine ⟨oM_0 (by omega) km0 18 rfl, ?_⟩
    refine ⟨tM_11 (r := (pm_upd (pm_upd B (B 0 15) j (Int.tdiv a g)) ((pm_upd B (B 0 15) j (Int.tdiv a g)) 0 16) j (Int.tdiv b g)) 0 18) (by rw [c18]; omega) (by rw [c18]; exact kn11) (by omega) (by omega) rfl, ?_⟩
    exact ⟨rfl, rfl⟩
theorem gp_145 {A B : pm_A} {r f i j t t' a low : Int} {w7 w8 w9 w10 : pm_V} (p6 : A 0 12 ≤ 6) (hG : GI A B) (i0 : 0 ≤ i) (i1 : i ≤ 5) (hi : B 11 i = 1) (j0 : 0 ≤ j) (j1 : j < A 0 12) (hj : B 9 j = 0) (t1 : 1 ≤ t ∧ t ≤ 9) (t2 : 1 ≤ t' ∧ t' ≤ 9) (ha : a = B 8 i * t) (hl : low = B 9 i) (H : ∀ C w5 w6 w7 w8 w9 w10, GI A C → cn (C 9) = cn (B 9) + 1 → Tm pmt (an_sh wM) o_X10_group 192 ([(2, 0), (0, r), (0, 1), (0, i), (0, j), w5, w6, w7, w8, w9, w10], [], C) (gp_post A)) : Tm pmt (an_sh wM) o_X10_group 145 ([(2, 0), (0, r), (0, f), (0, i), (0, j), (1, a), (9, 0), w7, w8, w9, w10], [(0, t'), (1, low)], B) (gp_post A) := by
  obtain ⟨D, hI⟩ := hG.2.1
  have hbd := hI.bd i0 i1 hi
  have ma := mulb hbd.1.1 hbd.1.2 t1.1 t1.2
  have mb := mulb hbd.2.1 hbd.2.2 t2.1 t2.2
  rw [← ha] at ma
  rw [← hl] at mb
  refine wq_ok srt_Mgroup (fr := []) (cuts := [156]) (J := fun pc st => (pc = 156 ∧ st = ([(2, 0), (0, r), (0, f), (0, i), (0, j), (1, a), (9, 0), (1, low * t'), (9, 0), w9, w10], [(1, (Int.gcd a (low * t') : Int))], B))) ?_ 10 145 _ ?_
  · rintro pc st (⟨rfl, rfl⟩)
    exact gp_156 p6 hG i0 i1 hi j0 j1 hj t1 t2 ha (by rw [hl]) H
  · refine ⟨⟨by omega, by omega⟩, ?_⟩
    refine ⟨rfl, ?_⟩
    refine (common_ct (an_sh wM) B (a := a) (b := low * t') (by omega) (by omega) (by omega) (by omega)).imp ?_
    rintro r rfl
    exact ⟨rfl, rfl⟩
def tz (A : pm_A) : Prop := (∀ j : Int, 0 ≤ j → j < 72 → -9 ≤ A 7 j ∧ A 7 j ≤ 9) ∧ ∀ i j : Int, 0 ≤ i → i < A 0 12 → 0 ≤ j → j < A 0 12 → A 7 (6 * i + j) = 0 → A 7 (6 * j + i) = 0
theorem gp_120 {A B : pm_A} {r f i j t up : Int} {w5 w6 w7 w8 w9 w10 : pm_V} (hT : tz A) (p6 : A 0 12 ≤ 6) (hG : GI A B) (i0 : 0 ≤ i) (i1 : i < A 0 12) (hi : B 11 i = 1) (j0 : 0 ≤ j) (j1 : j < A 0 12) (hj : B 9 j = 0) (hne : ¬ A 7 (6 * j + i) = 0) (t1 : 1 ≤ t ∧ t ≤ 9) (ha : up = B 8 i) (H : ∀ C w5 w6 w7 w8 w9 w10, GI A C → cn (C 9) = cn (B 9) + 1 → Tm pmt (an_sh wM) o_X10_group 192 ([(2, 0), (0, r), (0, 1), (0, i), (0, j), w5, w6, w7, w8, w9, w10], [], C) (gp_post A)) : Tm pmt (an_sh wM) o_X10_group 120 ([(2, 0), (0, r), (0, f), (0, i), (0, j), w5, w6, w7, w8, w9, w10], [(0, t), (1, up)], B) (gp_post A) := by
  obtain ⟨D, hI⟩ := hG.2.1
  have hF := hG.1
  have hbd := hI.bd i0 (by omega) hi
  have ma := mulb hbd.1.1 hbd.1.2 t1.1 t1.2
  rw [← ha] at ma
  have c14 := pM_14 hF.1
  have c16 := pM_16 hF.1
  have h9 := hT.1 (6 * j + i) (by omega) (by omega)
  have e7 : B 7 (6 * j + i) = A 7 (6 * j + i) := hF.2 7 _ (by omega) (by omega) (by omega)
  refine wq_ok srt_Mgroup (fr := []) (cuts := [145]) (J := fun pc st => (pc = 145 ∧ ∃ t' : Int, (1 ≤ t' ∧ t' ≤ 9) ∧ st = ([(2, 0), (0, r), (0, f), (0, i), (0, j), (1, up * t), (9, 0), w7, w8, w9, w10], [(0, t'), (1, B (B 0 16) i)], B))) ?_ 20 120 _ ?_
  · rintro pc st (⟨rfl, t', t2, rfl⟩)
    exact gp_145 p6 hG i0 (by omega) hi j0 j1 hj t1 t2 (by rw [ha]) (by rw [c16]) H
  · refine ⟨⟨by omega, by omega⟩, ?_⟩
    refine ⟨oM_0 (by omega) km0 16 rfl, ?_⟩
    refine ⟨aM_9 (r := B 0 16) (by rw [c16]; omega) (by rw [c16]; exact kn9) (by omega) (by omega), ?_⟩
    have e1 : B (B 0 16) i = B 9 i := by rw [c16]
    refine ⟨oM_0 (by omega) km0 14 rfl, ?_⟩
    refine ⟨⟨by omega, by omega⟩, ?_⟩
    refine ⟨⟨by omega, by omega⟩, ?_⟩
    refine ⟨aM_7 (r := B 0 14) (by rw [c14]; omega) (by rw [c14]; exact kn7) (by omega) (by omega), ?_⟩
    have e2 : B (B 0 14) ((6 * j) + i) = B 7 ((6 * j) + i) := by rw [c14]
    refine ⟨rfl, ?_⟩
    rw [c14, e7]
    refine (without_ex (a := A 7 (6 * j + i)) (by omega) (by omega)).imp ?_
    rintro ⟨r1, C⟩ ⟨q1, q2⟩
    simp only at q1 q2
    subst q1
    subst q2
    exact ⟨rfl, _, ⟨by split <;> omega, by split <;> omega⟩, rfl⟩
theorem gp_51 {A : pm_A} {r i n0 : Int} (hT : tz A) (p6 : A 0 12 ≤ 6) (i0 : 0 ≤ i) (i1 : i < A 0 12) (H : ∀ f C w4 w5 w6 w7 w8 w9 w10, GI A C → n0 ≤ cn (C 9) → (¬ f = 0 → n0 < cn (C 9)) → Tm pmt (an_sh wM) o_X10_group 198 ([(2, 0), (0, r), (0, f), (0, i), w4, w5, w6, w7, w8, w9, w10], [], C) (gp_post A)) : ∀ (m : Nat) (j f : Int) (w5 w6 w7 w8 w9 w10 : pm_V) (B : pm_A), (6 - j).toNat < m → 0 ≤ j → j ≤ 6 → GI A B → n0 ≤ cn (B 9) → (¬ f = 0 → n0 < cn (B 9)) → Tm pmt (an_sh wM) o_X10_group 51 ([(2, 0), (0, r), (0, f), (0, i), (0, j), w5, w6, w7, w8, w9, w10], [], B) (gp_post A) := by
  intro m
  induction m with
  | zero => intro j f w5 w6 w7 w8 w9 w10 B h; omega
  | succ m ih =>
    intro j f w5 w6 w7 w8 w9 w10 B hm j0 j1 hG hn hf
    have hF := hG.1
    have e12 : B 0 12 = A 0 12 := hF.2 0 12 (by omega) (by omega) (by omega)
    have c14 := pM_14 hF.1
    have c15 := pM_15 hF.1
    have c16 := pM_16 hF.1
    have c18 := pM_18 hF.1
    have b11 := eM_11 hF.1 (r := 11) (by omega) kn11 i0 (show i < 6 by omega)
    have e7 : ∀ x, B 7 x = A 7 x := fun x => hF.2 7 _ (by omega) (by omega) (by omega)
    have h192 : j < A 0 12 → ∀ f C w5 w6 w7 w8 w9 w10, GI A C → n0 ≤ cn (C 9) → (¬ f = 0 → n0 < cn (C 9)) → Tm pmt (an_sh wM) o_X10_group 192 ([(2, 0), (0, r), (0, f), (0, i), (0, j), w5, w6, w7, w8, w9, w10], [], C) (gp_post A) := fun hj f C w5 w6 w7 w8 w9 w10 hC hC1 hC2 => by
      refine wq_ok srt_Mgroup (fr := []) (cuts := [51]) (J := fun pc st => (pc = 51 ∧ st = ([(2, 0), (0, r), (0, f), (0, i), (0, j + 1), w5, w6, w7, w8, w9, w10], [], C))) ?_ 7 192 _ ?_
      · rintro pc st (⟨rfl, rfl⟩)
        exact ih (j + 1) f _ _ _ _ _ _ C (by omega) (by omega) (by omega) hC hC1 hC2
      · refine ⟨⟨by omega, by omega⟩, ?_⟩
        exact ⟨rfl, rfl⟩
    refine wq_ok srt_Mgroup (fr := []) (cuts := [120, 192, 198]) (J := fun pc st => (pc = 198 ∧ ((B 0 12) ≤ j) ∧ st = ([(2, 0), (0, r), (0, f), (0, i), (0, j), w5, w6, w7, w8, w9, w10], [], B)) ∨ (pc = 192 ∧ (j < (B 0 12)) ∧ ((B (B 0 18) i) = 0) ∧ st = ([(2, 0), (0, r), (0, f), (0, i), (0, j), w5, w6, w7, w8, w9, w10], [], B)) ∨ (pc = 192 ∧ (j < (B 0 12)) ∧ (¬ (B (B 0 18) i) = 0) ∧ (0 < (B (B 0 16) j)) ∧ st = ([(2, 0), (0, r), (0, f), (0, i), (0, j), w5, w6, w7, w8, w9, w10], [], B)) ∨ (pc = 120 ∧ j < A 0 12 ∧ B 11 i = 1 ∧ B 9 j = 0 ∧ ¬ A 7 (6 * j + i) = 0 ∧ ∃ t : Int, (1 ≤ t ∧ t ≤ 9) ∧ st = ([(2, 0), (0, r), (0, f), (0, i), (0, j), w5, w6, w7, w8, w9, w10], [(0, t), (1, B (B 0 15) i)], B)) ∨ (pc = 192 ∧ (j < (B 0 12)) ∧ (¬ (B (B 0 18) i) = 0) ∧ ((B (B 0 16) j) = 0) ∧ ((B (B 0 14) ((6 * i) + j)) = 0) ∧ st = ([(2, 0), (0, r), (0, f), (0, i), (0, j), w5, w6, w7, w8, w9, w10], [], B)) ∨ (pc = 192 ∧ (j < (B 0 12)) ∧ (¬ (B (B 0 18) i) = 0) ∧ ((B (B 0 16) j) < 0) ∧ st = ([(2, 0), (0, r), (0, f), (0, i), (0, j), w5, w6, w7, w8, w9, w10], [], B))) ?_ 42 51 _ ?_
    · rintro pc st (⟨rfl, h0, rfl⟩ | ⟨rfl, h0, h1, rfl⟩ | ⟨rfl, h0, h1, h2, rfl⟩ | ⟨rfl, g1, g2, g3, g4, t, t1, rfl⟩ | ⟨rfl, h0, h1, h2, h3, rfl⟩ | ⟨rfl, h0, h1, h2, rfl⟩)
      · exact H f B _ _ _ _ _ _ _ hG hn hf
      · exact h192 (by omega) f B _ _ _ _ _ _ hG hn hf
      · exact h192 (by omega) f B _ _ _ _ _ _ hG hn hf
      · exact gp_120 hT p6 hG i0 i1 g2 j0 g1 g3 g4 t1 (by rw [c15]) (fun C w5 w6 w7 w8 w9 w10 q1 q2 => h192 g1 1 C _ _ _ _ _ _ q1 (by omega) (fun _ => by omega))
      · exact h192 (by omega) f B _ _ _ _ _ _ hG hn hf
      · exact h192 (by omega) f B _ _ _ _ _ _ hG hn hf
    · refine ⟨oM_0 (by omega) km0 12 rfl, ?_⟩
      refine ⟨fun h0 => ?_, fun h0 => ?_⟩
      · exact Or.inl (⟨rfl, h0, rfl⟩)
      · refine ⟨oM_0 (by omega) km0 18 rfl, ?_⟩
        refine ⟨aM_11 (r := B 0 18) (by rw [c18]; omega) (by rw [c18]; exact kn11) (by omega) (by omega), ?_⟩
        have e1 : B (B 0 18) i = B 11 i := by rw [c18]
        refine ⟨fun h1 => ?_, fun h1 => ?_⟩
        · exact Or.inr (Or.inl (⟨rfl, h0, h1, rfl⟩))
        · refine ⟨oM_0 (by omega) km0 16 rfl, ?_⟩
          refine ⟨aM_9 (r := B 0 16) (by rw [c16]; omega) (by rw [c16]; exact kn9) (by omega) (by omega), ?_⟩
          have e2 : B (B 0 16) j = B 9 j := by rw [c16]
          refine ⟨fun h2 => ?_, fun h2 => ?_, fun h2 => ?_⟩
          · refine ⟨fun _ => ?_, fun hh => absurd hh (by decide)⟩
            exact Or.inr (Or.inr (Or.inl (⟨rfl, h0, h1, h2, rfl⟩)))
          · refine ⟨fun hh => absurd hh (by decide), fun _ => ?_⟩
            refine ⟨oM_0 (by omega) km0 14 rfl, ?_⟩
            refine ⟨⟨by omega, by omega⟩, ?_⟩
            refine ⟨⟨by omega, by omega⟩, ?_⟩
            refine ⟨aM_7 (r := B 0 14) (by rw [c14]; omega) (by rw [c14]; exact kn7) (by omega) (by omega), ?_⟩
            have e3 : B (B 0 14) ((6 * i) + j) = B 7 ((6 * i) + j) := by rw [c14]
            refine ⟨fun h3 => ?_, fun h3 => ?_⟩
            · refine ⟨oM_0 (by omega) km0 15 rfl, ?_⟩
              refine ⟨aM_8 (r := B 0 15) (by rw [c15]; omega) (by rw [c15]; exact kn8) (by omega) (by omega), ?_⟩
              have e4 : B (B 0 15) i = B 8 i := by rw [c15]
              refine ⟨oM_0 (by omega) km0 14 rfl, ?_⟩
              refine ⟨⟨by omega, by omega⟩, ?_⟩
              refine ⟨⟨by omega, by omega⟩, ?_⟩
              refine ⟨aM_7 (r := B 0 14) (by rw [c14]; omega) (by rw [c14]; exact kn7) (by omega) (by omega), ?_⟩
              have e5 : B (B 0 14) ((6 * i) + j) = B 7 ((6 * i) + j) := by rw [c14]
              refine ⟨rfl, ?_⟩
              rw [c14, e7] at h3
              rw [c16] at h2
              rw [c18] at h1
              have h9 := hT.1 (6 * i + j) (by omega) (by omega)
              have hn7 : ¬ A 7 (6 * j + i) = 0 := fun e => h3 (hT.2 j i j0 (by omega) i0 i1 e)
              rw [c14, e7]
              refine (without_ex (a := A 7 (6 * i + j)) (by omega) (by omega)).imp ?_
              rintro ⟨r1, C⟩ ⟨q1, q2⟩
              simp only at q1 q2
              subst q1
              subst q2
              exact Or.inr (Or.inr (Or.inr (Or.inl (⟨rfl, by omega, by omega, h2, hn7, _, ⟨by split <;> omega, by split <;> omega⟩, rfl⟩))))
            · exact Or.inr (Or.inr (Or.inr (Or.inr (Or.inl (⟨rfl, h0, h1, h2, h3, rfl⟩)))))
          · refine ⟨fun _ => ?_, fun hh => absurd hh (by decide)⟩
            exact Or.inr (Or.inr (Or.inr (Or.inr (Or.inr (⟨rfl, h0, h1, h2, rfl⟩)))))
theorem gp_40 {A : pm_A} {r n0 : Int} (hT : tz A) (p6 : A 0 12 ≤ 6) (H : ∀ f C w3 w4 w5 w6 w7 w8 w9 w10, GI A C → n0 ≤ cn (C 9) → (¬ f = 0 → n0 < cn (C 9)) → Tm pmt (an_sh wM) o_X10_group 32 ([(2, 0), (0, r), (0, f), w3, w4, w5, w6, w7, w8, w9, w10], [], C) (gp_post A)) : ∀ (m : Nat) (i f : Int) (w4 w5 w6 w7 w8 w9 w10 : pm_V) (B : pm_A), (6 - i).toNat < m → 0 ≤ i → i ≤ 6 → GI A B → n0 ≤ cn (B 9) → (¬ f = 0 → n0 < cn (B 9)) → Tm pmt (an_sh wM) o_X10_group 40 ([(2, 0), (0, r), (0, f), (0, i), w4, w5, w6, w7, w8, w9, w10], [], B) (gp_post A) := by
  intro m
  induction m with
  | zero => intro i f w4 w5 w6 w7 w8 w9 w10 B h; omega
  | succ m ih =>
    intro i f w4 w5 w6 w7 w8 w9 w10 B hm i0 i1 hG hn hf
    have hF := hG.1
    have e12 : B 0 12 = A 0 12 := hF.2 0 12 (by omega) (by omega) (by omega)
    have h198 : i < A 0 12 → ∀ f C w4 w5 w6 w7 w8 w9 w10, GI A C → n0 ≤ cn (C 9) → (¬ f = 0 → n0 < cn (C 9)) → Tm pmt (an_sh wM) o_X10_group 198 ([(2, 0), (0, r), (0, f), (0, i), w4, w5, w6, w7, w8, w9, w10], [], C) (gp_post A) := fun hi f C w4 w5 w6 w7 w8 w9 w10 hC hC1 hC2 => by
      refine wq_ok srt_Mgroup (fr := []) (cuts := [40]) (J := fun pc st => (pc = 40 ∧ st = ([(2, 0), (0, r), (0, f), (0, i + 1), w4, w5, w6, w7, w8, w9, w10], [], C))) ?_ 7 198 _ ?_
      · rintro pc st (⟨rfl, rfl⟩)
        exact ih (i + 1) f _ _ _ _ _ _ _ C (by omega) (by omega) (by omega) hC hC1 hC2
      · refine ⟨⟨by omega, by omega⟩, ?_⟩
        exact ⟨rfl, rfl⟩
    refine wq_ok srt_Mgroup (fr := []) (cuts := [32, 51]) (J := fun pc st => (pc = 32 ∧ ((B 0 12) ≤ i) ∧ st = ([(2, 0), (0, r), (0, f), (0, i), w4, w5, w6, w7, w8, w9, w10], [], B)) ∨ (pc = 51 ∧ (i < (B 0 12)) ∧ st = ([(2, 0), (0, r), (0, f), (0, i), (0, 0), w5, w6, w7, w8, w9, w10], [], B))) ?_ 11 40 _ ?_
    · rintro pc st (⟨rfl, h0, rfl⟩ | ⟨rfl, h0, rfl⟩)
      · exact H f B _ _ _ _ _ _ _ _ hG hn hf
      · exact gp_51 hT p6 i0 (by omega) (h198 (by omega)) _ 0 f _ _ _ _ _ _ B (Nat.lt_succ_self _) (by omega) (by omega) hG hn hf
    · refine ⟨oM_0 (by omega) km0 12 rfl, ?_⟩
      refine ⟨fun h0 => ?_, fun h0 => ?_⟩
      · exact Or.inl (⟨rfl, h0, rfl⟩)
      · exact Or.inr (⟨rfl, h0, rfl⟩)
theorem gp_32 {A : pm_A} {r : Int} (hT : tz A) (p6 : A 0 12 ≤ 6) : ∀ (m : Nat) (f n0 : Int) (w3 w4 w5 w6 w7 w8 w9 w10 : pm_V) (B : pm_A), (6 - n0).toNat < m → GI A B → n0 ≤ 6 → n0 ≤ cn (B 9) → (¬ f = 0 → n0 < cn (B 9)) → Tm pmt (an_sh wM) o_X10_group 32 ([(2, 0), (0, r), (0, f), w3, w4, w5, w6, w7, w8, w9, w10], [], B) (gp_post A) := by
  intro m
  induction m with
  | zero => intro f n0 w3 w4 w5 w6 w7 w8 w9 w10 B h; omega
  | succ m ih =>
    intro f n0 w3 w4 w5 w6 w7 w8 w9 w10 B hm hG hn hn1 hf
    have hb := cn_b (B 9)
    refine wq_ok srt_Mgroup (fr := []) (cuts := [40, 212]) (J := fun pc st => (pc = 212 ∧ (f = 0) ∧ st = ([(2, 0), (0, r), (0, f), (1, 1), (9, 0), (0, 0), w6, w7, w8, w9, w10], [], B)) ∨ (pc = 40 ∧ (¬ f = 0) ∧ st = ([(2, 0), (0, r), (0, 0), (0, 0), w4, w5, w6, w7, w8, w9, w10], [], B))) ?_ 11 32 _ ?_
    · rintro pc st (⟨rfl, h0, rfl⟩ | ⟨rfl, h0, rfl⟩)
      · obtain ⟨hF, ⟨D, hI⟩, hk⟩ := hG
        exact gp_212 p6 hF hk hI _ 0 1 (Nat.lt_succ_self _) (by omega) (by omega) (by omega) (Int.one_dvd D) (fun i i0 i1 => by omega)
      · have hc := hf h0
        exact gp_40 (n0 := cn (B 9)) hT p6 (fun f C w3 w4 w5 w6 w7 w8 w9 w10 q1 q2 q3 => ih f (cn (B 9)) _ _ _ _ _ _ _ _ C (by omega) q1 (by omega) q2 q3) _ 0 0 _ _ _ _ _ _ _ B (Nat.lt_succ_self _) (by omega) (by omega) hG (Int.le_refl _) (fun e => absurd rfl e)
    · refine ⟨fun h0 => ?_, fun h0 => ?_⟩
      · exact Or.inl (⟨rfl, h0, rfl⟩)
      · exact Or.inr (⟨rfl, h0, rfl⟩)
theorem gp_2 {A : pm_A} {r : Int} (hT : tz A) (p6 : A 0 12 ≤ 6) (r0 : 0 ≤ r) (r1 : r < A 0 12) (hZ : ∀ i : Int, 0 ≤ i → i ≤ 5 → Zs (A 0 12) A i) (hr : A 9 r = 1) (hr8 : A 8 r = 1) : ∀ (m : Nat) (i : Int) (w3 w4 w5 w6 w7 w8 w9 w10 : pm_V) (B : pm_A), (6 - i).toNat < m → 0 ≤ i → i ≤ 6 → gH wM B → (∀ q j, q ≠ 11 → B q j = A q j) → (∀ k : Int, 0 ≤ k → k < i → B 11 k = if k = r then 1 else 0) → Tm pmt (an_sh wM) o_X10_group 2 ([(2, 0), (0, r), (0, i), w3, w4, w5, w6, w7, w8, w9, w10], [], B) (gp_post A) := by
  intro m
  induction m with
  | zero => intro i w3 w4 w5 w6 w7 w8 w9 w10 B h; omega
  | succ m ih =>
    intro i w3 w4 w5 w6 w7 w8 w9 w10 B hm i0 i1 hB he hI
    have c18 := pM_18 hB
    have go : i < 6 → ∀ x, x = (if i = r then (1 : Int) else 0) → Tm pmt (an_sh wM) o_X10_group 2 ([(2, 0), (0, r), (0, i + 1), w3, w4, w5, w6, w7, w8, w9, w10], [], pm_upd B 11 i x) (gp_post A) := fun hi x hx => by
      refine ih (i + 1) _ _ _ _ _ _ _ _ _ (by omega) (by omega) (by omega) (uM_11 hB kn11 (by rw [hx]; split <;> omega) (by rw [hx]; split <;> omega)) (fun q j hq => by rw [upd_o (by omega)]; exact he q j hq) (fun k k0 k1 => ?_)
      by_cases e : k = i
      · rw [e, upd_at, hx]
      · rw [upd_o (by omega)]; exact hI k k0 (by omega)
    have hend : 6 ≤ i → GI A B := fun hi => by
      have e9 : B 9 = A 9 := funext fun j => he 9 j (by omega)
      have hq := p9_pos (cn (B 9))
      refine ⟨⟨hB, fun q j h1 h2 h3 => he q j h3⟩, ⟨1, ⟨by omega, hq⟩, fun k k0 k1 => ?_⟩, fun k hk => by rw [e9]; exact hk⟩
      have h11 := hI k k0 (by omega)
      have hz := hZ k k0 k1
      by_cases e : k = r
      · rw [if_pos e] at h11
        refine Or.inr ⟨h11, by omega, 1, by omega, ?_, ?_, ?_, ?_⟩
        · rw [e9, e, hr]; rfl
        · rw [he 8 k (by omega)]
          rw [e, hr8]; omega
        · rw [he 8 k (by omega)]
          rcases hz with hz | hz | hz
          · omega
          · rw [e] at hz; omega
          · exact hz.2.1
        · rw [e9, e, hr]; omega
      · rw [if_neg e] at h11
        refine Or.inl ⟨h11, ?_⟩
        unfold Zs; rw [e9, he 8 k (by omega)]; exact hz
    refine wq_ok srt_Mgroup (fr := []) (cuts := [2, 32]) (J := fun pc st => (pc = 32 ∧ (6 ≤ i) ∧ st = ([(2, 0), (0, r), (0, 1), w3, w4, w5, w6, w7, w8, w9, w10], [], B)) ∨ (pc = 2 ∧ (i < 6) ∧ (¬ i = r) ∧ st = ([(2, 0), (0, r), (0, i + 1), w3, w4, w5, w6, w7, w8, w9, w10], [], pm_upd B (B 0 18) i 0)) ∨ (pc = 2 ∧ (i < 6) ∧ (i = r) ∧ st = ([(2, 0), (0, r), (0, i + 1), w3, w4, w5, w6, w7, w8, w9, w10], [], pm_upd B (B 0 18) i 1))) ?_ 19 2 _ ?_
    · rintro pc st (⟨rfl, h0, rfl⟩ | ⟨rfl, h0, h1, rfl⟩ | ⟨rfl, h0, h1, rfl⟩)
      · have hG := hend (by omega)
        have hb := cn_b (B 9)
        exact gp_32 hT p6 _ 1 (-1) _ _ _ _ _ _ _ _ B (Nat.lt_succ_self _) hG (by omega) (by omega) (fun _ => by omega)
      · rw [c18]
        exact go (by omega) _ (by rw [if_neg h1])
      · rw [c18]
        exact go (by omega) _ (by rw [if_pos h1])
    · refine ⟨fun h0 => ?_, fun h0 => ?_⟩
      · exact Or.inl (⟨rfl, h0, rfl⟩)
      · refine ⟨oM_0 (by omega) km0 18 rfl, ?_⟩
        refine ⟨fun h1 => ?_, fun h1 => ?_⟩
        · refine ⟨tM_11 (r := B 0 18) (by rw [c18]; omega) (by rw [c18]; exact kn11) (by omega) (by omega) rfl, ?_⟩
          refine ⟨⟨by omega, by omega⟩, ?_⟩
          exact Or.inr (Or.inl (⟨rfl, h0, h1, rfl⟩))
        · refine ⟨tM_11 (r := B 0 18) (by rw [c18]; omega) (by rw [c18]; exact kn11) (by omega) (by omega) rfl, ?_⟩
          refine ⟨⟨by omega, by omega⟩, ?_⟩
          exact Or.inr (Or.inr (⟨rfl, h0, h1, rfl⟩))
theorem group_ex {A : pm_A} {r : Int} (hA : gH wM A) (hT : tz A) (p6 : A 0 12 ≤ 6) (r0 : 0 ≤ r) (r1 : r < A 0 12) (hZ : ∀ i : Int, 0 ≤ i → i ≤ 5 → Zs (A 0 12) A i) (hr : A 9 r = 1) (hr8 : A 8 r = 1) : Cl pmt (an_sh wM) 149 [(2, 0), (0, r)] A (gp_post A) := by
  refine Cl.of (Nat.le_of_ble_eq_true rfl) ?_
  refine wq_ok (full := o_X10_group) srt_Mgroup (fr := []) (cuts := [2]) (J := fun pc st => (pc = 2 ∧ st = ([(2, 0), (0, r), (0, 0), (9, 0), (9, 0), (9, 0), (9, 0), (9, 0), (9, 0), (9, 0), (9, 0)], [], A))) ?_ 7 0 _ ?_
  · rintro pc st (⟨rfl, rfl⟩)
    exact gp_2 hT p6 r0 r1 hZ hr hr8 _ 0 _ _ _ _ _ _ _ _ A (Nat.lt_succ_self _) (by omega) (by omega) hA (fun _ _ _ => rfl) (fun k k0 k1 => by omega)
  · exact ⟨rfl, rfl⟩
end

section
/-! hasSizes -/
theorem gpF.tr {A B C : pm_A} (h : gpF A B) (g : gpF B C) : gpF A C := ⟨g.1, fun r j h1 h2 h3 => by rw [g.2 r j h1 h2 h3]; exact h.2 r j h1 h2 h3⟩
def szd (B : pm_A) : Prop := ∀ i : Int, 0 ≤ i → i < B 0 12 → B 9 i = 1 ∧ (1 ≤ B 8 i ∧ B 8 i ≤ 531441) ∧ ∀ j : Int, 0 ≤ j → j < B 0 12 → B 8 i * B 7 (6 * i + j) = -(B 8 j) * B 7 (6 * j + i)
def hz_post (A : pm_A) (r : pm_R) : Prop := gpF A r.2 ∧ ∃ x, r.1 = some (0, x) ∧ (x = 0 ∨ szd r.2)
theorem srt_hasSizes : pm_srt o_X10_hasSizes = true := by decide +kernel
theorem mulb2 {x t : Int} (h1 : -531441 ≤ x) (h2 : x ≤ 531441) (h3 : -9 ≤ t) (h4 : t ≤ 9) : -9223372036854775808 ≤ x * t ∧ x * t ≤ 9223372036854775807 := by
  have a : (x * t).natAbs ≤ 531441 * 9 := by
    rw [Int.natAbs_mul]
    exact Nat.mul_le_mul (by omega) (by omega)
  omega
theorem hs_84 {A B : pm_A} {i : Int} (hT : tz A) (p6 : A 0 12 ≤ 6) (hF : gpF A B) (hz : ∀ k : Int, 0 ≤ k → k < A 0 12 → B 9 k = 1 ∧ 1 ≤ B 8 k ∧ B 8 k ≤ 531441) (i0 : 0 ≤ i) (i1 : i < A 0 12) (H : (∀ j : Int, 0 ≤ j → j < A 0 12 → B 8 i * B 7 (6 * i + j) = -(B 8 j) * B 7 (6 * j + i)) → ∀ w2, Tm pmt (an_sh wM) o_X10_hasSizes 74 ([(2, 0), (0, i + 1), w2], [], B) (hz_post A)) : ∀ (m : Nat) (j : Int), (6 - j).toNat < m → 0 ≤ j → j ≤ 6 → (∀ k : Int, 0 ≤ k → k < j → k < A 0 12 → B 8 i * B 7 (6 * i + k) = -(B 8 k) * B 7 (6 * k + i)) → Tm pmt (an_sh wM) o_X10_hasSizes 84 ([(2, 0), (0, i), (0, j)], [], B) (hz_post A) := by
  have e12 : B 0 12 = A 0 12 := hF.2 0 12 (by omega) (by omega) (by omega)
  have c14 := pM_14 hF.1
  have c15 := pM_15 hF.1
  have c16 := pM_16 hF.1
  have e7 : ∀ x, B 7 x = A 7 x := fun x => hF.2 7 _ (by omega) (by omega) (by omega)
  intro m
  induction m with
  | zero => intro j h; omega
  | succ m ih =>
    intro j hm j0 j1 hj
    have hm1 : j < A 0 12 → -9223372036854775808 ≤ B 8 i * B 7 (6 * i + j) ∧ B 8 i * B 7 (6 * i + j) ≤ 9223372036854775807 := fun h => by
      have a := hz i i0 i1
      have b := hT.1 (6 * i + j) (by omega) (by omega)
      rw [e7]
      exact mulb2 (by omega) (by omega) b.1 b.2
    have hm2 : j < A 0 12 → -9223372036854775808 ≤ -(B 8 j) * B 7 (6 * j + i) ∧ -(B 8 j) * B 7 (6 * j + i) ≤ 9223372036854775807 := fun h => by
      have a := hz j j0 h
      have b := hT.1 (6 * j + i) (by omega) (by omega)
      rw [e7]
      exact mulb2 (by omega) (by omega) b.1 b.2
    have hz1 := hz i i0 i1
    by_cases hb : j < A 0 12
    · have hz2 := hz j j0 hb
      have g1 := hm1 hb
      have g2 := hm2 hb
      refine wq_ok srt_hasSizes (fr := []) (cuts := [74, 84]) (J := fun pc st => (pc = 74 ∧ ((B 0 12) ≤ j) ∧ st = ([(2, 0), (0, i + 1), (0, j)], [], B)) ∨ (pc = 84 ∧ (j < (B 0 12)) ∧ ((((B (B 0 15) i) * (B (B 0 14) ((6 * i) + j))) * (B (B 0 16) j)) = (((-(B (B 0 15) j)) * (B (B 0 14) ((6 * j) + i))) * (B (B 0 16) i))) ∧ st = ([(2, 0), (0, i), (0, j + 1)], [], B))) ?_ 52 84 _ ?_
      · rintro pc st (⟨rfl, h0, rfl⟩ | ⟨rfl, h0, h1, rfl⟩)
        · exact absurd h0 (by omega)
        · rw [c15, c14, c16, hz2.1, hz1.1, Int.mul_one, Int.mul_one] at h1
          refine ih (j + 1) (by omega) (by omega) (by omega) (fun k k0 k1 k2 => ?_)
          by_cases e : k = j
          · subst e; exact h1
          · exact hj k k0 (by omega) k2
      · refine ⟨oM_0 (by omega) km0 12 rfl, ?_⟩
        refine ⟨fun h0 => ?_, fun h0 => ?_⟩
        · refine ⟨⟨by omega, by omega⟩, ?_⟩
          exact Or.inl (⟨rfl, h0, rfl⟩)
        · refine ⟨oM_0 (by omega) km0 15 rfl, ?_⟩
          refine ⟨aM_8 (r := B 0 15) (by rw [c15]; omega) (by rw [c15]; exact kn8) (by omega) (by omega), ?_⟩
          have e1 : B (B 0 15) i = B 8 i := by rw [c15]
          refine ⟨oM_0 (by omega) km0 14 rfl, ?_⟩
          refine ⟨⟨by omega, by omega⟩, ?_⟩
          refine ⟨⟨by omega, by omega⟩, ?_⟩
          refine ⟨aM_7 (r := B 0 14) (by rw [c14]; omega) (by rw [c14]; exact kn7) (by omega) (by omega), ?_⟩
          have e2 : B (B 0 14) ((6 * i) + j) = B 7 ((6 * i) + j) := by rw [c14]
          refine ⟨(by rw [c15, c14]; exact g1), ?_⟩
          refine ⟨oM_0 (by omega) km0 16 rfl, ?_⟩
          refine ⟨aM_9 (r := B 0 16) (by rw [c16]; omega) (by rw [c16]; exact kn9) (by omega) (by omega), ?_⟩
          have e3 : B (B 0 16) j = B 9 j := by rw [c16]
          refine ⟨(by rw [c15, c14, c16, hz2.1, Int.mul_one]; exact g1), ?_⟩
          refine ⟨oM_0 (by omega) km0 15 rfl, ?_⟩
          refine ⟨aM_8 (r := B 0 15) (by rw [c15]; omega) (by rw [c15]; exact kn8) (by omega) (by omega), ?_⟩
          have e4 : B (B 0 15) j = B 8 j := by rw [c15]
          refine ⟨(by rw [c15]; exact ⟨by omega, by omega⟩), ?_⟩
          refine ⟨oM_0 (by omega) km0 14 rfl, ?_⟩
          refine ⟨⟨by omega, by omega⟩, ?_⟩
          refine ⟨⟨by omega, by omega⟩, ?_⟩
          refine ⟨aM_7 (r := B 0 14) (by rw [c14]; omega) (by rw [c14]; exact kn7) (by omega) (by omega), ?_⟩
          have e5 : B (B 0 14) ((6 * j) + i) = B 7 ((6 * j) + i) := by rw [c14]
          refine ⟨(by rw [c15, c14]; exact g2), ?_⟩
          refine ⟨oM_0 (by omega) km0 16 rfl, ?_⟩
          refine ⟨aM_9 (r := B 0 16) (by rw [c16]; omega) (by rw [c16]; exact kn9) (by omega) (by omega), ?_⟩
          have e6 : B (B 0 16) i = B 9 i := by rw [c16]
          refine ⟨(by rw [c15, c14, c16, hz1.1, Int.mul_one]; exact g2), ?_⟩
          refine ⟨fun h1 => ?_, fun h1 => ?_, fun h1 => ?_⟩
          · refine ⟨fun hh => absurd hh (by decide), fun _ => ?_⟩
            exact ⟨rfl, hF, 0, rfl, Or.inl rfl⟩
          · refine ⟨fun _ => ?_, fun hh => absurd hh (by decide)⟩
            refine ⟨⟨by omega, by omega⟩, ?_⟩
            exact Or.inr (⟨rfl, h0, h1, rfl⟩)
          · refine ⟨fun hh => absurd hh (by decide), fun _ => ?_⟩
            exact ⟨rfl, hF, 0, rfl, Or.inl rfl⟩
    · have hz2 : (1 : Int) = 1 := rfl
      refine wq_ok srt_hasSizes (fr := []) (cuts := [74, 92]) (J := fun pc st => (pc = 74 ∧ ((B 0 12) ≤ j) ∧ st = ([(2, 0), (0, i + 1), (0, j)], [], B)) ∨ (pc = 92 ∧ (j < (B 0 12)) ∧ st = ([(2, 0), (0, i), (0, j)], [], B))) ?_ 11 84 _ ?_
      · rintro pc st (⟨rfl, h0, rfl⟩ | ⟨rfl, h0, rfl⟩)
        · exact H (fun k k0 k1 => hj k k0 (by omega) k1) _
        · exact absurd (show j < A 0 12 by omega) hb
      · refine ⟨oM_0 (by omega) km0 12 rfl, ?_⟩
        refine ⟨fun h0 => ?_, fun h0 => ?_⟩
        · refine ⟨⟨by omega, by omega⟩, ?_⟩
          exact Or.inl (⟨rfl, h0, rfl⟩)
        · exact Or.inr (⟨rfl, h0, rfl⟩)
theorem hs_74 {A B : pm_A} (hT : tz A) (p6 : A 0 12 ≤ 6) (hF : gpF A B) (hz : ∀ k : Int, 0 ≤ k → k < A 0 12 → B 9 k = 1 ∧ 1 ≤ B 8 k ∧ B 8 k ≤ 531441) : ∀ (m : Nat) (i : Int) (w2 : pm_V), (6 - i).toNat < m → 0 ≤ i → i ≤ 6 → (∀ k : Int, 0 ≤ k → k < i → k < A 0 12 → ∀ j : Int, 0 ≤ j → j < A 0 12 → B 8 k * B 7 (6 * k + j) = -(B 8 j) * B 7 (6 * j + k)) → Tm pmt (an_sh wM) o_X10_hasSizes 74 ([(2, 0), (0, i), w2], [], B) (hz_post A) := by
  have e12 : B 0 12 = A 0 12 := hF.2 0 12 (by omega) (by omega) (by omega)
  intro m
  induction m with
  | zero => intro i w2 h; omega
  | succ m ih =>
    intro i w2 hm i0 i1 hi
    have hsz : A 0 12 ≤ i → szd B := fun h k k0 k1 => by
      rw [e12] at k1
      rw [e12]
      have := hz k k0 k1
      exact ⟨this.1, this.2, hi k k0 (by omega) k1⟩
    have hfin : A 0 12 ≤ i → hz_post A (some (0, 1), B) := fun h => ⟨hF, 1, rfl, Or.inr (hsz h)⟩
    refine wq_ok srt_hasSizes (fr := []) (cuts := [84]) (J := fun pc st => (pc = 84 ∧ (i < (B 0 12)) ∧ st = ([(2, 0), (0, i), (0, 0)], [], B))) ?_ 11 74 _ ?_
    · rintro pc st (⟨rfl, h0, rfl⟩)
      refine hs_84 hT p6 hF hz i0 (by omega) (fun hj w2 => ih (i + 1) w2 (by omega) (by omega) (by omega) (fun k k0 k1 k2 => ?_)) _ 0 (Nat.lt_succ_self _) (by omega) (by omega) (fun k k0 k1 => by omega)
      by_cases e : k = i
      · subst e; exact hj
      · exact hi k k0 (by omega) k2
    · refine ⟨oM_0 (by omega) km0 12 rfl, ?_⟩
      refine ⟨fun h0 => ?_, fun h0 => ?_⟩
      · exact ⟨rfl, hfin (by omega)⟩
      · exact ⟨rfl, h0, rfl⟩
theorem hs_25 {A : pm_A} (hT : tz A) (p6 : A 0 12 ≤ 6) : ∀ (m : Nat) (i : Int) (w2 : pm_V) (B : pm_A), (6 - i).toNat < m → 0 ≤ i → i ≤ 6 → gpF A B → (∀ k : Int, 0 ≤ k → k ≤ 5 → Zs (A 0 12) B k) → (∀ k : Int, 0 ≤ k → k < i → k < A 0 12 → B 9 k ≠ 0) → Tm pmt (an_sh wM) o_X10_hasSizes 25 ([(2, 0), (0, i), w2], [], B) (hz_post A) := by
  intro m
  induction m with
  | zero => intro i w2 B h; omega
  | succ m ih =>
    intro i w2 B hm i0 i1 hF hZ hk
    have e12 : B 0 12 = A 0 12 := hF.2 0 12 (by omega) (by omega) (by omega)
    have c15 := pM_15 hF.1
    have c16a := pM_16 hF.1
    have hend : A 0 12 ≤ i → Tm pmt (an_sh wM) o_X10_hasSizes 74 ([(2, 0), (0, 0), w2], [], B) (hz_post A) := fun h => hs_74 hT p6 hF (fun k k0 k1 => by
      have a := hk k k0 (by omega) k1
      rcases hZ k k0 (by omega) with h | h | h
      · omega
      · exact absurd h a
      · exact h) _ 0 _ (Nat.lt_succ_self _) (by omega) (by omega) (fun k k0 k1 => by omega)
    have h66 : ∀ C w2, i < A 0 12 → gpF A C → (∀ k : Int, 0 ≤ k → k ≤ 5 → Zs (A 0 12) C k) → (∀ k : Int, 0 ≤ k → k < i + 1 → k < A 0 12 → C 9 k ≠ 0) → Tm pmt (an_sh wM) o_X10_hasSizes 66 ([(2, 0), (0, i), w2], [], C) (hz_post A) := fun C w2 hi hC hC1 hC2 => by
      refine wq_ok srt_hasSizes (fr := []) (cuts := [25]) (J := fun pc st => (pc = 25 ∧ st = ([(2, 0), (0, i + 1), w2], [], C))) ?_ 7 66 _ ?_
      · rintro pc st (⟨rfl, rfl⟩)
        exact ih (i + 1) _ C (by omega) (by omega) (by omega) hC hC1 hC2
      · refine ⟨⟨by omega, by omega⟩, ?_⟩
        exact ⟨rfl, rfl⟩
    have h61 : ∀ C, i < A 0 12 → C = pm_upd (pm_upd B 8 i 1) 9 i 1 → Tm pmt (an_sh wM) o_X10_hasSizes 61 ([(2, 0), (0, i), w2], [], C) (hz_post A) := fun C hi hC => by
      have hFC : gpF A C := by rw [hC]; exact gpF.u9 (hF.u8 (by omega) (by omega)) (by omega) (by omega)
      have f12 : C 0 12 = A 0 12 := hFC.2 0 12 (by omega) (by omega) (by omega)
      have f7 : ∀ x, C 7 x = A 7 x := fun x => hFC.2 7 _ (by omega) (by omega) (by omega)
      have hTC : tz C := ⟨fun j j0 j1 => by rw [f7]; exact hT.1 j j0 j1, fun a b a0 a1 b0 b1 => by rw [f7, f7]; rw [f12] at a1 b1; exact hT.2 a b a0 a1 b0 b1⟩
      have o9 : ∀ k, k ≠ i → C 9 k = B 9 k := fun k hk => by rw [hC, upd_o (by omega), upd_o (by omega)]
      have o8 : ∀ k, k ≠ i → C 8 k = B 8 k := fun k hk => by rw [hC, upd_o (by omega), upd_o (by omega)]
      have f9 : C 9 i = 1 := by rw [hC, upd_at]
      have f8 : C 8 i = 1 := by rw [hC, upd_o (by omega), upd_at]
      have hZC : ∀ k : Int, 0 ≤ k → k ≤ 5 → Zs (C 0 12) C k := fun k k0 k1 => by
        rw [f12]
        by_cases e : k = i
        · rw [e]; exact Or.inr (Or.inr ⟨f9, by omega, by omega⟩)
        · unfold Zs; rw [o9 k e, o8 k e]; exact hZ k k0 k1
      refine wq_ok srt_hasSizes (fr := []) (cuts := [66]) (J := fun pc st => (pc = 66 ∧ ∃ D, gpF C D ∧ (∀ k : Int, 0 ≤ k → k ≤ 5 → Zs (A 0 12) D k) ∧ kpz C D ∧ st = ([(2, 0), (0, i), w2], [], D))) ?_ 7 61 _ ?_
      · rintro pc st (⟨rfl, D, q2, q3, q4, rfl⟩)
        refine h66 D _ hi (hFC.tr q2) q3 (fun k k0 k1 k2 => q4 k ?_)
        by_cases e : k = i
        · rw [e, f9]; omega
        · rw [o9 k e]; exact hk k k0 (by omega) k2
      · refine ⟨rM_0 (by omega) km0, ?_⟩
        refine (group_ex hFC.1 hTC (by omega) i0 (by omega) hZC f9 f8).imp ?_
        rintro ⟨r1, D⟩ ⟨q1, q2, q3, q4⟩
        simp only at q1 q2 q3 q4
        subst q1
        rw [f12] at q3
        exact ⟨rfl, D, q2, q3, q4, rfl⟩
    have h47 : i < A 0 12 → Tm pmt (an_sh wM) o_X10_hasSizes 47 ([(2, 0), (0, i), w2], [], B) (hz_post A) := fun hi => by
      have c16 : pm_upd B (B 0 15) i 1 0 16 = 9 := by rw [c15, upd_o (by omega)]; exact c16a
      refine wq_ok srt_hasSizes (fr := []) (cuts := [61]) (J := fun pc st => (pc = 61 ∧ st = ([(2, 0), (0, i), w2], [], pm_upd (pm_upd B (B 0 15) i 1) ((pm_upd B (B 0 15) i 1) 0 16) i 1))) ?_ 15 47 _ ?_
      · rintro pc st (⟨rfl, rfl⟩)
        rw [c16, c15]
        exact h61 _ hi rfl
      · refine ⟨oM_0 (by omega) km0 15 rfl, ?_⟩
        refine ⟨tM_8 (r := B 0 15) (by rw [c15]; omega) (by rw [c15]; exact kn8) (by omega) (by omega) rfl, ?_⟩
        refine ⟨oM_0 (by omega) km0 16 rfl, ?_⟩
        refine ⟨tM_9 (r := (pm_upd B (B 0 15) i 1) 0 16) (by rw [c16]; omega) (by rw [c16]; exact kn9) (by omega) (by omega) rfl, ?_⟩
        exact ⟨rfl, rfl⟩
    have c16 := c16a
    refine wq_ok srt_hasSizes (fr := []) (cuts := [47, 66, 74]) (J := fun pc st => (pc = 74 ∧ ((B 0 12) ≤ i) ∧ st = ([(2, 0), (0, 0), w2], [], B)) ∨ (pc = 66 ∧ (i < (B 0 12)) ∧ (0 < (B (B 0 16) i)) ∧ st = ([(2, 0), (0, i), w2], [], B)) ∨ (pc = 47 ∧ (i < (B 0 12)) ∧ ((B (B 0 16) i) = 0) ∧ st = ([(2, 0), (0, i), w2], [], B)) ∨ (pc = 66 ∧ (i < (B 0 12)) ∧ ((B (B 0 16) i) < 0) ∧ st = ([(2, 0), (0, i), w2], [], B))) ?_ 17 25 _ ?_
    · rintro pc st (⟨rfl, h0, rfl⟩ | ⟨rfl, h0, h1, rfl⟩ | ⟨rfl, h0, h1, rfl⟩ | ⟨rfl, h0, h1, rfl⟩)
      · exact hend (by omega)
      · rw [c16] at h1
        refine h66 B _ (by omega) hF hZ (fun k k0 k1 k2 => ?_)
        by_cases e : k = i
        · subst e; omega
        · exact hk k k0 (by omega) k2
      · exact h47 (by omega)
      · rw [c16] at h1
        refine h66 B _ (by omega) hF hZ (fun k k0 k1 k2 => ?_)
        by_cases e : k = i
        · subst e; omega
        · exact hk k k0 (by omega) k2
    · refine ⟨oM_0 (by omega) km0 12 rfl, ?_⟩
      refine ⟨fun h0 => ?_, fun h0 => ?_⟩
      · exact Or.inl (⟨rfl, h0, rfl⟩)
      · refine ⟨oM_0 (by omega) km0 16 rfl, ?_⟩
        refine ⟨aM_9 (r := B 0 16) (by rw [c16]; omega) (by rw [c16]; exact kn9) (by omega) (by omega), ?_⟩
        have e1 : B (B 0 16) i = B 9 i := by rw [c16]
        refine ⟨fun h1 => ?_, fun h1 => ?_, fun h1 => ?_⟩
        · refine ⟨fun hh => absurd hh (by decide), fun _ => ?_⟩
          exact Or.inr (Or.inl (⟨rfl, h0, h1, rfl⟩))
        · refine ⟨fun _ => ?_, fun hh => absurd hh (by decide)⟩
          exact Or.inr (Or.inr (Or.inl (⟨rfl, h0, h1, rfl⟩)))
        · refine ⟨fun hh => absurd hh (by decide), fun _ => ?_⟩
          exact Or.inr (Or.inr (Or.inr (⟨rfl, h0, h1, rfl⟩)))
theorem hs_2 {A : pm_A} (hT : tz A) (p6 : A 0 12 ≤ 6) : ∀ (m : Nat) (i : Int) (w2 : pm_V) (B : pm_A), (6 - i).toNat < m → 0 ≤ i → i ≤ 6 → gpF A B → (∀ k : Int, 0 ≤ k → k < i → k < A 0 12 → B 9 k = 0) → Tm pmt (an_sh wM) o_X10_hasSizes 2 ([(2, 0), (0, i), w2], [], B) (hz_post A) := by
  intro m
  induction m with
  | zero => intro i w2 B h; omega
  | succ m ih =>
    intro i w2 B hm i0 i1 hF hk
    have e12 : B 0 12 = A 0 12 := hF.2 0 12 (by omega) (by omega) (by omega)
    have c16 := pM_16 hF.1
    refine wq_ok srt_hasSizes (fr := []) (cuts := [2, 25]) (J := fun pc st => (pc = 25 ∧ ((B 0 12) ≤ i) ∧ st = ([(2, 0), (0, 0), w2], [], B)) ∨ (pc = 2 ∧ (i < (B 0 12)) ∧ st = ([(2, 0), (0, i + 1), w2], [], pm_upd B (B 0 16) i 0))) ?_ 16 2 _ ?_
    · rintro pc st (⟨rfl, h0, rfl⟩ | ⟨rfl, h0, rfl⟩)
      · refine hs_25 hT p6 _ 0 _ B (Nat.lt_succ_self _) (by omega) (by omega) hF (fun k k0 k1 => ?_) (fun k k0 k1 => by omega)
        by_cases e : k < A 0 12
        · exact Or.inr (Or.inl (hk k k0 (by omega) e))
        · exact Or.inl (by omega)
      · rw [c16]
        refine ih (i + 1) _ _ (by omega) (by omega) (by omega) (hF.u9 (by omega) (by omega)) (fun k k0 k1 k2 => ?_)
        by_cases e : k = i
        · rw [e, upd_at]
        · rw [upd_o (by omega)]; exact hk k k0 (by omega) k2
    · refine ⟨oM_0 (by omega) km0 12 rfl, ?_⟩
      refine ⟨fun h0 => ?_, fun h0 => ?_⟩
      · exact Or.inl (⟨rfl, h0, rfl⟩)
      · refine ⟨oM_0 (by omega) km0 16 rfl, ?_⟩
        refine ⟨tM_9 (r := B 0 16) (by rw [c16]; omega) (by rw [c16]; exact kn9) (by omega) (by omega) rfl, ?_⟩
        refine ⟨⟨by omega, by omega⟩, ?_⟩
        exact Or.inr (⟨rfl, h0, rfl⟩)
theorem hasSizes_ex {A : pm_A} (hA : gH wM A) (hT : tz A) (p6 : A 0 12 ≤ 6) : Cl pmt (an_sh wM) 150 [(2, 0)] A (hz_post A) := by
  refine Cl.of (Nat.le_of_ble_eq_true rfl) ?_
  refine wq_ok (full := o_X10_hasSizes) srt_hasSizes (fr := []) (cuts := [2]) (J := fun pc st => (pc = 2 ∧ st = ([(2, 0), (0, 0), (9, 0)], [], A))) ?_ 7 0 _ ?_
  · rintro pc st (⟨rfl, rfl⟩)
    exact hs_2 hT p6 _ 0 _ A (Nat.lt_succ_self _) (by omega) (by omega) ⟨hA, fun _ _ _ _ _ => rfl⟩ (fun k k0 k1 => by omega)
  · exact ⟨rfl, rfl⟩
end

section
/-! firsts, begins, begin -/
def eone (i : Int) : cr_Xp 12 := fun v => if (v.1 : Int) = i then 1 else 0
theorem LSm_one {C : pm_A} {i : Int} (h : LSm C i = [(1, fun _ => 0)]) (i0 : 0 ≤ i) (i1 : i ≤ 5) : LSm (pm_upd C 3 (2400 * i + i) 1) i = [(1, eone i)] := by
  have hlen : (C 1 i).toNat = 1 := by
    have := congrArg List.length h
    unfold LSm at this
    rw [List.length_map, List.length_range] at this
    exact this
  unfold LSm at h ⊢
  rw [upd_o (by omega)]
  rw [hlen] at h ⊢
  have h : [(C 2 (200 * i + ((0 : Nat) : Int)), xe C i ((0 : Nat) : Int))] = [((1 : Int), (fun _ => 0 : cr_Xp 12))] := h
  have h1 := (Prod.mk.inj (List.cons.inj h).1)
  show [(pm_upd C 3 (2400 * i + i) 1 2 (200 * i + ((0 : Nat) : Int)), xe (pm_upd C 3 (2400 * i + i) 1) i ((0 : Nat) : Int))] = [((1 : Int), eone i)]
  rw [upd_o (by omega), h1.1]
  have h2 : xe (pm_upd C 3 (2400 * i + i) 1) i ((0 : Nat) : Int) = eone i := funext fun v => by
    have hv := v.2
    have e := congrFun h1.2 v
    unfold xe at e ⊢
    unfold eone
    by_cases hvi : (v.1 : Int) = i
    · rw [if_pos hvi]
      rw [show 12 * (200 * i + ((0 : Nat) : Int)) + (v.1 : Int) = 2400 * i + i by omega, upd_at]
    · rw [if_neg hvi, upd_o (by omega)]
      exact e
  rw [h2]
theorem LSm_up {C : pm_A} {k r j x : Int} (hC : gH wM C) (k0 : 0 ≤ k) (k1 : k ≤ 5) (h : ¬ inS k r j) : LSm (pm_upd C r j x) k = LSm C k :=
  LSm_same (eM_1 hC (r := 1) (by omega) kn1 k0 (by omega)).2 (fun q i hq => upd_o (fun e => h (by rw [← e.1, ← e.2]; exact hq)))
def fsI (B C : pm_A) (i : Int) : Prop := gH wM C ∧ (∀ k : Int, 0 ≤ k → k < i → k ≤ 5 → LSm C k = [(1, eone k)]) ∧ ∀ r j, (∀ t : Int, 0 ≤ t → t ≤ 5 → ¬ inS t r j) → C r j = B r j
def frs_post (B : pm_A) (r : pm_R) : Prop := r.1 = none ∧ gH wM r.2 ∧ (∀ k : Int, 0 ≤ k → k < B 0 7 → LSm r.2 k = [(1, eone k)]) ∧ r.2 0 10 = 0 ∧ ∀ q j, (∀ t : Int, 0 ≤ t → t ≤ 5 → ¬ inS t q j) → ¬ (q = 0 ∧ j = 10) → q ≠ 10 → r.2 q j = B q j
theorem srt_firsts : pm_srt o_X10_firsts = true := by decide +kernel
theorem frs_2 {B : pm_A} (p7 : B 0 7 ≤ 6) : ∀ (m : Nat) (i : Int) (C : pm_A), (6 - i).toNat < m → 0 ≤ i → i ≤ 6 → fsI B C i → Tm pmt (an_sh wM) o_X10_firsts 2 ([(2, 0), (0, i)], [], C) (frs_post B) := by
  intro m
  induction m with
  | zero => intro i C h; omega
  | succ m ih =>
    intro i C hm i0 i1 hI
    have hC := hI.1
    have e7 : C 0 7 = B 0 7 := hI.2.2 0 7 (fun t t0 t1 => by unfold inS; omega)
    have c17a := pM_17 hC
    have hend : B 0 7 ≤ i → ∀ D, D = pm_upd (pm_upd C 0 10 0) 10 0 1 → frs_post B (none, D) := fun hi D hD => by
      have g1 : gH wM (pm_upd C 0 10 0) := uM_0_10 hC (by omega) (by omega)
      refine ⟨rfl, by rw [hD]; exact uM_10 g1 kn10 (by omega) (by omega), fun k k0 k1 => ?_, by rw [hD]; show pm_upd (pm_upd C 0 10 0) 10 0 1 0 10 = 0; rw [upd_o (by omega), upd_at], fun q j h1 h2 h3 => ?_⟩
      · rw [hD]
        show LSm (pm_upd (pm_upd C 0 10 0) 10 0 1) k = _
        rw [LSm_up g1 k0 (by omega) (by unfold inS; omega), LSm_up hC k0 (by omega) (by unfold inS; omega)]
        exact hI.2.1 k k0 (by omega) (by omega)
      · rw [hD]
        show pm_upd (pm_upd C 0 10 0) 10 0 1 q j = _
        rw [upd_o (by omega), upd_o (by omega)]
        exact hI.2.2 q j h1
    have h34 : B 0 7 ≤ i → Tm pmt (an_sh wM) o_X10_firsts 34 ([(2, 0), (0, i)], [], C) (frs_post B) := fun hi => by
      have c17 : pm_upd C 0 10 0 0 17 = 10 := by rw [upd_o (by omega)]; exact c17a
      refine wq_ok srt_firsts (fr := []) (cuts := []) (J := fun _ _ => False) ?_ 13 34 _ ?_
      · intro pc st h; exact h.elim
      · refine ⟨oM_0 (by omega) km0 10 rfl, ?_⟩
        refine ⟨oM_0 (by omega) km0 17 rfl, ?_⟩
        refine ⟨tM_10 (r := (pm_upd C 0 10 0) 0 17) (by rw [c17]; omega) (by rw [c17]; exact kn10) (by omega) (by omega) rfl, ?_⟩
        exact (by rw [c17]; exact hend hi _ rfl)
    have h15 : i < B 0 7 → ∀ D, gH wM D → (∀ q j, ¬ inS i q j → D q j = C q j) → LSm D i = [(1, fun _ => 0)] → Tm pmt (an_sh wM) o_X10_firsts 15 ([(2, 0), (0, i)], [], D) (frs_post B) := fun hi D hD hf hl => by
      have c3 := pM_3 hD
      have hi5 : i ≤ 5 := by omega
      refine wq_ok srt_firsts (fr := []) (cuts := [2]) (J := fun pc st => (pc = 2 ∧ st = ([(2, 0), (0, i + 1)], [], pm_upd D (D 0 3) ((2400 * i) + i) 1))) ?_ 16 15 _ ?_
      · rintro pc st (⟨rfl, rfl⟩)
        rw [c3]
        refine ih (i + 1) _ (by omega) (by omega) (by omega) ⟨uM_3 hD kn3 (by omega) (by omega), fun k k0 k1 k2 => ?_, fun q j hq => ?_⟩
        · by_cases e : k = i
          · rw [e]; exact LSm_one hl i0 hi5
          · rw [LSm_up hD k0 k2 (by unfold inS; omega), LSm_same (eM_1 hC (r := 1) (by omega) kn1 k0 (by omega)).2 (fun q j hq => hf q j (by unfold inS at *; omega))]
            exact hI.2.1 k k0 (by omega) k2
        · have := hq i i0 hi5
          rw [upd_o (fun e => this (by unfold inS; omega)), hf q j this]
          exact hI.2.2 q j hq
      · refine ⟨oM_0 (by omega) km0 3 rfl, ?_⟩
        refine ⟨⟨by omega, by omega⟩, ?_⟩
        refine ⟨⟨by omega, by omega⟩, ?_⟩
        refine ⟨tM_3 (r := D 0 3) (by rw [c3]; omega) (by rw [c3]; exact kn3) (by omega) (by omega) rfl, ?_⟩
        refine ⟨⟨by omega, by omega⟩, ?_⟩
        exact ⟨rfl, rfl⟩
    refine wq_ok srt_firsts (fr := []) (cuts := [15, 34]) (J := fun pc st => (pc = 34 ∧ ((C 0 7) ≤ i) ∧ st = ([(2, 0), (0, i)], [], C)) ∨ (pc = 15 ∧ i < B 0 7 ∧ ∃ D, gH wM D ∧ (∀ q j, ¬ inS i q j → D q j = C q j) ∧ LSm D i = [(1, fun _ => 0)] ∧ st = ([(2, 0), (0, i)], [], D))) ?_ 11 2 _ ?_
    · rintro pc st (⟨rfl, h0, rfl⟩ | ⟨rfl, hi, D, q2, q3, q4, rfl⟩)
      · exact h34 (by omega)
      · exact h15 hi D q2 q3 q4
    · refine ⟨oM_0 (by omega) km0 7 rfl, ?_⟩
      refine ⟨fun h0 => ?_, fun h0 => ?_⟩
      · exact Or.inl (⟨rfl, h0, rfl⟩)
      · refine ⟨rM_0 (by omega) km0, ?_⟩
        refine (one_ex (p := i) hC i0 (by omega)).imp ?_
        rintro ⟨r1, D⟩ ⟨q1, q2, q3, q4⟩
        simp only at q1 q2 q3 q4
        subst q1
        exact Or.inr (⟨rfl, by omega, D, q2, q3, q4, rfl⟩)
theorem firsts_ex {B : pm_A} (hB : gH wM B) : Cl pmt (an_sh wM) 142 [(2, 0)] B (frs_post B) := by
  have p7 := fM_0_7 hB (r := 0) (by omega) km0
  refine Cl.of (Nat.le_of_ble_eq_true rfl) ?_
  refine wq_ok (full := o_X10_firsts) srt_firsts (fr := []) (cuts := [2]) (J := fun pc st => (pc = 2 ∧ st = ([(2, 0), (0, 0)], [], B))) ?_ 7 0 _ ?_
  · rintro pc st (⟨rfl, rfl⟩)
    exact frs_2 p7.2 _ 0 B (Nat.lt_succ_self _) (by omega) (by omega) ⟨hB, fun k k0 k1 => by omega, fun _ _ _ => rfl⟩
  · exact ⟨rfl, rfl⟩
def bgJ (A C : pm_A) : Prop := gH wM C ∧ C 0 7 = A 0 12 ∧ C 0 8 = A 0 13 ∧ (∀ j : Int, 0 ≤ j → j < 72 → C 5 j = A 7 j) ∧ (∀ k : Int, 0 ≤ k → k < A 0 12 → LSm C k = [(1, eone k)]) ∧ C 0 10 = 0 ∧ ∀ r j, 6 ≤ r → r ≠ 10 → C r j = A r j
def bg_post (A : pm_A) (r : pm_R) : Prop := r.1 = none ∧ bgJ A r.2
theorem srt_begins : pm_srt o_X10_begins = true := by decide +kernel
theorem bg_48 {A : pm_A} (p6 : A 0 12 ≤ 6) (hz : szd A) : ∀ (m : Nat) (i : Int) (C : pm_A), (6 - i).toNat < m → 0 ≤ i → i ≤ 6 → bgJ A C → Tm pmt (an_sh wM) o_X10_begins 48 ([(2, 0), (0, i)], [], C) (bg_post A) := by
  intro m
  induction m with
  | zero => intro i C h; omega
  | succ m ih =>
    intro i C hm i0 i1 hJ
    have hJ2 := hJ
    obtain ⟨hC, e7, e8, e5, hl, e10, ho⟩ := hJ
    have c17 := pM_17 hC
    have c15 := pM_15 hC
    have f8 : C 8 i = A 8 i := ho 8 i (by omega) (by omega)
    have hsz : i < A 0 12 → 1 ≤ A 8 i ∧ A 8 i ≤ 531441 := fun h => (hz i i0 h).2.1
    have go : i < A 0 12 → ∀ x, 1 ≤ x → x ≤ 531441 → Tm pmt (an_sh wM) o_X10_begins 48 ([(2, 0), (0, i + 1)], [], pm_upd C 10 i x) (bg_post A) := fun hi x x0 x1 => by
      refine ih (i + 1) _ (by omega) (by omega) (by omega) ⟨uM_10 hC kn10 (by omega) (by omega), by rw [upd_o (by omega)]; exact e7, by rw [upd_o (by omega)]; exact e8, fun j j0 j1 => by rw [upd_o (by omega)]; exact e5 j j0 j1, fun k k0 k1 => ?_, by rw [upd_o (by omega)]; exact e10, fun r j h1 h2 => by rw [upd_o (by omega)]; exact ho r j h1 h2⟩
      rw [LSm_up hC k0 (by omega) (by unfold inS; omega)]; exact hl k k0 k1
    refine wq_ok srt_begins (fr := []) (cuts := [48]) (J := fun pc st => (pc = 48 ∧ (i < (C 0 7)) ∧ st = ([(2, 0), (0, i + 1)], [], pm_upd C (C 0 17) i (C (C 0 15) i)))) ?_ 20 48 _ ?_
    · rintro pc st (⟨rfl, h0, rfl⟩)
      have := hsz (by omega)
      rw [c15, c17]
      exact go (by omega) _ (by omega) (by omega)
    · refine ⟨oM_0 (by omega) km0 7 rfl, ?_⟩
      refine ⟨fun h0 => ?_, fun h0 => ?_⟩
      · exact ⟨rfl, hJ2⟩
      · refine ⟨oM_0 (by omega) km0 17 rfl, ?_⟩
        refine ⟨oM_0 (by omega) km0 15 rfl, ?_⟩
        refine ⟨aM_8 (r := C 0 15) (by rw [c15]; omega) (by rw [c15]; exact kn8) (by omega) (by omega), ?_⟩
        have e1 : C (C 0 15) i = C 8 i := by rw [c15]
        refine ⟨(by have := hsz (by omega); exact ⟨by omega, by omega⟩), ?_⟩
        refine ⟨tM_10 (r := C 0 17) (by rw [c17]; omega) (by rw [c17]; exact kn10) (by omega) (by omega) rfl, ?_⟩
        refine ⟨⟨by omega, by omega⟩, ?_⟩
        exact ⟨rfl, h0, rfl⟩
theorem bg_42 {A B : pm_A} (p6 : A 0 12 ≤ 6) (hz : szd A) (hB : gH wM B) (e7 : B 0 7 = A 0 12) (e8 : B 0 8 = A 0 13) (e5 : ∀ j : Int, 0 ≤ j → j < 72 → B 5 j = A 7 j) (ho : ∀ r j, 6 ≤ r → B r j = A r j) {w1 : pm_V} : Tm pmt (an_sh wM) o_X10_begins 42 ([(2, 0), w1], [], B) (bg_post A) := by
  refine wq_ok srt_begins (fr := []) (cuts := [46]) (J := fun pc st => (pc = 46 ∧ ∃ C, gH wM C ∧ (∀ k : Int, 0 ≤ k → k < B 0 7 → LSm C k = [(1, eone k)]) ∧ C 0 10 = 0 ∧ (∀ q j, (∀ t : Int, 0 ≤ t → t ≤ 5 → ¬ inS t q j) → ¬ (q = 0 ∧ j = 10) → q ≠ 10 → C q j = B q j) ∧ st = ([(2, 0), w1], [], C))) ?_ 6 42 _ ?_
  · rintro pc st (⟨rfl, C, q2, q3, q4, q5, rfl⟩)
    refine wq_ok srt_begins (fr := []) (cuts := [48]) (J := fun pc st => (pc = 48 ∧ st = ([(2, 0), (0, 0)], [], C))) ?_ 7 46 _ ?_
    · rintro pc st (⟨rfl, rfl⟩)
      refine bg_48 p6 hz _ 0 C (Nat.lt_succ_self _) (by omega) (by omega) ⟨q2, ?_, ?_, fun j j0 j1 => ?_, fun k k0 k1 => q3 k k0 (by omega), q4, fun r j h1 h2 => ?_⟩
      · rw [q5 0 7 (fun t t0 t1 => by unfold inS; omega) (by omega) (by omega)]; exact e7
      · rw [q5 0 8 (fun t t0 t1 => by unfold inS; omega) (by omega) (by omega)]; exact e8
      · rw [q5 5 j (fun t t0 t1 => by unfold inS; omega) (by omega) (by omega)]; exact e5 j j0 j1
      · rw [q5 r j (fun t t0 t1 => by unfold inS; omega) (by omega) h2]; exact ho r j h1
    · exact ⟨rfl, rfl⟩
  · refine ⟨rM_0 (by omega) km0, ?_⟩
    refine (firsts_ex hB).imp ?_
    rintro ⟨r1, C⟩ ⟨q1, q2, q3, q4, q5⟩
    simp only at q1 q2 q3 q4 q5
    subst q1
    exact ⟨rfl, C, q2, q3, q4, q5, rfl⟩
theorem bg_18 {A : pm_A} (p6 : A 0 12 ≤ 6) (hz : szd A) : ∀ (m : Nat) (i : Int) (B : pm_A), (72 - i).toNat < m → 0 ≤ i → i ≤ 72 → gH wM B → B 0 7 = A 0 12 → B 0 8 = A 0 13 → (∀ j : Int, 0 ≤ j → j < i → B 5 j = A 7 j) → (∀ r j, 6 ≤ r → B r j = A r j) → Tm pmt (an_sh wM) o_X10_begins 18 ([(2, 0), (0, i)], [], B) (bg_post A) := by
  intro m
  induction m with
  | zero => intro i B h; omega
  | succ m ih =>
    intro i B hm i0 i1 hB e7 e8 e5 ho
    have c9 := pM_9 hB
    have c14 := pM_14 hB
    have b7 : i < 72 → -2999 ≤ B 7 i ∧ B 7 i ≤ 2999 := fun h => eM_7 hB (r := 7) (by omega) kn7 i0 h
    refine wq_ok srt_begins (fr := []) (cuts := [18, 42]) (J := fun pc st => (pc = 42 ∧ (72 ≤ i) ∧ st = ([(2, 0), (0, i)], [], B)) ∨ (pc = 18 ∧ (i < 72) ∧ st = ([(2, 0), (0, i + 1)], [], pm_upd B (B 0 9) i (B (B 0 14) i)))) ?_ 18 18 _ ?_
    · rintro pc st (⟨rfl, h0, rfl⟩ | ⟨rfl, h0, rfl⟩)
      · exact bg_42 p6 hz hB e7 e8 (fun j j0 j1 => e5 j j0 (by omega)) ho
      · have b := b7 h0
        rw [c9, c14]
        refine ih (i + 1) _ (by omega) (by omega) (by omega) (uM_5 hB kn5 (by omega) (by omega)) (by rw [upd_o (by omega)]; exact e7) (by rw [upd_o (by omega)]; exact e8) (fun j j0 j1 => ?_) (fun r j h1 => by rw [upd_o (by omega)]; exact ho r j h1)
        by_cases e : j = i
        · rw [e, upd_at]; exact ho 7 i (by omega)
        · rw [upd_o (by omega)]; exact e5 j j0 (by omega)
    · refine ⟨fun h0 => ?_, fun h0 => ?_⟩
      · exact Or.inl (⟨rfl, h0, rfl⟩)
      · refine ⟨oM_0 (by omega) km0 9 rfl, ?_⟩
        refine ⟨oM_0 (by omega) km0 14 rfl, ?_⟩
        refine ⟨aM_7 (r := B 0 14) (by rw [c14]; omega) (by rw [c14]; exact kn7) (by omega) (by omega), ?_⟩
        have e1 : B (B 0 14) i = B 7 i := by rw [c14]
        refine ⟨tM_5 (r := B 0 9) (by rw [c9]; omega) (by rw [c9]; exact kn5) (by omega) (by omega) rfl, ?_⟩
        refine ⟨⟨by omega, by omega⟩, ?_⟩
        exact Or.inr (⟨rfl, h0, rfl⟩)
theorem begins_ex {A : pm_A} (hA : gH wM A) (hz : szd A) : Cl pmt (an_sh wM) 130 [(2, 0)] A (bg_post A) := by
  have p12 := fM_0_12 hA (r := 0) (by omega) km0
  have p13 := fM_0_13 hA (r := 0) (by omega) km0
  have f13 : pm_upd A 0 7 (A 0 12) 0 13 = A 0 13 := upd_o (by omega)
  refine Cl.of (Nat.le_of_ble_eq_true rfl) ?_
  refine wq_ok (full := o_X10_begins) srt_begins (fr := []) (cuts := [18]) (J := fun pc st => (pc = 18 ∧ st = ([(2, 0), (0, 0)], [], pm_upd (pm_upd A 0 7 (A 0 12)) 0 8 ((pm_upd A 0 7 (A 0 12)) 0 13)))) ?_ 15 0 _ ?_
  · rintro pc st (⟨rfl, rfl⟩)
    rw [f13]
    exact bg_18 p12.2 hz _ 0 _ (Nat.lt_succ_self _) (by omega) (by omega) (uM_0_8 (uM_0_7 hA p12.1 p12.2) p13.1 p13.2) (by rw [upd_o (by omega), upd_at]) (by rw [upd_at]) (fun j j0 j1 => by omega) (fun r j h1 => by rw [upd_o (by omega), upd_o (by omega)])
  · refine ⟨oM_0 (by omega) km0 12 rfl, ?_⟩
    refine ⟨oM_0 (by omega) km0 7 rfl, ?_⟩
    refine ⟨oM_0 (by omega) km0 13 rfl, ?_⟩
    refine ⟨oM_0 (by omega) km0 8 rfl, ?_⟩
    exact ⟨rfl, rfl⟩
def dd (A : pm_A) (k : Int) : Int := if k < A 0 12 then A 8 k else 1
def QQ (A : pm_A) : Int := dd A 0 * dd A 1 * dd A 2 * dd A 3 * dd A 4 * dd A 5
def bb0 (A : pm_A) (i j : Int) : Int := if j < A 0 12 + A 0 13 then (if i < A 0 12 then A 7 (6 * j + i) else 0) else 0
def bbs (A : pm_A) (i j : Int) : Int := if j < A 0 12 then bb0 A j i else if i < A 0 12 then -((QQ A / A 8 i) * bb0 A i j) else 0
def dds (A : pm_A) (i : Int) : Int := if i < A 0 12 then A 8 i else QQ A
theorem dd_pos {A : pm_A} (hz : szd A) {k : Int} (k0 : 0 ≤ k) : 1 ≤ dd A k := by
  unfold dd
  by_cases h : k < A 0 12
  · rw [if_pos h]; exact (hz k k0 h).2.1.1
  · rw [if_neg h]; omega
theorem mul_ge1 {a b : Int} (ha : 1 ≤ a) (hb : 1 ≤ b) : 1 ≤ a * b := by
  have := Int.mul_le_mul ha hb (by omega) (by omega)
  omega
theorem QQ_pos {A : pm_A} (hz : szd A) : 1 ≤ QQ A :=
  mul_ge1 (mul_ge1 (mul_ge1 (mul_ge1 (mul_ge1 (dd_pos hz (by omega)) (dd_pos hz (by omega))) (dd_pos hz (by omega))) (dd_pos hz (by omega))) (dd_pos hz (by omega))) (dd_pos hz (by omega))
theorem QQ_dvd {A : pm_A} {k : Int} (k0 : 0 ≤ k) (k1 : k ≤ 5) : dd A k ∣ QQ A := by
  have h : k = 0 ∨ k = 1 ∨ k = 2 ∨ k = 3 ∨ k = 4 ∨ k = 5 := by omega
  unfold QQ
  rcases h with rfl | rfl | rfl | rfl | rfl | rfl
  · exact Int.dvd_mul_of_dvd_left (Int.dvd_mul_of_dvd_left (Int.dvd_mul_of_dvd_left (Int.dvd_mul_of_dvd_left (Int.dvd_mul_right _ _))))
  · exact Int.dvd_mul_of_dvd_left (Int.dvd_mul_of_dvd_left (Int.dvd_mul_of_dvd_left (Int.dvd_mul_of_dvd_left (Int.dvd_mul_left _ _))))
  · exact Int.dvd_mul_of_dvd_left (Int.dvd_mul_of_dvd_left (Int.dvd_mul_of_dvd_left (Int.dvd_mul_left _ _)))
  · exact Int.dvd_mul_of_dvd_left (Int.dvd_mul_of_dvd_left (Int.dvd_mul_left _ _))
  · exact Int.dvd_mul_of_dvd_left (Int.dvd_mul_left _ _)
  · exact Int.dvd_mul_left _ _
theorem dds_pos {A : pm_A} (hz : szd A) {i : Int} (i0 : 0 ≤ i) : 1 ≤ dds A i := by
  unfold dds
  by_cases h : i < A 0 12
  · rw [if_pos h]; exact (hz i i0 h).2.1.1
  · rw [if_neg h]; exact QQ_pos hz
theorem dds_mix {A : pm_A} (p6 : A 0 12 ≤ 6) {i j : Int} (i0 : 0 ≤ i) (hi : i < A 0 12) (hj : ¬ j < A 0 12) : dds A i * bbs A i j = -(dds A j * bbs A j i) := by
  unfold dds bbs
  rw [if_pos hi, if_neg hj, if_neg hj, if_pos hi, if_pos hi]
  have h := QQ_dvd (A := A) i0 (show i ≤ 5 by omega)
  unfold dd at h
  rw [if_pos hi] at h
  rw [Int.mul_neg, ← Int.mul_assoc, Int.mul_ediv_cancel' h]
theorem dds_skew {A : pm_A} (hz : szd A) (p6 : A 0 12 ≤ 6) {i j : Int} (i0 : 0 ≤ i) (j0 : 0 ≤ j) (p13 : 0 ≤ A 0 13) : dds A i * bbs A i j = -(dds A j * bbs A j i) := by
  by_cases hi : i < A 0 12
  · by_cases hj : j < A 0 12
    · unfold dds bbs bb0
      rw [if_pos hi, if_pos hj, if_pos hj, if_pos hi, if_pos (show i < A 0 12 + A 0 13 by omega), if_pos hj, if_pos (show j < A 0 12 + A 0 13 by omega), if_pos hi, (hz i i0 hi).2.2 j j0 hj, Int.neg_mul]
    · exact dds_mix p6 i0 hi hj
  · by_cases hj : j < A 0 12
    · rw [dds_mix p6 j0 hj hi, Int.neg_neg]
    · unfold bbs
      rw [if_neg hi, if_neg hj, if_neg hj, if_neg hi, Int.mul_zero, Int.mul_zero]; rfl
def Sd0 (A : pm_A) (hz : szd A) (p6 : A 0 12 ≤ 6) (p13 : 0 ≤ A 0 13) : cx_Sd 12 := ⟨(fun i j => bbs A i.1 j.1, fun i => (dds A i.1).toNat), fun i => by have := dds_pos hz (i := (i.1 : Int)) (by omega); show 0 < (dds A i.1).toNat; omega, fun i j => by
  have a := dds_pos hz (i := (i.1 : Int)) (by omega)
  have b := dds_pos hz (i := (j.1 : Int)) (by omega)
  show (((dds A i.1).toNat : Nat) : Int) * bbs A i.1 j.1 = -((((dds A j.1).toNat : Nat) : Int) * bbs A j.1 i.1)
  rw [Int.toNat_of_nonneg (by omega), Int.toNat_of_nonneg (by omega)]
  exact dds_skew hz p6 (by omega) (by omega) p13⟩
theorem mo_eone {x : Fin 12 → Rat} (i : Fin 12) : cr_mo x (eone i.1) = x i := by
  rw [cr_mo_split i, show (fun j : Fin 12 => if j = i then (0 : Int) else eone i.1 j) = fun _ => 0 from funext fun j => by
    by_cases e : j = i
    · rw [if_pos e]
    · rw [if_neg e]; unfold eone; rw [if_neg (fun h => e (Fin.ext (by omega)))], cr_mo_zero, Rat.mul_one]
  unfold eone
  rw [if_pos rfl]
  exact Rat.zpow_one _
theorem bg_tru {A C : pm_A} (hz : szd A) (h9 : ∀ j : Int, 0 ≤ j → j < 72 → -9 ≤ A 7 j ∧ A 7 j ≤ 9) (p1 : 1 ≤ A 0 12) (p6 : A 0 12 ≤ 6) (p13 : 0 ≤ A 0 13) (q13 : A 0 13 ≤ 6) (h : bgJ A C) : Tru (Sd0 A hz p6 p13) [] C := by
  obtain ⟨hC, e7, e8, e5, hl, e10, ho⟩ := h
  have hone : ∀ k : Int, 0 ≤ k → k < A 0 12 → C 1 k = 1 ∧ C 2 (200 * k) = 1 := fun k k0 k1 => by
    have hL := hl k k0 k1
    have m := eM_1 hC (r := 1) (by omega) kn1 (j := k) k0 (by omega)
    have hlen : (C 1 k).toNat = 1 := by
      have := congrArg List.length hL
      unfold LSm at this
      rw [List.length_map, List.length_range] at this
      exact this
    unfold LSm at hL
    rw [hlen] at hL
    have hL : [(C 2 (200 * k + ((0 : Nat) : Int)), xe C k ((0 : Nat) : Int))] = [((1 : Int), eone k)] := hL
    have h1 := (Prod.mk.inj (List.cons.inj hL).1).1
    rw [show 200 * k + ((0 : Nat) : Int) = 200 * k by omega] at h1
    exact ⟨by omega, h1⟩
  refine ⟨hC, by omega, fun i j hj => ⟨fun hi => ?_, fun hi => ?_⟩, fun k hk => absurd hk (List.not_mem_nil), fun v k hk => ?_, fun i j i0 i1 j0 j1 => ?_, fun i hi => ⟨fun q q' q0 q1 q2 => ?_, fun q q0 q1 => ?_, fun x => ?_⟩⟩
  · show bbs A i.1 j.1 = _
    unfold bbs bb0
    have := i.2
    rw [if_pos (by omega), if_pos (by omega), if_pos (by omega), e5 _ (by omega) (by omega)]
  · show bbs A i.1 j.1 = _
    unfold bbs bb0
    rw [if_pos (by omega), if_neg (by omega)]
  · show bbs A v.1 k.1 ≤ 9 ∧ -9 ≤ bbs A v.1 k.1
    have := v.2
    have a := h9 (6 * (v.1 : Int) + (k.1 : Int)) (by omega) (by omega)
    unfold bbs bb0
    rw [if_pos (by omega)]
    by_cases e : (v.1 : Int) < A 0 12 + A 0 13
    · rw [if_pos e, if_pos (by omega)]; omega
    · rw [if_neg e]; omega
  · have a := h9 (6 * i + j) (by omega) (by omega)
    rw [e5 _ (by omega) (by omega)]; omega
  · have := (hone i.1 (by omega) (by omega)).1
    omega
  · have := hone i.1 (by omega) (by omega)
    rw [show q = 0 by omega, Int.add_zero, this.2]; omega
  · show x.1 i = VS C i.1 x
    unfold VS
    rw [hl i.1 (by omega) (by omega), cr_vl_sing, mo_eone]
theorem bg_ri {A C : pm_A} (hA : RI A) (hz : szd A) (p1 : 1 ≤ A 0 12) (h : bgJ A C) : RI C := by
  have p12 := fM_0_12 hA.g (r := 0) (by omega) km0
  have p13 := fM_0_13 hA.g (r := 0) (by omega) km0
  have ho := h.2.2.2.2.2.2
  refine ⟨⟨_, [], bg_tru hz hA.2.1.1 p1 p12.2 p13.1 p13.2 h⟩, ⟨fun j j0 j1 => ?_, fun d d0 d1 => ?_⟩, hA.2.2.same (fun j => ho 31 j (by omega) (by omega)) (fun j => ho 32 j (by omega) (by omega))⟩
  · rw [ho 7 j (by omega) (by omega)]; exact hA.2.1.1 j j0 j1
  · rw [h.2.2.2.2.2.1] at d1; omega
theorem gpF.fr {A B : pm_A} (h : gpF A B) : gFr wM [10008, 10009, 10011] A B := fun k j k0 j0 hn => by
  refine h.2 k j (fun e => hn ?_) (fun e => hn ?_) (fun e => hn ?_)
  · exact mM_8 (by rw [e]; exact kn8) rfl
  · exact mM_9 (by rw [e]; exact kn9) rfl
  · exact mM_11 (by rw [e]; exact kn11) rfl
theorem srt_Mbegin : pm_srt o_X10_begin = true := by decide +kernel
theorem mb_125 {A : pm_A} (h : RI A) (hT : tz A) (p1 : 1 ≤ A 0 12) {w1 w2 w3 w4 : pm_V} : Tm pmt (an_sh wM) o_X10_begin 125 ([(2, 0), w1, w2, w3, w4], [], A) ri_post := by
  have p12 := fM_0_12 h.g (r := 0) (by omega) km0
  refine wq_ok srt_Mbegin (fr := []) (cuts := [129]) (J := fun pc st => (pc = 129 ∧ ∃ B x, gpF A B ∧ (x = 0 ∨ szd B) ∧ st = ([(2, 0), w1, w2, w3, w4], [(0, x)], B))) ?_ 6 125 _ ?_
  · rintro pc st (⟨rfl, B, x, q1, q3, rfl⟩)
    have hB : RI B := h.typed q1.1 q1.fr rfl
    have f12 : B 0 12 = A 0 12 := q1.2 0 12 (by omega) (by omega) (by omega)
    refine wq_ok srt_Mbegin (fr := []) (cuts := [138]) (J := fun pc st => (pc = 138 ∧ szd B ∧ ∃ C, bgJ B C ∧ st = ([(2, 0), w1, w2, w3, w4], [], C))) ?_ 7 129 _ ?_
    · rintro pc st (⟨rfl, q3, C, y2, rfl⟩)
      refine wq_ok srt_Mbegin (fr := []) (cuts := []) (J := fun _ _ => False) ?_ 6 138 _ ?_
      · intro pc st h; exact h.elim
      · exact ⟨rfl, ⟨_, rfl⟩, bg_ri hB q3 (by omega) y2⟩
    · refine ⟨fun h0 => ?_, fun h0 => ?_⟩
      · refine ⟨rM_0 (by omega) km0, ?_⟩
        rcases q3 with q3 | q3
        · exact absurd q3 h0
        refine (begins_ex hB.g q3).imp ?_
        rintro ⟨r1, C⟩ ⟨y1, y2⟩
        simp only at y1 y2
        subst y1
        exact ⟨rfl, q3, C, y2, rfl⟩
      · exact ⟨rfl, ⟨_, rfl⟩, hB⟩
  · refine ⟨rM_0 (by omega) km0, ?_⟩
    refine (hasSizes_ex h.g hT p12.2).imp ?_
    rintro ⟨r1, B⟩ ⟨q1, x, q2, q3⟩
    simp only at q1 q2 q3
    subst q2
    exact ⟨rfl, B, x, q1, q3, rfl⟩
def sgn0 (A : pm_A) (i j : Int) : Prop := A 7 (6 * i + j) = 0 → A 7 (6 * j + i) = 0
theorem mb_51 {A : pm_A} (h : RI A) {i : Int} (i0 : 0 ≤ i) (i1 : i < A 0 12) (p6 : A 0 12 ≤ 6) (H : (∀ j : Int, 0 ≤ j → j < A 0 12 → sgn0 A i j) → ∀ w2 w3 w4, Tm pmt (an_sh wM) o_X10_begin 41 ([(2, 0), (0, i + 1), w2, w3, w4], [], A) ri_post) : ∀ (m : Nat) (j : Int) (w3 w4 : pm_V), (6 - j).toNat < m → 0 ≤ j → j ≤ 6 → (∀ k : Int, 0 ≤ k → k < j → k < A 0 12 → sgn0 A i k) → Tm pmt (an_sh wM) o_X10_begin 51 ([(2, 0), (0, i), (0, j), w3, w4], [], A) ri_post := by
  have c14 := pM_14 h.g
  intro m
  induction m with
  | zero => intro j w3 w4 h; omega
  | succ m ih =>
    intro j w3 w4 hm j0 j1 hj
    have go : j < A 0 12 → sgn0 A i j → ∀ w3 w4, Tm pmt (an_sh wM) o_X10_begin 51 ([(2, 0), (0, i), (0, j + 1), w3, w4], [], A) ri_post := fun hlt hs w3 w4 => by
      refine ih (j + 1) _ _ (by omega) (by omega) (by omega) (fun k k0 k1 k2 => ?_)
      by_cases e : k = j
      · rw [e]; exact hs
      · exact hj k k0 (by omega) k2
    have hend : A 0 12 ≤ j → ∀ k : Int, 0 ≤ k → k < A 0 12 → sgn0 A i k := fun hlt k k0 k1 => hj k k0 (by omega) k1
    refine wq_ok srt_Mbegin (fr := []) (cuts := [41, 51]) (J := fun pc st => (pc = 41 ∧ ((A 0 12) ≤ j) ∧ st = ([(2, 0), (0, i + 1), (0, j), w3, w4], [], A)) ∨ (pc = 51 ∧ (j < (A 0 12)) ∧ (¬ (A (A 0 14) ((6 * i) + j)) = 0) ∧ ((A (A 0 14) ((6 * i) + j)) ≤ 0) ∧ ((A (A 0 14) ((6 * i) + j)) < 0) ∧ (0 < (A (A 0 14) ((6 * j) + i))) ∧ st = ([(2, 0), (0, i), (0, j + 1), (0, A (A 0 14) ((6 * i) + j)), (0, A (A 0 14) ((6 * j) + i))], [], A)) ∨ (pc = 51 ∧ (j < (A 0 12)) ∧ (¬ (A (A 0 14) ((6 * i) + j)) = 0) ∧ (0 < (A (A 0 14) ((6 * i) + j))) ∧ ((A (A 0 14) ((6 * j) + i)) < 0) ∧ st = ([(2, 0), (0, i), (0, j + 1), (0, A (A 0 14) ((6 * i) + j)), (0, A (A 0 14) ((6 * j) + i))], [], A)) ∨ (pc = 51 ∧ (j < (A 0 12)) ∧ (¬ (A (A 0 14) ((6 * i) + j)) = 0) ∧ (0 < (A (A 0 14) ((6 * i) + j))) ∧ (0 ≤ (A (A 0 14) ((6 * j) + i))) ∧ ((A (A 0 14) ((6 * i) + j)) < 0) ∧ (0 < (A (A 0 14) ((6 * j) + i))) ∧ st = ([(2, 0), (0, i), (0, j + 1), (0, A (A 0 14) ((6 * i) + j)), (0, A (A 0 14) ((6 * j) + i))], [], A)) ∨ (pc = 51 ∧ (j < (A 0 12)) ∧ ((A (A 0 14) ((6 * i) + j)) = 0) ∧ ((A (A 0 14) ((6 * j) + i)) = 0) ∧ st = ([(2, 0), (0, i), (0, j + 1), (0, A (A 0 14) ((6 * i) + j)), (0, A (A 0 14) ((6 * j) + i))], [], A)) ∨ (pc = 51 ∧ (j < (A 0 12)) ∧ ((A (A 0 14) ((6 * i) + j)) = 0) ∧ (¬ (A (A 0 14) ((6 * j) + i)) = 0) ∧ ((A (A 0 14) ((6 * i) + j)) ≤ 0) ∧ ((A (A 0 14) ((6 * i) + j)) < 0) ∧ (0 < (A (A 0 14) ((6 * j) + i))) ∧ st = ([(2, 0), (0, i), (0, j + 1), (0, A (A 0 14) ((6 * i) + j)), (0, A (A 0 14) ((6 * j) + i))], [], A)) ∨ (pc = 51 ∧ (j < (A 0 12)) ∧ ((A (A 0 14) ((6 * i) + j)) = 0) ∧ (¬ (A (A 0 14) ((6 * j) + i)) = 0) ∧ (0 < (A (A 0 14) ((6 * i) + j))) ∧ ((A (A 0 14) ((6 * j) + i)) < 0) ∧ st = ([(2, 0), (0, i), (0, j + 1), (0, A (A 0 14) ((6 * i) + j)), (0, A (A 0 14) ((6 * j) + i))], [], A)) ∨ (pc = 51 ∧ (j < (A 0 12)) ∧ ((A (A 0 14) ((6 * i) + j)) = 0) ∧ (¬ (A (A 0 14) ((6 * j) + i)) = 0) ∧ (0 < (A (A 0 14) ((6 * i) + j))) ∧ (0 ≤ (A (A 0 14) ((6 * j) + i))) ∧ ((A (A 0 14) ((6 * i) + j)) < 0) ∧ (0 < (A (A 0 14) ((6 * j) + i))) ∧ st = ([(2, 0), (0, i), (0, j + 1), (0, A (A 0 14) ((6 * i) + j)), (0, A (A 0 14) ((6 * j) + i))], [], A))) ?_ 41 51 _ ?_
    · rintro pc st (⟨rfl, h0, rfl⟩ | ⟨rfl, h0, h1, h2, h3, h4, rfl⟩ | ⟨rfl, h0, h1, h2, h3, rfl⟩ | ⟨rfl, h0, h1, h2, h3, h4, h5, rfl⟩ | ⟨rfl, h0, h1, h2, rfl⟩ | ⟨rfl, h0, h1, h2, h3, h4, h5, rfl⟩ | ⟨rfl, h0, h1, h2, h3, h4, rfl⟩ | ⟨rfl, h0, h1, h2, h3, h4, h5, h6, rfl⟩)
      · exact H (hend (by omega)) _ _ _
      · rw [c14] at h1 h2 h3 h4
        exact go (by omega) (fun e => by omega) _ _
      · rw [c14] at h1 h2 h3
        exact go (by omega) (fun e => by omega) _ _
      · rw [c14] at h1 h2 h3 h4 h5
        exact go (by omega) (fun e => by omega) _ _
      · rw [c14] at h1 h2
        exact go (by omega) (fun e => by omega) _ _
      · rw [c14] at h1 h2 h3 h4 h5
        exact go (by omega) (fun e => by omega) _ _
      · rw [c14] at h1 h2 h3 h4
        exact go (by omega) (fun e => by omega) _ _
      · rw [c14] at h1 h2 h3 h4 h5 h6
        exact go (by omega) (fun e => by omega) _ _
    · refine ⟨oM_0 (by omega) km0 12 rfl, ?_⟩
      refine ⟨fun h0 => ?_, fun h0 => ?_⟩
      · refine ⟨⟨by omega, by omega⟩, ?_⟩
        exact Or.inl (⟨rfl, h0, rfl⟩)
      · refine ⟨oM_0 (by omega) km0 14 rfl, ?_⟩
        refine ⟨⟨by omega, by omega⟩, ?_⟩
        refine ⟨⟨by omega, by omega⟩, ?_⟩
        refine ⟨aM_7 (r := A 0 14) (by rw [c14]; omega) (by rw [c14]; exact kn7) (by omega) (by omega), ?_⟩
        have e1 : A (A 0 14) ((6 * i) + j) = A 7 ((6 * i) + j) := by rw [c14]
        refine ⟨oM_0 (by omega) km0 14 rfl, ?_⟩
        refine ⟨⟨by omega, by omega⟩, ?_⟩
        refine ⟨⟨by omega, by omega⟩, ?_⟩
        refine ⟨aM_7 (r := A 0 14) (by rw [c14]; omega) (by rw [c14]; exact kn7) (by omega) (by omega), ?_⟩
        have e2 : A (A 0 14) ((6 * j) + i) = A 7 ((6 * j) + i) := by rw [c14]
        refine ⟨fun h1 => ?_, fun h1 => ?_⟩
        · refine ⟨fun h2 => ?_, fun h2 => ?_⟩
          · refine ⟨fun h3 => ?_, fun h3 => ?_⟩
            · exact ⟨rfl, ⟨_, rfl⟩, h⟩
            · refine ⟨fun h4 => ?_, fun h4 => ?_⟩
              · refine ⟨⟨by omega, by omega⟩, ?_⟩
                exact Or.inr (Or.inl (⟨rfl, h0, h1, h2, h3, h4, rfl⟩))
              · exact ⟨rfl, ⟨_, rfl⟩, h⟩
          · refine ⟨fun h3 => ?_, fun h3 => ?_⟩
            · refine ⟨⟨by omega, by omega⟩, ?_⟩
              exact Or.inr (Or.inr (Or.inl (⟨rfl, h0, h1, h2, h3, rfl⟩)))
            · refine ⟨fun h4 => ?_, fun h4 => ?_⟩
              · exact ⟨rfl, ⟨_, rfl⟩, h⟩
              · refine ⟨fun h5 => ?_, fun h5 => ?_⟩
                · refine ⟨⟨by omega, by omega⟩, ?_⟩
                  exact Or.inr (Or.inr (Or.inr (Or.inl (⟨rfl, h0, h1, h2, h3, h4, h5, rfl⟩))))
                · exact ⟨rfl, ⟨_, rfl⟩, h⟩
        · refine ⟨fun h2 => ?_, fun h2 => ?_⟩
          · refine ⟨⟨by omega, by omega⟩, ?_⟩
            exact Or.inr (Or.inr (Or.inr (Or.inr (Or.inl (⟨rfl, h0, h1, h2, rfl⟩)))))
          · refine ⟨fun h3 => ?_, fun h3 => ?_⟩
            · refine ⟨fun h4 => ?_, fun h4 => ?_⟩
              · exact ⟨rfl, ⟨_, rfl⟩, h⟩
              · refine ⟨fun h5 => ?_, fun h5 => ?_⟩
                · refine ⟨⟨by omega, by omega⟩, ?_⟩
                  exact Or.inr (Or.inr (Or.inr (Or.inr (Or.inr (Or.inl (⟨rfl, h0, h1, h2, h3, h4, h5, rfl⟩))))))
                · exact ⟨rfl, ⟨_, rfl⟩, h⟩
            · refine ⟨fun h4 => ?_, fun h4 => ?_⟩
              · refine ⟨⟨by omega, by omega⟩, ?_⟩
                exact Or.inr (Or.inr (Or.inr (Or.inr (Or.inr (Or.inr (Or.inl (⟨rfl, h0, h1, h2, h3, h4, rfl⟩)))))))
              · refine ⟨fun h5 => ?_, fun h5 => ?_⟩
                · exact ⟨rfl, ⟨_, rfl⟩, h⟩
                · refine ⟨fun h6 => ?_, fun h6 => ?_⟩
                  · refine ⟨⟨by omega, by omega⟩, ?_⟩
                    exact Or.inr (Or.inr (Or.inr (Or.inr (Or.inr (Or.inr (Or.inr (⟨rfl, h0, h1, h2, h3, h4, h5, h6, rfl⟩)))))))
                  · exact ⟨rfl, ⟨_, rfl⟩, h⟩
theorem mb_41 {A : pm_A} (h : RI A) (p1 : 1 ≤ A 0 12) : ∀ (m : Nat) (i : Int) (w2 w3 w4 : pm_V), (6 - i).toNat < m → 0 ≤ i → i ≤ 6 → (∀ k : Int, 0 ≤ k → k < i → k < A 0 12 → ∀ j : Int, 0 ≤ j → j < A 0 12 → sgn0 A k j) → Tm pmt (an_sh wM) o_X10_begin 41 ([(2, 0), (0, i), w2, w3, w4], [], A) ri_post := by
  have p12 := fM_0_12 h.g (r := 0) (by omega) km0
  intro m
  induction m with
  | zero => intro i w2 w3 w4 h; omega
  | succ m ih =>
    intro i w2 w3 w4 hm i0 i1 hi
    refine wq_ok srt_Mbegin (fr := []) (cuts := [51, 125]) (J := fun pc st => (pc = 125 ∧ ((A 0 12) ≤ i) ∧ st = ([(2, 0), (0, i), w2, w3, w4], [], A)) ∨ (pc = 51 ∧ (i < (A 0 12)) ∧ st = ([(2, 0), (0, i), (0, 0), w3, w4], [], A))) ?_ 11 41 _ ?_
    · rintro pc st (⟨rfl, h0, rfl⟩ | ⟨rfl, h0, rfl⟩)
      · exact mb_125 h ⟨h.2.1.1, fun a b a0 a1 b0 b1 => hi a a0 (by omega) a1 b b0 b1⟩ p1
      · refine mb_51 h i0 (by omega) p12.2 (fun hj w2 w3 w4 => ih (i + 1) _ _ _ (by omega) (by omega) (by omega) (fun k k0 k1 k2 => ?_)) _ 0 _ _ (Nat.lt_succ_self _) (by omega) (by omega) (fun k k0 k1 => by omega)
        by_cases e : k = i
        · rw [e]; exact hj
        · exact hi k k0 (by omega) k2
    · refine ⟨oM_0 (by omega) km0 12 rfl, ?_⟩
      refine ⟨fun h0 => ?_, fun h0 => ?_⟩
      · exact Or.inl (⟨rfl, h0, rfl⟩)
      · exact Or.inr (⟨rfl, h0, rfl⟩)
theorem mb_11 {A : pm_A} (h : RI A) (p1 : 1 ≤ A 0 12) : ∀ (m : Nat) (i : Int) (w2 w3 w4 : pm_V), (6 - i).toNat < m → 0 ≤ i → i ≤ 6 → Tm pmt (an_sh wM) o_X10_begin 11 ([(2, 0), (0, i), w2, w3, w4], [], A) ri_post := by
  have p12 := fM_0_12 h.g (r := 0) (by omega) km0
  have c14 := pM_14 h.g
  intro m
  induction m with
  | zero => intro i w2 w3 w4 h; omega
  | succ m ih =>
    intro i w2 w3 w4 hm i0 i1
    refine wq_ok srt_Mbegin (fr := []) (cuts := [11, 41]) (J := fun pc st => (pc = 41 ∧ ((A 0 12) ≤ i) ∧ st = ([(2, 0), (0, 0), w2, w3, w4], [], A)) ∨ (pc = 11 ∧ (i < (A 0 12)) ∧ ((A (A 0 14) (7 * i)) = 0) ∧ st = ([(2, 0), (0, i + 1), w2, w3, w4], [], A))) ?_ 18 11 _ ?_
    · rintro pc st (⟨rfl, h0, rfl⟩ | ⟨rfl, h0, h1, rfl⟩)
      · exact mb_41 h p1 _ 0 _ _ _ (Nat.lt_succ_self _) (by omega) (by omega) (fun k k0 k1 => by omega)
      · exact ih (i + 1) _ _ _ (by omega) (by omega) (by omega)
    · refine ⟨oM_0 (by omega) km0 12 rfl, ?_⟩
      refine ⟨fun h0 => ?_, fun h0 => ?_⟩
      · exact Or.inl (⟨rfl, h0, rfl⟩)
      · refine ⟨oM_0 (by omega) km0 14 rfl, ?_⟩
        refine ⟨⟨by omega, by omega⟩, ?_⟩
        refine ⟨aM_7 (r := A 0 14) (by rw [c14]; omega) (by rw [c14]; exact kn7) (by omega) (by omega), ?_⟩
        have e1 : A (A 0 14) (7 * i) = A 7 (7 * i) := by rw [c14]
        refine ⟨fun h1 => ?_, fun h1 => ?_⟩
        · refine ⟨⟨by omega, by omega⟩, ?_⟩
          exact Or.inr (⟨rfl, h0, h1, rfl⟩)
        · exact ⟨rfl, ⟨_, rfl⟩, h⟩
theorem mbegin_ct {A : pm_A} (h : RI A) : Cl pmt (an_sh wM) 129 [(2, 0)] A ri_post := by
  have p12 := fM_0_12 h.g (r := 0) (by omega) km0
  refine Cl.of (Nat.le_of_ble_eq_true rfl) ?_
  refine wq_ok (full := o_X10_begin) srt_Mbegin (fr := []) (cuts := [11]) (J := fun pc st => (pc = 11 ∧ (¬ (A 0 12) = 0) ∧ st = ([(2, 0), (0, 0), (9, 0), (9, 0), (9, 0)], [], A))) ?_ 10 0 _ ?_
  · rintro pc st (⟨rfl, h0, rfl⟩)
    exact mb_11 h (by omega) _ 0 _ _ _ (Nat.lt_succ_self _) (by omega) (by omega)
  · refine ⟨oM_0 (by omega) km0 12 rfl, ?_⟩
    refine ⟨fun h0 => ?_, fun h0 => ?_⟩
    · exact ⟨rfl, h0, rfl⟩
    · exact ⟨rfl, ⟨_, rfl⟩, h⟩
end

section
/-! the small methods of the rings, exactly -/
def bp (A : pm_A) (P : Prop) (r : pm_R) : Prop := r.2 = A ∧ ∃ x : Int, r.1 = some (0, x) ∧ ((x = 1 ∧ P) ∨ (x = 0 ∧ ¬ P))
theorem srt_MisSlot : pm_srt o_X10_isSlot = true := by decide +kernel
theorem MisSlot_ex {A : pm_A} {s : Int} : Cl pmt (an_sh wM) 156 [(2, 0), (0, s)] A (bp A (s = 0 ∨ s = 1)) := by
  refine Cl.of (Nat.le_of_ble_eq_true rfl) ?_
  refine wq_ok (full := o_X10_isSlot) srt_MisSlot (fr := []) (cuts := []) (J := fun _ _ => False) ?_ 12 0 _ ?_
  · intro pc st h; exact h.elim
  · refine ⟨fun h0 => ?_, fun h0 => ?_⟩
    · exact ⟨rfl, rfl, 1, rfl, Or.inl ⟨rfl, by omega⟩⟩
    · refine ⟨fun h1 => ?_, fun h1 => ?_⟩
      · exact ⟨rfl, rfl, 0, rfl, Or.inr ⟨rfl, fun hp => by omega⟩⟩
      · exact ⟨rfl, rfl, 1, rfl, Or.inl ⟨rfl, by omega⟩⟩
theorem srt_MareNeighbours : pm_srt o_X10_areNeighbours = true := by decide +kernel
theorem MareNeighbours_ex {A : pm_A} {n x y : Int} (n0 : 4 ≤ n) (n1 : n ≤ 10) (x0 : 0 ≤ x) (x1 : x ≤ 9) (y0 : 0 ≤ y) (y1 : y ≤ 9) : Cl pmt (an_sh wM) 125 [(0, n), (0, x), (0, y)] A (bp A (neigh n x y)) := by
  refine Cl.of (Nat.le_of_ble_eq_true rfl) ?_
  refine wq_ok (full := o_X10_areNeighbours) srt_MareNeighbours (fr := []) (cuts := []) (J := fun _ _ => False) ?_ 31 0 _ ?_
  · intro pc st h; exact h.elim
  · refine ⟨⟨by omega, by omega⟩, ?_⟩
    refine ⟨fun h0 => ?_, fun h0 => ?_⟩
    · exact ⟨rfl, rfl, 1, rfl, Or.inl ⟨rfl, by unfold neigh; omega⟩⟩
    · refine ⟨⟨by omega, by omega⟩, ?_⟩
      refine ⟨fun h1 => ?_, fun h1 => ?_⟩
      · exact ⟨rfl, rfl, 1, rfl, Or.inl ⟨rfl, by unfold neigh; omega⟩⟩
      · refine ⟨fun h2 => ?_, fun h2 => ?_⟩
        · refine ⟨fun h3 => ?_, fun h3 => ?_⟩
          · exact ⟨rfl, rfl, 0, rfl, Or.inr ⟨rfl, fun hp => by unfold neigh at hp; omega⟩⟩
          · refine ⟨⟨by omega, by omega⟩, ?_⟩
            refine ⟨fun h4 => ?_, fun h4 => ?_⟩
            · exact ⟨rfl, rfl, 0, rfl, Or.inr ⟨rfl, fun hp => by unfold neigh at hp; omega⟩⟩
            · exact ⟨rfl, rfl, 1, rfl, Or.inl ⟨rfl, by unfold neigh; omega⟩⟩
        · refine ⟨⟨by omega, by omega⟩, ?_⟩
          refine ⟨fun h3 => ?_, fun h3 => ?_⟩
          · exact ⟨rfl, rfl, 1, rfl, Or.inl ⟨rfl, by unfold neigh; omega⟩⟩
          · refine ⟨fun h4 => ?_, fun h4 => ?_⟩
            · exact ⟨rfl, rfl, 0, rfl, Or.inr ⟨rfl, fun hp => by unfold neigh at hp; omega⟩⟩
            · refine ⟨⟨by omega, by omega⟩, ?_⟩
              refine ⟨fun h5 => ?_, fun h5 => ?_⟩
              · exact ⟨rfl, rfl, 0, rfl, Or.inr ⟨rfl, fun hp => by unfold neigh at hp; omega⟩⟩
              · exact ⟨rfl, rfl, 1, rfl, Or.inl ⟨rfl, by unfold neigh; omega⟩⟩
theorem srt_Mcross : pm_srt o_X10_cross = true := by decide +kernel
theorem Mcross_ex {A : pm_A} {a b c d : Int} : Cl pmt (an_sh wM) 136 [(0, a), (0, b), (0, c), (0, d)] A (bp A (crossd a b c d)) := by
  refine Cl.of (Nat.le_of_ble_eq_true rfl) ?_
  refine wq_ok (full := o_X10_cross) srt_Mcross (fr := []) (cuts := []) (J := fun _ _ => False) ?_ 25 0 _ ?_
  · intro pc st h; exact h.elim
  · refine ⟨fun h0 => ?_, fun h0 => ?_⟩
    · refine ⟨fun h1 => ?_, fun h1 => ?_⟩
      · exact ⟨rfl, rfl, 0, rfl, Or.inr ⟨rfl, fun hp => by unfold crossd at hp; omega⟩⟩
      · refine ⟨fun h2 => ?_, fun h2 => ?_⟩
        · exact ⟨rfl, rfl, 0, rfl, Or.inr ⟨rfl, fun hp => by unfold crossd at hp; omega⟩⟩
        · refine ⟨fun h3 => ?_, fun h3 => ?_⟩
          · exact ⟨rfl, rfl, 0, rfl, Or.inr ⟨rfl, fun hp => by unfold crossd at hp; omega⟩⟩
          · exact ⟨rfl, rfl, 1, rfl, Or.inl ⟨rfl, by unfold crossd; omega⟩⟩
    · refine ⟨fun h1 => ?_, fun h1 => ?_⟩
      · refine ⟨fun h2 => ?_, fun h2 => ?_⟩
        · exact ⟨rfl, rfl, 0, rfl, Or.inr ⟨rfl, fun hp => by unfold crossd at hp; omega⟩⟩
        · refine ⟨fun h3 => ?_, fun h3 => ?_⟩
          · exact ⟨rfl, rfl, 0, rfl, Or.inr ⟨rfl, fun hp => by unfold crossd at hp; omega⟩⟩
          · refine ⟨fun h4 => ?_, fun h4 => ?_⟩
            · exact ⟨rfl, rfl, 0, rfl, Or.inr ⟨rfl, fun hp => by unfold crossd at hp; omega⟩⟩
            · exact ⟨rfl, rfl, 1, rfl, Or.inl ⟨rfl, by unfold crossd; omega⟩⟩
      · refine ⟨fun h2 => ?_, fun h2 => ?_⟩
        · exact ⟨rfl, rfl, 1, rfl, Or.inl ⟨rfl, by unfold crossd; omega⟩⟩
        · refine ⟨fun h3 => ?_, fun h3 => ?_⟩
          · exact ⟨rfl, rfl, 0, rfl, Or.inr ⟨rfl, fun hp => by unfold crossd at hp; omega⟩⟩
          · refine ⟨fun h4 => ?_, fun h4 => ?_⟩
            · exact ⟨rfl, rfl, 0, rfl, Or.inr ⟨rfl, fun hp => by unfold crossd at hp; omega⟩⟩
            · refine ⟨fun h5 => ?_, fun h5 => ?_⟩
              · exact ⟨rfl, rfl, 0, rfl, Or.inr ⟨rfl, fun hp => by unfold crossd at hp; omega⟩⟩
              · exact ⟨rfl, rfl, 1, rfl, Or.inl ⟨rfl, by unfold crossd; omega⟩⟩
theorem srt_Mlesser : pm_srt o_X10_lesser = true := by decide +kernel
theorem lesser_ex {A : pm_A} {a b : Int} : Cl pmt (an_sh wM) 165 [(0, a), (0, b)] A (fun r => r = (some (0, min a b), A)) := by
  refine Cl.of (Nat.le_of_ble_eq_true rfl) ?_
  refine wq_ok (full := o_X10_lesser) srt_Mlesser (fr := []) (cuts := []) (J := fun _ _ => False) ?_ 10 0 _ ?_
  · intro pc st h; exact h.elim
  · refine ⟨fun h0 => ?_, fun h0 => ?_⟩
    · exact ⟨rfl, (by rw [show min a b = b by omega])⟩
    · exact ⟨rfl, (by rw [show min a b = a by omega])⟩
theorem srt_Mgreater : pm_srt o_X10_greater = true := by decide +kernel
theorem greater_ex {A : pm_A} {a b : Int} : Cl pmt (an_sh wM) 148 [(0, a), (0, b)] A (fun r => r = (some (0, max a b), A)) := by
  refine Cl.of (Nat.le_of_ble_eq_true rfl) ?_
  refine wq_ok (full := o_X10_greater) srt_Mgreater (fr := []) (cuts := []) (J := fun _ _ => False) ?_ 10 0 _ ?_
  · intro pc st h; exact h.elim
  · refine ⟨fun h0 => ?_, fun h0 => ?_⟩
    · exact ⟨rfl, (by rw [show max a b = b by omega])⟩
    · exact ⟨rfl, (by rw [show max a b = a by omega])⟩
theorem srt_Mnamed : pm_srt o_X10_named = true := by decide +kernel
theorem named_ex {A : pm_A} {f : Int} (f0 : 0 ≤ f) (f1 : f ≤ 99) : Cl pmt (an_sh wM) 167 [(0, f)] A (fun r => r.2 = A ∧ ∃ x, r.1 = some (0, x) ∧ 0 ≤ x ∧ x ≤ 999) := by
  refine Cl.of (Nat.le_of_ble_eq_true rfl) ?_
  refine wq_ok (full := o_X10_named) srt_Mnamed (fr := []) (cuts := []) (J := fun _ _ => False) ?_ 14 0 _ ?_
  · intro pc st h; exact h.elim
  · refine ⟨⟨by omega, by omega, by omega, by omega⟩, ?_⟩
    refine ⟨(show r32 (100 * (f / 10) : Int) from ⟨by omega, by omega⟩), ?_⟩
    refine ⟨⟨by omega, by omega, by omega, by omega⟩, ?_⟩
    refine ⟨(show r32 ((100 * (f / 10)) + (f % 10) : Int) from ⟨by omega, by omega⟩), ?_⟩
    exact ⟨rfl, rfl, 100 * (f / 10) + f % 10, rfl, by omega, by omega⟩
def cntF (F : Int → Int) : Nat → Int
  | 0 => 0
  | f + 1 => cntF F f + (if F f = 0 then 0 else 1)
theorem cntF_b (F : Int → Int) : ∀ n : Nat, 0 ≤ cntF F n ∧ cntF F n ≤ n
  | 0 => by show (0 : Int) ≤ 0 ∧ (0 : Int) ≤ ((0 : Nat) : Int); omega
  | n + 1 => by
    have := cntF_b F n
    rw [cntF]
    split <;> omega
theorem cntF_add (F : Int → Int) (n : Nat) : ∀ k : Nat, cntF F n ≤ cntF F (n + k)
  | 0 => Int.le_refl _
  | k + 1 => by
    have := cntF_add F n k
    rw [show n + (k + 1) = (n + k) + 1 by omega, cntF]
    split <;> omega
theorem cntF_mono (F : Int → Int) {n m : Nat} (h : n ≤ m) : cntF F n ≤ cntF F m := by
  have := cntF_add F n (m - n)
  rwa [show n + (m - n) = m by omega] at this
theorem cntF_lt (F : Int → Int) {n m : Nat} (h : n < m) (hn : ¬ F n = 0) : cntF F n < cntF F m := by
  have h1 := cntF_mono F (show n + 1 ≤ m by omega)
  rw [cntF, if_neg hn] at h1
  omega
theorem cntF_congr {F G : Int → Int} : ∀ n : Nat, (∀ f : Int, 0 ≤ f → f < n → F f = G f) → cntF F n = cntF G n
  | 0, _ => rfl
  | n + 1, h => by rw [cntF, cntF, cntF_congr n (fun f f0 f1 => h f f0 (by omega)), h n (by omega) (by omega)]
def fcs (A : pm_A) (sl : Int) : Int → Int := fun f => A 32 (100 * sl + f)
theorem fcs_b {A : pm_A} (hA : gH wM A) {sl f : Int} (s0 : 0 ≤ sl) (s1 : sl ≤ 1) (f0 : 0 ≤ f) (f1 : f < 100) : 0 ≤ fcs A sl f ∧ fcs A sl f ≤ 1 := eM_32 hA (r := 32) (by omega) kn32 (show 0 ≤ 100 * sl + f by omega) (by omega)
theorem srt_Mfences : pm_srt o_X10_fences = true := by decide +kernel
theorem fences_4 {A : pm_A} {sl : Int} (hA : gH wM A) (s0 : 0 ≤ sl) (s1 : sl ≤ 1) : ∀ (m : Nat) (i : Nat), 100 - i < m → i ≤ 100 → Tm pmt (an_sh wM) o_X10_fences 4 ([(2, 0), (0, sl), (0, cntF (fcs A sl) i), (0, (i : Int))], [], A) (fun r => r = (some (0, cntF (fcs A sl) 100), A)) := by
  have c49 := pM_49 hA
  intro m
  induction m with
  | zero => intro i h; omega
  | succ m ih =>
    intro i hm i1
    have hb := cntF_b (fcs A sl) i
    have st : cntF (fcs A sl) (i + 1) = cntF (fcs A sl) i + (if fcs A sl i = 0 then 0 else 1) := rfl
    refine wq_ok srt_Mfences (fr := []) (cuts := [4]) (J := fun pc st => (pc = 4 ∧ (((i : Int)) < 100) ∧ ((A (A 0 49) ((100 * sl) + ((i : Int)))) = 0) ∧ st = ([(2, 0), (0, sl), (0, cntF (fcs A sl) i), (0, ((i : Int)) + 1)], [], A)) ∨ (pc = 4 ∧ (((i : Int)) < 100) ∧ (¬ (A (A 0 49) ((100 * sl) + ((i : Int)))) = 0) ∧ st = ([(2, 0), (0, sl), (0, (cntF (fcs A sl) i) + 1), (0, ((i : Int)) + 1)], [], A))) ?_ 20 4 _ ?_
    · rintro pc st (⟨rfl, h0, h1, rfl⟩ | ⟨rfl, h0, h1, rfl⟩)
      · rw [c49] at h1
        have h1 : fcs A sl i = 0 := h1
        rw [if_pos h1] at st
        have e : cntF (fcs A sl) i = cntF (fcs A sl) (i + 1) := by omega
        rw [e, show (i : Int) + 1 = ((i + 1 : Nat) : Int) by omega]
        exact ih (i + 1) (by omega) (by omega)
      · rw [c49] at h1
        have h1 : ¬ fcs A sl i = 0 := h1
        rw [if_neg h1] at st
        have e : cntF (fcs A sl) i + 1 = cntF (fcs A sl) (i + 1) := by omega
        rw [e, show (i : Int) + 1 = ((i + 1 : Nat) : Int) by omega]
        exact ih (i + 1) (by omega) (by omega)
    · refine ⟨fun h0 => ?_, fun h0 => ?_⟩
      · exact ⟨rfl, (by rw [show i = 100 by omega])⟩
      · refine ⟨oM_0 (by omega) km0 49 rfl, ?_⟩
        refine ⟨⟨by omega, by omega⟩, ?_⟩
        refine ⟨⟨by omega, by omega⟩, ?_⟩
        refine ⟨aM_32 (r := A 0 49) (by rw [c49]; omega) (by rw [c49]; exact kn32) (by omega) (by omega), ?_⟩
        have e1 : A (A 0 49) ((100 * sl) + ((i : Int))) = A 32 ((100 * sl) + ((i : Int))) := by rw [c49]
        refine ⟨fun h1 => ?_, fun h1 => ?_⟩
        · refine ⟨⟨by omega, by omega⟩, ?_⟩
          exact Or.inl (⟨rfl, h0, h1, rfl⟩)
        · refine ⟨⟨by omega, by omega⟩, ?_⟩
          refine ⟨⟨by omega, by omega⟩, ?_⟩
          exact Or.inr (⟨rfl, h0, h1, rfl⟩)
theorem fences_ex {A : pm_A} {sl : Int} (hA : gH wM A) (s0 : 0 ≤ sl) (s1 : sl ≤ 1) : Cl pmt (an_sh wM) 140 [(2, 0), (0, sl)] A (fun r => r = (some (0, cntF (fcs A sl) 100), A)) := by
  refine Cl.of (Nat.le_of_ble_eq_true rfl) ?_
  refine wq_ok (full := o_X10_fences) srt_Mfences (fr := []) (cuts := [4]) (J := fun pc st => (pc = 4 ∧ st = ([(2, 0), (0, sl), (0, 0), (0, 0)], [], A))) ?_ 9 0 _ ?_
  · rintro pc st (⟨rfl, rfl⟩)
    exact fences_4 hA s0 s1 _ 0 (Nat.lt_succ_self _) (by omega)
  · exact ⟨rfl, rfl⟩
theorem srt_MisCutting : pm_srt o_X10_isCutting = true := by decide +kernel
theorem isCutting_ex {A : pm_A} {sl : Int} (hA : gH wM A) (s0 : 0 ≤ sl) (s1 : sl ≤ 1) : Cl pmt (an_sh wM) 154 [(2, 0), (0, sl)] A (bp A (cntF (fcs A sl) 100 = A 31 sl - 3)) := by
  have c48 := pM_48 hA
  have b31 := eM_31 hA (r := 31) (by omega) kn31 s0 (show sl < 2 by omega)
  refine Cl.of (Nat.le_of_ble_eq_true rfl) ?_
  refine wq_ok (full := o_X10_isCutting) srt_MisCutting (fr := []) (cuts := [5]) (J := fun pc st => (pc = 5 ∧ st = ([(2, 0), (0, sl)], [(0, cntF (fcs A sl) 100)], A))) ?_ 7 0 _ ?_
  · rintro pc st (⟨rfl, rfl⟩)
    refine wq_ok srt_MisCutting (fr := []) (cuts := []) (J := fun _ _ => False) ?_ 14 5 _ ?_
    · intro pc st h; exact h.elim
    · refine ⟨oM_0 (by omega) km0 48 rfl, ?_⟩
      refine ⟨aM_31 (r := A 0 48) (by rw [c48]; omega) (by rw [c48]; exact kn31) (by omega) (by omega), ?_⟩
      have e1 : A (A 0 48) sl = A 31 sl := by rw [c48]
      refine ⟨⟨by omega, by omega⟩, ?_⟩
      refine ⟨fun h0 => ?_, fun h0 => ?_⟩
      · exact ⟨rfl, rfl, 0, rfl, Or.inr ⟨rfl, by rw [c48] at h0; exact h0⟩⟩
      · exact ⟨rfl, rfl, 1, rfl, Or.inl ⟨rfl, by rw [c48] at h0; exact h0⟩⟩
  · refine ⟨rM_0 (by omega) km0, ?_⟩
    refine (fences_ex hA s0 s1).imp ?_
    rintro r rfl
    exact ⟨rfl, rfl⟩
def side (n : Int) (F : Int → Int) (x y : Int) : Prop := neigh n x y ∨ F (10 * min x y + max x y) = 1
theorem srt_MisSide : pm_srt o_X10_isSide = true := by decide +kernel
theorem isSide_ex {A : pm_A} {sl x y : Int} (hA : gH wM A) (s0 : 0 ≤ sl) (s1 : sl ≤ 1) (x0 : 0 ≤ x) (x1 : x ≤ 9) (y0 : 0 ≤ y) (y1 : y ≤ 9) : Cl pmt (an_sh wM) 155 [(2, 0), (0, sl), (0, x), (0, y)] A (bp A (side (A 31 sl) (fcs A sl) x y)) := by
  have c48 := pM_48 hA
  have c49 := pM_49 hA
  have b31 := eM_31 hA (r := 31) (by omega) kn31 s0 (show sl < 2 by omega)
  refine Cl.of (Nat.le_of_ble_eq_true rfl) ?_
  refine wq_ok (full := o_X10_isSide) srt_MisSide (fr := []) (cuts := [11]) (J := fun pc st => (pc = 11 ∧ ∃ z : Int, ((z = 1 ∧ neigh (A 31 sl) x y) ∨ (z = 0 ∧ ¬ neigh (A 31 sl) x y)) ∧ st = ([(2, 0), (0, sl), (0, x), (0, y)], [(0, z)], A))) ?_ 11 0 _ ?_
  · rintro pc st (⟨rfl, z, hz, rfl⟩)
    refine wq_ok srt_MisSide (fr := []) (cuts := [29]) (J := fun pc st => (pc = 29 ∧ (z = 0) ∧ st = ([(2, 0), (0, sl), (0, x), (0, y)], [(0, min x y), (0, 10), (0, 100 * sl), (2, A 0 49)], A))) ?_ 14 11 _ ?_
    · rintro pc st (⟨rfl, h0, rfl⟩)
      have hn : ¬ neigh (A 31 sl) x y := by
        rcases hz with ⟨e, _⟩ | ⟨_, e⟩
        · omega
        · exact e
      refine wq_ok srt_MisSide (fr := []) (cuts := [36]) (J := fun pc st => (pc = 36 ∧ st = ([(2, 0), (0, sl), (0, x), (0, y)], [(0, max x y), (0, (100 * sl) + (10 * (min x y))), (2, A 0 49)], A))) ?_ 9 29 _ ?_
      · rintro pc st (⟨rfl, rfl⟩)
        refine wq_ok srt_MisSide (fr := []) (cuts := []) (J := fun _ _ => False) ?_ 10 36 _ ?_
        · intro pc st h; exact h.elim
        · refine ⟨⟨by omega, by omega⟩, ?_⟩
          refine ⟨aM_32 (r := A 0 49) (by rw [c49]; omega) (by rw [c49]; exact kn32) (by omega) (by omega), ?_⟩
          have e1 : A (A 0 49) (((100 * sl) + (10 * (min x y))) + (max x y)) = A 32 (((100 * sl) + (10 * (min x y))) + (max x y)) := by rw [c49]
          refine ⟨fun h0 => ?_, fun h0 => ?_⟩
          · exact ⟨rfl, rfl, 0, rfl, Or.inr ⟨rfl, fun hp => hp.elim hn (fun hp => by unfold fcs at hp; rw [c49, show 100 * sl + 10 * min x y + max x y = 100 * sl + (10 * min x y + max x y) by omega] at h0; omega)⟩⟩
          · exact ⟨rfl, rfl, 1, rfl, Or.inl ⟨rfl, Or.inr (by unfold fcs; have b := eM_32 hA (r := 32) (by omega) kn32 (show 0 ≤ 100 * sl + (10 * min x y + max x y) by omega) (by omega); rw [c49, show 100 * sl + 10 * min x y + max x y = 100 * sl + (10 * min x y + max x y) by omega] at h0; omega)⟩⟩
      · refine ⟨⟨by omega, by omega⟩, ?_⟩
        refine ⟨⟨by omega, by omega⟩, ?_⟩
        refine ⟨rfl, ?_⟩
        refine (greater_ex).imp ?_
        rintro r rfl
        exact ⟨rfl, rfl⟩
    · refine ⟨fun h0 => ?_, fun h0 => ?_⟩
      · exact ⟨rfl, rfl, 1, rfl, Or.inl ⟨rfl, Or.inl (by rcases hz with ⟨_, e⟩ | ⟨e, _⟩; exact e; omega)⟩⟩
      · refine ⟨oM_0 (by omega) km0 49 rfl, ?_⟩
        refine ⟨⟨by omega, by omega⟩, ?_⟩
        refine ⟨rfl, ?_⟩
        refine (lesser_ex).imp ?_
        rintro r rfl
        exact ⟨rfl, h0, rfl⟩
  · refine ⟨oM_0 (by omega) km0 48 rfl, ?_⟩
    refine ⟨aM_31 (r := A 0 48) (by rw [c48]; omega) (by rw [c48]; exact kn31) (by omega) (by omega), ?_⟩
    have e1 : A (A 0 48) sl = A 31 sl := by rw [c48]
    refine ⟨rfl, ?_⟩
    rw [c48]
    refine (MareNeighbours_ex (n := A 31 sl) (x := x) (y := y) b31.1 b31.2 x0 x1 y0 y1).imp ?_
    rintro ⟨r1, C⟩ ⟨q1, z, q2, hz⟩
    simp only at q1 q2
    subst q1
    subst q2
    exact ⟨rfl, z, hz, rfl⟩
end

section
/-! ring, fence, table, arrows -/
theorem RI.ring {A B : pm_A} (h : RI A) (hB : gH wM B) (ho : ∀ r j : Int, r ≠ 31 → r ≠ 32 → r ≠ 33 → r ≠ 34 → r ≠ 35 → r ≠ 36 → r ≠ 37 → r ≠ 38 → ¬ (r = 0 ∧ (j = 54 ∨ j = 55)) → B r j = A r j) (hR : RG B) : RI B := by
  obtain ⟨⟨s, ks, hT⟩, ⟨b1, b2⟩, hRG⟩ := h
  have p7 := fM_0_7 hT.1 (r := 0) (by omega) km0
  have o : ∀ r j : Int, r ≤ 7 → ¬ (r = 0 ∧ (j = 54 ∨ j = 55)) → B r j = A r j := fun r j h1 h2 => ho r j (by omega) (by omega) (by omega) (by omega) (by omega) (by omega) (by omega) (by omega) h2
  refine ⟨⟨s, ks, hT.same hB (o 0 7 (by omega) (by omega)) (o 0 8 (by omega) (by omega)) (fun i _ _ => o 5 i (by omega) (by omega)) (fun p p0 p1 q i hq => o q i (by unfold inS at hq; omega) (by unfold inS at hq; omega))⟩, ⟨fun i i0 i1 => by rw [o 7 i (by omega) (by omega)]; exact b1 i i0 i1, fun d d0 d1 => ?_⟩, hR⟩
  rw [o 0 10 (by omega) (by omega)] at d1
  rw [o 6 d (by omega) (by omega), o 0 7 (by omega) (by omega)]
  exact b2 d d0 d1
theorem rgS_congr {n : Int} {F G : Int → Int} (h : rgS n F) (e : ∀ f : Int, 0 ≤ f → f < 100 → G f = F f) : rgS n G := by
  refine ⟨h.1, fun f f0 f1 => by rw [e f f0 f1]; exact h.2.1 f f0 f1, fun f f0 f1 hf => ?_⟩
  rw [e f f0 f1] at hf
  have a := h.2.2 f f0 f1 hf
  exact ⟨a.1, fun g g0 g1 hg => a.2 g g0 g1 (by rw [← e g g0 g1]; exact hg)⟩
theorem rgS_zero {n : Int} {F : Int → Int} (h0 : 4 ≤ n) (h1 : n ≤ 10) (e : ∀ f : Int, 0 ≤ f → f < 100 → F f = 0) : rgS n F :=
  ⟨⟨h0, h1⟩, fun f f0 f1 => Or.inl (e f f0 f1), fun f f0 f1 hf => by rw [e f f0 f1] at hf; omega⟩
theorem crossd_sym {a b c d : Int} (h : crossd a b c d) : crossd c d a b := by unfold crossd at *; omega
theorem rgS_put {n f0 : Int} {F G : Int → Int} (h : rgS n F) (a0 : 0 ≤ f0) (a1 : f0 < 100) (h1 : f0 / 10 < f0 % 10 ∧ f0 % 10 < n ∧ ¬ neigh n (f0 / 10) (f0 % 10)) (h2 : ∀ g : Int, 0 ≤ g → g < 100 → F g = 1 → ¬ crossd (f0 / 10) (f0 % 10) (g / 10) (g % 10)) (e0 : G f0 = 1) (e : ∀ f : Int, 0 ≤ f → f < 100 → f ≠ f0 → G f = F f) : rgS n G := by
  refine ⟨h.1, fun f x0 x1 => ?_, fun f x0 x1 hf => ?_⟩
  · by_cases ef : f = f0
    · rw [ef, e0]; omega
    · rw [e f x0 x1 ef]; exact h.2.1 f x0 x1
  · by_cases ef : f = f0
    · rw [ef]
      refine ⟨h1, fun g g0 g1 hg => ?_⟩
      by_cases eg : g = f0
      · rw [eg]; unfold crossd; omega
      · exact h2 g g0 g1 (by rw [← e g g0 g1 eg]; exact hg)
    · rw [e f x0 x1 ef] at hf
      have a := h.2.2 f x0 x1 hf
      refine ⟨a.1, fun g g0 g1 hg => ?_⟩
      by_cases eg : g = f0
      · rw [eg]; exact fun hc => h2 f x0 x1 hf (crossd_sym hc)
      · exact a.2 g g0 g1 (by rw [← e g g0 g1 eg]; exact hg)
theorem srt_Mring : pm_srt o_X10_ring = true := by decide +kernel
def rnF (A B : pm_A) (sl : Int) : Prop := gH wM B ∧ (∀ r j : Int, r ≠ 31 → r ≠ 32 → B r j = A r j) ∧ (∀ j, j ≠ sl → B 31 j = A 31 j) ∧ ∀ j, ¬ (100 * sl ≤ j ∧ j < 100 * sl + 100) → B 32 j = A 32 j
theorem rnF.ri {A B : pm_A} {sl : Int} (h : RI A) (hF : rnF A B sl) (hR : rgS (B 31 sl) (fun f => B 32 (100 * sl + f))) : RI B := by
  refine h.ring hF.1 (fun r j h1 h2 _ _ _ _ _ _ _ => hF.2.1 r j h1 h2) (fun s hs => ?_)
  by_cases e : s = sl
  · rw [e]; exact hR
  · rw [hF.2.2.1 s e]
    exact rgS_congr (h.2.2 s hs) (fun f f0 f1 => hF.2.2.2 _ (by omega))
theorem rn_30 {A : pm_A} {sl n : Int} (h : RI A) (hs : sl = 0 ∨ sl = 1) (n0 : 4 ≤ n) (n1 : n ≤ 10) {w2 : pm_V} : ∀ (m : Nat) (i : Int) (B : pm_A), (100 - i).toNat < m → 0 ≤ i → i ≤ 100 → rnF A B sl → B 31 sl = n → (∀ f : Int, 0 ≤ f → f < i → B 32 (100 * sl + f) = 0) → Tm pmt (an_sh wM) o_X10_ring 30 ([(2, 0), (0, sl), (0, n), (0, i)], [], B) ri_post := by
  intro m
  induction m with
  | zero => intro i B h; omega
  | succ m ih =>
    intro i B hm i0 i1 hF e31 hz
    have c49 := pM_49 hF.1
    have hfin : 100 ≤ i → RI B := fun hi => hF.ri h (by rw [e31]; exact rgS_zero n0 n1 (fun f f0 f1 => hz f f0 (by omega)))
    refine wq_ok srt_Mring (fr := []) (cuts := [30]) (J := fun pc st => (pc = 30 ∧ (i < 100) ∧ st = ([(2, 0), (0, sl), (0, n), (0, i + 1)], [], pm_upd B (B 0 49) ((100 * sl) + i) 0))) ?_ 19 30 _ ?_
    · rintro pc st (⟨rfl, h0, rfl⟩)
      rw [c49]
      refine ih (i + 1) _ (by omega) (by omega) (by omega) ⟨uM_32 hF.1 kn32 (by omega) (by omega), fun r j h1 h2 => by rw [upd_o (by omega)]; exact hF.2.1 r j h1 h2, fun j hj => by rw [upd_o (by omega)]; exact hF.2.2.1 j hj, fun j hj => by rw [upd_o (by omega)]; exact hF.2.2.2 j hj⟩ (by rw [upd_o (by omega)]; exact e31) (fun f f0 f1 => ?_)
      by_cases e : f = i
      · rw [e, upd_at]
      · rw [upd_o (by omega)]; exact hz f f0 (by omega)
    · refine ⟨fun h0 => ?_, fun h0 => ?_⟩
      · exact ⟨rfl, ⟨_, rfl⟩, hfin h0⟩
      · refine ⟨oM_0 (by omega) km0 49 rfl, ?_⟩
        refine ⟨⟨by omega, by omega⟩, ?_⟩
        refine ⟨⟨by omega, by omega⟩, ?_⟩
        refine ⟨tM_32 (r := B 0 49) (by rw [c49]; omega) (by rw [c49]; exact kn32) (by omega) (by omega) rfl, ?_⟩
        refine ⟨⟨by omega, by omega⟩, ?_⟩
        exact ⟨rfl, h0, rfl⟩
theorem mring_ct {A : pm_A} (h : RI A) (sl n : Int) : Cl pmt (an_sh wM) 177 [(2, 0), (0, sl), (0, n)] A ri_post := by
  have c48 := pM_48 h.g
  refine Cl.of (Nat.le_of_ble_eq_true rfl) ?_
  refine wq_ok (full := o_X10_ring) srt_Mring (fr := []) (cuts := [5]) (J := fun pc st => (pc = 5 ∧ ∃ x : Int, ((x = 1 ∧ (sl = 0 ∨ sl = 1)) ∨ (x = 0 ∧ ¬ (sl = 0 ∨ sl = 1))) ∧ st = ([(2, 0), (0, sl), (0, n), (9, 0)], [(0, x)], A))) ?_ 7 0 _ ?_
  · rintro pc st (⟨rfl, x, hx, rfl⟩)
    refine wq_ok srt_Mring (fr := []) (cuts := [30]) (J := fun pc st => (pc = 30 ∧ (¬ x = 0) ∧ (4 ≤ n) ∧ (n ≤ 10) ∧ st = ([(2, 0), (0, sl), (0, n), (0, 0)], [], pm_upd A (A 0 48) sl n))) ?_ 19 5 _ ?_
    · rintro pc st (⟨rfl, h0, h1, h2, rfl⟩)
      have hs : sl = 0 ∨ sl = 1 := by
        rcases hx with ⟨_, e⟩ | ⟨e, _⟩
        · exact e
        · omega
      rw [c48]
      exact rn_30 (w2 := (0, 0)) h hs (by omega) (by omega) _ 0 _ (Nat.lt_succ_self _) (by omega) (by omega) ⟨uM_31 h.g kn31 (by omega) (by omega), fun r j h1 h2 => upd_o (by omega), fun j hj => upd_o (by omega), fun j hj => upd_o (by omega)⟩ upd_at (fun f f0 f1 => by omega)
    · refine ⟨fun h0 => ?_, fun h0 => ?_⟩
      · exact ⟨rfl, ⟨_, rfl⟩, h⟩
      · refine ⟨fun h1 => ?_, fun h1 => ?_⟩
        · exact ⟨rfl, ⟨_, rfl⟩, h⟩
        · refine ⟨fun h2 => ?_, fun h2 => ?_⟩
          · refine ⟨oM_0 (by omega) km0 48 rfl, ?_⟩
            refine ⟨tM_31 (r := A 0 48) (by rw [c48]; omega) (by rw [c48]; exact kn31) (by rcases hx with ⟨_, e⟩ | ⟨e, _⟩ <;> omega) (by rcases hx with ⟨_, e⟩ | ⟨e, _⟩ <;> omega) rfl, ?_⟩
            exact ⟨rfl, h0, h1, h2, rfl⟩
          · exact ⟨rfl, ⟨_, rfl⟩, h⟩
  · refine ⟨rM_0 (by omega) km0, ?_⟩
    refine (MisSlot_ex).imp ?_
    rintro ⟨r1, C⟩ ⟨q1, x, q2, hx⟩
    simp only at q1 q2
    subst q1
    subst q2
    exact ⟨rfl, x, hx, rfl⟩
theorem srt_Mfence : pm_srt o_X10_fence = true := by decide +kernel
theorem mf_147 {A : pm_A} {sl lo hi : Int} {w2 w3 w6 : pm_V} (h : RI A) (hs : sl = 0 ∨ sl = 1) (l0 : 0 ≤ lo) (l1 : lo < hi) (h1 : hi < A 31 sl) (hn : ¬ neigh (A 31 sl) lo hi) (hc : ∀ f : Int, 0 ≤ f → f < 100 → A 32 (100 * sl + f) = 1 → ¬ crossd lo hi (f / 10) (f % 10)) : Tm pmt (an_sh wM) o_X10_fence 147 ([(2, 0), (0, sl), w2, w3, (0, lo), (0, hi), w6], [], A) ri_post := by
  have c49 := pM_49 h.g
  have b31 := eM_31 h.g (r := 31) (by omega) kn31 (j := sl) (by omega) (by omega)
  have hB : RI (pm_upd A 32 (100 * sl + 10 * lo + hi) 1) := by
    have hg : gH wM (pm_upd A 32 (100 * sl + 10 * lo + hi) 1) := uM_32 h.g kn32 (by omega) (by omega)
    have e31 : pm_upd A 32 (100 * sl + 10 * lo + hi) 1 31 sl = A 31 sl := upd_o (by omega)
    refine rnF.ri (sl := sl) h ⟨hg, fun r j h1 h2 => upd_o (by omega), fun j hj => upd_o (by omega), fun j hj => upd_o (by omega)⟩ ?_
    rw [e31]
    refine rgS_put (f0 := 10 * lo + hi) (h.2.2 sl hs) (by omega) (by omega) ?_ ?_ ?_ ?_
    · rw [show (10 * lo + hi) / 10 = lo by omega, show (10 * lo + hi) % 10 = hi by omega]; exact ⟨l1, h1, hn⟩
    · rw [show (10 * lo + hi) / 10 = lo by omega, show (10 * lo + hi) % 10 = hi by omega]; exact hc
    · show pm_upd A 32 (100 * sl + 10 * lo + hi) 1 32 (100 * sl + (10 * lo + hi)) = 1
      rw [show 100 * sl + (10 * lo + hi) = 100 * sl + 10 * lo + hi by omega, upd_at]
    · exact fun f f0 f1 hf => upd_o (by omega)
  refine wq_ok srt_Mfence (fr := []) (cuts := [166]) (J := fun pc st => (pc = 166 ∧ st = ([(2, 0), (0, sl), w2, w3, (0, lo), (0, hi), w6], [], pm_upd A (A 0 49) (((100 * sl) + (10 * lo)) + hi) 1))) ?_ 18 147 _ ?_
  · rintro pc st (⟨rfl, rfl⟩)
    rw [c49]
    revert hB
    generalize pm_upd A 32 (100 * sl + 10 * lo + hi) 1 = B
    intro hB
    refine wq_ok srt_Mfence (fr := []) (cuts := [171]) (J := fun pc st => (pc = 171 ∧ st = ([(2, 0), (0, sl), w2, w3, (0, lo), (0, hi), w6], [(0, cntF (fcs B sl) 100)], B))) ?_ 7 166 _ ?_
    · rintro pc st (⟨rfl, rfl⟩)
      refine wq_ok srt_Mfence (fr := []) (cuts := []) (J := fun _ _ => False) ?_ 5 171 _ ?_
      · intro pc st h; exact h.elim
      · exact ⟨rfl, ⟨_, rfl⟩, hB⟩
    · refine ⟨rM_0 (by omega) km0, ?_⟩
      refine (fences_ex hB.g (by omega) (by omega)).imp ?_
      rintro r rfl
      exact ⟨rfl, rfl⟩
  · refine ⟨oM_0 (by omega) km0 49 rfl, ?_⟩
    refine ⟨⟨by omega, by omega⟩, ?_⟩
    refine ⟨⟨by omega, by omega⟩, ?_⟩
    refine ⟨⟨by omega, by omega⟩, ?_⟩
    refine ⟨⟨by omega, by omega⟩, ?_⟩
    refine ⟨tM_32 (r := A 0 49) (by rw [c49]; omega) (by rw [c49]; exact kn32) (by omega) (by omega) rfl, ?_⟩
    exact ⟨rfl, rfl⟩
theorem mf_97 {A : pm_A} {sl lo hi : Int} {w2 w3 : pm_V} (h : RI A) (hs : sl = 0 ∨ sl = 1) (l0 : 0 ≤ lo) (l1 : lo < hi) (hh1 : hi < A 31 sl) (hn : ¬ neigh (A 31 sl) lo hi) : ∀ (m : Nat) (i : Int), (100 - i).toNat < m → 0 ≤ i → i ≤ 100 → (∀ f : Int, 0 ≤ f → f < i → A 32 (100 * sl + f) = 1 → ¬ crossd lo hi (f / 10) (f % 10)) → Tm pmt (an_sh wM) o_X10_fence 97 ([(2, 0), (0, sl), w2, w3, (0, lo), (0, hi), (0, i)], [], A) ri_post := by
  have c49 := pM_49 h.g
  have b31 := eM_31 h.g (r := 31) (by omega) kn31 (j := sl) (by omega) (by omega)
  intro m
  induction m with
  | zero => intro i h; omega
  | succ m ih =>
    intro i hm i0 i1 hc
    have go : i < 100 → (A 32 (100 * sl + i) = 1 → ¬ crossd lo hi (i / 10) (i % 10)) → Tm pmt (an_sh wM) o_X10_fence 97 ([(2, 0), (0, sl), w2, w3, (0, lo), (0, hi), (0, i + 1)], [], A) ri_post := fun hi1 hx => by
      refine ih (i + 1) (by omega) (by omega) (by omega) (fun f f0 f1 => ?_)
      by_cases e : f = i
      · rw [e]; exact hx
      · exact hc f f0 (by omega)
    refine wq_ok srt_Mfence (fr := []) (cuts := [97, 136, 147]) (J := fun pc st => (pc = 147 ∧ (100 ≤ i) ∧ st = ([(2, 0), (0, sl), w2, w3, (0, lo), (0, hi), (0, i)], [], A)) ∨ (pc = 97 ∧ (i < 100) ∧ ((A (A 0 49) ((100 * sl) + i)) = 0) ∧ st = ([(2, 0), (0, sl), w2, w3, (0, lo), (0, hi), (0, i + 1)], [], A)) ∨ (pc = 136 ∧ (i < 100) ∧ (¬ (A (A 0 49) ((100 * sl) + i)) = 0) ∧ ∃ x : Int, ((x = 1 ∧ crossd lo hi (i / 10) (i % 10)) ∨ (x = 0 ∧ ¬ crossd lo hi (i / 10) (i % 10))) ∧ st = ([(2, 0), (0, sl), w2, w3, (0, lo), (0, hi), (0, i)], [(0, x)], A))) ?_ 25 97 _ ?_
    · rintro pc st (⟨rfl, h0, rfl⟩ | ⟨rfl, h0, h1, rfl⟩ | ⟨rfl, h0, h1, x, hx, rfl⟩)
      · exact mf_147 h hs l0 l1 hh1 hn (fun f f0 f1 => hc f f0 (by omega))
      · rw [c49] at h1
        exact go (by omega) (fun e => by omega)
      · refine wq_ok srt_Mfence (fr := []) (cuts := [97]) (J := fun pc st => (pc = 97 ∧ (x = 0) ∧ st = ([(2, 0), (0, sl), w2, w3, (0, lo), (0, hi), (0, i + 1)], [], A))) ?_ 8 136 _ ?_
        · rintro pc st (⟨rfl, h0, rfl⟩)
          exact go (by omega) (fun _ => by rcases hx with ⟨e, _⟩ | ⟨_, e⟩; exact absurd e (by omega); exact e)
        · refine ⟨fun h0 => ?_, fun h0 => ?_⟩
          · refine ⟨⟨by omega, by omega⟩, ?_⟩
            exact ⟨rfl, h0, rfl⟩
          · exact ⟨rfl, ⟨_, rfl⟩, h⟩
    · refine ⟨fun h0 => ?_, fun h0 => ?_⟩
      · exact Or.inl (⟨rfl, h0, rfl⟩)
      · refine ⟨oM_0 (by omega) km0 49 rfl, ?_⟩
        refine ⟨⟨by omega, by omega⟩, ?_⟩
        refine ⟨⟨by omega, by omega⟩, ?_⟩
        refine ⟨aM_32 (r := A 0 49) (by rw [c49]; omega) (by rw [c49]; exact kn32) (by omega) (by omega), ?_⟩
        have e1 : A (A 0 49) ((100 * sl) + i) = A 32 ((100 * sl) + i) := by rw [c49]
        refine ⟨fun h1 => ?_, fun h1 => ?_⟩
        · refine ⟨⟨by omega, by omega⟩, ?_⟩
          exact Or.inr (Or.inl (⟨rfl, h0, h1, rfl⟩))
        · refine ⟨⟨by omega, by omega, by omega, by omega⟩, ?_⟩
          refine ⟨⟨by omega, by omega, by omega, by omega⟩, ?_⟩
          refine ⟨rfl, ?_⟩
          refine (Mcross_ex (a := lo) (b := hi) (c := i / 10) (d := i % 10)).imp ?_
          rintro ⟨r1, C⟩ ⟨q1, x, q2, hx⟩
          simp only at q1 q2
          subst q1
          subst q2
          exact Or.inr (Or.inr (⟨rfl, h0, h1, x, hx, rfl⟩))
theorem mfence_ct {A : pm_A} (h : RI A) (sl a b : Int) : Cl pmt (an_sh wM) 138 [(2, 0), (0, sl), (0, a), (0, b)] A ri_post := by
  have c48 := pM_48 h.g
  have c49 := pM_49 h.g
  refine Cl.of (Nat.le_of_ble_eq_true rfl) ?_
  refine wq_ok (full := o_X10_fence) srt_Mfence (fr := []) (cuts := [5]) (J := fun pc st => (pc = 5 ∧ ∃ x : Int, ((x = 1 ∧ (sl = 0 ∨ sl = 1)) ∨ (x = 0 ∧ ¬ (sl = 0 ∨ sl = 1))) ∧ st = ([(2, 0), (0, sl), (0, a), (0, b), (9, 0), (9, 0), (9, 0)], [(0, x)], A))) ?_ 7 0 _ ?_
  · rintro pc st (⟨rfl, x, hx, rfl⟩)
    by_cases hs : sl = 0 ∨ sl = 1
    · have b31 := eM_31 h.g (r := 31) (by omega) kn31 (j := sl) (by omega) (by omega)
      refine wq_ok srt_Mfence (fr := []) (cuts := [52]) (J := fun pc st => (pc = 52 ∧ (¬ x = 0) ∧ (0 ≤ a) ∧ (a < (A (A 0 48) sl)) ∧ (0 ≤ b) ∧ (b < (A (A 0 48) sl)) ∧ (¬ a = b) ∧ ∃ z : Int, ((z = 1 ∧ neigh (A (A 0 48) sl) a b) ∨ (z = 0 ∧ ¬ neigh (A (A 0 48) sl) a b)) ∧ st = ([(2, 0), (0, sl), (0, a), (0, b), (9, 0), (9, 0), (9, 0)], [(0, z)], A))) ?_ 31 5 _ ?_
      · rintro pc st (⟨rfl, h0, h1, h2, h3, h4, h5, z, hz, rfl⟩)
        rw [c48] at h2 h4 hz
        refine wq_ok srt_Mfence (fr := []) (cuts := [62]) (J := fun pc st => (pc = 62 ∧ (z = 0) ∧ st = ([(2, 0), (0, sl), (0, a), (0, b), (9, 0), (9, 0), (9, 0)], [(0, min a b)], A))) ?_ 8 52 _ ?_
        · rintro pc st (⟨rfl, h0, rfl⟩)
          have hn2 : ¬ neigh (A 31 sl) (min a b) (max a b) := by
            rcases hz with ⟨e, _⟩ | ⟨_, e⟩
            · omega
            · unfold neigh at *; omega
          refine wq_ok srt_Mfence (fr := []) (cuts := [69]) (J := fun pc st => (pc = 69 ∧ st = ([(2, 0), (0, sl), (0, a), (0, b), (0, min a b), (9, 0), (9, 0)], [(0, max a b)], A))) ?_ 8 62 _ ?_
          · rintro pc st (⟨rfl, rfl⟩)
            refine wq_ok srt_Mfence (fr := []) (cuts := [97]) (J := fun pc st => (pc = 97 ∧ ((A (A 0 49) (((100 * sl) + (10 * (min a b))) + (max a b))) = 0) ∧ st = ([(2, 0), (0, sl), (0, a), (0, b), (0, min a b), (0, max a b), (0, 0)], [], A))) ?_ 21 69 _ ?_
            · rintro pc st (⟨rfl, h0, rfl⟩)
              exact mf_97 h hs (by omega) (by omega) (by omega) hn2 _ 0 (Nat.lt_succ_self _) (by omega) (by omega) (fun f f0 f1 => by omega)
            · refine ⟨oM_0 (by omega) km0 49 rfl, ?_⟩
              refine ⟨⟨by omega, by omega⟩, ?_⟩
              refine ⟨⟨by omega, by omega⟩, ?_⟩
              refine ⟨⟨by omega, by omega⟩, ?_⟩
              refine ⟨⟨by omega, by omega⟩, ?_⟩
              refine ⟨aM_32 (r := A 0 49) (by rw [c49]; omega) (by rw [c49]; exact kn32) (by omega) (by omega), ?_⟩
              have e1 : A (A 0 49) (((100 * sl) + (10 * (min a b))) + (max a b)) = A 32 (((100 * sl) + (10 * (min a b))) + (max a b)) := by rw [c49]
              refine ⟨fun h0 => ?_, fun h0 => ?_⟩
              · exact ⟨rfl, h0, rfl⟩
              · exact ⟨rfl, ⟨_, rfl⟩, h⟩
          · refine ⟨rfl, ?_⟩
            refine (greater_ex).imp ?_
            rintro r rfl
            exact ⟨rfl, rfl⟩
        · refine ⟨fun h0 => ?_, fun h0 => ?_⟩
          · refine ⟨rfl, ?_⟩
            refine (lesser_ex).imp ?_
            rintro r rfl
            exact ⟨rfl, h0, rfl⟩
          · exact ⟨rfl, ⟨_, rfl⟩, h⟩
      · refine ⟨fun h0 => ?_, fun h0 => ?_⟩
        · exact ⟨rfl, ⟨_, rfl⟩, h⟩
        · refine ⟨fun h1 => ?_, fun h1 => ?_⟩
          · exact ⟨rfl, ⟨_, rfl⟩, h⟩
          · refine ⟨oM_0 (by omega) km0 48 rfl, ?_⟩
            refine ⟨aM_31 (r := A 0 48) (by rw [c48]; omega) (by rw [c48]; exact kn31) (by omega) (by omega), ?_⟩
            have e1 : A (A 0 48) sl = A 31 sl := by rw [c48]
            refine ⟨fun h2 => ?_, fun h2 => ?_⟩
            · exact ⟨rfl, ⟨_, rfl⟩, h⟩
            · refine ⟨fun h3 => ?_, fun h3 => ?_⟩
              · exact ⟨rfl, ⟨_, rfl⟩, h⟩
              · refine ⟨oM_0 (by omega) km0 48 rfl, ?_⟩
                refine ⟨aM_31 (r := A 0 48) (by rw [c48]; omega) (by rw [c48]; exact kn31) (by omega) (by omega), ?_⟩
                have e2 : A (A 0 48) sl = A 31 sl := by rw [c48]
                refine ⟨fun h4 => ?_, fun h4 => ?_⟩
                · exact ⟨rfl, ⟨_, rfl⟩, h⟩
                · refine ⟨fun h5 => ?_, fun h5 => ?_⟩
                  · exact ⟨rfl, ⟨_, rfl⟩, h⟩
                  · refine ⟨oM_0 (by omega) km0 48 rfl, ?_⟩
                    refine ⟨aM_31 (r := A 0 48) (by rw [c48]; omega) (by rw [c48]; exact kn31) (by omega) (by omega), ?_⟩
                    have e3 : A (A 0 48) sl = A 31 sl := by rw [c48]
                    refine ⟨rfl, ?_⟩
                    refine (MareNeighbours_ex (n := A (A 0 48) sl) (x := a) (y := b) (by rw [c48]; exact b31.1) (by rw [c48]; exact b31.2) (by omega) (by rw [c48] at h2; omega) (by omega) (by rw [c48] at h4; omega)).imp ?_
                    rintro ⟨r1, C⟩ ⟨q1, z, q2, hz⟩
                    simp only at q1 q2
                    subst q1
                    subst q2
                    exact ⟨rfl, h0, h1, h2, h3, h4, h5, z, hz, rfl⟩
    · have ex : x = 0 := by
        rcases hx with ⟨_, e⟩ | ⟨e, _⟩
        · exact absurd e hs
        · exact e
      refine wq_ok srt_Mfence (fr := []) (cuts := [8]) (J := fun pc st => (pc = 8 ∧ (¬ x = 0) ∧ st = ([(2, 0), (0, sl), (0, a), (0, b), (9, 0), (9, 0), (9, 0)], [], A))) ?_ 7 5 _ ?_
      · rintro pc st (⟨rfl, h0, rfl⟩)
        omega
      · refine ⟨fun h0 => ?_, fun h0 => ?_⟩
        · exact ⟨rfl, ⟨_, rfl⟩, h⟩
        · exact ⟨rfl, h0, rfl⟩
  · refine ⟨rM_0 (by omega) km0, ?_⟩
    refine (MisSlot_ex).imp ?_
    rintro ⟨r1, C⟩ ⟨q1, x, q2, hx⟩
    simp only at q1 q2
    subst q1
    subst q2
    exact ⟨rfl, x, hx, rfl⟩
def sdF (A B : pm_A) : Prop := gH wM B ∧ ∀ r j : Int, r ≠ 7 → ¬ (r = 0 ∧ (j = 12 ∨ j = 13)) → B r j = A r j
theorem sdF.ri {A B : pm_A} (h : RI A) (hF : sdF A B) (h9 : ∀ j : Int, 0 ≤ j → j < 72 → -9 ≤ B 7 j ∧ B 7 j ≤ 9) : RI B := by
  obtain ⟨⟨s, ks, hT⟩, ⟨b1, b2⟩, hRG⟩ := h
  have p7 := fM_0_7 hT.1 (r := 0) (by omega) km0
  refine ⟨⟨s, ks, hT.same hF.1 (hF.2 0 7 (by omega) (by omega)) (hF.2 0 8 (by omega) (by omega)) (fun i _ _ => hF.2 5 i (by omega) (by omega)) (fun p p0 p1 q i hq => hF.2 q i (by unfold inS at hq; omega) (by unfold inS at hq; omega))⟩, ⟨h9, fun d d0 d1 => ?_⟩, hRG.same (fun j => hF.2 31 j (by omega) (by omega)) (fun j => hF.2 32 j (by omega) (by omega))⟩
  rw [hF.2 0 10 (by omega) (by omega)] at d1
  rw [hF.2 6 d (by omega) (by omega), hF.2 0 7 (by omega) (by omega)]
  exact b2 d d0 d1
def okT (c hd : Int) : Prop := (1 ≤ c ∧ c ≤ 6) ∧ 0 ≤ hd ∧ hd ≤ 6
def tb_post (A : pm_A) (c hd : Int) (r : pm_R) : Prop := (r.1 = some (0, 0) ∧ r.2 = A ∧ ¬ okT c hd) ∨ (r.1 = some (0, 1) ∧ okT c hd ∧ sdF A r.2 ∧ r.2 0 12 = c ∧ r.2 0 13 = hd ∧ ∀ j : Int, 0 ≤ j → j < 72 → r.2 7 j = 0)
theorem srt_Mtable : pm_srt o_X10_table = true := by decide +kernel
theorem tb_35 {A : pm_A} {c hd : Int} (ho : okT c hd) : ∀ (m : Nat) (i : Int) (B : pm_A), (72 - i).toNat < m → 0 ≤ i → i ≤ 72 → sdF A B → B 0 12 = c → B 0 13 = hd → (∀ j : Int, 0 ≤ j → j < i → B 7 j = 0) → Tm pmt (an_sh wM) o_X10_table 35 ([(2, 0), (0, c), (0, hd), (0, i)], [], B) (tb_post A c hd) := by
  intro m
  induction m with
  | zero => intro i B h; omega
  | succ m ih =>
    intro i B hm i0 i1 hF e12 e13 hz
    have c14 := pM_14 hF.1
    refine wq_ok srt_Mtable (fr := []) (cuts := [35]) (J := fun pc st => (pc = 35 ∧ (i < 72) ∧ st = ([(2, 0), (0, c), (0, hd), (0, i + 1)], [], pm_upd B (B 0 14) i 0))) ?_ 15 35 _ ?_
    · rintro pc st (⟨rfl, h0, rfl⟩)
      rw [c14]
      refine ih (i + 1) _ (by omega) (by omega) (by omega) ⟨uM_7 hF.1 kn7 (by omega) (by omega), fun r j h1 h2 => by rw [upd_o (by omega)]; exact hF.2 r j h1 h2⟩ (by rw [upd_o (by omega)]; exact e12) (by rw [upd_o (by omega)]; exact e13) (fun j j0 j1 => ?_)
      by_cases e : j = i
      · rw [e, upd_at]
      · rw [upd_o (by omega)]; exact hz j j0 (by omega)
    · refine ⟨fun h0 => ?_, fun h0 => ?_⟩
      · exact ⟨rfl, Or.inr ⟨rfl, ho, hF, e12, e13, fun j j0 j1 => hz j j0 (by omega)⟩⟩
      · refine ⟨oM_0 (by omega) km0 14 rfl, ?_⟩
        refine ⟨tM_7 (r := B 0 14) (by rw [c14]; omega) (by rw [c14]; exact kn7) (by omega) (by omega) rfl, ?_⟩
        refine ⟨⟨by omega, by omega⟩, ?_⟩
        exact ⟨rfl, h0, rfl⟩
theorem table_ex {A : pm_A} (hA : gH wM A) (c hd : Int) : Cl pmt (an_sh wM) 187 [(2, 0), (0, c), (0, hd)] A (tb_post A c hd) := by
  refine Cl.of (Nat.le_of_ble_eq_true rfl) ?_
  refine wq_ok (full := o_X10_table) srt_Mtable (fr := []) (cuts := [35]) (J := fun pc st => (pc = 35 ∧ (1 ≤ c) ∧ (c ≤ 6) ∧ (0 ≤ hd) ∧ (hd ≤ 6) ∧ st = ([(2, 0), (0, c), (0, hd), (0, 0)], [], pm_upd (pm_upd A 0 12 c) 0 13 hd))) ?_ 24 0 _ ?_
  · rintro pc st (⟨rfl, h0, h1, h2, h3, rfl⟩)
    have ho : okT c hd := ⟨⟨by omega, by omega⟩, by omega, by omega⟩
    exact tb_35 ho _ 0 _ (Nat.lt_succ_self _) (by omega) (by omega) ⟨uM_0_13 (uM_0_12 hA (by omega) (by omega)) (by omega) (by omega), fun r j h1 h2 => by rw [upd_o (by omega), upd_o (by omega)]⟩ (by rw [upd_o (by omega), upd_at]) (by rw [upd_at]) (fun j j0 j1 => by omega)
  · refine ⟨fun h0 => ?_, fun h0 => ?_⟩
    · exact ⟨rfl, Or.inl ⟨rfl, rfl, fun ho => by unfold okT at ho; omega⟩⟩
    · refine ⟨fun h1 => ?_, fun h1 => ?_⟩
      · exact ⟨rfl, Or.inl ⟨rfl, rfl, fun ho => by unfold okT at ho; omega⟩⟩
      · refine ⟨fun h2 => ?_, fun h2 => ?_⟩
        · exact ⟨rfl, Or.inl ⟨rfl, rfl, fun ho => by unfold okT at ho; omega⟩⟩
        · refine ⟨fun h3 => ?_, fun h3 => ?_⟩
          · refine ⟨oM_0 (by omega) km0 12 rfl, ?_⟩
            refine ⟨oM_0 (by omega) km0 13 rfl, ?_⟩
            exact ⟨rfl, h0, h1, h2, h3, rfl⟩
          · exact ⟨rfl, Or.inl ⟨rfl, rfl, fun ho => by unfold okT at ho; omega⟩⟩
theorem mtable_ct {A : pm_A} (h : RI A) (c hd : Int) : Cl pmt (an_sh wM) 187 [(2, 0), (0, c), (0, hd)] A (fun r => ((r.1 = some (0, 0) ∧ ¬ okT c hd) ∨ (r.1 = some (0, 1) ∧ okT c hd)) ∧ RI r.2) := by
  refine (table_ex h.g c hd).imp ?_
  rintro r (⟨q1, q2, q3⟩ | ⟨q1, q2, q3, q4, q5, q6⟩)
  · exact ⟨Or.inl ⟨q1, q3⟩, by rw [q2]; exact h⟩
  · exact ⟨Or.inr ⟨q1, q2⟩, q3.ri h (fun j j0 j1 => by rw [q6 j j0 j1]; omega)⟩
theorem srt_Marrows : pm_srt o_X10_arrows = true := by decide +kernel
theorem marrows_ct {A : pm_A} (h : RI A) (i j b : Int) : Cl pmt (an_sh wM) 126 [(2, 0), (0, i), (0, j), (0, b)] A ri_post := by
  have c14 := pM_14 h.g
  have p12 := fM_0_12 h.g (r := 0) (by omega) km0
  have p13 := fM_0_13 h.g (r := 0) (by omega) km0
  have hend : ∀ x, -9 ≤ b → b ≤ 9 → RI (pm_upd A 7 x b) := fun x b0 b1 => sdF.ri h ⟨uM_7 h.g kn7 (by omega) (by omega), fun r j h1 h2 => upd_o (by omega)⟩ (fun k k0 k1 => by
    by_cases e : k = x
    · rw [e, upd_at]; omega
    · rw [upd_o (by omega)]; exact h.2.1.1 k k0 k1)
  refine Cl.of (Nat.le_of_ble_eq_true rfl) ?_
  refine wq_ok (full := o_X10_arrows) srt_Marrows (fr := []) (cuts := []) (J := fun _ _ => False) ?_ 39 0 _ ?_
  · intro pc st h; exact h.elim
  · refine ⟨oM_0 (by omega) km0 12 rfl, ?_⟩
    refine ⟨fun h0 => ?_, fun h0 => ?_⟩
    · exact ⟨rfl, ⟨_, rfl⟩, h⟩
    · refine ⟨fun h1 => ?_, fun h1 => ?_⟩
      · exact ⟨rfl, ⟨_, rfl⟩, h⟩
      · refine ⟨oM_0 (by omega) km0 12 rfl, ?_⟩
        refine ⟨oM_0 (by omega) km0 13 rfl, ?_⟩
        refine ⟨⟨by omega, by omega⟩, ?_⟩
        refine ⟨fun h2 => ?_, fun h2 => ?_⟩
        · exact ⟨rfl, ⟨_, rfl⟩, h⟩
        · refine ⟨fun h3 => ?_, fun h3 => ?_⟩
          · exact ⟨rfl, ⟨_, rfl⟩, h⟩
          · refine ⟨oM_0 (by omega) km0 12 rfl, ?_⟩
            refine ⟨fun h4 => ?_, fun h4 => ?_⟩
            · exact ⟨rfl, ⟨_, rfl⟩, h⟩
            · refine ⟨fun h5 => ?_, fun h5 => ?_⟩
              · exact ⟨rfl, ⟨_, rfl⟩, h⟩
              · refine ⟨fun h6 => ?_, fun h6 => ?_⟩
                · refine ⟨oM_0 (by omega) km0 14 rfl, ?_⟩
                  refine ⟨⟨by omega, by omega⟩, ?_⟩
                  refine ⟨⟨by omega, by omega⟩, ?_⟩
                  refine ⟨tM_7 (r := A 0 14) (by rw [c14]; omega) (by rw [c14]; exact kn7) (by omega) (by omega) rfl, ?_⟩
                  exact ⟨rfl, ⟨_, rfl⟩, (by rw [c14]; exact hend _ (by omega) (by omega))⟩
                · exact ⟨rfl, ⟨_, rfl⟩, h⟩
end

section
/-! leads, placeOf, seed -/
def lds_post (B : pm_A) (i j : Int) (r : pm_R) : Prop := r.1 = none ∧ gH wM r.2 ∧ (∀ q k, q ≠ 7 → r.2 q k = B q k) ∧ (∀ k, -2 ≤ r.2 7 k - B 7 k ∧ r.2 7 k - B 7 k ≤ 2) ∧ ∀ k, (0 ≤ i ∧ 0 ≤ j ∧ (k = 6 * i + j ∨ k = 6 * j + i)) ∨ r.2 7 k = B 7 k
theorem srt_Mleads : pm_srt o_X10_leads = true := by decide +kernel
theorem leads_ex {B : pm_A} {i j : Int} (hB : gH wM B) (i0 : -1 ≤ i) (i1 : i ≤ 5) (j0 : -1 ≤ j) (j1 : j ≤ 5) (h9 : ∀ k : Int, 0 ≤ k → k < 72 → -100 ≤ B 7 k ∧ B 7 k ≤ 100) : Cl pmt (an_sh wM) 161 [(2, 0), (0, i), (0, j)] B (lds_post B i j) := by
  have c14a := pM_14 hB
  have hsame : lds_post B i j (none, B) := ⟨rfl, hB, fun _ _ _ => rfl, fun k => by show -2 ≤ B 7 k - B 7 k ∧ B 7 k - B 7 k ≤ 2; omega, fun k => Or.inr rfl⟩
  have h26 : 0 ≤ i → 0 ≤ j → ∀ C, C = pm_upd B 7 (6 * i + j) (B 7 (6 * i + j) + 1) → Tm pmt (an_sh wM) o_X10_leads 26 ([(2, 0), (0, i), (0, j)], [], C) (lds_post B i j) := fun i0 j0 C hC => by
    have b1 := h9 (6 * i + j) (by omega) (by omega)
    have b2 := h9 (6 * j + i) (by omega) (by omega)
    have hg : gH wM C := by rw [hC]; exact uM_7 hB kn7 (by omega) (by omega)
    have c14 := pM_14 hg
    have hk : ∀ k, (k = 6 * i + j ∧ C 7 k = B 7 k + 1) ∨ C 7 k = B 7 k := fun k => by
      rw [hC]
      by_cases e : k = 6 * i + j
      · rw [e, upd_at]; exact Or.inl ⟨rfl, rfl⟩
      · rw [upd_o (by omega)]; exact Or.inr rfl
    have hx := hk (6 * j + i)
    have hend : ∀ D, D = pm_upd C 7 (6 * j + i) (C 7 (6 * j + i) - 1) → lds_post B i j (none, D) := fun D hD => by
      have hk2 : ∀ k, (k = 6 * j + i ∧ D 7 k = C 7 k - 1) ∨ D 7 k = C 7 k := fun k => by
        rw [hD]
        by_cases e : k = 6 * j + i
        · rw [e, upd_at]; exact Or.inl ⟨rfl, rfl⟩
        · rw [upd_o (by omega)]; exact Or.inr rfl
      refine ⟨rfl, by rw [hD]; exact uM_7 hg kn7 (by omega) (by omega), fun q k hq => ?_, fun k => ?_, fun k => ?_⟩
      · show D q k = B q k
        rw [hD, upd_o (by omega), hC, upd_o (by omega)]
      · show -2 ≤ D 7 k - B 7 k ∧ D 7 k - B 7 k ≤ 2
        have a := hk k
        have b := hk2 k
        omega
      · show _ ∨ D 7 k = B 7 k
        have a := hk k
        have b := hk2 k
        omega
    refine wq_ok srt_Mleads (fr := []) (cuts := []) (J := fun _ _ => False) ?_ 17 26 _ ?_
    · intro pc st h; exact h.elim
    · refine ⟨oM_0 (by omega) km0 14 rfl, ?_⟩
      refine ⟨⟨by omega, by omega⟩, ?_⟩
      refine ⟨⟨by omega, by omega⟩, ?_⟩
      refine ⟨aM_7 (r := C 0 14) (by rw [c14]; omega) (by rw [c14]; exact kn7) (by omega) (by omega), ?_⟩
      have e1 : C (C 0 14) ((6 * j) + i) = C 7 ((6 * j) + i) := by rw [c14]
      refine ⟨⟨by omega, by omega⟩, ?_⟩
      refine ⟨tM_7 (r := C 0 14) (by rw [c14]; omega) (by rw [c14]; exact kn7) (by omega) (by omega) rfl, ?_⟩
      exact (by rw [c14]; exact hend _ rfl)
  have c14 := c14a
  have b1 : 0 ≤ i → 0 ≤ j → -100 ≤ B 7 (6 * i + j) ∧ B 7 (6 * i + j) ≤ 100 := fun i0 j0 => h9 (6 * i + j) (by omega) (by omega)
  refine Cl.of (Nat.le_of_ble_eq_true rfl) ?_
  refine wq_ok (full := o_X10_leads) srt_Mleads (fr := []) (cuts := [26]) (J := fun pc st => (pc = 26 ∧ (¬ i = ((-1))) ∧ (¬ j = ((-1))) ∧ st = ([(2, 0), (0, i), (0, j)], [], pm_upd B (B 0 14) ((6 * i) + j) ((B (B 0 14) ((6 * i) + j)) + 1)))) ?_ 23 0 _ ?_
  · rintro pc st (⟨rfl, h0, h1, rfl⟩)
    rw [c14]
    exact h26 (by omega) (by omega) _ rfl
  · refine ⟨fun h0 => ?_, fun h0 => ?_⟩
    · exact hsame
    · refine ⟨fun h1 => ?_, fun h1 => ?_⟩
      · refine ⟨oM_0 (by omega) km0 14 rfl, ?_⟩
        refine ⟨⟨by omega, by omega⟩, ?_⟩
        refine ⟨⟨by omega, by omega⟩, ?_⟩
        refine ⟨aM_7 (r := B 0 14) (by rw [c14]; omega) (by rw [c14]; exact kn7) (by omega) (by omega), ?_⟩
        have e1 : B (B 0 14) ((6 * i) + j) = B 7 ((6 * i) + j) := by rw [c14]
        refine ⟨(by have := b1 (by omega) (by omega); exact ⟨by omega, by omega⟩), ?_⟩
        refine ⟨tM_7 (r := B 0 14) (by rw [c14]; omega) (by rw [c14]; exact kn7) (by omega) (by omega) rfl, ?_⟩
        exact ⟨rfl, h0, h1, rfl⟩
      · exact hsame
def po_post (A : pm_A) (sl f : Int) (r : pm_R) : Prop := r.2 = A ∧ ∃ p, r.1 = some (0, p) ∧ ((p = -1 ∧ fcs A sl f = 0) ∨ (fcs A sl f = 1 ∧ p = cntF (fcs A sl) f.toNat))
theorem srt_MplaceOf : pm_srt o_X10_placeOf = true := by decide +kernel
theorem po_39 {A : pm_A} {sl x y f : Int} (hA : gH wM A) (s0 : 0 ≤ sl) (s1 : sl ≤ 1) (f0 : 0 ≤ f) (f1 : f < 100) (hf : fcs A sl f = 1) : ∀ (m : Nat) (i : Nat), 100 - i < m → (i : Int) ≤ f → Tm pmt (an_sh wM) o_X10_placeOf 39 ([(2, 0), (0, sl), (0, x), (0, y), (0, f), (0, cntF (fcs A sl) i), (0, (i : Int))], [], A) (po_post A sl f) := by
  have c49 := pM_49 hA
  intro m
  induction m with
  | zero => intro i h; omega
  | succ m ih =>
    intro i hm i1
    have hb := cntF_b (fcs A sl) i
    have st : cntF (fcs A sl) (i + 1) = cntF (fcs A sl) i + (if fcs A sl i = 0 then 0 else 1) := rfl
    have hend : f ≤ i → cntF (fcs A sl) i = cntF (fcs A sl) f.toNat := fun h => by rw [show f.toNat = i by omega]
    refine wq_ok srt_MplaceOf (fr := []) (cuts := [39]) (J := fun pc st => (pc = 39 ∧ (((i : Int)) < f) ∧ ((A (A 0 49) ((100 * sl) + ((i : Int)))) = 0) ∧ st = ([(2, 0), (0, sl), (0, x), (0, y), (0, f), (0, cntF (fcs A sl) i), (0, ((i : Int)) + 1)], [], A)) ∨ (pc = 39 ∧ (((i : Int)) < f) ∧ (¬ (A (A 0 49) ((100 * sl) + ((i : Int)))) = 0) ∧ st = ([(2, 0), (0, sl), (0, x), (0, y), (0, f), (0, (cntF (fcs A sl) i) + 1), (0, ((i : Int)) + 1)], [], A))) ?_ 20 39 _ ?_
    · rintro pc st (⟨rfl, h0, h1, rfl⟩ | ⟨rfl, h0, h1, rfl⟩)
      · rw [c49] at h1
        have h1 : fcs A sl i = 0 := h1
        rw [if_pos h1] at st
        have e : cntF (fcs A sl) i = cntF (fcs A sl) (i + 1) := by omega
        rw [e, show (i : Int) + 1 = ((i + 1 : Nat) : Int) by omega]
        exact ih (i + 1) (by omega) (by omega)
      · rw [c49] at h1
        have h1 : ¬ fcs A sl i = 0 := h1
        rw [if_neg h1] at st
        have e : cntF (fcs A sl) i + 1 = cntF (fcs A sl) (i + 1) := by omega
        rw [e, show (i : Int) + 1 = ((i + 1 : Nat) : Int) by omega]
        exact ih (i + 1) (by omega) (by omega)
    · refine ⟨fun h0 => ?_, fun h0 => ?_⟩
      · exact ⟨rfl, rfl, _, rfl, Or.inr ⟨hf, hend (by omega)⟩⟩
      · refine ⟨oM_0 (by omega) km0 49 rfl, ?_⟩
        refine ⟨⟨by omega, by omega⟩, ?_⟩
        refine ⟨⟨by omega, by omega⟩, ?_⟩
        refine ⟨aM_32 (r := A 0 49) (by rw [c49]; omega) (by rw [c49]; exact kn32) (by omega) (by omega), ?_⟩
        have e1 : A (A 0 49) ((100 * sl) + ((i : Int))) = A 32 ((100 * sl) + ((i : Int))) := by rw [c49]
        refine ⟨fun h1 => ?_, fun h1 => ?_⟩
        · refine ⟨⟨by omega, by omega⟩, ?_⟩
          exact Or.inl (⟨rfl, h0, h1, rfl⟩)
        · refine ⟨⟨by omega, by omega⟩, ?_⟩
          refine ⟨⟨by omega, by omega⟩, ?_⟩
          exact Or.inr (⟨rfl, h0, h1, rfl⟩)
theorem placeOf_ex {A : pm_A} {sl x y : Int} (hA : gH wM A) (s0 : 0 ≤ sl) (s1 : sl ≤ 1) (x0 : 0 ≤ x) (x1 : x < y) (y1 : y ≤ 9) : Cl pmt (an_sh wM) 174 [(2, 0), (0, sl), (0, x), (0, y)] A (po_post A sl (10 * x + y)) := by
  have c49 := pM_49 hA
  have em : min x y = x := by omega
  have eM : max x y = y := by omega
  have hb := fcs_b hA s0 s1 (f := 10 * x + y) (by omega) (by omega)
  have key : Tm pmt (an_sh wM) o_X10_placeOf 14 ([(2, 0), (0, sl), (0, x), (0, y), (9, 0), (9, 0), (9, 0)], [(0, 10 * x + y)], A) (po_post A sl (10 * x + y)) := by
    generalize hf : 10 * x + y = f at *
    refine wq_ok srt_MplaceOf (fr := []) (cuts := [39]) (J := fun pc st => (pc = 39 ∧ (¬ (A (A 0 49) ((100 * sl) + f)) = 0) ∧ st = ([(2, 0), (0, sl), (0, x), (0, y), (0, f), (0, 0), (0, 0)], [], A))) ?_ 19 14 _ ?_
    · rintro pc st (⟨rfl, h0, rfl⟩)
      rw [c49] at h0
      have h0 : ¬ fcs A sl f = 0 := h0
      exact po_39 hA s0 s1 (by omega) (by omega) (by omega) _ 0 (Nat.lt_succ_self _) (by omega)
    · refine ⟨oM_0 (by omega) km0 49 rfl, ?_⟩
      refine ⟨⟨by omega, by omega⟩, ?_⟩
      refine ⟨⟨by omega, by omega⟩, ?_⟩
      refine ⟨aM_32 (r := A 0 49) (by rw [c49]; omega) (by rw [c49]; exact kn32) (by omega) (by omega), ?_⟩
      have e1 : A (A 0 49) ((100 * sl) + f) = A 32 ((100 * sl) + f) := by rw [c49]
      refine ⟨fun h0 => ?_, fun h0 => ?_⟩
      · exact ⟨rfl, h0, rfl⟩
      · exact ⟨rfl, rfl, _, rfl, Or.inl ⟨rfl, by rw [c49] at h0; exact h0⟩⟩
  refine Cl.of (Nat.le_of_ble_eq_true rfl) ?_
  refine wq_ok (full := o_X10_placeOf) srt_MplaceOf (fr := []) (cuts := [7]) (J := fun pc st => (pc = 7 ∧ st = ([(2, 0), (0, sl), (0, x), (0, y), (9, 0), (9, 0), (9, 0)], [(0, x), (0, 10)], A))) ?_ 8 0 _ ?_
  · rintro pc st (⟨rfl, rfl⟩)
    refine wq_ok srt_MplaceOf (fr := []) (cuts := [13]) (J := fun pc st => (pc = 13 ∧ st = ([(2, 0), (0, sl), (0, x), (0, y), (9, 0), (9, 0), (9, 0)], [(0, y), (0, 10 * x)], A))) ?_ 8 7 _ ?_
    · rintro pc st (⟨rfl, rfl⟩)
      refine wq_ok srt_MplaceOf (fr := []) (cuts := [14]) (J := fun pc st => (pc = 14 ∧ st = ([(2, 0), (0, sl), (0, x), (0, y), (9, 0), (9, 0), (9, 0)], [(0, (10 * x) + y)], A))) ?_ 6 13 _ ?_
      · rintro pc st (⟨rfl, rfl⟩)
        exact key
      · refine ⟨⟨by omega, by omega⟩, ?_⟩
        exact ⟨rfl, rfl⟩
    · refine ⟨⟨by omega, by omega⟩, ?_⟩
      refine ⟨rfl, ?_⟩
      refine (greater_ex).imp ?_
      rintro r rfl; rw [eM]
      exact ⟨rfl, rfl⟩
  · refine ⟨rfl, ?_⟩
    refine (lesser_ex).imp ?_
    rintro r rfl; rw [em]
    exact ⟨rfl, rfl⟩
def isd (f x y z : Int) : Prop := f = 10 * x + y ∨ f = 10 * y + z ∨ f = 10 * x + z
def plF (F : Int → Int) (f i : Int) : Prop := 0 ≤ f ∧ F f = 1 ∧ i = cntF F f.toNat
def Ew (F : Int → Int) (i j x y z : Int) : Prop := ∃ f g : Int, isd f x y z ∧ isd g x y z ∧ f ≠ g ∧ plF F f i ∧ plF F g j
theorem plF_inj {F : Int → Int} {f g i : Int} (h : plF F f i) (k : plF F g i) : f = g := by
  obtain ⟨f0, f1, f2⟩ := h
  obtain ⟨g0, g1, g2⟩ := k
  refine Classical.byContradiction (fun hne => ?_)
  rcases Int.lt_or_gt_of_ne hne with h | h
  · have := cntF_lt F (show f.toNat < g.toNat by omega) (by rw [Int.toNat_of_nonneg f0, f1]; omega)
    omega
  · have := cntF_lt F (show g.toNat < f.toNat by omega) (by rw [Int.toNat_of_nonneg g0, g1]; omega)
    omega
def tri3 (x y z : Int) : Prop := 0 ≤ x ∧ x < y ∧ y < z ∧ z ≤ 9
theorem isd_uniq {f g x y z x' y' z' : Int} (ht : tri3 x y z) (ht' : tri3 x' y' z') (hne : f ≠ g) (h1 : isd f x y z) (h2 : isd g x y z) (h3 : isd f x' y' z') (h4 : isd g x' y' z') : x = x' ∧ y = y' ∧ z = z' := by
  unfold tri3 at *
  rcases h1 with h1 | h1 | h1 <;> rcases h3 with h3 | h3 | h3 <;> rcases h2 with h2 | h2 | h2 <;> rcases h4 with h4 | h4 | h4 <;> omega
theorem Ew_uniq {F : Int → Int} {i j x y z x' y' z' : Int} (ht : tri3 x y z) (ht' : tri3 x' y' z') (h : Ew F i j x y z) (h' : Ew F i j x' y' z') : x = x' ∧ y = y' ∧ z = z' := by
  obtain ⟨f, g, a1, a2, a3, a4, a5⟩ := h
  obtain ⟨f', g', b1, b2, b3, b4, b5⟩ := h'
  have e1 := plF_inj a4 b4
  have e2 := plF_inj a5 b5
  subst e1; subst e2
  exact isd_uniq ht ht' a3 a1 a2 b1 b2
def sdJ (A B : pm_A) (sl t : Int) : Prop := sdF A B ∧ ∀ i j : Int, 0 ≤ i → i ≤ 11 → 0 ≤ j → j ≤ 5 → (-6 ≤ B 7 (6 * i + j) ∧ B 7 (6 * i + j) ≤ 6) ∧ (B 7 (6 * i + j) = 0 ∨ ∃ x y z, tri3 x y z ∧ 100 * x + 10 * y + z < t ∧ Ew (fcs A sl) i j x y z)
theorem sdJ.mono {A B : pm_A} {sl t t' : Int} (h : sdJ A B sl t) (ht : t ≤ t') : sdJ A B sl t' := ⟨h.1, fun i j i0 i1 j0 j1 => by
  have a := h.2 i j i0 i1 j0 j1
  refine ⟨a.1, a.2.imp id ?_⟩
  rintro ⟨x, y, z, h1, h2, h3⟩
  exact ⟨x, y, z, h1, by omega, h3⟩⟩
theorem sdJ.b9 {A B : pm_A} {sl t : Int} (h : sdJ A B sl t) {k : Int} (k0 : 0 ≤ k) (k1 : k < 72) : -6 ≤ B 7 k ∧ B 7 k ≤ 6 := by
  have a := (h.2 (k / 6) (k % 6) (by omega) (by omega) (by omega) (by omega)).1
  rwa [show 6 * (k / 6) + k % 6 = k by omega] at a
theorem fcs_sd {A B : pm_A} {sl : Int} (h : sdF A B) : fcs B sl = fcs A sl := funext fun f => h.2 32 _ (by omega) (by omega)
def plV (F : Int → Int) (f p : Int) : Prop := (p = -1 ∧ F f = 0) ∨ (plF F f p ∧ 0 ≤ p ∧ p ≤ 5)
theorem tch {F : Int → Int} {f g p q x y z i j : Int} (h1 : isd f x y z) (h2 : isd g x y z) (hne : f ≠ g) (hp : plV F f p) (hq : plV F g q) (j0 : 0 ≤ j) (j1 : j ≤ 5) (ht : 0 ≤ p ∧ 0 ≤ q ∧ (6 * i + j = 6 * p + q ∨ 6 * i + j = 6 * q + p)) : Ew F i j x y z := by
  rcases hp with hp | ⟨hp, _, p5⟩
  · omega
  rcases hq with hq | ⟨hq, _, q5⟩
  · omega
  obtain ⟨p0, q0, e | e⟩ := ht
  · have e1 : i = p := by omega
    have e2 : j = q := by omega
    subst e1; subst e2
    exact ⟨f, g, h1, h2, hne, hp, hq⟩
  · have e1 : i = q := by omega
    have e2 : j = p := by omega
    subst e1; subst e2
    exact ⟨g, f, h2, h1, fun e => hne e.symm, hq, hp⟩
theorem sdJ.step {A B B1 B2 B3 : pm_A} {sl a b c p7 p8 p9 : Int} (h : sdJ A B sl (100 * a + 10 * b + c)) (ht : tri3 a b c) (h7 : plV (fcs A sl) (10 * a + b) p7) (h8 : plV (fcs A sl) (10 * b + c) p8) (h9 : plV (fcs A sl) (10 * a + c) p9) (l1 : lds_post B p7 p8 (none, B1)) (l2 : lds_post B1 p8 p9 (none, B2)) (l3 : lds_post B2 p9 p7 (none, B3)) : sdJ A B3 sl (100 * a + 10 * b + c + 1) := by
  obtain ⟨_, g1, o1, d1, t1⟩ := l1
  obtain ⟨_, g2, o2, d2, t2⟩ := l2
  obtain ⟨_, g3, o3, d3, t3⟩ := l3
  simp only at g1 o1 d1 t1 g2 o2 d2 t2 g3 o3 d3 t3
  refine ⟨⟨g3, fun r j h1 h2 => by rw [o3 r j h1, o2 r j h1, o1 r j h1]; exact h.1.2 r j h1 h2⟩, fun i j i0 i1 j0 j1 => ?_⟩
  have hh := h.2 i j i0 i1 j0 j1
  have a1 := d1 (6 * i + j)
  have a2 := d2 (6 * i + j)
  have a3 := d3 (6 * i + j)
  unfold tri3 at ht
  by_cases hE : Ew (fcs A sl) i j a b c
  · have hz : B 7 (6 * i + j) = 0 := by
      rcases hh.2 with e | ⟨x, y, z, y1, y2, y3⟩
      · exact e
      · have := Ew_uniq y1 ht y3 hE
        omega
    exact ⟨by omega, Or.inr ⟨a, b, c, ht, by omega, hE⟩⟩
  · have n1 : B1 7 (6 * i + j) = B 7 (6 * i + j) := (t1 (6 * i + j)).resolve_left (fun e => hE (tch (Or.inl rfl) (Or.inr (Or.inl rfl)) (by omega) h7 h8 j0 j1 e))
    have n2 : B2 7 (6 * i + j) = B1 7 (6 * i + j) := (t2 (6 * i + j)).resolve_left (fun e => hE (tch (Or.inr (Or.inl rfl)) (Or.inr (Or.inr rfl)) (by omega) h8 h9 j0 j1 e))
    have n3 : B3 7 (6 * i + j) = B2 7 (6 * i + j) := (t3 (6 * i + j)).resolve_left (fun e => hE (tch (Or.inr (Or.inr rfl)) (Or.inl rfl) (by omega) h9 h7 j0 j1 e))
    rw [n3, n2, n1]
    refine ⟨hh.1, hh.2.imp id ?_⟩
    rintro ⟨x, y, z, y1, y2, y3⟩
    exact ⟨x, y, z, y1, by omega, y3⟩
theorem srt_Mseed : pm_srt o_X10_seed = true := by decide +kernel
theorem po_plV {A B : pm_A} {sl f : Int} {r : pm_R} (hs : sdF A B) (hA : gH wM A) (hcut : cntF (fcs A sl) 100 ≤ 6) (f0 : 0 ≤ f) (f1 : f < 100) (h : po_post B sl f r) : r.2 = B ∧ ∃ p, r.1 = some (0, p) ∧ plV (fcs A sl) f p := by
  obtain ⟨h1, p, h2, h3⟩ := h
  rw [fcs_sd hs] at h3
  refine ⟨h1, p, h2, h3.imp id (fun h => ⟨⟨f0, h.1, h.2⟩, ?_, ?_⟩)⟩
  · have := cntF_b (fcs A sl) f.toNat; omega
  · have := cntF_lt (fcs A sl) (show f.toNat < 100 by omega) (by rw [Int.toNat_of_nonneg f0, h.1]; omega)
    omega

theorem sde_150 {A B : pm_A} {sl n z3 a b c : Int} (hs : sl = 0 ∨ sl = 1) (hA : gH wM A) (hcut : cntF (fcs A sl) 100 ≤ 6) (ht : tri3 a b c) (hJ : sdJ A B sl (100 * a + 10 * b + c)) (H : ∀ C w7 w8 w9, sdJ A C sl (100 * a + 10 * b + c + 1) → Tm pmt (an_sh wM) o_X10_seed 174 ([(2, 0), (0, sl), (0, n), (0, z3), (0, a), (0, b), (0, c), w7, w8, w9], [], C) ri_post) {p7 p8 p9 : Int} (hp7 : plV (fcs A sl) (10 * a + b) p7) (hp8 : plV (fcs A sl) (10 * b + c) p8) (hp9 : plV (fcs A sl) (10 * a + c) p9) : Tm pmt (an_sh wM) o_X10_seed 150 ([(2, 0), (0, sl), (0, n), (0, z3), (0, a), (0, b), (0, c), (0, p7), (0, p8), (0, p9)], [], B) ri_post := by
  have gB := hJ.1.1
  have mB : ∀ k : Int, 0 ≤ k → k < 72 → -100 ≤ B 7 k ∧ B 7 k ≤ 100 := fun k k0 k1 => by have := hJ.b9 k0 k1; omega
  refine wq_ok srt_Mseed (fr := []) (cuts := [158]) (J := fun pc st => (pc = 158 ∧ ∃ B1, lds_post B p7 p8 (none, B1) ∧ st = ([(2, 0), (0, sl), (0, n), (0, z3), (0, a), (0, b), (0, c), (0, p7), (0, p8), (0, p9)], [], B1))) ?_ 8 150 _ ?_
  · rintro pc st (⟨rfl, B1, lB1, rfl⟩)
    have gB1 := lB1.2.1
    have mB1 : ∀ k : Int, 0 ≤ k → k < 72 → -100 ≤ B1 7 k ∧ B1 7 k ≤ 100 := fun k k0 k1 => by have := hJ.b9 k0 k1; have e1 := lB1.2.2.2.1 k; simp only at e1; omega
    refine wq_ok srt_Mseed (fr := []) (cuts := [166]) (J := fun pc st => (pc = 166 ∧ ∃ B2, lds_post B1 p8 p9 (none, B2) ∧ st = ([(2, 0), (0, sl), (0, n), (0, z3), (0, a), (0, b), (0, c), (0, p7), (0, p8), (0, p9)], [], B2))) ?_ 8 158 _ ?_
    · rintro pc st (⟨rfl, B2, lB2, rfl⟩)
      have gB2 := lB2.2.1
      have mB2 : ∀ k : Int, 0 ≤ k → k < 72 → -100 ≤ B2 7 k ∧ B2 7 k ≤ 100 := fun k k0 k1 => by have := hJ.b9 k0 k1; have e1 := lB1.2.2.2.1 k; have e2 := lB2.2.2.2.1 k; simp only at e1 e2; omega
      refine wq_ok srt_Mseed (fr := []) (cuts := [174]) (J := fun pc st => (pc = 174 ∧ ∃ B3, lds_post B2 p9 p7 (none, B3) ∧ st = ([(2, 0), (0, sl), (0, n), (0, z3), (0, a), (0, b), (0, c), (0, p7), (0, p8), (0, p9)], [], B3))) ?_ 8 166 _ ?_
      · rintro pc st (⟨rfl, B3, lB3, rfl⟩)
        exact H B3 _ _ _ (hJ.step ht hp7 hp8 hp9 lB1 lB2 lB3)
      · refine ⟨rM_0 (by omega) km0, ?_⟩
        refine (leads_ex (B := B2) (i := p9) (j := p7) gB2 (by rcases hp9 with e | e <;> omega) (by rcases hp9 with e | e <;> omega) (by rcases hp7 with e | e <;> omega) (by rcases hp7 with e | e <;> omega) mB2).imp ?_
        rintro ⟨r1, B3⟩ lB3
        have q1 := lB3.1
        simp only at q1
        subst q1
        exact ⟨rfl, B3, lB3, rfl⟩
    · refine ⟨rM_0 (by omega) km0, ?_⟩
      refine (leads_ex (B := B1) (i := p8) (j := p9) gB1 (by rcases hp8 with e | e <;> omega) (by rcases hp8 with e | e <;> omega) (by rcases hp9 with e | e <;> omega) (by rcases hp9 with e | e <;> omega) mB1).imp ?_
      rintro ⟨r1, B2⟩ lB2
      have q1 := lB2.1
      simp only at q1
      subst q1
      exact ⟨rfl, B2, lB2, rfl⟩
  · refine ⟨rM_0 (by omega) km0, ?_⟩
    refine (leads_ex (B := B) (i := p7) (j := p8) gB (by rcases hp7 with e | e <;> omega) (by rcases hp7 with e | e <;> omega) (by rcases hp8 with e | e <;> omega) (by rcases hp8 with e | e <;> omega) mB).imp ?_
    rintro ⟨r1, B1⟩ lB1
    have q1 := lB1.1
    simp only at q1
    subst q1
    exact ⟨rfl, B1, lB1, rfl⟩
theorem sde_117 {A B : pm_A} {sl n z3 a b c : Int} (hs : sl = 0 ∨ sl = 1) (hA : gH wM A) (hcut : cntF (fcs A sl) 100 ≤ 6) (ht : tri3 a b c) (hJ : sdJ A B sl (100 * a + 10 * b + c)) (H : ∀ C w7 w8 w9, sdJ A C sl (100 * a + 10 * b + c + 1) → Tm pmt (an_sh wM) o_X10_seed 174 ([(2, 0), (0, sl), (0, n), (0, z3), (0, a), (0, b), (0, c), w7, w8, w9], [], C) ri_post) {w7 w8 w9 : pm_V} : Tm pmt (an_sh wM) o_X10_seed 117 ([(2, 0), (0, sl), (0, n), (0, z3), (0, a), (0, b), (0, c), w7, w8, w9], [], B) ri_post := by
  have ht2 := ht
  unfold tri3 at ht2
  refine wq_ok srt_Mseed (fr := []) (cuts := [126]) (J := fun pc st => (pc = 126 ∧ ∃ p7, plV (fcs A sl) (10 * a + b) p7 ∧ st = ([(2, 0), (0, sl), (0, n), (0, z3), (0, a), (0, b), (0, c), w7, w8, w9], [(0, p7)], B))) ?_ 9 117 _ ?_
  · rintro pc st (⟨rfl, p7, hp7, rfl⟩)
    refine wq_ok srt_Mseed (fr := []) (cuts := [137]) (J := fun pc st => (pc = 137 ∧ ∃ p8, plV (fcs A sl) (10 * b + c) p8 ∧ st = ([(2, 0), (0, sl), (0, n), (0, z3), (0, a), (0, b), (0, c), (0, p7), w8, w9], [(0, p8)], B))) ?_ 10 126 _ ?_
    · rintro pc st (⟨rfl, p8, hp8, rfl⟩)
      refine wq_ok srt_Mseed (fr := []) (cuts := [148]) (J := fun pc st => (pc = 148 ∧ ∃ p9, plV (fcs A sl) (10 * a + c) p9 ∧ st = ([(2, 0), (0, sl), (0, n), (0, z3), (0, a), (0, b), (0, c), (0, p7), (0, p8), w9], [(0, p9)], B))) ?_ 10 137 _ ?_
      · rintro pc st (⟨rfl, p9, hp9, rfl⟩)
        refine wq_ok srt_Mseed (fr := []) (cuts := [150]) (J := fun pc st => (pc = 150 ∧ st = ([(2, 0), (0, sl), (0, n), (0, z3), (0, a), (0, b), (0, c), (0, p7), (0, p8), (0, p9)], [], B))) ?_ 6 148 _ ?_
        · rintro pc st (⟨rfl, rfl⟩)
          exact sde_150 hs hA hcut ht hJ H hp7 hp8 hp9
        · exact ⟨rfl, rfl⟩
      · refine ⟨rM_0 (by omega) km0, ?_⟩
        refine (placeOf_ex (A := B) (sl := sl) (x := a) (y := c) hJ.1.1 (by omega) (by omega) (by omega) (by omega) (by omega)).imp ?_
        rintro ⟨r1, C⟩ hpo
        obtain ⟨q1, p9, q2, hp9⟩ := po_plV hJ.1 hA hcut (by omega) (by omega) hpo
        simp only at q1 q2
        subst q1
        subst q2
        exact ⟨rfl, p9, hp9, rfl⟩
    · refine ⟨rM_0 (by omega) km0, ?_⟩
      refine (placeOf_ex (A := B) (sl := sl) (x := b) (y := c) hJ.1.1 (by omega) (by omega) (by omega) (by omega) (by omega)).imp ?_
      rintro ⟨r1, C⟩ hpo
      obtain ⟨q1, p8, q2, hp8⟩ := po_plV hJ.1 hA hcut (by omega) (by omega) hpo
      simp only at q1 q2
      subst q1
      subst q2
      exact ⟨rfl, p8, hp8, rfl⟩
  · refine ⟨rM_0 (by omega) km0, ?_⟩
    refine (placeOf_ex (A := B) (sl := sl) (x := a) (y := b) hJ.1.1 (by omega) (by omega) (by omega) (by omega) (by omega)).imp ?_
    rintro ⟨r1, C⟩ hpo
    obtain ⟨q1, p7, q2, hp7⟩ := po_plV hJ.1 hA hcut (by omega) (by omega) hpo
    simp only at q1 q2
    subst q1
    subst q2
    exact ⟨rfl, p7, hp7, rfl⟩
theorem sde_72 {A : pm_A} {sl n z3 a b : Int} (hs : sl = 0 ∨ sl = 1) (hA : gH wM A) (hcut : cntF (fcs A sl) 100 ≤ 6) (n9 : n ≤ 9) (a0 : 0 ≤ a) (ab : a < b) (bn : b < n) (H : ∀ C w6 w7 w8 w9, sdJ A C sl (100 * a + 10 * b + 10) → Tm pmt (an_sh wM) o_X10_seed 180 ([(2, 0), (0, sl), (0, n), (0, z3), (0, a), (0, b), w6, w7, w8, w9], [], C) ri_post) : ∀ (m : Nat) (c : Int) (w7 w8 w9 : pm_V) (B : pm_A), (10 - c).toNat < m → b < c → c ≤ 10 → sdJ A B sl (100 * a + 10 * b + c) → Tm pmt (an_sh wM) o_X10_seed 72 ([(2, 0), (0, sl), (0, n), (0, z3), (0, a), (0, b), (0, c), w7, w8, w9], [], B) ri_post := by
  intro m
  induction m with
  | zero => intro c w7 w8 w9 B h; omega
  | succ m ih =>
    intro c w7 w8 w9 B hm c0 c1 hJ
    have h174 : c < n → ∀ C w7 w8 w9, sdJ A C sl (100 * a + 10 * b + c + 1) → Tm pmt (an_sh wM) o_X10_seed 174 ([(2, 0), (0, sl), (0, n), (0, z3), (0, a), (0, b), (0, c), w7, w8, w9], [], C) ri_post := fun hc C w7 w8 w9 hC => by
      refine wq_ok srt_Mseed (fr := []) (cuts := [72]) (J := fun pc st => (pc = 72 ∧ st = ([(2, 0), (0, sl), (0, n), (0, z3), (0, a), (0, b), (0, c + 1), w7, w8, w9], [], C))) ?_ 7 174 _ ?_
      · rintro pc st (⟨rfl, rfl⟩)
        exact ih (c + 1) _ _ _ C (by omega) (by omega) (by omega) (hC.mono (by omega))
      · refine ⟨⟨by omega, by omega⟩, ?_⟩
        exact ⟨rfl, rfl⟩
    refine wq_ok srt_Mseed (fr := []) (cuts := [87, 180]) (J := fun pc st => (pc = 180 ∧ (n ≤ c) ∧ st = ([(2, 0), (0, sl), (0, n), (0, z3), (0, a), (0, b), (0, c), w7, w8, w9], [], B)) ∨ (pc = 87 ∧ (c < n) ∧ ∃ x1 : Int, ((x1 = 1 ∧ side (B 31 sl) (fcs B sl) a b) ∨ (x1 = 0 ∧ ¬ side (B 31 sl) (fcs B sl) a b)) ∧ st = ([(2, 0), (0, sl), (0, n), (0, z3), (0, a), (0, b), (0, c), w7, w8, w9], [(0, x1)], B))) ?_ 12 72 _ ?_
    · rintro pc st (⟨rfl, h0, rfl⟩ | ⟨rfl, h0, x1, hx1, rfl⟩)
      · exact H B _ _ _ _ (hJ.mono (by omega))
      · refine wq_ok srt_Mseed (fr := []) (cuts := [99, 174]) (J := fun pc st => (pc = 174 ∧ (x1 = 0) ∧ st = ([(2, 0), (0, sl), (0, n), (0, z3), (0, a), (0, b), (0, c), w7, w8, w9], [], B)) ∨ (pc = 99 ∧ (¬ x1 = 0) ∧ ∃ x2 : Int, ((x2 = 1 ∧ side (B 31 sl) (fcs B sl) b c) ∨ (x2 = 0 ∧ ¬ side (B 31 sl) (fcs B sl) b c)) ∧ st = ([(2, 0), (0, sl), (0, n), (0, z3), (0, a), (0, b), (0, c), w7, w8, w9], [(0, x2)], B))) ?_ 10 87 _ ?_
        · rintro pc st (⟨rfl, h0, rfl⟩ | ⟨rfl, h0, x2, hx2, rfl⟩)
          · exact h174 (by omega) B _ _ _ (hJ.mono (by omega))
          · refine wq_ok srt_Mseed (fr := []) (cuts := [111, 174]) (J := fun pc st => (pc = 174 ∧ (x2 = 0) ∧ st = ([(2, 0), (0, sl), (0, n), (0, z3), (0, a), (0, b), (0, c), w7, w8, w9], [], B)) ∨ (pc = 111 ∧ (¬ x2 = 0) ∧ ∃ x3 : Int, ((x3 = 1 ∧ side (B 31 sl) (fcs B sl) a c) ∨ (x3 = 0 ∧ ¬ side (B 31 sl) (fcs B sl) a c)) ∧ st = ([(2, 0), (0, sl), (0, n), (0, z3), (0, a), (0, b), (0, c), w7, w8, w9], [(0, x3)], B))) ?_ 10 99 _ ?_
            · rintro pc st (⟨rfl, h0, rfl⟩ | ⟨rfl, h0, x3, hx3, rfl⟩)
              · exact h174 (by omega) B _ _ _ (hJ.mono (by omega))
              · refine wq_ok srt_Mseed (fr := []) (cuts := [117, 174]) (J := fun pc st => (pc = 117 ∧ (¬ x3 = 0) ∧ st = ([(2, 0), (0, sl), (0, n), (0, z3), (0, a), (0, b), (0, c), w7, w8, w9], [], B)) ∨ (pc = 174 ∧ (x3 = 0) ∧ st = ([(2, 0), (0, sl), (0, n), (0, z3), (0, a), (0, b), (0, c), w7, w8, w9], [], B))) ?_ 7 111 _ ?_
                · rintro pc st (⟨rfl, h0, rfl⟩ | ⟨rfl, h0, rfl⟩)
                  · exact sde_117 hs hA hcut ⟨a0, ab, c0, by omega⟩ hJ (h174 (by omega))
                  · exact h174 (by omega) B _ _ _ (hJ.mono (by omega))
                · refine ⟨fun h0 => ?_, fun h0 => ?_⟩
                  · exact Or.inl (⟨rfl, h0, rfl⟩)
                  · exact Or.inr (⟨rfl, h0, rfl⟩)
            · refine ⟨fun h0 => ?_, fun h0 => ?_⟩
              · exact Or.inl (⟨rfl, h0, rfl⟩)
              · refine ⟨rM_0 (by omega) km0, ?_⟩
                refine (isSide_ex (A := B) (sl := sl) (x := a) (y := c) hJ.1.1 (by omega) (by omega) (by omega) (by omega) (by omega) (by omega)).imp ?_
                rintro ⟨r1, C⟩ ⟨q1, x3, q2, hx3⟩
                simp only at q1 q2
                subst q1
                subst q2
                exact Or.inr (⟨rfl, h0, x3, hx3, rfl⟩)
        · refine ⟨fun h0 => ?_, fun h0 => ?_⟩
          · exact Or.inl (⟨rfl, h0, rfl⟩)
          · refine ⟨rM_0 (by omega) km0, ?_⟩
            refine (isSide_ex (A := B) (sl := sl) (x := b) (y := c) hJ.1.1 (by omega) (by omega) (by omega) (by omega) (by omega) (by omega)).imp ?_
            rintro ⟨r1, C⟩ ⟨q1, x2, q2, hx2⟩
            simp only at q1 q2
            subst q1
            subst q2
            exact Or.inr (⟨rfl, h0, x2, hx2, rfl⟩)
    · refine ⟨fun h0 => ?_, fun h0 => ?_⟩
      · exact Or.inl (⟨rfl, h0, rfl⟩)
      · refine ⟨rM_0 (by omega) km0, ?_⟩
        refine (isSide_ex (A := B) (sl := sl) (x := a) (y := b) hJ.1.1 (by omega) (by omega) (by omega) (by omega) (by omega) (by omega)).imp ?_
        rintro ⟨r1, C⟩ ⟨q1, x1, q2, hx1⟩
        simp only at q1 q2
        subst q1
        subst q2
        exact Or.inr (⟨rfl, h0, x1, hx1, rfl⟩)
theorem sde_60 {A : pm_A} {sl n z3 a : Int} (hs : sl = 0 ∨ sl = 1) (hA : gH wM A) (hcut : cntF (fcs A sl) 100 ≤ 6) (n9 : n ≤ 9) (a0 : 0 ≤ a) (an : a < n) (H : ∀ C w5 w6 w7 w8 w9, sdJ A C sl (100 * a + 100) → Tm pmt (an_sh wM) o_X10_seed 186 ([(2, 0), (0, sl), (0, n), (0, z3), (0, a), w5, w6, w7, w8, w9], [], C) ri_post) : ∀ (m : Nat) (b : Int) (w6 w7 w8 w9 : pm_V) (B : pm_A), (10 - b).toNat < m → a < b → b ≤ 10 → sdJ A B sl (100 * a + 10 * b) → Tm pmt (an_sh wM) o_X10_seed 60 ([(2, 0), (0, sl), (0, n), (0, z3), (0, a), (0, b), w6, w7, w8, w9], [], B) ri_post := by
  intro m
  induction m with
  | zero => intro b w6 w7 w8 w9 B h; omega
  | succ m ih =>
    intro b w6 w7 w8 w9 B hm b0 b1 hJ
    have h180 : b < n → ∀ C w6 w7 w8 w9, sdJ A C sl (100 * a + 10 * b + 10) → Tm pmt (an_sh wM) o_X10_seed 180 ([(2, 0), (0, sl), (0, n), (0, z3), (0, a), (0, b), w6, w7, w8, w9], [], C) ri_post := fun hc C w6 w7 w8 w9 hC => by
      refine wq_ok srt_Mseed (fr := []) (cuts := [60]) (J := fun pc st => (pc = 60 ∧ st = ([(2, 0), (0, sl), (0, n), (0, z3), (0, a), (0, b + 1), w6, w7, w8, w9], [], C))) ?_ 7 180 _ ?_
      · rintro pc st (⟨rfl, rfl⟩)
        exact ih (b + 1) _ _ _ _ C (by omega) (by omega) (by omega) (hC.mono (by omega))
      · refine ⟨⟨by omega, by omega⟩, ?_⟩
        exact ⟨rfl, rfl⟩
    refine wq_ok srt_Mseed (fr := []) (cuts := [72, 186]) (J := fun pc st => (pc = 186 ∧ (n ≤ b) ∧ st = ([(2, 0), (0, sl), (0, n), (0, z3), (0, a), (0, b), w6, w7, w8, w9], [], B)) ∨ (pc = 72 ∧ (b < n) ∧ st = ([(2, 0), (0, sl), (0, n), (0, z3), (0, a), (0, b), (0, b + 1), w7, w8, w9], [], B))) ?_ 12 60 _ ?_
    · rintro pc st (⟨rfl, h0, rfl⟩ | ⟨rfl, h0, rfl⟩)
      · exact H B _ _ _ _ _ (hJ.mono (by omega))
      · exact sde_72 hs hA hcut n9 a0 b0 (by omega) (h180 (by omega)) _ (b + 1) _ _ _ B (Nat.lt_succ_self _) (by omega) (by omega) (hJ.mono (by omega))
    · refine ⟨fun h0 => ?_, fun h0 => ?_⟩
      · exact Or.inl (⟨rfl, h0, rfl⟩)
      · refine ⟨⟨by omega, by omega⟩, ?_⟩
        exact Or.inr (⟨rfl, h0, rfl⟩)
theorem sde_192 {A B : pm_A} {sl t : Int} (h : RI A) (hJ : sdJ A B sl t) {w1 w2 w3 w4 w5 w6 w7 w8 w9 : pm_V} : Tm pmt (an_sh wM) o_X10_seed 192 ([(2, 0), w1, w2, w3, w4, w5, w6, w7, w8, w9], [], B) ri_post := by
  have hB : RI B := hJ.1.ri h (fun j j0 j1 => by have := hJ.b9 j0 j1; omega)
  refine wq_ok srt_Mseed (fr := []) (cuts := [196]) (J := fun pc st => (pc = 196 ∧ ∃ C x, RI C ∧ st = ([(2, 0), w1, w2, w3, w4, w5, w6, w7, w8, w9], [(0, x)], C))) ?_ 6 192 _ ?_
  · rintro pc st (⟨rfl, C, x, q2, rfl⟩)
    refine wq_ok srt_Mseed (fr := []) (cuts := []) (J := fun _ _ => False) ?_ 8 196 _ ?_
    · intro pc st h; exact h.elim
    · refine ⟨fun h0 => ?_, fun h0 => ?_⟩
      · exact ⟨rfl, ⟨_, rfl⟩, q2⟩
      · exact ⟨rfl, ⟨_, rfl⟩, q2⟩
  · refine ⟨rM_0 (by omega) km0, ?_⟩
    refine (mbegin_ct hB).imp ?_
    rintro ⟨r1, C⟩ ⟨⟨x, q1⟩, q2⟩
    simp only at q1 q2
    subst q1
    exact ⟨rfl, C, x, q2, rfl⟩
theorem sde_48 {A : pm_A} {sl n z3 : Int} (h : RI A) (hs : sl = 0 ∨ sl = 1) (hcut : cntF (fcs A sl) 100 ≤ 6) (n9 : n ≤ 9) : ∀ (m : Nat) (a : Int) (w5 w6 w7 w8 w9 : pm_V) (B : pm_A), (10 - a).toNat < m → 0 ≤ a → a ≤ 10 → sdJ A B sl (100 * a) → Tm pmt (an_sh wM) o_X10_seed 48 ([(2, 0), (0, sl), (0, n), (0, z3), (0, a), w5, w6, w7, w8, w9], [], B) ri_post := by
  intro m
  induction m with
  | zero => intro a w5 w6 w7 w8 w9 B h; omega
  | succ m ih =>
    intro a w5 w6 w7 w8 w9 B hm a0 a1 hJ
    have h186 : a < n → ∀ C w5 w6 w7 w8 w9, sdJ A C sl (100 * a + 100) → Tm pmt (an_sh wM) o_X10_seed 186 ([(2, 0), (0, sl), (0, n), (0, z3), (0, a), w5, w6, w7, w8, w9], [], C) ri_post := fun hc C w5 w6 w7 w8 w9 hC => by
      refine wq_ok srt_Mseed (fr := []) (cuts := [48]) (J := fun pc st => (pc = 48 ∧ st = ([(2, 0), (0, sl), (0, n), (0, z3), (0, a + 1), w5, w6, w7, w8, w9], [], C))) ?_ 7 186 _ ?_
      · rintro pc st (⟨rfl, rfl⟩)
        exact ih (a + 1) _ _ _ _ _ C (by omega) (by omega) (by omega) (hC.mono (by omega))
      · refine ⟨⟨by omega, by omega⟩, ?_⟩
        exact ⟨rfl, rfl⟩
    refine wq_ok srt_Mseed (fr := []) (cuts := [60, 192]) (J := fun pc st => (pc = 192 ∧ (n ≤ a) ∧ st = ([(2, 0), (0, sl), (0, n), (0, z3), (0, a), w5, w6, w7, w8, w9], [], B)) ∨ (pc = 60 ∧ (a < n) ∧ st = ([(2, 0), (0, sl), (0, n), (0, z3), (0, a), (0, a + 1), w6, w7, w8, w9], [], B))) ?_ 12 48 _ ?_
    · rintro pc st (⟨rfl, h0, rfl⟩ | ⟨rfl, h0, rfl⟩)
      · exact sde_192 h hJ
      · exact sde_60 hs h.g hcut n9 a0 (by omega) (h186 (by omega)) _ (a + 1) _ _ _ _ B (Nat.lt_succ_self _) (by omega) (by omega) (hJ.mono (by omega))
    · refine ⟨fun h0 => ?_, fun h0 => ?_⟩
      · exact Or.inl (⟨rfl, h0, rfl⟩)
      · refine ⟨⟨by omega, by omega⟩, ?_⟩
        exact Or.inr (⟨rfl, h0, rfl⟩)
theorem sde_8 {A : pm_A} {sl : Int} (h : RI A) (hs : sl = 0 ∨ sl = 1) : Tm pmt (an_sh wM) o_X10_seed 8 ([(2, 0), (0, sl), (9, 0), (9, 0), (9, 0), (9, 0), (9, 0), (9, 0), (9, 0), (9, 0)], [], A) ri_post := by
  have c48 := pM_48 h.g
  have b31 := eM_31 h.g (r := 31) (by omega) kn31 (j := sl) (by omega) (by omega)
  refine wq_ok srt_Mseed (fr := []) (cuts := [13]) (J := fun pc st => (pc = 13 ∧ ∃ x : Int, ((x = 1 ∧ (cntF (fcs A sl) 100 = A 31 sl - 3)) ∨ (x = 0 ∧ ¬ (cntF (fcs A sl) 100 = A 31 sl - 3))) ∧ st = ([(2, 0), (0, sl), (9, 0), (9, 0), (9, 0), (9, 0), (9, 0), (9, 0), (9, 0), (9, 0)], [(0, x)], A))) ?_ 7 8 _ ?_
  · rintro pc st (⟨rfl, x, hx, rfl⟩)
    refine wq_ok srt_Mseed (fr := []) (cuts := [36]) (J := fun pc st => (pc = 36 ∧ (¬ x = 0) ∧ (¬ (A (A 0 48) sl) = 10) ∧ st = ([(2, 0), (0, sl), (0, A (A 0 48) sl), (9, 0), (9, 0), (9, 0), (9, 0), (9, 0), (9, 0), (9, 0)], [], A))) ?_ 17 13 _ ?_
    · rintro pc st (⟨rfl, h0, h1, rfl⟩)
      rw [c48] at h1 ⊢
      have hc : cntF (fcs A sl) 100 = A 31 sl - 3 := by
        rcases hx with ⟨_, e⟩ | ⟨e, _⟩
        · exact e
        · omega
      generalize A 31 sl = n at *
      refine wq_ok srt_Mseed (fr := []) (cuts := [44]) (J := fun pc st => (pc = 44 ∧ ∃ B, sdF A B ∧ (∀ j : Int, 0 ≤ j → j < 72 → B 7 j = 0) ∧ st = ([(2, 0), (0, sl), (0, n), (9, 0), (9, 0), (9, 0), (9, 0), (9, 0), (9, 0), (9, 0)], [(0, 1)], B))) ?_ 10 36 _ ?_
      · rintro pc st (⟨rfl, B, q3, q6, rfl⟩)
        refine wq_ok srt_Mseed (fr := []) (cuts := [48]) (J := fun pc st => (pc = 48 ∧ st = ([(2, 0), (0, sl), (0, n), (0, 1), (0, 0), (9, 0), (9, 0), (9, 0), (9, 0), (9, 0)], [], B))) ?_ 8 44 _ ?_
        · rintro pc st (⟨rfl, rfl⟩)
          exact sde_48 h hs (by omega) (by omega) _ 0 _ _ _ _ _ B (Nat.lt_succ_self _) (by omega) (by omega) ⟨q3, fun i j i0 i1 j0 j1 => by rw [q6 (6 * i + j) (by omega) (by omega)]; exact ⟨by omega, Or.inl rfl⟩⟩
        · exact ⟨rfl, rfl⟩
      · refine ⟨⟨by omega, by omega⟩, ?_⟩
        refine ⟨rM_0 (by omega) km0, ?_⟩
        refine (table_ex h.g (n - 3) 0).imp ?_
        rintro ⟨r1, B⟩ (⟨q1, q2, q3⟩ | ⟨q1, q2, q3, q4, q5, q6⟩)
        · simp only at q1 q2
          exact absurd (show okT (n - 3) 0 from ⟨⟨by omega, by omega⟩, by omega, by omega⟩) q3
        · simp only at q1 q3 q6
          subst q1
          exact ⟨rfl, B, q3, q6, rfl⟩
    · refine ⟨fun h0 => ?_, fun h0 => ?_⟩
      · exact ⟨rfl, ⟨_, rfl⟩, h⟩
      · refine ⟨oM_0 (by omega) km0 48 rfl, ?_⟩
        refine ⟨aM_31 (r := A 0 48) (by rw [c48]; omega) (by rw [c48]; exact kn31) (by omega) (by omega), ?_⟩
        have e1 : A (A 0 48) sl = A 31 sl := by rw [c48]
        refine ⟨fun h1 => ?_, fun h1 => ?_⟩
        · refine ⟨oM_0 (by omega) km0 48 rfl, ?_⟩
          refine ⟨aM_31 (r := A 0 48) (by rw [c48]; omega) (by rw [c48]; exact kn31) (by omega) (by omega), ?_⟩
          have e2 : A (A 0 48) sl = A 31 sl := by rw [c48]
          exact ⟨rfl, h0, h1, rfl⟩
        · exact ⟨rfl, ⟨_, rfl⟩, h⟩
  · refine ⟨rM_0 (by omega) km0, ?_⟩
    refine (isCutting_ex h.g (sl := sl) (by omega) (by omega)).imp ?_
    rintro ⟨r1, C⟩ ⟨q1, x, q2, hx⟩
    simp only at q1 q2
    subst q1
    subst q2
    exact ⟨rfl, x, hx, rfl⟩
theorem mseed_ct {A : pm_A} (h : RI A) (sl : Int) : Cl pmt (an_sh wM) 183 [(2, 0), (0, sl)] A ri_post := by
  refine Cl.of (Nat.le_of_ble_eq_true rfl) ?_
  refine wq_ok (full := o_X10_seed) srt_Mseed (fr := []) (cuts := [5]) (J := fun pc st => (pc = 5 ∧ ∃ x : Int, ((x = 1 ∧ (sl = 0 ∨ sl = 1)) ∨ (x = 0 ∧ ¬ (sl = 0 ∨ sl = 1))) ∧ st = ([(2, 0), (0, sl), (9, 0), (9, 0), (9, 0), (9, 0), (9, 0), (9, 0), (9, 0), (9, 0)], [(0, x)], A))) ?_ 7 0 _ ?_
  · rintro pc st (⟨rfl, x, hx, rfl⟩)
    refine wq_ok srt_Mseed (fr := []) (cuts := [8]) (J := fun pc st => (pc = 8 ∧ (¬ x = 0) ∧ st = ([(2, 0), (0, sl), (9, 0), (9, 0), (9, 0), (9, 0), (9, 0), (9, 0), (9, 0), (9, 0)], [], A))) ?_ 7 5 _ ?_
    · rintro pc st (⟨rfl, h0, rfl⟩)
      refine sde_8 h ?_
      rcases hx with ⟨_, e⟩ | ⟨e, _⟩
      · exact e
      · omega
    · refine ⟨fun h0 => ?_, fun h0 => ?_⟩
      · exact ⟨rfl, ⟨_, rfl⟩, h⟩
      · exact ⟨rfl, h0, rfl⟩
  · refine ⟨rM_0 (by omega) km0, ?_⟩
    refine (MisSlot_ex).imp ?_
    rintro ⟨r1, C⟩ ⟨q1, x, q2, hx⟩
    simp only at q1 q2
    subst q1
    subst q2
    exact ⟨rfl, x, hx, rfl⟩
end
