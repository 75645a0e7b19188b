/-! group -/
def nz (x : Int) : Int := if x = 0 then 0 else 1
def cn (f : Int → Int) : Int := nz (f 0) + nz (f 1) + nz (f 2) + nz (f 3) + nz (f 4) + nz (f 5)
theorem nz_b (x : Int) : 0 ≤ nz x ∧ nz x ≤ 1 := by unfold nz; split <;> omega
theorem cn_b (f : Int → Int) : 0 ≤ cn f ∧ cn f ≤ 6 := by
  unfold cn
  have := nz_b (f 0); have := nz_b (f 1); have := nz_b (f 2); have := nz_b (f 3); have := nz_b (f 4); have := nz_b (f 5)
  omega
theorem cn_put {f g : Int → Int} {j : Int} (j0 : 0 ≤ j) (j1 : j ≤ 5) (h : ∀ k, k ≠ j → g k = f k) (hf : f j = 0) (hg : g j ≠ 0) : cn g = cn f + 1 := by
  have hk : ∀ k, nz (g k) = nz (f k) + (if k = j then 1 else 0) := fun k => by
    by_cases e : k = j
    · rw [e, if_pos rfl, hf]; unfold nz; rw [if_neg hg, if_pos rfl]; rfl
    · rw [if_neg e, h k e]; omega
  have hh : j = 0 ∨ j = 1 ∨ j = 2 ∨ j = 3 ∨ j = 4 ∨ j = 5 := by omega
  unfold cn
  rw [hk 0, hk 1, hk 2, hk 3, hk 4, hk 5]
  rcases hh with rfl | rfl | rfl | rfl | rfl | rfl <;> simp <;> omega
def p9 (c : Int) : Int := 9 ^ c.toNat
theorem p9_succ {c : Int} (h : 0 ≤ c) : p9 (c + 1) = 9 * p9 c := by unfold p9; rw [show (c + 1).toNat = c.toNat + 1 by omega, Int.pow_succ, Int.mul_comm]
theorem p9_pos (c : Int) : 1 ≤ p9 c := by
  unfold p9
  have : (0 : Int) < 9 ^ c.toNat := Int.pow_pos (by omega)
  omega
theorem p9_le {c : Int} (h : c ≤ 6) : p9 c ≤ 531441 := by
  have hh : c.toNat = 0 ∨ c.toNat = 1 ∨ c.toNat = 2 ∨ c.toNat = 3 ∨ c.toNat = 4 ∨ c.toNat = 5 ∨ c.toNat = 6 := by omega
  unfold p9
  rcases hh with h | h | h | h | h | h | h <;> rw [h] <;> decide
theorem gcd_pos1 {a b : Int} (ha : 1 ≤ a) : (1 : Int) ≤ (Int.gcd a b : Int) := by
  have : Int.gcd a b ≠ 0 := fun e => by
    have := (Int.gcd_eq_zero_iff.1 e).1
    omega
  omega
/-- a fraction without its common factor -/
theorem red1 {a b : Int} (ha : 1 ≤ a) (hb : 1 ≤ b) : ∃ u v : Int, a.tdiv (Int.gcd a b : Int) = u ∧ b.tdiv (Int.gcd a b : Int) = v ∧ a = (Int.gcd a b : Int) * u ∧ b = (Int.gcd a b : Int) * v ∧ 1 ≤ u ∧ 1 ≤ v ∧ u ≤ a ∧ v ≤ b := by
  have g1 := gcd_pos1 (b := b) ha
  obtain ⟨u, hu⟩ := Int.gcd_dvd_left (a := a) (b := b)
  obtain ⟨v, hv⟩ := Int.gcd_dvd_right (a := a) (b := b)
  generalize (Int.gcd a b : Int) = g at *
  have u1 : 1 ≤ u := by
    refine Classical.byContradiction (fun h => ?_)
    have := Int.mul_le_mul_of_nonneg_left (show u ≤ 0 by omega) (show 0 ≤ g by omega)
    omega
  have v1 : 1 ≤ v := by
    refine Classical.byContradiction (fun h => ?_)
    have := Int.mul_le_mul_of_nonneg_left (show v ≤ 0 by omega) (show 0 ≤ g by omega)
    omega
  have := Int.mul_le_mul_of_nonneg_right g1 (show 0 ≤ u by omega)
  have := Int.mul_le_mul_of_nonneg_right g1 (show 0 ≤ v by omega)
  refine ⟨u, v, ?_, ?_, hu, hv, u1, v1, by omega, by omega⟩
  · rw [hu]; exact Int.mul_tdiv_cancel_left _ (by omega)
  · rw [hv]; exact Int.mul_tdiv_cancel_left _ (by omega)
theorem lcm1 {l x D : Int} (hl : 1 ≤ l) (hx : 1 ≤ x) (h1 : l ∣ D) (h2 : x ∣ D) : l.tdiv (Int.gcd l x : Int) * x ∣ D ∧ l ∣ l.tdiv (Int.gcd l x : Int) * x ∧ x ∣ l.tdiv (Int.gcd l x : Int) * x ∧ 1 ≤ l.tdiv (Int.gcd l x : Int) * x := by
  have e : l.tdiv (Int.gcd l x : Int) * x = (Int.lcm l x : Int) := by
    obtain ⟨u, v, hu, hv, e1, e2, u1, v1, _⟩ := red1 hl hx
    have g1 := gcd_pos1 (b := x) hl
    have h := Int.gcd_mul_lcm l x
    have h' : (Int.gcd l x : Int) * (Int.lcm l x : Int) = l * x := by
      have : ((l * x).natAbs : Int) = l * x := Int.natAbs_of_nonneg (Int.mul_nonneg (by omega) (by omega))
      rw [← this, Int.natAbs_mul, ← h]; rfl
    rw [hu]
    have : (Int.gcd l x : Int) * (Int.lcm l x : Int) = (Int.gcd l x : Int) * (u * x) := by rw [h', ← Int.mul_assoc, ← e1]
    exact (Int.eq_of_mul_eq_mul_left (by omega) this).symm
  rw [e]
  refine ⟨Int.coe_lcm_dvd h1 h2, Int.dvd_lcm_left _ _, Int.dvd_lcm_right _ _, ?_⟩
  rw [← e]
  obtain ⟨u, v, hu, hv, e1, e2, u1, v1, _⟩ := red1 hl hx
  rw [hu]
  have := Int.mul_le_mul_of_nonneg_left hx (show 0 ≤ u by omega)
  omega
theorem mulb {x t : Int} (h1 : 1 ≤ x) (h2 : x ≤ 531441) (h3 : 1 ≤ t) (h4 : t ≤ 9) : 1 ≤ x * t ∧ x * t ≤ 4782969 := by
  have a := Int.mul_le_mul h2 h4 (by omega) (by omega)
  have b := Int.mul_le_mul h1 h3 (by omega) (by omega)
  omega
def gpF (A B : pm_A) : Prop := gH wM B ∧ ∀ r j, r ≠ 8 → r ≠ 9 → r ≠ 11 → B r j = A r j
def Zs (p : Int) (B : pm_A) (i : Int) : Prop := p ≤ i ∨ B 9 i = 0 ∨ (B 9 i = 1 ∧ 1 ≤ B 8 i ∧ B 8 i ≤ 531441)
def gMem (B : pm_A) (D i : Int) : Prop := ∃ c, 1 ≤ c ∧ D = B 9 i * c ∧ B 8 i * c ≤ p9 (cn (B 9)) ∧ 1 ≤ B 8 i ∧ 1 ≤ B 9 i
def gpI (p : Int) (B : pm_A) (D : Int) : Prop := (1 ≤ D ∧ D ≤ p9 (cn (B 9))) ∧ ∀ i : Int, 0 ≤ i → i ≤ 5 → (B 11 i = 0 ∧ Zs p B i) ∨ (B 11 i = 1 ∧ i < p ∧ gMem B D i)
def kpz (A B : pm_A) : Prop := ∀ i : Int, A 9 i ≠ 0 → B 9 i ≠ 0
def GI (A B : pm_A) : Prop := gpF A B ∧ (∃ D, gpI (A 0 12) B D) ∧ kpz A B
theorem gpI.bd {p D i : Int} {B : pm_A} (h : gpI p B D) (i0 : 0 ≤ i) (i1 : i ≤ 5) (hi : B 11 i = 1) : (1 ≤ B 8 i ∧ B 8 i ≤ 531441) ∧ 1 ≤ B 9 i ∧ B 9 i ≤ 531441 := by
  rcases h.2 i i0 i1 with ⟨h1, _⟩ | ⟨_, _, c, c1, c2, c3, c4, c5⟩
  · omega
  · have := p9_le (cn_b (B 9)).2
    have a := Int.mul_le_mul_of_nonneg_left c1 (show 0 ≤ B 8 i by omega)
    have b := Int.mul_le_mul_of_nonneg_left c1 (show 0 ≤ B 9 i by omega)
    have := h.1
    omega
theorem gpI.step {p D : Int} {B C : pm_A} (h : gpI p B D) {i j t t' g u v : Int} (i0 : 0 ≤ i) (i1 : i ≤ 5) (hi : B 11 i = 1) (j0 : 0 ≤ j) (j1 : j < p) (p6 : p ≤ 6) (hj : B 9 j = 0) (t1 : 1 ≤ t ∧ t ≤ 9) (t2 : 1 ≤ t' ∧ t' ≤ 9) (hu : B 8 i * t = g * u) (hv : B 9 i * t' = g * v) (g1 : 1 ≤ g) (u1 : 1 ≤ u) (v1 : 1 ≤ v) (e8 : ∀ k, k ≠ j → C 8 k = B 8 k) (e9 : ∀ k, k ≠ j → C 9 k = B 9 k) (e11 : ∀ k, k ≠ j → C 11 k = B 11 k) (f8 : C 8 j = u) (f9 : C 9 j = v) (f11 : C 11 j = 1) : gpI p C (D * t') ∧ cn (C 9) = cn (B 9) + 1 := by
  have hc : cn (C 9) = cn (B 9) + 1 := cn_put j0 (by omega) e9 hj (by rw [f9]; omega)
  refine ⟨?_, hc⟩
  have hp := p9_succ (cn_b (B 9)).1
  have hq := p9_pos (cn (B 9))
  unfold gpI
  rw [hc, hp]
  refine ⟨⟨?_, ?_⟩, fun k k0 k1 => ?_⟩
  · have := Int.mul_le_mul_of_nonneg_left t2.1 (show 0 ≤ D by have := h.1; omega)
    have := h.1; omega
  · have := Int.mul_le_mul h.1.2 t2.2 (by omega) (show 0 ≤ p9 (cn (B 9)) by omega)
    omega
  · by_cases e : k = j
    · subst e
      refine Or.inr ⟨f11, j1, ?_⟩
      rcases h.2 i i0 i1 with ⟨h1, _⟩ | ⟨_, _, c, c1, c2, c3, c4, c5⟩
      · omega
      · refine ⟨g * c, ?_, ?_, ?_, by rw [f8]; exact u1, by rw [f9]; exact v1⟩
        · have := Int.mul_le_mul g1 c1 (by omega) (by omega); omega
        · rw [f9, c2, Int.mul_right_comm, hv, ← Int.mul_assoc, Int.mul_comm v g]
        · rw [f8, hc, hp, ← Int.mul_assoc, Int.mul_comm u g, ← hu, Int.mul_right_comm]
          have := Int.mul_le_mul c3 t1.2 (by omega) (show 0 ≤ p9 (cn (B 9)) by omega)
          omega
    · rcases h.2 k k0 k1 with ⟨h1, h2⟩ | ⟨h1, h2, c, c1, c2, c3, c4, c5⟩
      · refine Or.inl ⟨by rw [e11 k e]; exact h1, ?_⟩
        unfold Zs; rw [e9 k e, e8 k e]; exact h2
      · refine Or.inr ⟨by rw [e11 k e]; exact h1, h2, c * t', ?_, ?_, ?_, by rw [e8 k e]; exact c4, by rw [e9 k e]; exact c5⟩
        · have := Int.mul_le_mul c1 t2.1 (by omega) (by omega); omega
        · rw [e9 k e, c2, Int.mul_assoc]
        · rw [e8 k e, hc, hp, ← Int.mul_assoc]
          have := Int.mul_le_mul c3 t2.2 (by omega) (show 0 ≤ p9 (cn (B 9)) by omega)
          omega
theorem srt_Mgroup : pm_srt o_X10_group = true := by decide +kernel
def gp_post (A : pm_A) (r : pm_R) : Prop := r.1 = none ∧ gpF A r.2 ∧ (∀ i : Int, 0 ≤ i → i ≤ 5 → Zs (A 0 12) r.2 i) ∧ kpz A r.2
theorem gpF.u8 {A B : pm_A} (h : gpF A B) {i x : Int} (x0 : -9223372036854775808 ≤ x) (x1 : x ≤ 9223372036854775807) : gpF A (pm_upd B 8 i x) := ⟨uM_8 h.1 kn8 x0 x1, fun r j h1 h2 h3 => by rw [upd_o (by omega)]; exact h.2 r j h1 h2 h3⟩
theorem gpF.u9 {A B : pm_A} (h : gpF A B) {i x : Int} (x0 : -9223372036854775808 ≤ x) (x1 : x ≤ 9223372036854775807) : gpF A (pm_upd B 9 i x) := ⟨uM_9 h.1 kn9 x0 x1, fun r j h1 h2 h3 => by rw [upd_o (by omega)]; exact h.2 r j h1 h2 h3⟩
theorem gpF.u11 {A B : pm_A} (h : gpF A B) {i x : Int} (x0 : 0 ≤ x) (x1 : x ≤ 1) : gpF A (pm_upd B 11 i x) := ⟨uM_11 h.1 kn11 x0 x1, fun r j h1 h2 h3 => by rw [upd_o (by omega)]; exact h.2 r j h1 h2 h3⟩

def gfin (B : pm_A) (L G i : Int) : Prop := ∃ m x, L = B 9 i * m ∧ 1 ≤ m ∧ B 8 i * m = G * x ∧ 1 ≤ x ∧ x ≤ 531441 ∧ 1 ≤ G ∧ 1 ≤ B 8 i ∧ 1 ≤ B 9 i ∧ L ≤ 531441 ∧ B 8 i * m ≤ 531441
theorem gp_317 {A : pm_A} {L G : Int} {w1 w2 w8 w9 w10 : pm_V} (hLG : (1 ≤ L ∧ L ≤ 531441) ∧ 0 ≤ G ∧ G ≤ 531441) (p6 : A 0 12 ≤ 6) : ∀ (m : Nat) (u : Int) (B : pm_A), (6 - u).toNat < m → 0 ≤ u → u ≤ 6 → gpF A B → kpz A B → (∀ i : Int, 0 ≤ i → i ≤ 5 → ((i < u ∨ B 11 i = 0) ∧ Zs (A 0 12) B i) ∨ (u ≤ i ∧ i < A 0 12 ∧ B 11 i = 1 ∧ gfin B L G i)) → Tm pmt (an_sh wM) o_X10_group 317 ([(2, 0), w1, w2, (1, L), (9, 0), (1, G), (9, 0), (0, u), w8, w9, w10], [], B) (gp_post A) := by
  intro m
  induction m with
  | zero => intro u B h; omega
  | succ m ih =>
    intro u B hm u0 u1 hF hk hI
    have e12 : B 0 12 = A 0 12 := hF.2 0 12 (by omega) (by omega) (by omega)
    have c15 := pM_15 hF.1
    have c16 := pM_16 hF.1
    have c18 := pM_18 hF.1
    have hfin : A 0 12 ≤ u → gp_post A (none, B) := fun hu => ⟨rfl, hF, fun i i0 i1 => by
      rcases hI i i0 i1 with h | h
      · exact h.2
      · omega, hk⟩
    have h366 : ∀ (x : Int) (C : pm_A), 1 ≤ x → x ≤ 531441 → u < A 0 12 → C = pm_upd B 8 u x → Tm pmt (an_sh wM) o_X10_group 366 ([(2, 0), w1, w2, (1, L), (9, 0), (1, G), (9, 0), (0, u), w8, w9, w10], [], C) (gp_post A) := fun x C x1 x2 hu hC => by
      have hFC : gpF A C := by rw [hC]; exact hF.u8 (by omega) (by omega)
      have c16 := pM_16 hFC.1
      refine wq_ok srt_Mgroup (fr := []) (cuts := [317]) (J := fun pc st => (pc = 317 ∧ st = ([(2, 0), w1, w2, (1, L), (9, 0), (1, G), (9, 0), (0, u + 1), w8, w9, w10], [], pm_upd C (C 0 16) u 1))) ?_ 12 366 _ ?_
      · rintro pc st (⟨rfl, rfl⟩)
        rw [c16]
        have o9 : ∀ k, k ≠ u → pm_upd C 9 u 1 9 k = B 9 k := fun k hk => by rw [upd_o (by omega), hC, upd_o (by omega)]
        have o8 : ∀ k, k ≠ u → pm_upd C 9 u 1 8 k = B 8 k := fun k hk => by rw [upd_o (by omega), hC, upd_o (by omega)]
        have o11 : ∀ k, pm_upd C 9 u 1 11 k = B 11 k := fun k => by rw [upd_o (by omega), hC, upd_o (by omega)]
        refine ih (u + 1) _ (by omega) (by omega) (by omega) (hFC.u9 (by omega) (by omega)) (fun k hk1 => ?_) (fun k k0 k1 => ?_)
        · by_cases e : k = u
          · rw [e, upd_at]; omega
          · rw [o9 k e]; exact hk k hk1
        · by_cases e : k = u
          · refine Or.inl ⟨Or.inl (by omega), Or.inr (Or.inr ⟨by rw [e, upd_at], ?_⟩)⟩
            rw [e, upd_o (by omega), hC, upd_at]; omega
          · unfold Zs gfin
            rw [o9 k e, o8 k e, o11]
            rcases hI k k0 k1 with ⟨h1, h2⟩ | ⟨h1, h2, h3, h4⟩
            · exact Or.inl ⟨by omega, h2⟩
            · exact Or.inr ⟨by omega, h2, h3, h4⟩
      · refine ⟨oM_0 (by omega) km0 16 rfl, ?_⟩
        refine ⟨tM_9 (r := C 0 16) (by rw [c16]; omega) (by rw [c16]; exact kn9) (by omega) (by omega) rfl, ?_⟩
        refine ⟨⟨by omega, by omega⟩, ?_⟩
        exact ⟨rfl, rfl⟩
    by_cases hb : u < A 0 12 ∧ ¬ B 11 u = 0
    · have hmem : ∃ mm x, Int.tdiv L (B 9 u) = mm ∧ Int.tdiv (B 8 u * mm) G = x ∧ 1 ≤ x ∧ x ≤ 531441 ∧ 1 ≤ B 8 u * mm ∧ B 8 u * mm ≤ 531441 ∧ 1 ≤ G ∧ 1 ≤ B 9 u ∧ B 9 u ≤ 531441 := by
        rcases hI u u0 (by omega) with ⟨h1, h2⟩ | ⟨h1, h2, h3, mm, x, q1, q2, q3, q4, q5, q6, q7, q8, q9, q10⟩
        · omega
        · have a := Int.mul_le_mul q7 q2 (by omega) (by omega)
          have b := Int.mul_le_mul_of_nonneg_left q2 (show 0 ≤ B 9 u by omega)
          refine ⟨mm, x, ?_, ?_, q4, q5, by omega, q10, q6, q8, by omega⟩
          · rw [q1]; exact Int.mul_tdiv_cancel_left _ (by omega)
          · rw [q3]; exact Int.mul_tdiv_cancel_left _ (by omega)
      obtain ⟨mm, x, d1, d2, x1, x2, y1, y2, G1, z1, z2⟩ := hmem
      refine wq_ok srt_Mgroup (fr := []) (cuts := [317, 366]) (J := fun pc st => (pc = 366 ∧ (u < (B 0 12)) ∧ (¬ (B (B 0 18) u) = 0) ∧ st = ([(2, 0), w1, w2, (1, L), (9, 0), (1, G), (9, 0), (0, u), w8, w9, w10], [], pm_upd B (B 0 15) u (Int.tdiv ((B (B 0 15) u) * (Int.tdiv L (B (B 0 16) u))) G))) ∨ (pc = 317 ∧ (u < (B 0 12)) ∧ ((B (B 0 18) u) = 0) ∧ st = ([(2, 0), w1, w2, (1, L), (9, 0), (1, G), (9, 0), (0, u + 1), w8, w9, w10], [], B))) ?_ 31 317 _ ?_
      · rintro pc st (⟨rfl, h0, h1, rfl⟩ | ⟨rfl, h0, h1, rfl⟩)
        · rw [c15, c16, d1, d2]
          exact h366 x _ x1 x2 hb.1 rfl
        · rw [c18] at h1
          exact absurd h1 hb.2
      · refine ⟨oM_0 (by omega) km0 12 rfl, ?_⟩
        refine ⟨fun h0 => ?_, fun h0 => ?_⟩
        · exact absurd h0 (by omega)
        · refine ⟨oM_0 (by omega) km0 18 rfl, ?_⟩
          refine ⟨aM_11 (r := B 0 18) (by rw [c18]; omega) (by rw [c18]; exact kn11) (by omega) (by omega), ?_⟩
          have e1 : B (B 0 18) u = B 11 u := by rw [c18]
          refine ⟨fun h1 => ?_, fun h1 => ?_⟩
          · refine ⟨oM_0 (by omega) km0 15 rfl, ?_⟩
            refine ⟨oM_0 (by omega) km0 15 rfl, ?_⟩
            refine ⟨aM_8 (r := B 0 15) (by rw [c15]; omega) (by rw [c15]; exact kn8) (by omega) (by omega), ?_⟩
            have e2 : B (B 0 15) u = B 8 u := by rw [c15]
            refine ⟨oM_0 (by omega) km0 16 rfl, ?_⟩
            refine ⟨aM_9 (r := B 0 16) (by rw [c16]; omega) (by rw [c16]; exact kn9) (by omega) (by omega), ?_⟩
            have e3 : B (B 0 16) u = B 9 u := by rw [c16]
            refine ⟨⟨by omega, ⟨by omega, by omega⟩, ⟨by omega, by omega⟩, fun _ => by omega⟩, ?_⟩
            refine ⟨(show r64 (B (B 0 15) u * Int.tdiv L (B (B 0 16) u)) by rw [c15, c16, d1]; exact ⟨by omega, by omega⟩), ?_⟩
            refine ⟨(show ¬ G = 0 ∧ r64 (B (B 0 15) u * Int.tdiv L (B (B 0 16) u)) ∧ r64 G ∧ (B (B 0 15) u * Int.tdiv L (B (B 0 16) u) = -9223372036854775808 → ¬ G = -1) by rw [c15, c16, d1]; exact ⟨by omega, ⟨by omega, by omega⟩, ⟨by omega, by omega⟩, fun _ => by omega⟩), ?_⟩
            refine ⟨tM_8 (r := B 0 15) (by rw [c15]; omega) (by rw [c15]; exact kn8) (by omega) (by omega) rfl, ?_⟩
            exact Or.inl (⟨rfl, h0, h1, rfl⟩)
          · refine ⟨⟨by omega, by omega⟩, ?_⟩
            exact Or.inr (⟨rfl, h0, h1, rfl⟩)
    · have hz : u < A 0 12 → B 11 u = 0 := fun h => Classical.byContradiction (fun h2 => hb ⟨h, h2⟩)
      refine wq_ok srt_Mgroup (fr := []) (cuts := [317, 339]) (J := fun pc st => (pc = 339 ∧ (u < (B 0 12)) ∧ (¬ (B (B 0 18) u) = 0) ∧ st = ([(2, 0), w1, w2, (1, L), (9, 0), (1, G), (9, 0), (0, u), w8, w9, w10], [], B)) ∨ (pc = 317 ∧ (u < (B 0 12)) ∧ ((B (B 0 18) u) = 0) ∧ st = ([(2, 0), w1, w2, (1, L), (9, 0), (1, G), (9, 0), (0, u + 1), w8, w9, w10], [], B))) ?_ 17 317 _ ?_
      · rintro pc st (⟨rfl, h0, h1, rfl⟩ | ⟨rfl, h0, h1, rfl⟩)
        · rw [c18] at h1
          exact absurd (hz (by omega)) h1
        · rw [c18] at h1
          refine ih (u + 1) B (by omega) (by omega) (by omega) hF hk (fun k k0 k1 => ?_)
          rcases hI k k0 k1 with ⟨g1, g2⟩ | ⟨g1, g2, g3, g4⟩
          · exact Or.inl ⟨by omega, g2⟩
          · by_cases e : k = u
            · subst e; omega
            · exact Or.inr ⟨by omega, g2, g3, g4⟩
      · refine ⟨oM_0 (by omega) km0 12 rfl, ?_⟩
        refine ⟨fun h0 => ?_, fun h0 => ?_⟩
        · exact hfin (by omega)
        · refine ⟨oM_0 (by omega) km0 18 rfl, ?_⟩
          refine ⟨aM_11 (r := B 0 18) (by rw [c18]; omega) (by rw [c18]; exact kn11) (by omega) (by omega), ?_⟩
          have e1 : B (B 0 18) u = B 11 u := by rw [c18]
          refine ⟨fun h1 => ?_, fun h1 => ?_⟩
          · exact Or.inl (⟨rfl, h0, h1, rfl⟩)
          · refine ⟨⟨by omega, by omega⟩, ?_⟩
            exact Or.inr (⟨rfl, h0, h1, rfl⟩)
def memL (B : pm_A) (p L : Int) : Prop := ∀ i : Int, 0 ≤ i → i ≤ 5 → (B 11 i = 0 ∧ Zs p B i) ∨ (B 11 i = 1 ∧ i < p ∧ ∃ m, L = B 9 i * m ∧ 1 ≤ m ∧ B 8 i * m ≤ 531441 ∧ 1 ≤ B 8 i ∧ 1 ≤ B 9 i)
theorem gp_265 {A B : pm_A} {L : Int} {w1 w2 w8 w9 w10 : pm_V} (hL : 1 ≤ L ∧ L ≤ 531441) (p6 : A 0 12 ≤ 6) (hF : gpF A B) (hk : kpz A B) (hM : memL B (A 0 12) L) : ∀ (m : Nat) (u G : Int), (6 - u).toNat < m → 0 ≤ u → u ≤ 6 → 0 ≤ G → G ≤ 531441 → (∀ i m : Int, 0 ≤ i → i < u → i ≤ 5 → B 11 i = 1 → L = B 9 i * m → G ∣ B 8 i * m) → Tm pmt (an_sh wM) o_X10_group 265 ([(2, 0), w1, w2, (1, L), (9, 0), (1, G), (9, 0), (0, u), w8, w9, w10], [], B) (gp_post A) := by
  have e12 : B 0 12 = A 0 12 := hF.2 0 12 (by omega) (by omega) (by omega)
  have c15 := pM_15 hF.1
  have c16 := pM_16 hF.1
  have c18 := pM_18 hF.1
  intro m
  induction m with
  | zero => intro u G h; omega
  | succ m ih =>
    intro u G hm u0 u1 G0 G1 hG
    have hend : A 0 12 ≤ u → Tm pmt (an_sh wM) o_X10_group 317 ([(2, 0), w1, w2, (1, L), (9, 0), (1, G), (9, 0), (0, 0), w8, w9, w10], [], B) (gp_post A) := fun hu => gp_317 ⟨hL, G0, G1⟩ p6 _ 0 B (Nat.lt_succ_self _) (by omega) (by omega) hF hk (fun i i0 i1 => by
      rcases hM i i0 i1 with ⟨h1, h2⟩ | ⟨h1, h2, mm, q1, q2, q3, q4, q5⟩
      · exact Or.inl ⟨Or.inr h1, h2⟩
      · obtain ⟨x, hx⟩ := hG i mm i0 (by omega) i1 h1 q1
        have a := Int.mul_le_mul q4 q2 (by omega) (by omega)
        have G2 : 1 ≤ G := by
          refine Classical.byContradiction (fun h => ?_)
          rw [show G = 0 by omega, Int.zero_mul] at hx
          omega
        have x1 : 1 ≤ x := by
          refine Classical.byContradiction (fun h => ?_)
          have := Int.mul_le_mul_of_nonneg_left (show x ≤ 0 by omega) G0
          omega
        have := Int.mul_le_mul_of_nonneg_right G2 (show 0 ≤ x by omega)
        exact Or.inr ⟨i0, h2, h1, mm, x, q1, q2, hx, x1, by omega, G2, q4, q5, hL.2, q3⟩)
    by_cases hb : u < A 0 12 ∧ ¬ B 11 u = 0
    · have hmem : ∃ mm, Int.tdiv L (B 9 u) = mm ∧ L = B 9 u * mm ∧ 1 ≤ mm ∧ 1 ≤ B 8 u * mm ∧ B 8 u * mm ≤ 531441 ∧ 1 ≤ B 9 u ∧ B 9 u ≤ 531441 := by
        rcases hM u u0 (by omega) with ⟨h1, h2⟩ | ⟨h1, h2, mm, q1, q2, q3, q4, q5⟩
        · omega
        · have a := Int.mul_le_mul q4 q2 (by omega) (by omega)
          have b := Int.mul_le_mul_of_nonneg_left q2 (show 0 ≤ B 9 u by omega)
          refine ⟨mm, ?_, q1, q2, by omega, q3, q5, by omega⟩
          rw [q1]; exact Int.mul_tdiv_cancel_left _ (by omega)
      obtain ⟨mm, d1, d2, d3, y1, y2, z1, z2⟩ := hmem
      refine wq_ok srt_Mgroup (fr := []) (cuts := [265, 306, 317]) (J := fun pc st => (pc = 317 ∧ ((B 0 12) ≤ u) ∧ st = ([(2, 0), w1, w2, (1, L), (9, 0), (1, G), (9, 0), (0, 0), w8, w9, w10], [], B)) ∨ (pc = 265 ∧ (u < (B 0 12)) ∧ ((B (B 0 18) u) = 0) ∧ st = ([(2, 0), w1, w2, (1, L), (9, 0), (1, G), (9, 0), (0, u + 1), w8, w9, w10], [], B)) ∨ (pc = 306 ∧ st = ([(2, 0), w1, w2, (1, L), (9, 0), (1, G), (9, 0), (0, u), w8, w9, w10], [(1, (Int.gcd (B 8 u * mm) G : Int))], B))) ?_ 26 265 _ ?_
      · rintro pc st (⟨rfl, h0, rfl⟩ | ⟨rfl, h0, h1, rfl⟩ | ⟨rfl, rfl⟩)
        · exact hend (by omega)
        · rw [c18] at h1
          exact absurd h1 hb.2
        · refine wq_ok srt_Mgroup (fr := []) (cuts := [265]) (J := fun pc st => (pc = 265 ∧ st = ([(2, 0), w1, w2, (1, L), (9, 0), (1, (Int.gcd (B 8 u * mm) G : Int)), (9, 0), (0, u + 1), w8, w9, w10], [], B))) ?_ 8 306 _ ?_
          · rintro pc st (⟨rfl, rfl⟩)
            have dv := Int.gcd_dvd_left (B 8 u * mm) G
            have dw := Int.gcd_dvd_right (B 8 u * mm) G
            have g1 := Int.le_of_dvd (by omega) dv
            refine ih (u + 1) _ (by omega) (by omega) (by omega) (by omega) (by omega) (fun i m i0 i1 i2 h1 h2 => ?_)
            by_cases e : i = u
            · subst e
              have : m = mm := Int.eq_of_mul_eq_mul_left (show B 9 i ≠ 0 by omega) (by rw [← h2, ← d2])
              rw [this]; exact dv
            · exact Int.dvd_trans dw (hG i m i0 (by omega) i2 h1 h2)
          · refine ⟨⟨by omega, by omega⟩, ?_⟩
            exact ⟨rfl, rfl⟩
      · refine ⟨oM_0 (by omega) km0 12 rfl, ?_⟩
        refine ⟨fun h0 => ?_, fun h0 => ?_⟩
        · exact Or.inl (⟨rfl, h0, rfl⟩)
        · refine ⟨oM_0 (by omega) km0 18 rfl, ?_⟩
          refine ⟨aM_11 (r := B 0 18) (by rw [c18]; omega) (by rw [c18]; exact kn11) (by omega) (by omega), ?_⟩
          have e1 : B (B 0 18) u = B 11 u := by rw [c18]
          refine ⟨fun h1 => ?_, fun h1 => ?_⟩
          · refine ⟨⟨by omega, by omega⟩, ?_⟩
            exact Or.inr (Or.inl (⟨rfl, h0, h1, rfl⟩))
          · refine ⟨oM_0 (by omega) km0 15 rfl, ?_⟩
            refine ⟨aM_8 (r := B 0 15) (by rw [c15]; omega) (by rw [c15]; exact kn8) (by omega) (by omega), ?_⟩
            have e2 : B (B 0 15) u = B 8 u := by rw [c15]
            refine ⟨oM_0 (by omega) km0 16 rfl, ?_⟩
            refine ⟨aM_9 (r := B 0 16) (by rw [c16]; omega) (by rw [c16]; exact kn9) (by omega) (by omega), ?_⟩
            have e3 : B (B 0 16) u = B 9 u := by rw [c16]
            refine ⟨⟨by omega, ⟨by omega, by omega⟩, ⟨by omega, by omega⟩, fun _ => by omega⟩, ?_⟩
            refine ⟨(show r64 (B (B 0 15) u * Int.tdiv L (B (B 0 16) u)) by rw [c15, c16, d1]; exact ⟨by omega, by omega⟩), ?_⟩
            refine ⟨rfl, ?_⟩
            rw [c15, c16, d1]
            refine (common_ct (an_sh wM) B (a := B 8 u * mm) (b := G) (by omega) G0 (by omega) (by omega)).imp ?_
            rintro r rfl
            exact Or.inr (Or.inr (⟨rfl, rfl⟩))
    · have hz : u < A 0 12 → B 11 u = 0 := fun h => Classical.byContradiction (fun h2 => hb ⟨h, h2⟩)
      refine wq_ok srt_Mgroup (fr := []) (cuts := [265, 284, 317]) (J := fun pc st => (pc = 317 ∧ ((B 0 12) ≤ u) ∧ st = ([(2, 0), w1, w2, (1, L), (9, 0), (1, G), (9, 0), (0, 0), w8, w9, w10], [], B)) ∨ (pc = 265 ∧ (u < (B 0 12)) ∧ ((B (B 0 18) u) = 0) ∧ st = ([(2, 0), w1, w2, (1, L), (9, 0), (1, G), (9, 0), (0, u + 1), w8, w9, w10], [], B)) ∨ (pc = 284 ∧ (u < (B 0 12)) ∧ (¬ (B (B 0 18) u) = 0) ∧ st = ([(2, 0), w1, w2, (1, L), (9, 0), (1, G), (9, 0), (0, u), w8, w9, w10], [], B))) ?_ 16 265 _ ?_
      · rintro pc st (⟨rfl, h0, rfl⟩ | ⟨rfl, h0, h1, rfl⟩ | ⟨rfl, h0, h1, rfl⟩)
        · exact hend (by omega)
        · rw [c18] at h1
          refine ih (u + 1) G (by omega) (by omega) (by omega) G0 G1 (fun i m i0 i1 i2 g1 g2 => ?_)
          by_cases e : i = u
          · subst e; omega
          · exact hG i m i0 (by omega) i2 g1 g2
        · rw [c18] at h1
          exact absurd (hz (by omega)) h1
      · refine ⟨oM_0 (by omega) km0 12 rfl, ?_⟩
        refine ⟨fun h0 => ?_, fun h0 => ?_⟩
        · exact Or.inl (⟨rfl, h0, rfl⟩)
        · refine ⟨oM_0 (by omega) km0 18 rfl, ?_⟩
          refine ⟨aM_11 (r := B 0 18) (by rw [c18]; omega) (by rw [c18]; exact kn11) (by omega) (by omega), ?_⟩
          have e1 : B (B 0 18) u = B 11 u := by rw [c18]
          refine ⟨fun h1 => ?_, fun h1 => ?_⟩
          · refine ⟨⟨by omega, by omega⟩, ?_⟩
            exact Or.inr (Or.inl (⟨rfl, h0, h1, rfl⟩))
          · exact Or.inr (Or.inr (⟨rfl, h0, h1, rfl⟩))
theorem gp_212 {A B : pm_A} {D : Int} {w1 w6 w7 w8 w9 w10 : pm_V} {f : Int} (p6 : A 0 12 ≤ 6) (hF : gpF A B) (hk : kpz A B) (hI : gpI (A 0 12) B D) : ∀ (m : Nat) (u L : Int), (6 - u).toNat < m → 0 ≤ u → u ≤ 6 → 1 ≤ L → L ∣ D → (∀ i : Int, 0 ≤ i → i < u → i ≤ 5 → B 11 i = 1 → B 9 i ∣ L) → Tm pmt (an_sh wM) o_X10_group 212 ([(2, 0), w1, (0, f), (1, L), (9, 0), (0, u), w6, w7, w8, w9, w10], [], B) (gp_post A) := by
  have e12 : B 0 12 = A 0 12 := hF.2 0 12 (by omega) (by omega) (by omega)
  have c16 := pM_16 hF.1
  have c18 := pM_18 hF.1
  have hP := p9_le (cn_b (B 9)).2
  intro m
  induction m with
  | zero => intro u L h; omega
  | succ m ih =>
    intro u L hm u0 u1 L1 hLD hG
    have L2 := Int.le_of_dvd (by have := hI.1; omega) hLD
    have D1 := hI.1
    have hend : A 0 12 ≤ u → Tm pmt (an_sh wM) o_X10_group 265 ([(2, 0), w1, (0, f), (1, L), (9, 0), (1, 0), (9, 0), (0, 0), w8, w9, w10], [], B) (gp_post A) := fun hu => gp_265 ⟨L1, by omega⟩ p6 hF hk (fun i i0 i1 => by
      rcases hI.2 i i0 i1 with h | ⟨h1, h2, c, c1, c2, c3, c4, c5⟩
      · exact Or.inl h
      · obtain ⟨mm, hm⟩ := hG i i0 (by omega) i1 h1
        obtain ⟨e, he⟩ := hLD
        have hce : c = mm * e := Int.eq_of_mul_eq_mul_left (show B 9 i ≠ 0 by omega) (by rw [← c2, he, hm, Int.mul_assoc])
        have m1 : 1 ≤ mm := by
          refine Classical.byContradiction (fun h => ?_)
          have := Int.mul_le_mul_of_nonneg_left (show mm ≤ 0 by omega) (show 0 ≤ B 9 i by omega)
          omega
        have e1 : 1 ≤ e := by
          refine Classical.byContradiction (fun h => ?_)
          have := Int.mul_le_mul_of_nonneg_left (show e ≤ 0 by omega) (show 0 ≤ mm by omega)
          omega
        have hle : mm ≤ c := by
          have := Int.mul_le_mul_of_nonneg_left e1 (show 0 ≤ mm by omega)
          omega
        have := Int.mul_le_mul_of_nonneg_left hle (show 0 ≤ B 8 i by omega)
        exact Or.inr ⟨h1, h2, mm, hm, m1, by omega, c4, c5⟩) _ 0 0 (Nat.lt_succ_self _) (by omega) (by omega) (by omega) (by omega) (fun i m i0 i1 => by omega)
    by_cases hb : u < A 0 12 ∧ ¬ B 11 u = 0
    · have b11 := eM_11 hF.1 (r := 11) (by omega) kn11 u0 (show u < 6 by omega)
      have hbd := hI.bd u0 (by omega) (show B 11 u = 1 by omega)
      have hdv : B 9 u ∣ D := by
        rcases hI.2 u u0 (by omega) with ⟨h1, h2⟩ | ⟨h1, h2, c, c1, c2, c3, c4, c5⟩
        · omega
        · exact ⟨c, c2⟩
      have hl := lcm1 L1 hbd.2.1 hLD hdv
      have hg1 := gcd_pos1 (b := B 9 u) L1
      have hle := Int.le_of_dvd (by omega) hl.1
      have hg2 := Int.le_of_dvd (by omega) (Int.gcd_dvd_left L (B 9 u))
      refine wq_ok srt_Mgroup (fr := []) (cuts := [212, 243, 265]) (J := fun pc st => (pc = 265 ∧ ((B 0 12) ≤ u) ∧ st = ([(2, 0), w1, (0, f), (1, L), (9, 0), (1, 0), (9, 0), (0, 0), w8, w9, w10], [], B)) ∨ (pc = 212 ∧ (u < (B 0 12)) ∧ ((B (B 0 18) u) = 0) ∧ st = ([(2, 0), w1, (0, f), (1, L), (9, 0), (0, u + 1), w6, w7, w8, w9, w10], [], B)) ∨ (pc = 243 ∧ st = ([(2, 0), w1, (0, f), (1, L), (9, 0), (0, u), w6, w7, w8, w9, w10], [(1, (Int.gcd L (B 9 u) : Int)), (1, L)], B))) ?_ 20 212 _ ?_
      · rintro pc st (⟨rfl, h0, rfl⟩ | ⟨rfl, h0, h1, rfl⟩ | ⟨rfl, rfl⟩)
        · exact hend (by omega)
        · rw [c18] at h1
          exact absurd h1 hb.2
        · refine wq_ok srt_Mgroup (fr := []) (cuts := [212]) (J := fun pc st => (pc = 212 ∧ st = ([(2, 0), w1, (0, f), (1, (Int.tdiv L ((Int.gcd L (B 9 u) : Int))) * (B (B 0 16) u)), (9, 0), (0, u + 1), w6, w7, w8, w9, w10], [], B))) ?_ 14 243 _ ?_
          · rintro pc st (⟨rfl, rfl⟩)
            rw [c16]
            refine ih (u + 1) _ (by omega) (by omega) (by omega) hl.2.2.2 hl.1 (fun i i0 i1 i2 h1 => ?_)
            by_cases e : i = u
            · subst e; exact hl.2.2.1
            · exact Int.dvd_trans (hG i i0 (by omega) i2 h1) hl.2.1
          · refine ⟨⟨by omega, ⟨by omega, by omega⟩, ⟨by omega, by omega⟩, fun _ => by omega⟩, ?_⟩
            refine ⟨oM_0 (by omega) km0 16 rfl, ?_⟩
            refine ⟨aM_9 (r := B 0 16) (by rw [c16]; omega) (by rw [c16]; exact kn9) (by omega) (by omega), ?_⟩
            have e1 : B (B 0 16) u = B 9 u := by rw [c16]
            refine ⟨(show r64 (Int.tdiv L (Int.gcd L (B 9 u) : Int) * B (B 0 16) u) by rw [c16]; exact ⟨by omega, by omega⟩), ?_⟩
            refine ⟨⟨by omega, by omega⟩, ?_⟩
            exact ⟨rfl, rfl⟩
      · refine ⟨oM_0 (by omega) km0 12 rfl, ?_⟩
        refine ⟨fun h0 => ?_, fun h0 => ?_⟩
        · exact Or.inl (⟨rfl, h0, rfl⟩)
        · refine ⟨oM_0 (by omega) km0 18 rfl, ?_⟩
          refine ⟨aM_11 (r := B 0 18) (by rw [c18]; omega) (by rw [c18]; exact kn11) (by omega) (by omega), ?_⟩
          have e1 : B (B 0 18) u = B 11 u := by rw [c18]
          refine ⟨fun h1 => ?_, fun h1 => ?_⟩
          · refine ⟨⟨by omega, by omega⟩, ?_⟩
            exact Or.inr (Or.inl (⟨rfl, h0, h1, rfl⟩))
          · refine ⟨oM_0 (by omega) km0 16 rfl, ?_⟩
            refine ⟨aM_9 (r := B 0 16) (by rw [c16]; omega) (by rw [c16]; exact kn9) (by omega) (by omega), ?_⟩
            have e2 : B (B 0 16) u = B 9 u := by rw [c16]
            refine ⟨rfl, ?_⟩
            rw [c16]
            refine (common_ct (an_sh wM) B (a := L) (b := B 9 u) (by omega) (by omega) (by omega) (by omega)).imp ?_
            rintro r rfl
            exact Or.inr (Or.inr (⟨rfl, rfl⟩))
    · have hz : u < A 0 12 → B 11 u = 0 := fun h => Classical.byContradiction (fun h2 => hb ⟨h, h2⟩)
      refine wq_ok srt_Mgroup (fr := []) (cuts := [212, 231, 265]) (J := fun pc st => (pc = 265 ∧ ((B 0 12) ≤ u) ∧ st = ([(2, 0), w1, (0, f), (1, L), (9, 0), (1, 0), (9, 0), (0, 0), w8, w9, w10], [], B)) ∨ (pc = 212 ∧ (u < (B 0 12)) ∧ ((B (B 0 18) u) = 0) ∧ st = ([(2, 0), w1, (0, f), (1, L), (9, 0), (0, u + 1), w6, w7, w8, w9, w10], [], B)) ∨ (pc = 231 ∧ (u < (B 0 12)) ∧ (¬ (B (B 0 18) u) = 0) ∧ st = ([(2, 0), w1, (0, f), (1, L), (9, 0), (0, u), w6, w7, w8, w9, w10], [], B))) ?_ 16 212 _ ?_
      · rintro pc st (⟨rfl, h0, rfl⟩ | ⟨rfl, h0, h1, rfl⟩ | ⟨rfl, h0, h1, rfl⟩)
        · exact hend (by omega)
        · rw [c18] at h1
          refine ih (u + 1) L (by omega) (by omega) (by omega) L1 hLD (fun i i0 i1 i2 g1 => ?_)
          by_cases e : i = u
          · subst e; omega
          · exact hG i i0 (by omega) i2 g1
        · rw [c18] at h1
          exact absurd (hz (by omega)) h1
      · refine ⟨oM_0 (by omega) km0 12 rfl, ?_⟩
        refine ⟨fun h0 => ?_, fun h0 => ?_⟩
        · exact Or.inl (⟨rfl, h0, rfl⟩)
        · refine ⟨oM_0 (by omega) km0 18 rfl, ?_⟩
          refine ⟨aM_11 (r := B 0 18) (by rw [c18]; omega) (by rw [c18]; exact kn11) (by omega) (by omega), ?_⟩
          have e1 : B (B 0 18) u = B 11 u := by rw [c18]
          refine ⟨fun h1 => ?_, fun h1 => ?_⟩
          · refine ⟨⟨by omega, by omega⟩, ?_⟩
            exact Or.inr (Or.inl (⟨rfl, h0, h1, rfl⟩))
          · exact Or.inr (Or.inr (⟨rfl, h0, h1, rfl⟩))
theorem gp_156 {A B : pm_A} {r f i j t t' a b : Int} {w9 w10 : pm_V} (p6 : A 0 12 ≤ 6) (hG : GI A B) (i0 : 0 ≤ i) (i1 : i ≤ 5) (hi : B 11 i = 1) (j0 : 0 ≤ j) (j1 : j < A 0 12) (hj : B 9 j = 0) (t1 : 1 ≤ t ∧ t ≤ 9) (t2 : 1 ≤ t' ∧ t' ≤ 9) (ha : a = B 8 i * t) (hb : b = B 9 i * t') (H : ∀ C w5 w6 w7 w8 w9 w10, GI A C → cn (C 9) = cn (B 9) + 1 → Tm pmt (an_sh wM) o_X10_group 192 ([(2, 0), (0, r), (0, 1), (0, i), (0, j), w5, w6, w7, w8, w9, w10], [], C) (gp_post A)) : Tm pmt (an_sh wM) o_X10_group 156 ([(2, 0), (0, r), (0, f), (0, i), (0, j), (1, a), (9, 0), (1, b), (9, 0), w9, w10], [(1, (Int.gcd a b : Int))], B) (gp_post A) := by
  obtain ⟨hF, ⟨D, hI⟩, hk⟩ := hG
  have hbd := hI.bd i0 i1 hi
  have ma := mulb hbd.1.1 hbd.1.2 t1.1 t1.2
  have mb := mulb hbd.2.1 hbd.2.2 t2.1 t2.2
  rw [← ha] at ma
  rw [← hb] at mb
  obtain ⟨u, v, hu, hv, e1, e2, u1, v1, u2, v2⟩ := red1 ma.1 mb.1
  have g1 := gcd_pos1 (b := b) ma.1
  have g2 := Int.le_of_dvd (by omega) (Int.gcd_dvd_left a b)
  revert hu hv e1 e2 g1 g2
  generalize (Int.gcd a b : Int) = g
  intro hu hv e1 e2 g1 g2
  have c15 := pM_15 hF.1
  have c16 : pm_upd B (B 0 15) j (Int.tdiv a g) 0 16 = 9 := by rw [c15, upd_o (by omega)]; exact pM_16 hF.1
  have c18 : pm_upd (pm_upd B (B 0 15) j (Int.tdiv a g)) (pm_upd B (B 0 15) j (Int.tdiv a g) 0 16) j (Int.tdiv b g) 0 18 = 11 := by rw [c16, c15, upd_o (by omega), upd_o (by omega)]; exact pM_18 hF.1
  refine wq_ok srt_Mgroup (fr := []) (cuts := [192]) (J := fun pc st => (pc = 192 ∧ st = ([(2, 0), (0, r), (0, 1), (0, i), (0, j), (1, a), (9, 0), (1, b), (9, 0), (1, g), (9, 0)], [], pm_upd (pm_upd (pm_upd B (B 0 15) j (Int.tdiv a g)) ((pm_upd B (B 0 15) j (Int.tdiv a g)) 0 16) j (Int.tdiv b g)) ((pm_upd (pm_upd B (B 0 15) j (Int.tdiv a g)) ((pm_upd B (B 0 15) j (Int.tdiv a g)) 0 16) j (Int.tdiv b g)) 0 18) j 1))) ?_ 27 156 _ ?_
  · rintro pc st (⟨rfl, rfl⟩)
    rw [c18, c16, c15, hu, hv]
    have hFC : gpF A (pm_upd (pm_upd (pm_upd B 8 j u) 9 j v) 11 j 1) := gpF.u11 (gpF.u9 (hF.u8 (by omega) (by omega)) (by omega) (by omega)) (by omega) (by omega)
    have st := hI.step (C := pm_upd (pm_upd (pm_upd B 8 j u) 9 j v) 11 j 1) (t := t) (t' := t') (g := g) (u := u) (v := v) i0 i1 hi j0 j1 p6 hj t1 t2 (by rw [← ha, ← e1]) (by rw [← hb, ← e2]) g1 u1 v1 (fun k hk => by rw [upd_o (by omega), upd_o (by omega), upd_o (by omega)]) (fun k hk => by rw [upd_o (by omega), upd_o (by omega), upd_o (by omega)]) (fun k hk => by rw [upd_o (by omega), upd_o (by omega), upd_o (by omega)]) (by rw [upd_o (by omega), upd_o (by omega), upd_at]) (by rw [upd_o (by omega), upd_at]) upd_at
    refine H _ _ _ _ _ _ _ ⟨hFC, ⟨_, st.1⟩, fun k hk1 => ?_⟩ st.2
    by_cases e : k = j
    · rw [e, upd_o (by omega), upd_at]; omega
    · rw [upd_o (by omega), upd_o (by omega), upd_o (by omega)]; exact hk k hk1
  · refine ⟨oM_0 (by omega) km0 15 rfl, ?_⟩
    refine ⟨⟨by omega, ⟨by omega, by omega⟩, ⟨by omega, by omega⟩, fun _ => by omega⟩, ?_⟩
    refine ⟨tM_8 (r := B 0 15) (by rw [c15]; omega) (by rw [c15]; exact kn8) (by omega) (by omega) rfl, ?_⟩
    refine ⟨oM_0 (by omega) km0 16 rfl, ?_⟩
    refine ⟨⟨by omega, ⟨by omega, by omega⟩, ⟨by omega, by omega⟩, fun _ => by omega⟩, ?_⟩
    refine ⟨tM_9 (r := (pm_upd B (B 0 15) j (Int.tdiv a g)) 0 16) (by rw [c16]; omega) (by rw [c16]; exact kn9) (by omega) (by omega) rfl, ?_⟩
    refine ⟨oM_0 (by omega) km0 18 rfl, ?_⟩
    refine ⟨tM_11 (r := (pm_upd (pm_upd B (B 0 15) j (Int.tdiv a g)) ((pm_upd B (B 0 15) j (Int.tdiv a g)) 0 16) j (Int.tdiv b g)) 0 18) (by rw [c18]; omega) (by rw [c18]; exact kn11) (by omega) (by omega) rfl, ?_⟩
    exact ⟨rfl, rfl⟩
theorem gp_145 {A B : pm_A} {r f i j t t' a low : Int} {w7 w8 w9 w10 : pm_V} (p6 : A 0 12 ≤ 6) (hG : GI A B) (i0 : 0 ≤ i) (i1 : i ≤ 5) (hi : B 11 i = 1) (j0 : 0 ≤ j) (j1 : j < A 0 12) (hj : B 9 j = 0) (t1 : 1 ≤ t ∧ t ≤ 9) (t2 : 1 ≤ t' ∧ t' ≤ 9) (ha : a = B 8 i * t) (hl : low = B 9 i) (H : ∀ C w5 w6 w7 w8 w9 w10, GI A C → cn (C 9) = cn (B 9) + 1 → Tm pmt (an_sh wM) o_X10_group 192 ([(2, 0), (0, r), (0, 1), (0, i), (0, j), w5, w6, w7, w8, w9, w10], [], C) (gp_post A)) : Tm pmt (an_sh wM) o_X10_group 145 ([(2, 0), (0, r), (0, f), (0, i), (0, j), (1, a), (9, 0), w7, w8, w9, w10], [(0, t'), (1, low)], B) (gp_post A) := by
  obtain ⟨D, hI⟩ := hG.2.1
  have hbd := hI.bd i0 i1 hi
  have ma := mulb hbd.1.1 hbd.1.2 t1.1 t1.2
  have mb := mulb hbd.2.1 hbd.2.2 t2.1 t2.2
  rw [← ha] at ma
  rw [← hl] at mb
  refine wq_ok srt_Mgroup (fr := []) (cuts := [156]) (J := fun pc st => (pc = 156 ∧ st = ([(2, 0), (0, r), (0, f), (0, i), (0, j), (1, a), (9, 0), (1, low * t'), (9, 0), w9, w10], [(1, (Int.gcd a (low * t') : Int))], B))) ?_ 10 145 _ ?_
  · rintro pc st (⟨rfl, rfl⟩)
    exact gp_156 p6 hG i0 i1 hi j0 j1 hj t1 t2 ha (by rw [hl]) H
  · refine ⟨⟨by omega, by omega⟩, ?_⟩
    refine ⟨rfl, ?_⟩
    refine (common_ct (an_sh wM) B (a := a) (b := low * t') (by omega) (by omega) (by omega) (by omega)).imp ?_
    rintro r rfl
    exact ⟨rfl, rfl⟩
def tz (A : pm_A) : Prop := (∀ j : Int, 0 ≤ j → j < 72 → -9 ≤ A 7 j ∧ A 7 j ≤ 9) ∧ ∀ i j : Int, 0 ≤ i → i < A 0 12 → 0 ≤ j → j < A 0 12 → A 7 (6 * i + j) = 0 → A 7 (6 * j + i) = 0
theorem gp_120 {A B : pm_A} {r f i j t up : Int} {w5 w6 w7 w8 w9 w10 : pm_V} (hT : tz A) (p6 : A 0 12 ≤ 6) (hG : GI A B) (i0 : 0 ≤ i) (i1 : i < A 0 12) (hi : B 11 i = 1) (j0 : 0 ≤ j) (j1 : j < A 0 12) (hj : B 9 j = 0) (hne : ¬ A 7 (6 * j + i) = 0) (t1 : 1 ≤ t ∧ t ≤ 9) (ha : up = B 8 i) (H : ∀ C w5 w6 w7 w8 w9 w10, GI A C → cn (C 9) = cn (B 9) + 1 → Tm pmt (an_sh wM) o_X10_group 192 ([(2, 0), (0, r), (0, 1), (0, i), (0, j), w5, w6, w7, w8, w9, w10], [], C) (gp_post A)) : Tm pmt (an_sh wM) o_X10_group 120 ([(2, 0), (0, r), (0, f), (0, i), (0, j), w5, w6, w7, w8, w9, w10], [(0, t), (1, up)], B) (gp_post A) := by
  obtain ⟨D, hI⟩ := hG.2.1
  have hF := hG.1
  have hbd := hI.bd i0 (by omega) hi
  have ma := mulb hbd.1.1 hbd.1.2 t1.1 t1.2
  rw [← ha] at ma
  have c14 := pM_14 hF.1
  have c16 := pM_16 hF.1
  have h9 := hT.1 (6 * j + i) (by omega) (by omega)
  have e7 : B 7 (6 * j + i) = A 7 (6 * j + i) := hF.2 7 _ (by omega) (by omega) (by omega)
  refine wq_ok srt_Mgroup (fr := []) (cuts := [145]) (J := fun pc st => (pc = 145 ∧ ∃ t' : Int, (1 ≤ t' ∧ t' ≤ 9) ∧ st = ([(2, 0), (0, r), (0, f), (0, i), (0, j), (1, up * t), (9, 0), w7, w8, w9, w10], [(0, t'), (1, B (B 0 16) i)], B))) ?_ 20 120 _ ?_
  · rintro pc st (⟨rfl, t', t2, rfl⟩)
    exact gp_145 p6 hG i0 (by omega) hi j0 j1 hj t1 t2 (by rw [ha]) (by rw [c16]) H
  · refine ⟨⟨by omega, by omega⟩, ?_⟩
    refine ⟨oM_0 (by omega) km0 16 rfl, ?_⟩
    refine ⟨aM_9 (r := B 0 16) (by rw [c16]; omega) (by rw [c16]; exact kn9) (by omega) (by omega), ?_⟩
    have e1 : B (B 0 16) i = B 9 i := by rw [c16]
    refine ⟨oM_0 (by omega) km0 14 rfl, ?_⟩
    refine ⟨⟨by omega, by omega⟩, ?_⟩
    refine ⟨⟨by omega, by omega⟩, ?_⟩
    refine ⟨aM_7 (r := B 0 14) (by rw [c14]; omega) (by rw [c14]; exact kn7) (by omega) (by omega), ?_⟩
    have e2 : B (B 0 14) ((6 * j) + i) = B 7 ((6 * j) + i) := by rw [c14]
    refine ⟨rfl, ?_⟩
    rw [c14, e7]
    refine (without_ex (a := A 7 (6 * j + i)) (by omega) (by omega)).imp ?_
    rintro ⟨r1, C⟩ ⟨q1, q2⟩
    simp only at q1 q2
    subst q1
    subst q2
    exact ⟨rfl, _, ⟨by split <;> omega, by split <;> omega⟩, rfl⟩
theorem gp_51 {A : pm_A} {r i n0 : Int} (hT : tz A) (p6 : A 0 12 ≤ 6) (i0 : 0 ≤ i) (i1 : i < A 0 12) (H : ∀ f C w4 w5 w6 w7 w8 w9 w10, GI A C → n0 ≤ cn (C 9) → (¬ f = 0 → n0 < cn (C 9)) → Tm pmt (an_sh wM) o_X10_group 198 ([(2, 0), (0, r), (0, f), (0, i), w4, w5, w6, w7, w8, w9, w10], [], C) (gp_post A)) : ∀ (m : Nat) (j f : Int) (w5 w6 w7 w8 w9 w10 : pm_V) (B : pm_A), (6 - j).toNat < m → 0 ≤ j → j ≤ 6 → GI A B → n0 ≤ cn (B 9) → (¬ f = 0 → n0 < cn (B 9)) → Tm pmt (an_sh wM) o_X10_group 51 ([(2, 0), (0, r), (0, f), (0, i), (0, j), w5, w6, w7, w8, w9, w10], [], B) (gp_post A) := by
  intro m
  induction m with
  | zero => intro j f w5 w6 w7 w8 w9 w10 B h; omega
  | succ m ih =>
    intro j f w5 w6 w7 w8 w9 w10 B hm j0 j1 hG hn hf
    have hF := hG.1
    have e12 : B 0 12 = A 0 12 := hF.2 0 12 (by omega) (by omega) (by omega)
    have c14 := pM_14 hF.1
    have c15 := pM_15 hF.1
    have c16 := pM_16 hF.1
    have c18 := pM_18 hF.1
    have b11 := eM_11 hF.1 (r := 11) (by omega) kn11 i0 (show i < 6 by omega)
    have e7 : ∀ x, B 7 x = A 7 x := fun x => hF.2 7 _ (by omega) (by omega) (by omega)
    have h192 : j < A 0 12 → ∀ f C w5 w6 w7 w8 w9 w10, GI A C → n0 ≤ cn (C 9) → (¬ f = 0 → n0 < cn (C 9)) → Tm pmt (an_sh wM) o_X10_group 192 ([(2, 0), (0, r), (0, f), (0, i), (0, j), w5, w6, w7, w8, w9, w10], [], C) (gp_post A) := fun hj f C w5 w6 w7 w8 w9 w10 hC hC1 hC2 => by
      refine wq_ok srt_Mgroup (fr := []) (cuts := [51]) (J := fun pc st => (pc = 51 ∧ st = ([(2, 0), (0, r), (0, f), (0, i), (0, j + 1), w5, w6, w7, w8, w9, w10], [], C))) ?_ 7 192 _ ?_
      · rintro pc st (⟨rfl, rfl⟩)
        exact ih (j + 1) f _ _ _ _ _ _ C (by omega) (by omega) (by omega) hC hC1 hC2
      · refine ⟨⟨by omega, by omega⟩, ?_⟩
        exact ⟨rfl, rfl⟩
    refine wq_ok srt_Mgroup (fr := []) (cuts := [120, 192, 198]) (J := fun pc st => (pc = 198 ∧ ((B 0 12) ≤ j) ∧ st = ([(2, 0), (0, r), (0, f), (0, i), (0, j), w5, w6, w7, w8, w9, w10], [], B)) ∨ (pc = 192 ∧ (j < (B 0 12)) ∧ ((B (B 0 18) i) = 0) ∧ st = ([(2, 0), (0, r), (0, f), (0, i), (0, j), w5, w6, w7, w8, w9, w10], [], B)) ∨ (pc = 192 ∧ (j < (B 0 12)) ∧ (¬ (B (B 0 18) i) = 0) ∧ (0 < (B (B 0 16) j)) ∧ st = ([(2, 0), (0, r), (0, f), (0, i), (0, j), w5, w6, w7, w8, w9, w10], [], B)) ∨ (pc = 120 ∧ j < A 0 12 ∧ B 11 i = 1 ∧ B 9 j = 0 ∧ ¬ A 7 (6 * j + i) = 0 ∧ ∃ t : Int, (1 ≤ t ∧ t ≤ 9) ∧ st = ([(2, 0), (0, r), (0, f), (0, i), (0, j), w5, w6, w7, w8, w9, w10], [(0, t), (1, B (B 0 15) i)], B)) ∨ (pc = 192 ∧ (j < (B 0 12)) ∧ (¬ (B (B 0 18) i) = 0) ∧ ((B (B 0 16) j) = 0) ∧ ((B (B 0 14) ((6 * i) + j)) = 0) ∧ st = ([(2, 0), (0, r), (0, f), (0, i), (0, j), w5, w6, w7, w8, w9, w10], [], B)) ∨ (pc = 192 ∧ (j < (B 0 12)) ∧ (¬ (B (B 0 18) i) = 0) ∧ ((B (B 0 16) j) < 0) ∧ st = ([(2, 0), (0, r), (0, f), (0, i), (0, j), w5, w6, w7, w8, w9, w10], [], B))) ?_ 42 51 _ ?_
    · rintro pc st (⟨rfl, h0, rfl⟩ | ⟨rfl, h0, h1, rfl⟩ | ⟨rfl, h0, h1, h2, rfl⟩ | ⟨rfl, g1, g2, g3, g4, t, t1, rfl⟩ | ⟨rfl, h0, h1, h2, h3, rfl⟩ | ⟨rfl, h0, h1, h2, rfl⟩)
      · exact H f B _ _ _ _ _ _ _ hG hn hf
      · exact h192 (by omega) f B _ _ _ _ _ _ hG hn hf
      · exact h192 (by omega) f B _ _ _ _ _ _ hG hn hf
      · exact gp_120 hT p6 hG i0 i1 g2 j0 g1 g3 g4 t1 (by rw [c15]) (fun C w5 w6 w7 w8 w9 w10 q1 q2 => h192 g1 1 C _ _ _ _ _ _ q1 (by omega) (fun _ => by omega))
      · exact h192 (by omega) f B _ _ _ _ _ _ hG hn hf
      · exact h192 (by omega) f B _ _ _ _ _ _ hG hn hf
    · refine ⟨oM_0 (by omega) km0 12 rfl, ?_⟩
      refine ⟨fun h0 => ?_, fun h0 => ?_⟩
      · exact Or.inl (⟨rfl, h0, rfl⟩)
      · refine ⟨oM_0 (by omega) km0 18 rfl, ?_⟩
        refine ⟨aM_11 (r := B 0 18) (by rw [c18]; omega) (by rw [c18]; exact kn11) (by omega) (by omega), ?_⟩
        have e1 : B (B 0 18) i = B 11 i := by rw [c18]
        refine ⟨fun h1 => ?_, fun h1 => ?_⟩
        · exact Or.inr (Or.inl (⟨rfl, h0, h1, rfl⟩))
        · refine ⟨oM_0 (by omega) km0 16 rfl, ?_⟩
          refine ⟨aM_9 (r := B 0 16) (by rw [c16]; omega) (by rw [c16]; exact kn9) (by omega) (by omega), ?_⟩
          have e2 : B (B 0 16) j = B 9 j := by rw [c16]
          refine ⟨fun h2 => ?_, fun h2 => ?_, fun h2 => ?_⟩
          · refine ⟨fun _ => ?_, fun hh => absurd hh (by decide)⟩
            exact Or.inr (Or.inr (Or.inl (⟨rfl, h0, h1, h2, rfl⟩)))
          · refine ⟨fun hh => absurd hh (by decide), fun _ => ?_⟩
            refine ⟨oM_0 (by omega) km0 14 rfl, ?_⟩
            refine ⟨⟨by omega, by omega⟩, ?_⟩
            refine ⟨⟨by omega, by omega⟩, ?_⟩
            refine ⟨aM_7 (r := B 0 14) (by rw [c14]; omega) (by rw [c14]; exact kn7) (by omega) (by omega), ?_⟩
            have e3 : B (B 0 14) ((6 * i) + j) = B 7 ((6 * i) + j) := by rw [c14]
            refine ⟨fun h3 => ?_, fun h3 => ?_⟩
            · refine ⟨oM_0 (by omega) km0 15 rfl, ?_⟩
              refine ⟨aM_8 (r := B 0 15) (by rw [c15]; omega) (by rw [c15]; exact kn8) (by omega) (by omega), ?_⟩
              have e4 : B (B 0 15) i = B 8 i := by rw [c15]
              refine ⟨oM_0 (by omega) km0 14 rfl, ?_⟩
              refine ⟨⟨by omega, by omega⟩, ?_⟩
              refine ⟨⟨by omega, by omega⟩, ?_⟩
              refine ⟨aM_7 (r := B 0 14) (by rw [c14]; omega) (by rw [c14]; exact kn7) (by omega) (by omega), ?_⟩
              have e5 : B (B 0 14) ((6 * i) + j) = B 7 ((6 * i) + j) := by rw [c14]
              refine ⟨rfl, ?_⟩
              rw [c14, e7] at h3
              rw [c16] at h2
              rw [c18] at h1
              have h9 := hT.1 (6 * i + j) (by omega) (by omega)
              have hn7 : ¬ A 7 (6 * j + i) = 0 := fun e => h3 (hT.2 j i j0 (by omega) i0 i1 e)
              rw [c14, e7]
              refine (without_ex (a := A 7 (6 * i + j)) (by omega) (by omega)).imp ?_
              rintro ⟨r1, C⟩ ⟨q1, q2⟩
              simp only at q1 q2
              subst q1
              subst q2
              exact Or.inr (Or.inr (Or.inr (Or.inl (⟨rfl, by omega, by omega, h2, hn7, _, ⟨by split <;> omega, by split <;> omega⟩, rfl⟩))))
            · exact Or.inr (Or.inr (Or.inr (Or.inr (Or.inl (⟨rfl, h0, h1, h2, h3, rfl⟩)))))
          · refine ⟨fun _ => ?_, fun hh => absurd hh (by decide)⟩
            exact Or.inr (Or.inr (Or.inr (Or.inr (Or.inr (⟨rfl, h0, h1, h2, rfl⟩)))))
theorem gp_40 {A : pm_A} {r n0 : Int} (hT : tz A) (p6 : A 0 12 ≤ 6) (H : ∀ f C w3 w4 w5 w6 w7 w8 w9 w10, GI A C → n0 ≤ cn (C 9) → (¬ f = 0 → n0 < cn (C 9)) → Tm pmt (an_sh wM) o_X10_group 32 ([(2, 0), (0, r), (0, f), w3, w4, w5, w6, w7, w8, w9, w10], [], C) (gp_post A)) : ∀ (m : Nat) (i f : Int) (w4 w5 w6 w7 w8 w9 w10 : pm_V) (B : pm_A), (6 - i).toNat < m → 0 ≤ i → i ≤ 6 → GI A B → n0 ≤ cn (B 9) → (¬ f = 0 → n0 < cn (B 9)) → Tm pmt (an_sh wM) o_X10_group 40 ([(2, 0), (0, r), (0, f), (0, i), w4, w5, w6, w7, w8, w9, w10], [], B) (gp_post A) := by
  intro m
  induction m with
  | zero => intro i f w4 w5 w6 w7 w8 w9 w10 B h; omega
  | succ m ih =>
    intro i f w4 w5 w6 w7 w8 w9 w10 B hm i0 i1 hG hn hf
    have hF := hG.1
    have e12 : B 0 12 = A 0 12 := hF.2 0 12 (by omega) (by omega) (by omega)
    have h198 : i < A 0 12 → ∀ f C w4 w5 w6 w7 w8 w9 w10, GI A C → n0 ≤ cn (C 9) → (¬ f = 0 → n0 < cn (C 9)) → Tm pmt (an_sh wM) o_X10_group 198 ([(2, 0), (0, r), (0, f), (0, i), w4, w5, w6, w7, w8, w9, w10], [], C) (gp_post A) := fun hi f C w4 w5 w6 w7 w8 w9 w10 hC hC1 hC2 => by
      refine wq_ok srt_Mgroup (fr := []) (cuts := [40]) (J := fun pc st => (pc = 40 ∧ st = ([(2, 0), (0, r), (0, f), (0, i + 1), w4, w5, w6, w7, w8, w9, w10], [], C))) ?_ 7 198 _ ?_
      · rintro pc st (⟨rfl, rfl⟩)
        exact ih (i + 1) f _ _ _ _ _ _ _ C (by omega) (by omega) (by omega) hC hC1 hC2
      · refine ⟨⟨by omega, by omega⟩, ?_⟩
        exact ⟨rfl, rfl⟩
    refine wq_ok srt_Mgroup (fr := []) (cuts := [32, 51]) (J := fun pc st => (pc = 32 ∧ ((B 0 12) ≤ i) ∧ st = ([(2, 0), (0, r), (0, f), (0, i), w4, w5, w6, w7, w8, w9, w10], [], B)) ∨ (pc = 51 ∧ (i < (B 0 12)) ∧ st = ([(2, 0), (0, r), (0, f), (0, i), (0, 0), w5, w6, w7, w8, w9, w10], [], B))) ?_ 11 40 _ ?_
    · rintro pc st (⟨rfl, h0, rfl⟩ | ⟨rfl, h0, rfl⟩)
      · exact H f B _ _ _ _ _ _ _ _ hG hn hf
      · exact gp_51 hT p6 i0 (by omega) (h198 (by omega)) _ 0 f _ _ _ _ _ _ B (Nat.lt_succ_self _) (by omega) (by omega) hG hn hf
    · refine ⟨oM_0 (by omega) km0 12 rfl, ?_⟩
      refine ⟨fun h0 => ?_, fun h0 => ?_⟩
      · exact Or.inl (⟨rfl, h0, rfl⟩)
      · exact Or.inr (⟨rfl, h0, rfl⟩)
theorem gp_32 {A : pm_A} {r : Int} (hT : tz A) (p6 : A 0 12 ≤ 6) : ∀ (m : Nat) (f n0 : Int) (w3 w4 w5 w6 w7 w8 w9 w10 : pm_V) (B : pm_A), (6 - n0).toNat < m → GI A B → n0 ≤ 6 → n0 ≤ cn (B 9) → (¬ f = 0 → n0 < cn (B 9)) → Tm pmt (an_sh wM) o_X10_group 32 ([(2, 0), (0, r), (0, f), w3, w4, w5, w6, w7, w8, w9, w10], [], B) (gp_post A) := by
  intro m
  induction m with
  | zero => intro f n0 w3 w4 w5 w6 w7 w8 w9 w10 B h; omega
  | succ m ih =>
    intro f n0 w3 w4 w5 w6 w7 w8 w9 w10 B hm hG hn hn1 hf
    have hb := cn_b (B 9)
    refine wq_ok srt_Mgroup (fr := []) (cuts := [40, 212]) (J := fun pc st => (pc = 212 ∧ (f = 0) ∧ st = ([(2, 0), (0, r), (0, f), (1, 1), (9, 0), (0, 0), w6, w7, w8, w9, w10], [], B)) ∨ (pc = 40 ∧ (¬ f = 0) ∧ st = ([(2, 0), (0, r), (0, 0), (0, 0), w4, w5, w6, w7, w8, w9, w10], [], B))) ?_ 11 32 _ ?_
    · rintro pc st (⟨rfl, h0, rfl⟩ | ⟨rfl, h0, rfl⟩)
      · obtain ⟨hF, ⟨D, hI⟩, hk⟩ := hG
        exact gp_212 p6 hF hk hI _ 0 1 (Nat.lt_succ_self _) (by omega) (by omega) (by omega) (Int.one_dvd D) (fun i i0 i1 => by omega)
      · have hc := hf h0
        exact gp_40 (n0 := cn (B 9)) hT p6 (fun f C w3 w4 w5 w6 w7 w8 w9 w10 q1 q2 q3 => ih f (cn (B 9)) _ _ _ _ _ _ _ _ C (by omega) q1 (by omega) q2 q3) _ 0 0 _ _ _ _ _ _ _ B (Nat.lt_succ_self _) (by omega) (by omega) hG (Int.le_refl _) (fun e => absurd rfl e)
    · refine ⟨fun h0 => ?_, fun h0 => ?_⟩
      · exact Or.inl (⟨rfl, h0, rfl⟩)
      · exact Or.inr (⟨rfl, h0, rfl⟩)
theorem gp_2 {A : pm_A} {r : Int} (hT : tz A) (p6 : A 0 12 ≤ 6) (r0 : 0 ≤ r) (r1 : r < A 0 12) (hZ : ∀ i : Int, 0 ≤ i → i ≤ 5 → Zs (A 0 12) A i) (hr : A 9 r = 1) (hr8 : A 8 r = 1) : ∀ (m : Nat) (i : Int) (w3 w4 w5 w6 w7 w8 w9 w10 : pm_V) (B : pm_A), (6 - i).toNat < m → 0 ≤ i → i ≤ 6 → gH wM B → (∀ q j, q ≠ 11 → B q j = A q j) → (∀ k : Int, 0 ≤ k → k < i → B 11 k = if k = r then 1 else 0) → Tm pmt (an_sh wM) o_X10_group 2 ([(2, 0), (0, r), (0, i), w3, w4, w5, w6, w7, w8, w9, w10], [], B) (gp_post A) := by
  intro m
  induction m with
  | zero => intro i w3 w4 w5 w6 w7 w8 w9 w10 B h; omega
  | succ m ih =>
    intro i w3 w4 w5 w6 w7 w8 w9 w10 B hm i0 i1 hB he hI
    have c18 := pM_18 hB
    have go : i < 6 → ∀ x, x = (if i = r then (1 : Int) else 0) → Tm pmt (an_sh wM) o_X10_group 2 ([(2, 0), (0, r), (0, i + 1), w3, w4, w5, w6, w7, w8, w9, w10], [], pm_upd B 11 i x) (gp_post A) := fun hi x hx => by
      refine ih (i + 1) _ _ _ _ _ _ _ _ _ (by omega) (by omega) (by omega) (uM_11 hB kn11 (by rw [hx]; split <;> omega) (by rw [hx]; split <;> omega)) (fun q j hq => by rw [upd_o (by omega)]; exact he q j hq) (fun k k0 k1 => ?_)
      by_cases e : k = i
      · rw [e, upd_at, hx]
      · rw [upd_o (by omega)]; exact hI k k0 (by omega)
    have hend : 6 ≤ i → GI A B := fun hi => by
      have e9 : B 9 = A 9 := funext fun j => he 9 j (by omega)
      have hq := p9_pos (cn (B 9))
      refine ⟨⟨hB, fun q j h1 h2 h3 => he q j h3⟩, ⟨1, ⟨by omega, hq⟩, fun k k0 k1 => ?_⟩, fun k hk => by rw [e9]; exact hk⟩
      have h11 := hI k k0 (by omega)
      have hz := hZ k k0 k1
      by_cases e : k = r
      · rw [if_pos e] at h11
        refine Or.inr ⟨h11, by omega, 1, by omega, ?_, ?_, ?_, ?_⟩
        · rw [e9, e, hr]; rfl
        · rw [he 8 k (by omega)]
          rw [e, hr8]; omega
        · rw [he 8 k (by omega)]
          rcases hz with hz | hz | hz
          · omega
          · rw [e] at hz; omega
          · exact hz.2.1
        · rw [e9, e, hr]; omega
      · rw [if_neg e] at h11
        refine Or.inl ⟨h11, ?_⟩
        unfold Zs; rw [e9, he 8 k (by omega)]; exact hz
    refine wq_ok srt_Mgroup (fr := []) (cuts := [2, 32]) (J := fun pc st => (pc = 32 ∧ (6 ≤ i) ∧ st = ([(2, 0), (0, r), (0, 1), w3, w4, w5, w6, w7, w8, w9, w10], [], B)) ∨ (pc = 2 ∧ (i < 6) ∧ (¬ i = r) ∧ st = ([(2, 0), (0, r), (0, i + 1), w3, w4, w5, w6, w7, w8, w9, w10], [], pm_upd B (B 0 18) i 0)) ∨ (pc = 2 ∧ (i < 6) ∧ (i = r) ∧ st = ([(2, 0), (0, r), (0, i + 1), w3, w4, w5, w6, w7, w8, w9, w10], [], pm_upd B (B 0 18) i 1))) ?_ 19 2 _ ?_
    · rintro pc st (⟨rfl, h0, rfl⟩ | ⟨rfl, h0, h1, rfl⟩ | ⟨rfl, h0, h1, rfl⟩)
      · have hG := hend (by omega)
        have hb := cn_b (B 9)
        exact gp_32 hT p6 _ 1 (-1) _ _ _ _ _ _ _ _ B (Nat.lt_succ_self _) hG (by omega) (by omega) (fun _ => by omega)
      · rw [c18]
        exact go (by omega) _ (by rw [if_neg h1])
      · rw [c18]
        exact go (by omega) _ (by rw [if_pos h1])
    · refine ⟨fun h0 => ?_, fun h0 => ?_⟩
      · exact Or.inl (⟨rfl, h0, rfl⟩)
      · refine ⟨oM_0 (by omega) km0 18 rfl, ?_⟩
        refine ⟨fun h1 => ?_, fun h1 => ?_⟩
        · refine ⟨tM_11 (r := B 0 18) (by rw [c18]; omega) (by rw [c18]; exact kn11) (by omega) (by omega) rfl, ?_⟩
          refine ⟨⟨by omega, by omega⟩, ?_⟩
          exact Or.inr (Or.inl (⟨rfl, h0, h1, rfl⟩))
        · refine ⟨tM_11 (r := B 0 18) (by rw [c18]; omega) (by rw [c18]; exact kn11) (by omega) (by omega) rfl, ?_⟩
          refine ⟨⟨by omega, by omega⟩, ?_⟩
          exact Or.inr (Or.inr (⟨rfl, h0, h1, rfl⟩))
theorem group_ex {A : pm_A} {r : Int} (hA : gH wM A) (hT : tz A) (p6 : A 0 12 ≤ 6) (r0 : 0 ≤ r) (r1 : r < A 0 12) (hZ : ∀ i : Int, 0 ≤ i → i ≤ 5 → Zs (A 0 12) A i) (hr : A 9 r = 1) (hr8 : A 8 r = 1) : Cl pmt (an_sh wM) 149 [(2, 0), (0, r)] A (gp_post A) := by
  refine Cl.of (Nat.le_of_ble_eq_true rfl) ?_
  refine wq_ok (full := o_X10_group) srt_Mgroup (fr := []) (cuts := [2]) (J := fun pc st => (pc = 2 ∧ st = ([(2, 0), (0, r), (0, 0), (9, 0), (9, 0), (9, 0), (9, 0), (9, 0), (9, 0), (9, 0), (9, 0)], [], A))) ?_ 7 0 _ ?_
  · rintro pc st (⟨rfl, rfl⟩)
    exact gp_2 hT p6 r0 r1 hZ hr hr8 _ 0 _ _ _ _ _ _ _ _ A (Nat.lt_succ_self _) (by omega) (by omega) hA (fun _ _ _ => rfl) (fun k k0 k1 => by omega)
  · exact ⟨rfl, rfl⟩
