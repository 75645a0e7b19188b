/-! other, flips, flip -/
def inI (n : Int) (F : Int → Int) (lo hi c x : Int) : Prop := (x = -1 ∧ ∀ d : Int, lo < d → d < hi → d < c → ¬ (side n F lo d ∧ side n F hi d)) ∨ ((lo < x ∧ x < hi) ∧ side n F lo x ∧ side n F hi x)
def ouI (n : Int) (F : Int → Int) (lo hi c y : Int) : Prop := (y = -1 ∧ ∀ d : Int, 0 ≤ d → (d < lo ∨ hi < d) → d < c → ¬ (side n F lo d ∧ side n F hi d)) ∨ ((0 ≤ y ∧ y < n ∧ (y < lo ∨ hi < y)) ∧ side n F lo y ∧ side n F hi y)
theorem inI.skip {n : Int} {F : Int → Int} {lo hi c x : Int} (h : inI n F lo hi c x) (hc : ¬ (lo < c ∧ c < hi) ∨ ¬ (side n F lo c ∧ side n F hi c)) : inI n F lo hi (c + 1) x := h.imp (fun ⟨h1, h2⟩ => ⟨h1, fun d d0 d1 d2 => by
  by_cases e : d = c
  · subst e; exact hc.resolve_left (fun k => k ⟨d0, d1⟩)
  · exact h2 d d0 d1 (by omega)⟩) id
theorem ouI.skip {n : Int} {F : Int → Int} {lo hi c y : Int} (h : ouI n F lo hi c y) (hc : ¬ (c < lo ∨ hi < c) ∨ ¬ (side n F lo c ∧ side n F hi c)) : ouI n F lo hi (c + 1) y := h.imp (fun ⟨h1, h2⟩ => ⟨h1, fun d d0 d1 d2 => by
  by_cases e : d = c
  · subst e; exact hc.resolve_left (fun k => k d1)
  · exact h2 d d0 d1 (by omega)⟩) id
def ot_post (A : pm_A) (sl f : Int) (r : pm_R) : Prop := r.2 = A ∧ ∃ i o, oth (A 31 sl) (fcs A sl) f i o ∧ r.1 = some (0, cod i o)
theorem srt_Mother : pm_srt o_X10_other = true := by decide +kernel
theorem ot_86 {A : pm_A} {sl f x y c : Int} (hC : cutS (A 31 sl) (fcs A sl)) (f0 : 0 ≤ f) (f1 : f < 100) (hf : fcs A sl f = 1) (hc : A 31 sl ≤ c) (hx : inI (A 31 sl) (fcs A sl) (f / 10) (f % 10) c x) (hy : ouI (A 31 sl) (fcs A sl) (f / 10) (f % 10) c y) : Tm pmt (an_sh wM) o_X10_other 86 ([(2, 0), (0, sl), (0, f / 10), (0, f % 10), (0, x), (0, y), (0, c)], [], A) (ot_post A sl f) := by
  obtain ⟨⟨v1, v2, v3⟩, _⟩ := hC.1.2.2 f f0 f1 hf
  obtain ⟨i, o, ho⟩ := cut_oth hC f0 f1 hf
  have h1 := hC.1.1
  have hxy : oth (A 31 sl) (fcs A sl) f x y := by
    obtain ⟨a1, ⟨a2, a3, a4⟩, a5, a6, a7, a8⟩ := ho
    rcases hx with ⟨_, hx⟩ | ⟨x1, x2, x3⟩
    · exact absurd ⟨a5, a6⟩ (hx i a1.1 a1.2 (by omega))
    · rcases hy with ⟨_, hy⟩ | ⟨y1, y2, y3⟩
      · exact absurd ⟨a7, a8⟩ (hy o a2 a4 (by omega))
      · exact ⟨x1, y1, x2, x3, y2, y3⟩
  have hb := cod_b hC.1 f0 f1 hf hxy
  have hxy2 := hxy
  obtain ⟨x1, ⟨y1, y2, y3⟩, _⟩ := hxy2
  refine wq_ok srt_Mother (fr := []) (cuts := [95]) (J := fun pc st => (pc = 95 ∧ st = ([(2, 0), (0, sl), (0, f / 10), (0, f % 10), (0, x), (0, y), (0, c)], [(0, min x y), (0, 10)], A))) ?_ 8 86 _ ?_
  · rintro pc st (⟨rfl, rfl⟩)
    refine wq_ok srt_Mother (fr := []) (cuts := [103]) (J := fun pc st => (pc = 103 ∧ st = ([(2, 0), (0, sl), (0, f / 10), (0, f % 10), (0, x), (0, y), (0, c)], [(0, max x y), (0, 10 * (min x y))], A))) ?_ 8 95 _ ?_
    · rintro pc st (⟨rfl, rfl⟩)
      refine wq_ok srt_Mother (fr := []) (cuts := []) (J := fun _ _ => False) ?_ 6 103 _ ?_
      · intro pc st h; exact h.elim
      · refine ⟨⟨by omega, by omega⟩, ?_⟩
        exact ⟨rfl, rfl, x, y, hxy, rfl⟩
    · refine ⟨⟨by omega, by omega⟩, ?_⟩
      refine ⟨rfl, ?_⟩
      refine (greater_ex).imp ?_
      rintro r rfl
      exact ⟨rfl, rfl⟩
  · refine ⟨rfl, ?_⟩
    refine (lesser_ex).imp ?_
    rintro r rfl
    exact ⟨rfl, rfl⟩
theorem ot_9 {A : pm_A} {sl f : Int} (hA : gH wM A) (s0 : 0 ≤ sl) (s1 : sl ≤ 1) (hC : cutS (A 31 sl) (fcs A sl)) (f0 : 0 ≤ f) (f1 : f < 100) (hf : fcs A sl f = 1) : ∀ (m : Nat) (x y c : Int), (10 - c).toNat < m → 0 ≤ c → c ≤ 10 → inI (A 31 sl) (fcs A sl) (f / 10) (f % 10) c x → ouI (A 31 sl) (fcs A sl) (f / 10) (f % 10) c y → Tm pmt (an_sh wM) o_X10_other 9 ([(2, 0), (0, sl), (0, f / 10), (0, f % 10), (0, x), (0, y), (0, c)], [], A) (ot_post A sl f) := by
  have c48 := pM_48 hA
  have b31 := eM_31 hA (r := 31) (by omega) kn31 s0 (show sl < 2 by omega)
  intro m
  induction m with
  | zero => intro x y c h; omega
  | succ m ih =>
    intro x y c hm c0 c1 hx hy
    have h80 : c < A 31 sl → ∀ x y, inI (A 31 sl) (fcs A sl) (f / 10) (f % 10) (c + 1) x → ouI (A 31 sl) (fcs A sl) (f / 10) (f % 10) (c + 1) y → Tm pmt (an_sh wM) o_X10_other 80 ([(2, 0), (0, sl), (0, f / 10), (0, f % 10), (0, x), (0, y), (0, c)], [], A) (ot_post A sl f) := fun hc x y hx hy => by
      refine wq_ok srt_Mother (fr := []) (cuts := [9]) (J := fun pc st => (pc = 9 ∧ st = ([(2, 0), (0, sl), (0, f / 10), (0, f % 10), (0, x), (0, y), (0, c + 1)], [], A))) ?_ 7 80 _ ?_
      · rintro pc st (⟨rfl, rfl⟩)
        exact ih x y (c + 1) (by omega) (by omega) (by omega) hx hy
      · refine ⟨⟨by omega, by omega⟩, ?_⟩
        exact ⟨rfl, rfl⟩
    obtain ⟨⟨v1, v2, v3⟩, _⟩ := hC.1.2.2 f f0 f1 hf
    refine wq_ok srt_Mother (fr := []) (cuts := [40, 80, 86]) (J := fun pc st => (pc = 86 ∧ ((A (A 0 48) sl) ≤ c) ∧ st = ([(2, 0), (0, sl), (0, f / 10), (0, f % 10), (0, x), (0, y), (0, c)], [], A)) ∨ (pc = 80 ∧ (c < (A (A 0 48) sl)) ∧ (c = (f / 10)) ∧ st = ([(2, 0), (0, sl), (0, f / 10), (0, f % 10), (0, x), (0, y), (0, c)], [], A)) ∨ (pc = 80 ∧ (c < (A (A 0 48) sl)) ∧ (¬ c = (f / 10)) ∧ (c = (f % 10)) ∧ st = ([(2, 0), (0, sl), (0, f / 10), (0, f % 10), (0, x), (0, y), (0, c)], [], A)) ∨ (pc = 40 ∧ (c < (A (A 0 48) sl)) ∧ (¬ c = (f / 10)) ∧ (¬ c = (f % 10)) ∧ ∃ z1 : Int, ((z1 = 1 ∧ side (A 31 sl) (fcs A sl) (f / 10) c) ∨ (z1 = 0 ∧ ¬ side (A 31 sl) (fcs A sl) (f / 10) c)) ∧ st = ([(2, 0), (0, sl), (0, f / 10), (0, f % 10), (0, x), (0, y), (0, c)], [(0, z1)], A))) ?_ 21 9 _ ?_
    · rintro pc st (⟨rfl, h0, rfl⟩ | ⟨rfl, h0, h1, rfl⟩ | ⟨rfl, h0, h1, h2, rfl⟩ | ⟨rfl, h0, h1, h2, z1, hz1, rfl⟩)
      · rw [c48] at h0
        exact ot_86 hC f0 f1 hf h0 hx hy
      · rw [c48] at h0
        exact h80 h0 _ _ (hx.skip (Or.inl (by omega))) (hy.skip (Or.inl (by omega)))
      · rw [c48] at h0
        exact h80 h0 _ _ (hx.skip (Or.inl (by omega))) (hy.skip (Or.inl (by omega)))
      · rw [c48] at h0
        have hcn := h0
        clear h0
        have k1 : ¬ c = f / 10 := by assumption
        have k2 : ¬ c = f % 10 := by assumption
        refine wq_ok srt_Mother (fr := []) (cuts := [51, 80]) (J := fun pc st => (pc = 80 ∧ (z1 = 0) ∧ st = ([(2, 0), (0, sl), (0, f / 10), (0, f % 10), (0, x), (0, y), (0, c)], [], A)) ∨ (pc = 51 ∧ (¬ z1 = 0) ∧ ∃ z2 : Int, ((z2 = 1 ∧ side (A 31 sl) (fcs A sl) (f % 10) c) ∨ (z2 = 0 ∧ ¬ side (A 31 sl) (fcs A sl) (f % 10) c)) ∧ st = ([(2, 0), (0, sl), (0, f / 10), (0, f % 10), (0, x), (0, y), (0, c)], [(0, z2)], A))) ?_ 10 40 _ ?_
        · rintro pc st (⟨rfl, h0, rfl⟩ | ⟨rfl, h0, z2, hz2, rfl⟩)
          · have e1 : ¬ side (A 31 sl) (fcs A sl) (f / 10) c := by rcases hz1 with ⟨e, _⟩ | ⟨_, e⟩; omega; exact e
            exact h80 (by omega) _ _ (hx.skip (Or.inr (fun k => e1 k.1))) (hy.skip (Or.inr (fun k => e1 k.1)))
          · have e1 : side (A 31 sl) (fcs A sl) (f / 10) c := by rcases hz1 with ⟨_, e⟩ | ⟨e, _⟩; exact e; omega
            refine wq_ok srt_Mother (fr := []) (cuts := [80]) (J := fun pc st => (pc = 80 ∧ (¬ z2 = 0) ∧ (c ≤ (f / 10)) ∧ st = ([(2, 0), (0, sl), (0, f / 10), (0, f % 10), (0, x), (0, c), (0, c)], [], A)) ∨ (pc = 80 ∧ (¬ z2 = 0) ∧ ((f / 10) < c) ∧ ((f % 10) ≤ c) ∧ st = ([(2, 0), (0, sl), (0, f / 10), (0, f % 10), (0, x), (0, c), (0, c)], [], A)) ∨ (pc = 80 ∧ (¬ z2 = 0) ∧ ((f / 10) < c) ∧ (c < (f % 10)) ∧ st = ([(2, 0), (0, sl), (0, f / 10), (0, f % 10), (0, c), (0, y), (0, c)], [], A)) ∨ (pc = 80 ∧ (z2 = 0) ∧ st = ([(2, 0), (0, sl), (0, f / 10), (0, f % 10), (0, x), (0, y), (0, c)], [], A))) ?_ 15 51 _ ?_
            · rintro pc st (⟨rfl, h0, h1, rfl⟩ | ⟨rfl, h0, h1, h2, rfl⟩ | ⟨rfl, h0, h1, h2, rfl⟩ | ⟨rfl, h0, rfl⟩)
              · have e2 : side (A 31 sl) (fcs A sl) (f % 10) c := by rcases hz2 with ⟨_, e⟩ | ⟨e, _⟩; exact e; omega
                exact h80 (by omega) _ _ (hx.skip (Or.inl (by omega))) (Or.inr ⟨⟨by omega, by omega, by omega⟩, e1, e2⟩)
              · have e2 : side (A 31 sl) (fcs A sl) (f % 10) c := by rcases hz2 with ⟨_, e⟩ | ⟨e, _⟩; exact e; omega
                exact h80 (by omega) _ _ (hx.skip (Or.inl (by omega))) (Or.inr ⟨⟨by omega, by omega, by omega⟩, e1, e2⟩)
              · have e2 : side (A 31 sl) (fcs A sl) (f % 10) c := by rcases hz2 with ⟨_, e⟩ | ⟨e, _⟩; exact e; omega
                exact h80 (by omega) _ _ (Or.inr ⟨⟨by omega, by omega⟩, e1, e2⟩) (hy.skip (Or.inl (by omega)))
              · have e2 : ¬ side (A 31 sl) (fcs A sl) (f % 10) c := by rcases hz2 with ⟨e, _⟩ | ⟨_, e⟩; omega; exact e
                exact h80 (by omega) _ _ (hx.skip (Or.inr (fun k => e2 k.2))) (hy.skip (Or.inr (fun k => e2 k.2)))
            · refine ⟨fun h0 => ?_, fun h0 => ?_⟩
              · refine ⟨fun h1 => ?_, fun h1 => ?_⟩
                · exact Or.inl (⟨rfl, h0, h1, rfl⟩)
                · refine ⟨fun h2 => ?_, fun h2 => ?_⟩
                  · exact Or.inr (Or.inl (⟨rfl, h0, h1, h2, rfl⟩))
                  · exact Or.inr (Or.inr (Or.inl (⟨rfl, h0, h1, h2, rfl⟩)))
              · exact Or.inr (Or.inr (Or.inr (⟨rfl, h0, rfl⟩)))
        · refine ⟨fun h0 => ?_, fun h0 => ?_⟩
          · exact Or.inl (⟨rfl, h0, rfl⟩)
          · refine ⟨rM_0 (by omega) km0, ?_⟩
            refine (isSide_ex (A := A) (sl := sl) (x := f % 10) (y := c) hA s0 s1 (by omega) (by omega) (by omega) (by omega)).imp ?_
            rintro ⟨r1, C⟩ ⟨q1, z2, q2, hz2⟩
            simp only at q1 q2
            subst q1
            subst q2
            exact Or.inr (⟨rfl, h0, z2, hz2, rfl⟩)
    · refine ⟨oM_0 (by omega) km0 48 rfl, ?_⟩
      refine ⟨aM_31 (r := A 0 48) (by rw [c48]; omega) (by rw [c48]; exact kn31) (by omega) (by omega), ?_⟩
      have e1 : A (A 0 48) sl = A 31 sl := by rw [c48]
      refine ⟨fun h0 => ?_, fun h0 => ?_⟩
      · exact Or.inl (⟨rfl, h0, rfl⟩)
      · refine ⟨fun h1 => ?_, fun h1 => ?_⟩
        · exact Or.inr (Or.inl (⟨rfl, h0, h1, rfl⟩))
        · refine ⟨fun h2 => ?_, fun h2 => ?_⟩
          · exact Or.inr (Or.inr (Or.inl (⟨rfl, h0, h1, h2, rfl⟩)))
          · refine ⟨rM_0 (by omega) km0, ?_⟩
            refine (isSide_ex (A := A) (sl := sl) (x := f / 10) (y := c) hA s0 s1 (by omega) (by omega) (by omega) (by omega)).imp ?_
            rintro ⟨r1, C⟩ ⟨q1, z1, q2, hz1⟩
            simp only at q1 q2
            subst q1
            subst q2
            exact Or.inr (Or.inr (Or.inr (⟨rfl, h0, h1, h2, z1, hz1, rfl⟩)))
theorem other_ex {A : pm_A} {sl f : Int} (hA : gH wM A) (s0 : 0 ≤ sl) (s1 : sl ≤ 1) (hC : cutS (A 31 sl) (fcs A sl)) (f0 : 0 ≤ f) (f1 : f < 100) (hf : fcs A sl f = 1) : Cl pmt (an_sh wM) 171 [(2, 0), (0, sl), (0, f / 10), (0, f % 10)] A (ot_post A sl f) := by
  refine Cl.of (Nat.le_of_ble_eq_true rfl) ?_
  refine wq_ok (full := o_X10_other) srt_Mother (fr := []) (cuts := [9]) (J := fun pc st => (pc = 9 ∧ st = ([(2, 0), (0, sl), (0, f / 10), (0, f % 10), (0, (-1)), (0, (-1)), (0, 0)], [], A))) ?_ 11 0 _ ?_
  · rintro pc st (⟨rfl, rfl⟩)
    exact ot_9 hA s0 s1 hC f0 f1 hf _ _ _ 0 (Nat.lt_succ_self _) (by omega) (by omega) (Or.inl ⟨rfl, fun d d0 d1 d2 => by omega⟩) (Or.inl ⟨rfl, fun d d0 d1 d2 => by omega⟩)
  · exact ⟨rfl, rfl⟩
def fl_post (A : pm_A) (sl f : Int) (r : pm_R) : Prop := ∃ i o, oth (A 31 sl) (fcs A sl) f i o ∧ r.1 = some (0, cod i o) ∧ gH wM r.2 ∧ r.2 = pm_upd (pm_upd A 32 (100 * sl + f) 0) 32 (100 * sl + cod i o) 1
theorem srt_Mflips : pm_srt o_X10_flips = true := by decide +kernel
theorem flips_13 {A : pm_A} {sl f i o : Int} (hA : gH wM A) (s0 : 0 ≤ sl) (s1 : sl ≤ 1) (f0 : 0 ≤ f) (f1 : f < 100) (g0 : 0 ≤ cod i o) (g1 : cod i o < 100) (ho : oth (A 31 sl) (fcs A sl) f i o) : Tm pmt (an_sh wM) o_X10_flips 13 ([(2, 0), (0, sl), (0, f), (9, 0)], [(0, cod i o)], A) (fl_post A sl f) := by
  have c49 := pM_49 hA
  have h26 : ∀ B, B = pm_upd A 32 (100 * sl + f) 0 → Tm pmt (an_sh wM) o_X10_flips 26 ([(2, 0), (0, sl), (0, f), (0, cod i o)], [], B) (fl_post A sl f) := fun B hB => by
    have hg : gH wM B := by rw [hB]; exact uM_32 hA kn32 (by omega) (by omega)
    have c49 := pM_49 hg
    refine wq_ok srt_Mflips (fr := []) (cuts := []) (J := fun _ _ => False) ?_ 15 26 _ ?_
    · intro pc st h; exact h.elim
    · refine ⟨oM_0 (by omega) km0 49 rfl, ?_⟩
      refine ⟨⟨by omega, by omega⟩, ?_⟩
      refine ⟨⟨by omega, by omega⟩, ?_⟩
      refine ⟨tM_32 (r := B 0 49) (by rw [c49]; omega) (by rw [c49]; exact kn32) (by omega) (by omega) rfl, ?_⟩
      exact ⟨rfl, (by rw [c49]; exact ⟨i, o, ho, rfl, uM_32 hg kn32 (by omega) (by omega), by rw [hB]⟩)⟩
  refine wq_ok srt_Mflips (fr := []) (cuts := [26]) (J := fun pc st => (pc = 26 ∧ st = ([(2, 0), (0, sl), (0, f), (0, cod i o)], [], pm_upd A (A 0 49) ((100 * sl) + f) 0))) ?_ 15 13 _ ?_
  · rintro pc st (⟨rfl, rfl⟩)
    rw [c49]
    exact h26 _ rfl
  · refine ⟨oM_0 (by omega) km0 49 rfl, ?_⟩
    refine ⟨⟨by omega, by omega⟩, ?_⟩
    refine ⟨⟨by omega, by omega⟩, ?_⟩
    refine ⟨tM_32 (r := A 0 49) (by rw [c49]; omega) (by rw [c49]; exact kn32) (by omega) (by omega) rfl, ?_⟩
    exact ⟨rfl, rfl⟩
theorem flips_ex {A : pm_A} {sl f : Int} (hA : gH wM A) (s0 : 0 ≤ sl) (s1 : sl ≤ 1) (hC : cutS (A 31 sl) (fcs A sl)) (f0 : 0 ≤ f) (f1 : f < 100) (hf : fcs A sl f = 1) : Cl pmt (an_sh wM) 144 [(2, 0), (0, sl), (0, f)] A (fl_post A sl f) := by
  refine Cl.of (Nat.le_of_ble_eq_true rfl) ?_
  refine wq_ok (full := o_X10_flips) srt_Mflips (fr := []) (cuts := [13]) (J := fun pc st => (pc = 13 ∧ ∃ i o, oth (A 31 sl) (fcs A sl) f i o ∧ st = ([(2, 0), (0, sl), (0, f), (9, 0)], [(0, cod i o)], A))) ?_ 13 0 _ ?_
  · rintro pc st (⟨rfl, i, o, ho, rfl⟩)
    have hb := cod_b hC.1 f0 f1 hf ho
    exact flips_13 hA s0 s1 f0 f1 hb.1 hb.2.1 ho
  · refine ⟨⟨by omega, by omega, by omega, by omega⟩, ?_⟩
    refine ⟨⟨by omega, by omega, by omega, by omega⟩, ?_⟩
    refine ⟨rM_0 (by omega) km0, ?_⟩
    refine (other_ex hA s0 s1 hC f0 f1 hf).imp ?_
    rintro ⟨r1, C⟩ ⟨q1, i, o, ho, q2⟩
    simp only at q1 q2
    subst q1
    subst q2
    exact ⟨rfl, i, o, ho, rfl⟩
theorem fl_fcs {A : pm_A} {sl f g : Int} (f0 : 0 ≤ f) (f1 : f < 100) (g0 : 0 ≤ g) (g1 : g < 100) : fcs (pm_upd (pm_upd A 32 (100 * sl + f) 0) 32 (100 * sl + g) 1) sl = flF (fcs A sl) f g := by
  funext x
  unfold fcs flF
  by_cases e : x = g
  · rw [e, upd_at, if_pos rfl]
  · rw [upd_o (by omega), if_neg e]
    by_cases e2 : x = f
    · rw [e2, upd_at, if_pos rfl]
    · rw [upd_o (by omega), if_neg e2]
theorem fl_RI {A B : pm_A} {sl f i o : Int} (h : RI A) (hs : sl = 0 ∨ sl = 1) (hC : cutS (A 31 sl) (fcs A sl)) (f0 : 0 ≤ f) (f1 : f < 100) (hf : fcs A sl f = 1) (ho : oth (A 31 sl) (fcs A sl) f i o) (hg : gH wM B) (hB : B = pm_upd (pm_upd A 32 (100 * sl + f) 0) 32 (100 * sl + cod i o) 1) : RI B := by
  obtain ⟨b0, b1, _⟩ := cod_b hC.1 f0 f1 hf ho
  refine h.ring hg (fun r j a1 a2 a3 a4 a5 a6 a7 a8 a9 => by rw [hB, upd_o (by omega), upd_o (by omega)]) (fun t ht => ?_)
  have e31 : B 31 t = A 31 t := by rw [hB, upd_o (by omega), upd_o (by omega)]
  rw [e31]
  by_cases e : t = sl
  · rw [e]
    have := (fl_cut hC f0 f1 hf ho).1
    rw [← fl_fcs (A := A) (sl := sl) f0 f1 b0 b1, ← hB] at this
    exact this
  · refine rgS_congr (h.2.2 t ht) (fun x x0 x1 => ?_)
    show B 32 (100 * t + x) = A 32 (100 * t + x)
    rw [hB, upd_o (by omega), upd_o (by omega)]
theorem srt_Mflip : pm_srt o_X10_flip = true := by decide +kernel
theorem mflip_51 {A : pm_A} {sl a b : Int} (h : RI A) (hs : sl = 0 ∨ sl = 1) (hcut : cntF (fcs A sl) 100 = A 31 sl - 3) (a0 : 0 ≤ a) (a1 : a < A 31 sl) (b0 : 0 ≤ b) (b1 : b < A 31 sl) : Tm pmt (an_sh wM) o_X10_flip 51 ([(2, 0), (0, sl), (0, a), (0, b), (9, 0)], [], A) ri_post := by
  have c49 := pM_49 h.g
  have b31 := eM_31 h.g (r := 31) (by omega) kn31 (j := sl) (by omega) (by omega)
  have hC : cutS (A 31 sl) (fcs A sl) := ⟨h.2.2 sl hs, hcut⟩
  have h67 : ∀ f, 0 ≤ f → f < 100 → Tm pmt (an_sh wM) o_X10_flip 67 ([(2, 0), (0, sl), (0, a), (0, b), (0, f)], [], A) ri_post := fun f f0 f1 => by
    have b32 := eM_32 h.g (r := 32) (by omega) kn32 (j := 100 * sl + f) (by omega) (by omega)
    refine wq_ok srt_Mflip (fr := []) (cuts := [89]) (J := fun pc st => (pc = 89 ∧ ∃ C i o, fcs A sl f = 1 ∧ oth (A 31 sl) (fcs A sl) f i o ∧ RI C ∧ st = ([(2, 0), (0, sl), (0, a), (0, b), (0, f)], [(0, cod i o)], C))) ?_ 17 67 _ ?_
    · rintro pc st (⟨rfl, C, i, o, hf, ho, hR, rfl⟩)
      refine wq_ok srt_Mflip (fr := []) (cuts := [92]) (J := fun pc st => (pc = 92 ∧ ∃ x, st = ([(2, 0), (0, sl), (0, a), (0, b), (0, f)], [(0, x)], C))) ?_ 5 89 _ ?_
      · rintro pc st (⟨rfl, x, rfl⟩)
        refine wq_ok srt_Mflip (fr := []) (cuts := []) (J := fun _ _ => False) ?_ 6 92 _ ?_
        · intro pc st h; exact h.elim
        · exact ⟨rfl, ⟨_, rfl⟩, hR⟩
      · refine ⟨rfl, ?_⟩
        have hb := cod_b hC.1 f0 f1 hf ho
        refine (named_ex hb.1 (by omega)).imp ?_
        rintro ⟨r1, D⟩ ⟨q1, x, q2, _⟩
        simp only at q1 q2
        subst q1
        subst q2
        exact ⟨rfl, x, rfl⟩
    · refine ⟨oM_0 (by omega) km0 49 rfl, ?_⟩
      refine ⟨⟨by omega, by omega⟩, ?_⟩
      refine ⟨⟨by omega, by omega⟩, ?_⟩
      refine ⟨aM_32 (r := A 0 49) (by rw [c49]; omega) (by rw [c49]; exact kn32) (by omega) (by omega), ?_⟩
      have e1 : A (A 0 49) ((100 * sl) + f) = A 32 ((100 * sl) + f) := by rw [c49]
      refine ⟨fun h0 => ?_, fun h0 => ?_⟩
      · exact ⟨rfl, ⟨_, rfl⟩, h⟩
      · refine ⟨rM_0 (by omega) km0, ?_⟩
        have hf : fcs A sl f = 1 := by rw [c49] at h0; unfold fcs; omega
        refine (flips_ex h.g (by omega) (by omega) hC f0 f1 hf).imp ?_
        rintro ⟨r1, C⟩ ⟨i, o, ho, q1, q2, q3⟩
        simp only at q1 q2 q3
        subst q1
        exact ⟨rfl, C, i, o, hf, ho, fl_RI h hs hC f0 f1 hf ho q2 q3, rfl⟩
  refine wq_ok srt_Mflip (fr := []) (cuts := [58]) (J := fun pc st => (pc = 58 ∧ st = ([(2, 0), (0, sl), (0, a), (0, b), (9, 0)], [(0, min a b), (0, 10)], A))) ?_ 8 51 _ ?_
  · rintro pc st (⟨rfl, rfl⟩)
    refine wq_ok srt_Mflip (fr := []) (cuts := [64]) (J := fun pc st => (pc = 64 ∧ st = ([(2, 0), (0, sl), (0, a), (0, b), (9, 0)], [(0, max a b), (0, 10 * (min a b))], A))) ?_ 8 58 _ ?_
    · rintro pc st (⟨rfl, rfl⟩)
      refine wq_ok srt_Mflip (fr := []) (cuts := [67]) (J := fun pc st => (pc = 67 ∧ st = ([(2, 0), (0, sl), (0, a), (0, b), (0, (10 * (min a b)) + (max a b))], [], A))) ?_ 7 64 _ ?_
      · rintro pc st (⟨rfl, rfl⟩)
        exact h67 _ (by omega) (by omega)
      · refine ⟨⟨by omega, by omega⟩, ?_⟩
        exact ⟨rfl, rfl⟩
    · refine ⟨⟨by omega, by omega⟩, ?_⟩
      refine ⟨rfl, ?_⟩
      refine (greater_ex).imp ?_
      rintro r rfl
      exact ⟨rfl, rfl⟩
  · refine ⟨rfl, ?_⟩
    refine (lesser_ex).imp ?_
    rintro r rfl
    exact ⟨rfl, rfl⟩
theorem mflip_ct {A : pm_A} (h : RI A) (sl a b : Int) : Cl pmt (an_sh wM) 143 [(2, 0), (0, sl), (0, a), (0, b)] A ri_post := by
  have c48 := pM_48 h.g
  have h8 : sl = 0 ∨ sl = 1 → Tm pmt (an_sh wM) o_X10_flip 8 ([(2, 0), (0, sl), (0, a), (0, b), (9, 0)], [], A) ri_post := fun hs => by
    have b31 := eM_31 h.g (r := 31) (by omega) kn31 (j := sl) (by omega) (by omega)
    refine wq_ok srt_Mflip (fr := []) (cuts := [13]) (J := fun pc st => (pc = 13 ∧ ∃ x : Int, ((x = 1 ∧ (cntF (fcs A sl) 100 = A 31 sl - 3)) ∨ (x = 0 ∧ ¬ (cntF (fcs A sl) 100 = A 31 sl - 3))) ∧ st = ([(2, 0), (0, sl), (0, a), (0, b), (9, 0)], [(0, x)], A))) ?_ 7 8 _ ?_
    · rintro pc st (⟨rfl, x, hx, rfl⟩)
      refine wq_ok srt_Mflip (fr := []) (cuts := [51]) (J := fun pc st => (pc = 51 ∧ (¬ x = 0) ∧ (0 ≤ a) ∧ (a < (A (A 0 48) sl)) ∧ (0 ≤ b) ∧ (b < (A (A 0 48) sl)) ∧ (¬ a = b) ∧ st = ([(2, 0), (0, sl), (0, a), (0, b), (9, 0)], [], A))) ?_ 26 13 _ ?_
      · rintro pc st (⟨rfl, h0, h1, h2, h3, h4, h5, rfl⟩)
        rw [c48] at h2 h4
        refine mflip_51 h hs ?_ h1 h2 h3 h4
        rcases hx with ⟨_, e⟩ | ⟨e, _⟩
        · exact e
        · omega
      · refine ⟨fun h0 => ?_, fun h0 => ?_⟩
        · exact ⟨rfl, ⟨_, rfl⟩, h⟩
        · refine ⟨fun h1 => ?_, fun h1 => ?_⟩
          · exact ⟨rfl, ⟨_, rfl⟩, h⟩
          · refine ⟨oM_0 (by omega) km0 48 rfl, ?_⟩
            refine ⟨aM_31 (r := A 0 48) (by rw [c48]; omega) (by rw [c48]; exact kn31) (by omega) (by omega), ?_⟩
            have e1 : A (A 0 48) sl = A 31 sl := by rw [c48]
            refine ⟨fun h2 => ?_, fun h2 => ?_⟩
            · exact ⟨rfl, ⟨_, rfl⟩, h⟩
            · refine ⟨fun h3 => ?_, fun h3 => ?_⟩
              · exact ⟨rfl, ⟨_, rfl⟩, h⟩
              · refine ⟨oM_0 (by omega) km0 48 rfl, ?_⟩
                refine ⟨aM_31 (r := A 0 48) (by rw [c48]; omega) (by rw [c48]; exact kn31) (by omega) (by omega), ?_⟩
                have e2 : A (A 0 48) sl = A 31 sl := by rw [c48]
                refine ⟨fun h4 => ?_, fun h4 => ?_⟩
                · exact ⟨rfl, ⟨_, rfl⟩, h⟩
                · refine ⟨fun h5 => ?_, fun h5 => ?_⟩
                  · exact ⟨rfl, h0, h1, h2, h3, h4, h5, rfl⟩
                  · exact ⟨rfl, ⟨_, rfl⟩, h⟩
    · refine ⟨rM_0 (by omega) km0, ?_⟩
      refine (isCutting_ex h.g (sl := sl) (by omega) (by omega)).imp ?_
      rintro ⟨r1, C⟩ ⟨q1, x, q2, hx⟩
      simp only at q1 q2
      subst q1
      subst q2
      exact ⟨rfl, x, hx, rfl⟩
  refine Cl.of (Nat.le_of_ble_eq_true rfl) ?_
  refine wq_ok (full := o_X10_flip) srt_Mflip (fr := []) (cuts := [5]) (J := fun pc st => (pc = 5 ∧ ∃ x : Int, ((x = 1 ∧ (sl = 0 ∨ sl = 1)) ∨ (x = 0 ∧ ¬ (sl = 0 ∨ sl = 1))) ∧ st = ([(2, 0), (0, sl), (0, a), (0, b), (9, 0)], [(0, x)], A))) ?_ 7 0 _ ?_
  · rintro pc st (⟨rfl, x, hx, rfl⟩)
    refine wq_ok srt_Mflip (fr := []) (cuts := [8]) (J := fun pc st => (pc = 8 ∧ (¬ x = 0) ∧ st = ([(2, 0), (0, sl), (0, a), (0, b), (9, 0)], [], A))) ?_ 7 5 _ ?_
    · rintro pc st (⟨rfl, h0, rfl⟩)
      refine h8 ?_
      rcases hx with ⟨_, e⟩ | ⟨e, _⟩
      · exact e
      · omega
    · refine ⟨fun h0 => ?_, fun h0 => ?_⟩
      · exact ⟨rfl, ⟨_, rfl⟩, h⟩
      · exact ⟨rfl, h0, rfl⟩
  · refine ⟨rM_0 (by omega) km0, ?_⟩
    refine (MisSlot_ex).imp ?_
    rintro ⟨r1, C⟩ ⟨q1, x, q2, hx⟩
    simp only at q1 q2
    subst q1
    subst q2
    exact ⟨rfl, x, hx, rfl⟩
