/-! leads, placeOf, seed -/
def lds_post (B : pm_A) (i j : Int) (r : pm_R) : Prop := r.1 = none ∧ gH wM r.2 ∧ (∀ q k, q ≠ 7 → r.2 q k = B q k) ∧ (∀ k, -2 ≤ r.2 7 k - B 7 k ∧ r.2 7 k - B 7 k ≤ 2) ∧ ∀ k, (0 ≤ i ∧ 0 ≤ j ∧ (k = 6 * i + j ∨ k = 6 * j + i)) ∨ r.2 7 k = B 7 k
theorem srt_Mleads : pm_srt o_X10_leads = true := by decide +kernel
theorem leads_ex {B : pm_A} {i j : Int} (hB : gH wM B) (i0 : -1 ≤ i) (i1 : i ≤ 5) (j0 : -1 ≤ j) (j1 : j ≤ 5) (h9 : ∀ k : Int, 0 ≤ k → k < 72 → -100 ≤ B 7 k ∧ B 7 k ≤ 100) : Cl pmt (an_sh wM) 161 [(2, 0), (0, i), (0, j)] B (lds_post B i j) := by
  have c14a := pM_14 hB
  have hsame : lds_post B i j (none, B) := ⟨rfl, hB, fun _ _ _ => rfl, fun k => by show -2 ≤ B 7 k - B 7 k ∧ B 7 k - B 7 k ≤ 2; omega, fun k => Or.inr rfl⟩
  have h26 : 0 ≤ i → 0 ≤ j → ∀ C, C = pm_upd B 7 (6 * i + j) (B 7 (6 * i + j) + 1) → Tm pmt (an_sh wM) o_X10_leads 26 ([(2, 0), (0, i), (0, j)], [], C) (lds_post B i j) := fun i0 j0 C hC => by
    have b1 := h9 (6 * i + j) (by omega) (by omega)
    have b2 := h9 (6 * j + i) (by omega) (by omega)
    have hg : gH wM C := by rw [hC]; exact uM_7 hB kn7 (by omega) (by omega)
    have c14 := pM_14 hg
    have hk : ∀ k, (k = 6 * i + j ∧ C 7 k = B 7 k + 1) ∨ C 7 k = B 7 k := fun k => by
      rw [hC]
      by_cases e : k = 6 * i + j
      · rw [e, upd_at]; exact Or.inl ⟨rfl, rfl⟩
      · rw [upd_o (by omega)]; exact Or.inr rfl
    have hx := hk (6 * j + i)
    have hend : ∀ D, D = pm_upd C 7 (6 * j + i) (C 7 (6 * j + i) - 1) → lds_post B i j (none, D) := fun D hD => by
      have hk2 : ∀ k, (k = 6 * j + i ∧ D 7 k = C 7 k - 1) ∨ D 7 k = C 7 k := fun k => by
        rw [hD]
        by_cases e : k = 6 * j + i
        · rw [e, upd_at]; exact Or.inl ⟨rfl, rfl⟩
        · rw [upd_o (by omega)]; exact Or.inr rfl
      refine ⟨rfl, by rw [hD]; exact uM_7 hg kn7 (by omega) (by omega), fun q k hq => ?_, fun k => ?_, fun k => ?_⟩
      · show D q k = B q k
        rw [hD, upd_o (by omega), hC, upd_o (by omega)]
      · show -2 ≤ D 7 k - B 7 k ∧ D 7 k - B 7 k ≤ 2
        have a := hk k
        have b := hk2 k
        omega
      · show _ ∨ D 7 k = B 7 k
        have a := hk k
        have b := hk2 k
        omega
    refine wq_ok srt_Mleads (fr := []) (cuts := []) (J := fun _ _ => False) ?_ 17 26 _ ?_
    · intro pc st h; exact h.elim
    · refine ⟨oM_0 (by omega) km0 14 rfl, ?_⟩
      refine ⟨⟨by omega, by omega⟩, ?_⟩
      refine ⟨⟨by omega, by omega⟩, ?_⟩
      refine ⟨aM_7 (r := C 0 14) (by rw [c14]; omega) (by rw [c14]; exact kn7) (by omega) (by omega), ?_⟩
      have e1 : C (C 0 14) ((6 * j) + i) = C 7 ((6 * j) + i) := by rw [c14]
      refine ⟨⟨by omega, by omega⟩, ?_⟩
      refine ⟨tM_7 (r := C 0 14) (by rw [c14]; omega) (by rw [c14]; exact kn7) (by omega) (by omega) rfl, ?_⟩
      exact (by rw [c14]; exact hend _ rfl)
  have c14 := c14a
  have b1 : 0 ≤ i → 0 ≤ j → -100 ≤ B 7 (6 * i + j) ∧ B 7 (6 * i + j) ≤ 100 := fun i0 j0 => h9 (6 * i + j) (by omega) (by omega)
  refine Cl.of (Nat.le_of_ble_eq_true rfl) ?_
  refine wq_ok (full := o_X10_leads) srt_Mleads (fr := []) (cuts := [26]) (J := fun pc st => (pc = 26 ∧ (¬ i = ((-1))) ∧ (¬ j = ((-1))) ∧ st = ([(2, 0), (0, i), (0, j)], [], pm_upd B (B 0 14) ((6 * i) + j) ((B (B 0 14) ((6 * i) + j)) + 1)))) ?_ 23 0 _ ?_
  · rintro pc st (⟨rfl, h0, h1, rfl⟩)
    rw [c14]
    exact h26 (by omega) (by omega) _ rfl
  · refine ⟨fun h0 => ?_, fun h0 => ?_⟩
    · exact hsame
    · refine ⟨fun h1 => ?_, fun h1 => ?_⟩
      · refine ⟨oM_0 (by omega) km0 14 rfl, ?_⟩
        refine ⟨⟨by omega, by omega⟩, ?_⟩
        refine ⟨⟨by omega, by omega⟩, ?_⟩
        refine ⟨aM_7 (r := B 0 14) (by rw [c14]; omega) (by rw [c14]; exact kn7) (by omega) (by omega), ?_⟩
        have e1 : B (B 0 14) ((6 * i) + j) = B 7 ((6 * i) + j) := by rw [c14]
        refine ⟨(by have := b1 (by omega) (by omega); exact ⟨by omega, by omega⟩), ?_⟩
        refine ⟨tM_7 (r := B 0 14) (by rw [c14]; omega) (by rw [c14]; exact kn7) (by omega) (by omega) rfl, ?_⟩
        exact ⟨rfl, h0, h1, rfl⟩
      · exact hsame
def po_post (A : pm_A) (sl f : Int) (r : pm_R) : Prop := r.2 = A ∧ ∃ p, r.1 = some (0, p) ∧ ((p = -1 ∧ fcs A sl f = 0) ∨ (fcs A sl f = 1 ∧ p = cntF (fcs A sl) f.toNat))
theorem srt_MplaceOf : pm_srt o_X10_placeOf = true := by decide +kernel
theorem po_39 {A : pm_A} {sl x y f : Int} (hA : gH wM A) (s0 : 0 ≤ sl) (s1 : sl ≤ 1) (f0 : 0 ≤ f) (f1 : f < 100) (hf : fcs A sl f = 1) : ∀ (m : Nat) (i : Nat), 100 - i < m → (i : Int) ≤ f → Tm pmt (an_sh wM) o_X10_placeOf 39 ([(2, 0), (0, sl), (0, x), (0, y), (0, f), (0, cntF (fcs A sl) i), (0, (i : Int))], [], A) (po_post A sl f) := by
  have c49 := pM_49 hA
  intro m
  induction m with
  | zero => intro i h; omega
  | succ m ih =>
    intro i hm i1
    have hb := cntF_b (fcs A sl) i
    have st : cntF (fcs A sl) (i + 1) = cntF (fcs A sl) i + (if fcs A sl i = 0 then 0 else 1) := rfl
    have hend : f ≤ i → cntF (fcs A sl) i = cntF (fcs A sl) f.toNat := fun h => by rw [show f.toNat = i by omega]
    refine wq_ok srt_MplaceOf (fr := []) (cuts := [39]) (J := fun pc st => (pc = 39 ∧ (((i : Int)) < f) ∧ ((A (A 0 49) ((100 * sl) + ((i : Int)))) = 0) ∧ st = ([(2, 0), (0, sl), (0, x), (0, y), (0, f), (0, cntF (fcs A sl) i), (0, ((i : Int)) + 1)], [], A)) ∨ (pc = 39 ∧ (((i : Int)) < f) ∧ (¬ (A (A 0 49) ((100 * sl) + ((i : Int)))) = 0) ∧ st = ([(2, 0), (0, sl), (0, x), (0, y), (0, f), (0, (cntF (fcs A sl) i) + 1), (0, ((i : Int)) + 1)], [], A))) ?_ 20 39 _ ?_
    · rintro pc st (⟨rfl, h0, h1, rfl⟩ | ⟨rfl, h0, h1, rfl⟩)
      · rw [c49] at h1
        have h1 : fcs A sl i = 0 := h1
        rw [if_pos h1] at st
        have e : cntF (fcs A sl) i = cntF (fcs A sl) (i + 1) := by omega
        rw [e, show (i : Int) + 1 = ((i + 1 : Nat) : Int) by omega]
        exact ih (i + 1) (by omega) (by omega)
      · rw [c49] at h1
        have h1 : ¬ fcs A sl i = 0 := h1
        rw [if_neg h1] at st
        have e : cntF (fcs A sl) i + 1 = cntF (fcs A sl) (i + 1) := by omega
        rw [e, show (i : Int) + 1 = ((i + 1 : Nat) : Int) by omega]
        exact ih (i + 1) (by omega) (by omega)
    · refine ⟨fun h0 => ?_, fun h0 => ?_⟩
      · exact ⟨rfl, rfl, _, rfl, Or.inr ⟨hf, hend (by omega)⟩⟩
      · refine ⟨oM_0 (by omega) km0 49 rfl, ?_⟩
        refine ⟨⟨by omega, by omega⟩, ?_⟩
        refine ⟨⟨by omega, by omega⟩, ?_⟩
        refine ⟨aM_32 (r := A 0 49) (by rw [c49]; omega) (by rw [c49]; exact kn32) (by omega) (by omega), ?_⟩
        have e1 : A (A 0 49) ((100 * sl) + ((i : Int))) = A 32 ((100 * sl) + ((i : Int))) := by rw [c49]
        refine ⟨fun h1 => ?_, fun h1 => ?_⟩
        · refine ⟨⟨by omega, by omega⟩, ?_⟩
          exact Or.inl (⟨rfl, h0, h1, rfl⟩)
        · refine ⟨⟨by omega, by omega⟩, ?_⟩
          refine ⟨⟨by omega, by omega⟩, ?_⟩
          exact Or.inr (⟨rfl, h0, h1, rfl⟩)
theorem placeOf_ex {A : pm_A} {sl x y : Int} (hA : gH wM A) (s0 : 0 ≤ sl) (s1 : sl ≤ 1) (x0 : 0 ≤ x) (x1 : x < y) (y1 : y ≤ 9) : Cl pmt (an_sh wM) 174 [(2, 0), (0, sl), (0, x), (0, y)] A (po_post A sl (10 * x + y)) := by
  have c49 := pM_49 hA
  have em : min x y = x := by omega
  have eM : max x y = y := by omega
  have hb := fcs_b hA s0 s1 (f := 10 * x + y) (by omega) (by omega)
  have key : Tm pmt (an_sh wM) o_X10_placeOf 14 ([(2, 0), (0, sl), (0, x), (0, y), (9, 0), (9, 0), (9, 0)], [(0, 10 * x + y)], A) (po_post A sl (10 * x + y)) := by
    generalize hf : 10 * x + y = f at *
    refine wq_ok srt_MplaceOf (fr := []) (cuts := [39]) (J := fun pc st => (pc = 39 ∧ (¬ (A (A 0 49) ((100 * sl) + f)) = 0) ∧ st = ([(2, 0), (0, sl), (0, x), (0, y), (0, f), (0, 0), (0, 0)], [], A))) ?_ 19 14 _ ?_
    · rintro pc st (⟨rfl, h0, rfl⟩)
      rw [c49] at h0
      have h0 : ¬ fcs A sl f = 0 := h0
      exact po_39 hA s0 s1 (by omega) (by omega) (by omega) _ 0 (Nat.lt_succ_self _) (by omega)
    · refine ⟨oM_0 (by omega) km0 49 rfl, ?_⟩
      refine ⟨⟨by omega, by omega⟩, ?_⟩
      refine ⟨⟨by omega, by omega⟩, ?_⟩
      refine ⟨aM_32 (r := A 0 49) (by rw [c49]; omega) (by rw [c49]; exact kn32) (by omega) (by omega), ?_⟩
      have e1 : A (A 0 49) ((100 * sl) + f) = A 32 ((100 * sl) + f) := by rw [c49]
      refine ⟨fun h0 => ?_, fun h0 => ?_⟩
      · exact ⟨rfl, h0, rfl⟩
      · exact ⟨rfl, rfl, _, rfl, Or.inl ⟨rfl, by rw [c49] at h0; exact h0⟩⟩
  refine Cl.of (Nat.le_of_ble_eq_true rfl) ?_
  refine wq_ok (full := o_X10_placeOf) srt_MplaceOf (fr := []) (cuts := [7]) (J := fun pc st => (pc = 7 ∧ st = ([(2, 0), (0, sl), (0, x), (0, y), (9, 0), (9, 0), (9, 0)], [(0, x), (0, 10)], A))) ?_ 8 0 _ ?_
  · rintro pc st (⟨rfl, rfl⟩)
    refine wq_ok srt_MplaceOf (fr := []) (cuts := [13]) (J := fun pc st => (pc = 13 ∧ st = ([(2, 0), (0, sl), (0, x), (0, y), (9, 0), (9, 0), (9, 0)], [(0, y), (0, 10 * x)], A))) ?_ 8 7 _ ?_
    · rintro pc st (⟨rfl, rfl⟩)
      refine wq_ok srt_MplaceOf (fr := []) (cuts := [14]) (J := fun pc st => (pc = 14 ∧ st = ([(2, 0), (0, sl), (0, x), (0, y), (9, 0), (9, 0), (9, 0)], [(0, (10 * x) + y)], A))) ?_ 6 13 _ ?_
      · rintro pc st (⟨rfl, rfl⟩)
        exact key
      · refine ⟨⟨by omega, by omega⟩, ?_⟩
        exact ⟨rfl, rfl⟩
    · refine ⟨⟨by omega, by omega⟩, ?_⟩
      refine ⟨rfl, ?_⟩
      refine (greater_ex).imp ?_
      rintro r rfl; rw [eM]
      exact ⟨rfl, rfl⟩
  · refine ⟨rfl, ?_⟩
    refine (lesser_ex).imp ?_
    rintro r rfl; rw [em]
    exact ⟨rfl, rfl⟩
def isd (f x y z : Int) : Prop := f = 10 * x + y ∨ f = 10 * y + z ∨ f = 10 * x + z
def plF (F : Int → Int) (f i : Int) : Prop := 0 ≤ f ∧ F f = 1 ∧ i = cntF F f.toNat
def Ew (F : Int → Int) (i j x y z : Int) : Prop := ∃ f g : Int, isd f x y z ∧ isd g x y z ∧ f ≠ g ∧ plF F f i ∧ plF F g j
theorem plF_inj {F : Int → Int} {f g i : Int} (h : plF F f i) (k : plF F g i) : f = g := by
  obtain ⟨f0, f1, f2⟩ := h
  obtain ⟨g0, g1, g2⟩ := k
  refine Classical.byContradiction (fun hne => ?_)
  rcases Int.lt_or_gt_of_ne hne with h | h
  · have := cntF_lt F (show f.toNat < g.toNat by omega) (by rw [Int.toNat_of_nonneg f0, f1]; omega)
    omega
  · have := cntF_lt F (show g.toNat < f.toNat by omega) (by rw [Int.toNat_of_nonneg g0, g1]; omega)
    omega
def tri3 (x y z : Int) : Prop := 0 ≤ x ∧ x < y ∧ y < z ∧ z ≤ 9
theorem isd_uniq {f g x y z x' y' z' : Int} (ht : tri3 x y z) (ht' : tri3 x' y' z') (hne : f ≠ g) (h1 : isd f x y z) (h2 : isd g x y z) (h3 : isd f x' y' z') (h4 : isd g x' y' z') : x = x' ∧ y = y' ∧ z = z' := by
  unfold tri3 at *
  rcases h1 with h1 | h1 | h1 <;> rcases h3 with h3 | h3 | h3 <;> rcases h2 with h2 | h2 | h2 <;> rcases h4 with h4 | h4 | h4 <;> omega
theorem Ew_uniq {F : Int → Int} {i j x y z x' y' z' : Int} (ht : tri3 x y z) (ht' : tri3 x' y' z') (h : Ew F i j x y z) (h' : Ew F i j x' y' z') : x = x' ∧ y = y' ∧ z = z' := by
  obtain ⟨f, g, a1, a2, a3, a4, a5⟩ := h
  obtain ⟨f', g', b1, b2, b3, b4, b5⟩ := h'
  have e1 := plF_inj a4 b4
  have e2 := plF_inj a5 b5
  subst e1; subst e2
  exact isd_uniq ht ht' a3 a1 a2 b1 b2
def sdJ (A B : pm_A) (sl t : Int) : Prop := sdF A B ∧ ∀ i j : Int, 0 ≤ i → i ≤ 11 → 0 ≤ j → j ≤ 5 → (-6 ≤ B 7 (6 * i + j) ∧ B 7 (6 * i + j) ≤ 6) ∧ (B 7 (6 * i + j) = 0 ∨ ∃ x y z, tri3 x y z ∧ 100 * x + 10 * y + z < t ∧ Ew (fcs A sl) i j x y z)
theorem sdJ.mono {A B : pm_A} {sl t t' : Int} (h : sdJ A B sl t) (ht : t ≤ t') : sdJ A B sl t' := ⟨h.1, fun i j i0 i1 j0 j1 => by
  have a := h.2 i j i0 i1 j0 j1
  refine ⟨a.1, a.2.imp id ?_⟩
  rintro ⟨x, y, z, h1, h2, h3⟩
  exact ⟨x, y, z, h1, by omega, h3⟩⟩
theorem sdJ.b9 {A B : pm_A} {sl t : Int} (h : sdJ A B sl t) {k : Int} (k0 : 0 ≤ k) (k1 : k < 72) : -6 ≤ B 7 k ∧ B 7 k ≤ 6 := by
  have a := (h.2 (k / 6) (k % 6) (by omega) (by omega) (by omega) (by omega)).1
  rwa [show 6 * (k / 6) + k % 6 = k by omega] at a
theorem fcs_sd {A B : pm_A} {sl : Int} (h : sdF A B) : fcs B sl = fcs A sl := funext fun f => h.2 32 _ (by omega) (by omega)
def plV (F : Int → Int) (f p : Int) : Prop := (p = -1 ∧ F f = 0) ∨ (plF F f p ∧ 0 ≤ p ∧ p ≤ 5)
theorem tch {F : Int → Int} {f g p q x y z i j : Int} (h1 : isd f x y z) (h2 : isd g x y z) (hne : f ≠ g) (hp : plV F f p) (hq : plV F g q) (j0 : 0 ≤ j) (j1 : j ≤ 5) (ht : 0 ≤ p ∧ 0 ≤ q ∧ (6 * i + j = 6 * p + q ∨ 6 * i + j = 6 * q + p)) : Ew F i j x y z := by
  rcases hp with hp | ⟨hp, _, p5⟩
  · omega
  rcases hq with hq | ⟨hq, _, q5⟩
  · omega
  obtain ⟨p0, q0, e | e⟩ := ht
  · have e1 : i = p := by omega
    have e2 : j = q := by omega
    subst e1; subst e2
    exact ⟨f, g, h1, h2, hne, hp, hq⟩
  · have e1 : i = q := by omega
    have e2 : j = p := by omega
    subst e1; subst e2
    exact ⟨g, f, h2, h1, fun e => hne e.symm, hq, hp⟩
theorem sdJ.step {A B B1 B2 B3 : pm_A} {sl a b c p7 p8 p9 : Int} (h : sdJ A B sl (100 * a + 10 * b + c)) (ht : tri3 a b c) (h7 : plV (fcs A sl) (10 * a + b) p7) (h8 : plV (fcs A sl) (10 * b + c) p8) (h9 : plV (fcs A sl) (10 * a + c) p9) (l1 : lds_post B p7 p8 (none, B1)) (l2 : lds_post B1 p8 p9 (none, B2)) (l3 : lds_post B2 p9 p7 (none, B3)) : sdJ A B3 sl (100 * a + 10 * b + c + 1) := by
  obtain ⟨_, g1, o1, d1, t1⟩ := l1
  obtain ⟨_, g2, o2, d2, t2⟩ := l2
  obtain ⟨_, g3, o3, d3, t3⟩ := l3
  simp only at g1 o1 d1 t1 g2 o2 d2 t2 g3 o3 d3 t3
  refine ⟨⟨g3, fun r j h1 h2 => by rw [o3 r j h1, o2 r j h1, o1 r j h1]; exact h.1.2 r j h1 h2⟩, fun i j i0 i1 j0 j1 => ?_⟩
  have hh := h.2 i j i0 i1 j0 j1
  have a1 := d1 (6 * i + j)
  have a2 := d2 (6 * i + j)
  have a3 := d3 (6 * i + j)
  unfold tri3 at ht
  by_cases hE : Ew (fcs A sl) i j a b c
  · have hz : B 7 (6 * i + j) = 0 := by
      rcases hh.2 with e | ⟨x, y, z, y1, y2, y3⟩
      · exact e
      · have := Ew_uniq y1 ht y3 hE
        omega
    exact ⟨by omega, Or.inr ⟨a, b, c, ht, by omega, hE⟩⟩
  · have n1 : B1 7 (6 * i + j) = B 7 (6 * i + j) := (t1 (6 * i + j)).resolve_left (fun e => hE (tch (Or.inl rfl) (Or.inr (Or.inl rfl)) (by omega) h7 h8 j0 j1 e))
    have n2 : B2 7 (6 * i + j) = B1 7 (6 * i + j) := (t2 (6 * i + j)).resolve_left (fun e => hE (tch (Or.inr (Or.inl rfl)) (Or.inr (Or.inr rfl)) (by omega) h8 h9 j0 j1 e))
    have n3 : B3 7 (6 * i + j) = B2 7 (6 * i + j) := (t3 (6 * i + j)).resolve_left (fun e => hE (tch (Or.inr (Or.inr rfl)) (Or.inl rfl) (by omega) h9 h7 j0 j1 e))
    rw [n3, n2, n1]
    refine ⟨hh.1, hh.2.imp id ?_⟩
    rintro ⟨x, y, z, y1, y2, y3⟩
    exact ⟨x, y, z, y1, by omega, y3⟩
theorem srt_Mseed : pm_srt o_X10_seed = true := by decide +kernel
theorem po_plV {A B : pm_A} {sl f : Int} {r : pm_R} (hs : sdF A B) (hA : gH wM A) (hcut : cntF (fcs A sl) 100 ≤ 6) (f0 : 0 ≤ f) (f1 : f < 100) (h : po_post B sl f r) : r.2 = B ∧ ∃ p, r.1 = some (0, p) ∧ plV (fcs A sl) f p := by
  obtain ⟨h1, p, h2, h3⟩ := h
  rw [fcs_sd hs] at h3
  refine ⟨h1, p, h2, h3.imp id (fun h => ⟨⟨f0, h.1, h.2⟩, ?_, ?_⟩)⟩
  · have := cntF_b (fcs A sl) f.toNat; omega
  · have := cntF_lt (fcs A sl) (show f.toNat < 100 by omega) (by rw [Int.toNat_of_nonneg f0, h.1]; omega)
    omega

theorem sde_150 {A B : pm_A} {sl n z3 a b c : Int} (hs : sl = 0 ∨ sl = 1) (hA : gH wM A) (hcut : cntF (fcs A sl) 100 ≤ 6) (ht : tri3 a b c) (hJ : sdJ A B sl (100 * a + 10 * b + c)) (H : ∀ C w7 w8 w9, sdJ A C sl (100 * a + 10 * b + c + 1) → Tm pmt (an_sh wM) o_X10_seed 174 ([(2, 0), (0, sl), (0, n), (0, z3), (0, a), (0, b), (0, c), w7, w8, w9], [], C) ri_post) {p7 p8 p9 : Int} (hp7 : plV (fcs A sl) (10 * a + b) p7) (hp8 : plV (fcs A sl) (10 * b + c) p8) (hp9 : plV (fcs A sl) (10 * a + c) p9) : Tm pmt (an_sh wM) o_X10_seed 150 ([(2, 0), (0, sl), (0, n), (0, z3), (0, a), (0, b), (0, c), (0, p7), (0, p8), (0, p9)], [], B) ri_post := by
  have gB := hJ.1.1
  have mB : ∀ k : Int, 0 ≤ k → k < 72 → -100 ≤ B 7 k ∧ B 7 k ≤ 100 := fun k k0 k1 => by have := hJ.b9 k0 k1; omega
  refine wq_ok srt_Mseed (fr := []) (cuts := [158]) (J := fun pc st => (pc = 158 ∧ ∃ B1, lds_post B p7 p8 (none, B1) ∧ st = ([(2, 0), (0, sl), (0, n), (0, z3), (0, a), (0, b), (0, c), (0, p7), (0, p8), (0, p9)], [], B1))) ?_ 8 150 _ ?_
  · rintro pc st (⟨rfl, B1, lB1, rfl⟩)
    have gB1 := lB1.2.1
    have mB1 : ∀ k : Int, 0 ≤ k → k < 72 → -100 ≤ B1 7 k ∧ B1 7 k ≤ 100 := fun k k0 k1 => by have := hJ.b9 k0 k1; have e1 := lB1.2.2.2.1 k; simp only at e1; omega
    refine wq_ok srt_Mseed (fr := []) (cuts := [166]) (J := fun pc st => (pc = 166 ∧ ∃ B2, lds_post B1 p8 p9 (none, B2) ∧ st = ([(2, 0), (0, sl), (0, n), (0, z3), (0, a), (0, b), (0, c), (0, p7), (0, p8), (0, p9)], [], B2))) ?_ 8 158 _ ?_
    · rintro pc st (⟨rfl, B2, lB2, rfl⟩)
      have gB2 := lB2.2.1
      have mB2 : ∀ k : Int, 0 ≤ k → k < 72 → -100 ≤ B2 7 k ∧ B2 7 k ≤ 100 := fun k k0 k1 => by have := hJ.b9 k0 k1; have e1 := lB1.2.2.2.1 k; have e2 := lB2.2.2.2.1 k; simp only at e1 e2; omega
      refine wq_ok srt_Mseed (fr := []) (cuts := [174]) (J := fun pc st => (pc = 174 ∧ ∃ B3, lds_post B2 p9 p7 (none, B3) ∧ st = ([(2, 0), (0, sl), (0, n), (0, z3), (0, a), (0, b), (0, c), (0, p7), (0, p8), (0, p9)], [], B3))) ?_ 8 166 _ ?_
      · rintro pc st (⟨rfl, B3, lB3, rfl⟩)
        exact H B3 _ _ _ (hJ.step ht hp7 hp8 hp9 lB1 lB2 lB3)
      · refine ⟨rM_0 (by omega) km0, ?_⟩
        refine (leads_ex (B := B2) (i := p9) (j := p7) gB2 (by rcases hp9 with e | e <;> omega) (by rcases hp9 with e | e <;> omega) (by rcases hp7 with e | e <;> omega) (by rcases hp7 with e | e <;> omega) mB2).imp ?_
        rintro ⟨r1, B3⟩ lB3
        have q1 := lB3.1
        simp only at q1
        subst q1
        exact ⟨rfl, B3, lB3, rfl⟩
    · refine ⟨rM_0 (by omega) km0, ?_⟩
      refine (leads_ex (B := B1) (i := p8) (j := p9) gB1 (by rcases hp8 with e | e <;> omega) (by rcases hp8 with e | e <;> omega) (by rcases hp9 with e | e <;> omega) (by rcases hp9 with e | e <;> omega) mB1).imp ?_
      rintro ⟨r1, B2⟩ lB2
      have q1 := lB2.1
      simp only at q1
      subst q1
      exact ⟨rfl, B2, lB2, rfl⟩
  · refine ⟨rM_0 (by omega) km0, ?_⟩
    refine (leads_ex (B := B) (i := p7) (j := p8) gB (by rcases hp7 with e | e <;> omega) (by rcases hp7 with e | e <;> omega) (by rcases hp8 with e | e <;> omega) (by rcases hp8 with e | e <;> omega) mB).imp ?_
    rintro ⟨r1, B1⟩ lB1
    have q1 := lB1.1
    simp only at q1
    subst q1
    exact ⟨rfl, B1, lB1, rfl⟩
theorem sde_117 {A B : pm_A} {sl n z3 a b c : Int} (hs : sl = 0 ∨ sl = 1) (hA : gH wM A) (hcut : cntF (fcs A sl) 100 ≤ 6) (ht : tri3 a b c) (hJ : sdJ A B sl (100 * a + 10 * b + c)) (H : ∀ C w7 w8 w9, sdJ A C sl (100 * a + 10 * b + c + 1) → Tm pmt (an_sh wM) o_X10_seed 174 ([(2, 0), (0, sl), (0, n), (0, z3), (0, a), (0, b), (0, c), w7, w8, w9], [], C) ri_post) {w7 w8 w9 : pm_V} : Tm pmt (an_sh wM) o_X10_seed 117 ([(2, 0), (0, sl), (0, n), (0, z3), (0, a), (0, b), (0, c), w7, w8, w9], [], B) ri_post := by
  have ht2 := ht
  unfold tri3 at ht2
  refine wq_ok srt_Mseed (fr := []) (cuts := [126]) (J := fun pc st => (pc = 126 ∧ ∃ p7, plV (fcs A sl) (10 * a + b) p7 ∧ st = ([(2, 0), (0, sl), (0, n), (0, z3), (0, a), (0, b), (0, c), w7, w8, w9], [(0, p7)], B))) ?_ 9 117 _ ?_
  · rintro pc st (⟨rfl, p7, hp7, rfl⟩)
    refine wq_ok srt_Mseed (fr := []) (cuts := [137]) (J := fun pc st => (pc = 137 ∧ ∃ p8, plV (fcs A sl) (10 * b + c) p8 ∧ st = ([(2, 0), (0, sl), (0, n), (0, z3), (0, a), (0, b), (0, c), (0, p7), w8, w9], [(0, p8)], B))) ?_ 10 126 _ ?_
    · rintro pc st (⟨rfl, p8, hp8, rfl⟩)
      refine wq_ok srt_Mseed (fr := []) (cuts := [148]) (J := fun pc st => (pc = 148 ∧ ∃ p9, plV (fcs A sl) (10 * a + c) p9 ∧ st = ([(2, 0), (0, sl), (0, n), (0, z3), (0, a), (0, b), (0, c), (0, p7), (0, p8), w9], [(0, p9)], B))) ?_ 10 137 _ ?_
      · rintro pc st (⟨rfl, p9, hp9, rfl⟩)
        refine wq_ok srt_Mseed (fr := []) (cuts := [150]) (J := fun pc st => (pc = 150 ∧ st = ([(2, 0), (0, sl), (0, n), (0, z3), (0, a), (0, b), (0, c), (0, p7), (0, p8), (0, p9)], [], B))) ?_ 6 148 _ ?_
        · rintro pc st (⟨rfl, rfl⟩)
          exact sde_150 hs hA hcut ht hJ H hp7 hp8 hp9
        · exact ⟨rfl, rfl⟩
      · refine ⟨rM_0 (by omega) km0, ?_⟩
        refine (placeOf_ex (A := B) (sl := sl) (x := a) (y := c) hJ.1.1 (by omega) (by omega) (by omega) (by omega) (by omega)).imp ?_
        rintro ⟨r1, C⟩ hpo
        obtain ⟨q1, p9, q2, hp9⟩ := po_plV hJ.1 hA hcut (by omega) (by omega) hpo
        simp only at q1 q2
        subst q1
        subst q2
        exact ⟨rfl, p9, hp9, rfl⟩
    · refine ⟨rM_0 (by omega) km0, ?_⟩
      refine (placeOf_ex (A := B) (sl := sl) (x := b) (y := c) hJ.1.1 (by omega) (by omega) (by omega) (by omega) (by omega)).imp ?_
      rintro ⟨r1, C⟩ hpo
      obtain ⟨q1, p8, q2, hp8⟩ := po_plV hJ.1 hA hcut (by omega) (by omega) hpo
      simp only at q1 q2
      subst q1
      subst q2
      exact ⟨rfl, p8, hp8, rfl⟩
  · refine ⟨rM_0 (by omega) km0, ?_⟩
    refine (placeOf_ex (A := B) (sl := sl) (x := a) (y := b) hJ.1.1 (by omega) (by omega) (by omega) (by omega) (by omega)).imp ?_
    rintro ⟨r1, C⟩ hpo
    obtain ⟨q1, p7, q2, hp7⟩ := po_plV hJ.1 hA hcut (by omega) (by omega) hpo
    simp only at q1 q2
    subst q1
    subst q2
    exact ⟨rfl, p7, hp7, rfl⟩
theorem sde_72 {A : pm_A} {sl n z3 a b : Int} (hs : sl = 0 ∨ sl = 1) (hA : gH wM A) (hcut : cntF (fcs A sl) 100 ≤ 6) (n9 : n ≤ 9) (a0 : 0 ≤ a) (ab : a < b) (bn : b < n) (H : ∀ C w6 w7 w8 w9, sdJ A C sl (100 * a + 10 * b + 10) → Tm pmt (an_sh wM) o_X10_seed 180 ([(2, 0), (0, sl), (0, n), (0, z3), (0, a), (0, b), w6, w7, w8, w9], [], C) ri_post) : ∀ (m : Nat) (c : Int) (w7 w8 w9 : pm_V) (B : pm_A), (10 - c).toNat < m → b < c → c ≤ 10 → sdJ A B sl (100 * a + 10 * b + c) → Tm pmt (an_sh wM) o_X10_seed 72 ([(2, 0), (0, sl), (0, n), (0, z3), (0, a), (0, b), (0, c), w7, w8, w9], [], B) ri_post := by
  intro m
  induction m with
  | zero => intro c w7 w8 w9 B h; omega
  | succ m ih =>
    intro c w7 w8 w9 B hm c0 c1 hJ
    have h174 : c < n → ∀ C w7 w8 w9, sdJ A C sl (100 * a + 10 * b + c + 1) → Tm pmt (an_sh wM) o_X10_seed 174 ([(2, 0), (0, sl), (0, n), (0, z3), (0, a), (0, b), (0, c), w7, w8, w9], [], C) ri_post := fun hc C w7 w8 w9 hC => by
      refine wq_ok srt_Mseed (fr := []) (cuts := [72]) (J := fun pc st => (pc = 72 ∧ st = ([(2, 0), (0, sl), (0, n), (0, z3), (0, a), (0, b), (0, c + 1), w7, w8, w9], [], C))) ?_ 7 174 _ ?_
      · rintro pc st (⟨rfl, rfl⟩)
        exact ih (c + 1) _ _ _ C (by omega) (by omega) (by omega) (hC.mono (by omega))
      · refine ⟨⟨by omega, by omega⟩, ?_⟩
        exact ⟨rfl, rfl⟩
    refine wq_ok srt_Mseed (fr := []) (cuts := [87, 180]) (J := fun pc st => (pc = 180 ∧ (n ≤ c) ∧ st = ([(2, 0), (0, sl), (0, n), (0, z3), (0, a), (0, b), (0, c), w7, w8, w9], [], B)) ∨ (pc = 87 ∧ (c < n) ∧ ∃ x1 : Int, ((x1 = 1 ∧ side (B 31 sl) (fcs B sl) a b) ∨ (x1 = 0 ∧ ¬ side (B 31 sl) (fcs B sl) a b)) ∧ st = ([(2, 0), (0, sl), (0, n), (0, z3), (0, a), (0, b), (0, c), w7, w8, w9], [(0, x1)], B))) ?_ 12 72 _ ?_
    · rintro pc st (⟨rfl, h0, rfl⟩ | ⟨rfl, h0, x1, hx1, rfl⟩)
      · exact H B _ _ _ _ (hJ.mono (by omega))
      · refine wq_ok srt_Mseed (fr := []) (cuts := [99, 174]) (J := fun pc st => (pc = 174 ∧ (x1 = 0) ∧ st = ([(2, 0), (0, sl), (0, n), (0, z3), (0, a), (0, b), (0, c), w7, w8, w9], [], B)) ∨ (pc = 99 ∧ (¬ x1 = 0) ∧ ∃ x2 : Int, ((x2 = 1 ∧ side (B 31 sl) (fcs B sl) b c) ∨ (x2 = 0 ∧ ¬ side (B 31 sl) (fcs B sl) b c)) ∧ st = ([(2, 0), (0, sl), (0, n), (0, z3), (0, a), (0, b), (0, c), w7, w8, w9], [(0, x2)], B))) ?_ 10 87 _ ?_
        · rintro pc st (⟨rfl, h0, rfl⟩ | ⟨rfl, h0, x2, hx2, rfl⟩)
          · exact h174 (by omega) B _ _ _ (hJ.mono (by omega))
          · refine wq_ok srt_Mseed (fr := []) (cuts := [111, 174]) (J := fun pc st => (pc = 174 ∧ (x2 = 0) ∧ st = ([(2, 0), (0, sl), (0, n), (0, z3), (0, a), (0, b), (0, c), w7, w8, w9], [], B)) ∨ (pc = 111 ∧ (¬ x2 = 0) ∧ ∃ x3 : Int, ((x3 = 1 ∧ side (B 31 sl) (fcs B sl) a c) ∨ (x3 = 0 ∧ ¬ side (B 31 sl) (fcs B sl) a c)) ∧ st = ([(2, 0), (0, sl), (0, n), (0, z3), (0, a), (0, b), (0, c), w7, w8, w9], [(0, x3)], B))) ?_ 10 99 _ ?_
            · rintro pc st (⟨rfl, h0, rfl⟩ | ⟨rfl, h0, x3, hx3, rfl⟩)
              · exact h174 (by omega) B _ _ _ (hJ.mono (by omega))
              · refine wq_ok srt_Mseed (fr := []) (cuts := [117, 174]) (J := fun pc st => (pc = 117 ∧ (¬ x3 = 0) ∧ st = ([(2, 0), (0, sl), (0, n), (0, z3), (0, a), (0, b), (0, c), w7, w8, w9], [], B)) ∨ (pc = 174 ∧ (x3 = 0) ∧ st = ([(2, 0), (0, sl), (0, n), (0, z3), (0, a), (0, b), (0, c), w7, w8, w9], [], B))) ?_ 7 111 _ ?_
                · rintro pc st (⟨rfl, h0, rfl⟩ | ⟨rfl, h0, rfl⟩)
                  · exact sde_117 hs hA hcut ⟨a0, ab, c0, by omega⟩ hJ (h174 (by omega))
                  · exact h174 (by omega) B _ _ _ (hJ.mono (by omega))
                · refine ⟨fun h0 => ?_, fun h0 => ?_⟩
                  · exact Or.inl (⟨rfl, h0, rfl⟩)
                  · exact Or.inr (⟨rfl, h0, rfl⟩)
            · refine ⟨fun h0 => ?_, fun h0 => ?_⟩
              · exact Or.inl (⟨rfl, h0, rfl⟩)
              · refine ⟨rM_0 (by omega) km0, ?_⟩
                refine (isSide_ex (A := B) (sl := sl) (x := a) (y := c) hJ.1.1 (by omega) (by omega) (by omega) (by omega) (by omega) (by omega)).imp ?_
                rintro ⟨r1, C⟩ ⟨q1, x3, q2, hx3⟩
                simp only at q1 q2
                subst q1
                subst q2
                exact Or.inr (⟨rfl, h0, x3, hx3, rfl⟩)
        · refine ⟨fun h0 => ?_, fun h0 => ?_⟩
          · exact Or.inl (⟨rfl, h0, rfl⟩)
          · refine ⟨rM_0 (by omega) km0, ?_⟩
            refine (isSide_ex (A := B) (sl := sl) (x := b) (y := c) hJ.1.1 (by omega) (by omega) (by omega) (by omega) (by omega) (by omega)).imp ?_
            rintro ⟨r1, C⟩ ⟨q1, x2, q2, hx2⟩
            simp only at q1 q2
            subst q1
            subst q2
            exact Or.inr (⟨rfl, h0, x2, hx2, rfl⟩)
    · refine ⟨fun h0 => ?_, fun h0 => ?_⟩
      · exact Or.inl (⟨rfl, h0, rfl⟩)
      · refine ⟨rM_0 (by omega) km0, ?_⟩
        refine (isSide_ex (A := B) (sl := sl) (x := a) (y := b) hJ.1.1 (by omega) (by omega) (by omega) (by omega) (by omega) (by omega)).imp ?_
        rintro ⟨r1, C⟩ ⟨q1, x1, q2, hx1⟩
        simp only at q1 q2
        subst q1
        subst q2
        exact Or.inr (⟨rfl, h0, x1, hx1, rfl⟩)
theorem sde_60 {A : pm_A} {sl n z3 a : Int} (hs : sl = 0 ∨ sl = 1) (hA : gH wM A) (hcut : cntF (fcs A sl) 100 ≤ 6) (n9 : n ≤ 9) (a0 : 0 ≤ a) (an : a < n) (H : ∀ C w5 w6 w7 w8 w9, sdJ A C sl (100 * a + 100) → Tm pmt (an_sh wM) o_X10_seed 186 ([(2, 0), (0, sl), (0, n), (0, z3), (0, a), w5, w6, w7, w8, w9], [], C) ri_post) : ∀ (m : Nat) (b : Int) (w6 w7 w8 w9 : pm_V) (B : pm_A), (10 - b).toNat < m → a < b → b ≤ 10 → sdJ A B sl (100 * a + 10 * b) → Tm pmt (an_sh wM) o_X10_seed 60 ([(2, 0), (0, sl), (0, n), (0, z3), (0, a), (0, b), w6, w7, w8, w9], [], B) ri_post := by
  intro m
  induction m with
  | zero => intro b w6 w7 w8 w9 B h; omega
  | succ m ih =>
    intro b w6 w7 w8 w9 B hm b0 b1 hJ
    have h180 : b < n → ∀ C w6 w7 w8 w9, sdJ A C sl (100 * a + 10 * b + 10) → Tm pmt (an_sh wM) o_X10_seed 180 ([(2, 0), (0, sl), (0, n), (0, z3), (0, a), (0, b), w6, w7, w8, w9], [], C) ri_post := fun hc C w6 w7 w8 w9 hC => by
      refine wq_ok srt_Mseed (fr := []) (cuts := [60]) (J := fun pc st => (pc = 60 ∧ st = ([(2, 0), (0, sl), (0, n), (0, z3), (0, a), (0, b + 1), w6, w7, w8, w9], [], C))) ?_ 7 180 _ ?_
      · rintro pc st (⟨rfl, rfl⟩)
        exact ih (b + 1) _ _ _ _ C (by omega) (by omega) (by omega) (hC.mono (by omega))
      · refine ⟨⟨by omega, by omega⟩, ?_⟩
        exact ⟨rfl, rfl⟩
    refine wq_ok srt_Mseed (fr := []) (cuts := [72, 186]) (J := fun pc st => (pc = 186 ∧ (n ≤ b) ∧ st = ([(2, 0), (0, sl), (0, n), (0, z3), (0, a), (0, b), w6, w7, w8, w9], [], B)) ∨ (pc = 72 ∧ (b < n) ∧ st = ([(2, 0), (0, sl), (0, n), (0, z3), (0, a), (0, b), (0, b + 1), w7, w8, w9], [], B))) ?_ 12 60 _ ?_
    · rintro pc st (⟨rfl, h0, rfl⟩ | ⟨rfl, h0, rfl⟩)
      · exact H B _ _ _ _ _ (hJ.mono (by omega))
      · exact sde_72 hs hA hcut n9 a0 b0 (by omega) (h180 (by omega)) _ (b + 1) _ _ _ B (Nat.lt_succ_self _) (by omega) (by omega) (hJ.mono (by omega))
    · refine ⟨fun h0 => ?_, fun h0 => ?_⟩
      · exact Or.inl (⟨rfl, h0, rfl⟩)
      · refine ⟨⟨by omega, by omega⟩, ?_⟩
        exact Or.inr (⟨rfl, h0, rfl⟩)
theorem sde_192 {A B : pm_A} {sl t : Int} (h : RI A) (hJ : sdJ A B sl t) {w1 w2 w3 w4 w5 w6 w7 w8 w9 : pm_V} : Tm pmt (an_sh wM) o_X10_seed 192 ([(2, 0), w1, w2, w3, w4, w5, w6, w7, w8, w9], [], B) ri_post := by
  have hB : RI B := hJ.1.ri h (fun j j0 j1 => by have := hJ.b9 j0 j1; omega)
  refine wq_ok srt_Mseed (fr := []) (cuts := [196]) (J := fun pc st => (pc = 196 ∧ ∃ C x, RI C ∧ st = ([(2, 0), w1, w2, w3, w4, w5, w6, w7, w8, w9], [(0, x)], C))) ?_ 6 192 _ ?_
  · rintro pc st (⟨rfl, C, x, q2, rfl⟩)
    refine wq_ok srt_Mseed (fr := []) (cuts := []) (J := fun _ _ => False) ?_ 8 196 _ ?_
    · intro pc st h; exact h.elim
    · refine ⟨fun h0 => ?_, fun h0 => ?_⟩
      · exact ⟨rfl, ⟨_, rfl⟩, q2⟩
      · exact ⟨rfl, ⟨_, rfl⟩, q2⟩
  · refine ⟨rM_0 (by omega) km0, ?_⟩
    refine (mbegin_ct hB).imp ?_
    rintro ⟨r1, C⟩ ⟨⟨x, q1⟩, q2⟩
    simp only at q1 q2
    subst q1
    exact ⟨rfl, C, x, q2, rfl⟩
theorem sde_48 {A : pm_A} {sl n z3 : Int} (h : RI A) (hs : sl = 0 ∨ sl = 1) (hcut : cntF (fcs A sl) 100 ≤ 6) (n9 : n ≤ 9) : ∀ (m : Nat) (a : Int) (w5 w6 w7 w8 w9 : pm_V) (B : pm_A), (10 - a).toNat < m → 0 ≤ a → a ≤ 10 → sdJ A B sl (100 * a) → Tm pmt (an_sh wM) o_X10_seed 48 ([(2, 0), (0, sl), (0, n), (0, z3), (0, a), w5, w6, w7, w8, w9], [], B) ri_post := by
  intro m
  induction m with
  | zero => intro a w5 w6 w7 w8 w9 B h; omega
  | succ m ih =>
    intro a w5 w6 w7 w8 w9 B hm a0 a1 hJ
    have h186 : a < n → ∀ C w5 w6 w7 w8 w9, sdJ A C sl (100 * a + 100) → Tm pmt (an_sh wM) o_X10_seed 186 ([(2, 0), (0, sl), (0, n), (0, z3), (0, a), w5, w6, w7, w8, w9], [], C) ri_post := fun hc C w5 w6 w7 w8 w9 hC => by
      refine wq_ok srt_Mseed (fr := []) (cuts := [48]) (J := fun pc st => (pc = 48 ∧ st = ([(2, 0), (0, sl), (0, n), (0, z3), (0, a + 1), w5, w6, w7, w8, w9], [], C))) ?_ 7 186 _ ?_
      · rintro pc st (⟨rfl, rfl⟩)
        exact ih (a + 1) _ _ _ _ _ C (by omega) (by omega) (by omega) (hC.mono (by omega))
      · refine ⟨⟨by omega, by omega⟩, ?_⟩
        exact ⟨rfl, rfl⟩
    refine wq_ok srt_Mseed (fr := []) (cuts := [60, 192]) (J := fun pc st => (pc = 192 ∧ (n ≤ a) ∧ st = ([(2, 0), (0, sl), (0, n), (0, z3), (0, a), w5, w6, w7, w8, w9], [], B)) ∨ (pc = 60 ∧ (a < n) ∧ st = ([(2, 0), (0, sl), (0, n), (0, z3), (0, a), (0, a + 1), w6, w7, w8, w9], [], B))) ?_ 12 48 _ ?_
    · rintro pc st (⟨rfl, h0, rfl⟩ | ⟨rfl, h0, rfl⟩)
      · exact sde_192 h hJ
      · exact sde_60 hs h.g hcut n9 a0 (by omega) (h186 (by omega)) _ (a + 1) _ _ _ _ B (Nat.lt_succ_self _) (by omega) (by omega) (hJ.mono (by omega))
    · refine ⟨fun h0 => ?_, fun h0 => ?_⟩
      · exact Or.inl (⟨rfl, h0, rfl⟩)
      · refine ⟨⟨by omega, by omega⟩, ?_⟩
        exact Or.inr (⟨rfl, h0, rfl⟩)
theorem sde_8 {A : pm_A} {sl : Int} (h : RI A) (hs : sl = 0 ∨ sl = 1) : Tm pmt (an_sh wM) o_X10_seed 8 ([(2, 0), (0, sl), (9, 0), (9, 0), (9, 0), (9, 0), (9, 0), (9, 0), (9, 0), (9, 0)], [], A) ri_post := by
  have c48 := pM_48 h.g
  have b31 := eM_31 h.g (r := 31) (by omega) kn31 (j := sl) (by omega) (by omega)
  refine wq_ok srt_Mseed (fr := []) (cuts := [13]) (J := fun pc st => (pc = 13 ∧ ∃ x : Int, ((x = 1 ∧ (cntF (fcs A sl) 100 = A 31 sl - 3)) ∨ (x = 0 ∧ ¬ (cntF (fcs A sl) 100 = A 31 sl - 3))) ∧ st = ([(2, 0), (0, sl), (9, 0), (9, 0), (9, 0), (9, 0), (9, 0), (9, 0), (9, 0), (9, 0)], [(0, x)], A))) ?_ 7 8 _ ?_
  · rintro pc st (⟨rfl, x, hx, rfl⟩)
    refine wq_ok srt_Mseed (fr := []) (cuts := [36]) (J := fun pc st => (pc = 36 ∧ (¬ x = 0) ∧ (¬ (A (A 0 48) sl) = 10) ∧ st = ([(2, 0), (0, sl), (0, A (A 0 48) sl), (9, 0), (9, 0), (9, 0), (9, 0), (9, 0), (9, 0), (9, 0)], [], A))) ?_ 17 13 _ ?_
    · rintro pc st (⟨rfl, h0, h1, rfl⟩)
      rw [c48] at h1 ⊢
      have hc : cntF (fcs A sl) 100 = A 31 sl - 3 := by
        rcases hx with ⟨_, e⟩ | ⟨e, _⟩
        · exact e
        · omega
      generalize A 31 sl = n at *
      refine wq_ok srt_Mseed (fr := []) (cuts := [44]) (J := fun pc st => (pc = 44 ∧ ∃ B, sdF A B ∧ (∀ j : Int, 0 ≤ j → j < 72 → B 7 j = 0) ∧ st = ([(2, 0), (0, sl), (0, n), (9, 0), (9, 0), (9, 0), (9, 0), (9, 0), (9, 0), (9, 0)], [(0, 1)], B))) ?_ 10 36 _ ?_
      · rintro pc st (⟨rfl, B, q3, q6, rfl⟩)
        refine wq_ok srt_Mseed (fr := []) (cuts := [48]) (J := fun pc st => (pc = 48 ∧ st = ([(2, 0), (0, sl), (0, n), (0, 1), (0, 0), (9, 0), (9, 0), (9, 0), (9, 0), (9, 0)], [], B))) ?_ 8 44 _ ?_
        · rintro pc st (⟨rfl, rfl⟩)
          exact sde_48 h hs (by omega) (by omega) _ 0 _ _ _ _ _ B (Nat.lt_succ_self _) (by omega) (by omega) ⟨q3, fun i j i0 i1 j0 j1 => by rw [q6 (6 * i + j) (by omega) (by omega)]; exact ⟨by omega, Or.inl rfl⟩⟩
        · exact ⟨rfl, rfl⟩
      · refine ⟨⟨by omega, by omega⟩, ?_⟩
        refine ⟨rM_0 (by omega) km0, ?_⟩
        refine (table_ex h.g (n - 3) 0).imp ?_
        rintro ⟨r1, B⟩ (⟨q1, q2, q3⟩ | ⟨q1, q2, q3, q4, q5, q6⟩)
        · simp only at q1 q2
          exact absurd (show okT (n - 3) 0 from ⟨⟨by omega, by omega⟩, by omega, by omega⟩) q3
        · simp only at q1 q3 q6
          subst q1
          exact ⟨rfl, B, q3, q6, rfl⟩
    · refine ⟨fun h0 => ?_, fun h0 => ?_⟩
      · exact ⟨rfl, ⟨_, rfl⟩, h⟩
      · refine ⟨oM_0 (by omega) km0 48 rfl, ?_⟩
        refine ⟨aM_31 (r := A 0 48) (by rw [c48]; omega) (by rw [c48]; exact kn31) (by omega) (by omega), ?_⟩
        have e1 : A (A 0 48) sl = A 31 sl := by rw [c48]
        refine ⟨fun h1 => ?_, fun h1 => ?_⟩
        · refine ⟨oM_0 (by omega) km0 48 rfl, ?_⟩
          refine ⟨aM_31 (r := A 0 48) (by rw [c48]; omega) (by rw [c48]; exact kn31) (by omega) (by omega), ?_⟩
          have e2 : A (A 0 48) sl = A 31 sl := by rw [c48]
          exact ⟨rfl, h0, h1, rfl⟩
        · exact ⟨rfl, ⟨_, rfl⟩, h⟩
  · refine ⟨rM_0 (by omega) km0, ?_⟩
    refine (isCutting_ex h.g (sl := sl) (by omega) (by omega)).imp ?_
    rintro ⟨r1, C⟩ ⟨q1, x, q2, hx⟩
    simp only at q1 q2
    subst q1
    subst q2
    exact ⟨rfl, x, hx, rfl⟩
theorem mseed_ct {A : pm_A} (h : RI A) (sl : Int) : Cl pmt (an_sh wM) 183 [(2, 0), (0, sl)] A ri_post := by
  refine Cl.of (Nat.le_of_ble_eq_true rfl) ?_
  refine wq_ok (full := o_X10_seed) srt_Mseed (fr := []) (cuts := [5]) (J := fun pc st => (pc = 5 ∧ ∃ x : Int, ((x = 1 ∧ (sl = 0 ∨ sl = 1)) ∨ (x = 0 ∧ ¬ (sl = 0 ∨ sl = 1))) ∧ st = ([(2, 0), (0, sl), (9, 0), (9, 0), (9, 0), (9, 0), (9, 0), (9, 0), (9, 0), (9, 0)], [(0, x)], A))) ?_ 7 0 _ ?_
  · rintro pc st (⟨rfl, x, hx, rfl⟩)
    refine wq_ok srt_Mseed (fr := []) (cuts := [8]) (J := fun pc st => (pc = 8 ∧ (¬ x = 0) ∧ st = ([(2, 0), (0, sl), (9, 0), (9, 0), (9, 0), (9, 0), (9, 0), (9, 0), (9, 0), (9, 0)], [], A))) ?_ 7 5 _ ?_
    · rintro pc st (⟨rfl, h0, rfl⟩)
      refine sde_8 h ?_
      rcases hx with ⟨_, e⟩ | ⟨e, _⟩
      · exact e
      · omega
    · refine ⟨fun h0 => ?_, fun h0 => ?_⟩
      · exact ⟨rfl, ⟨_, rfl⟩, h⟩
      · exact ⟨rfl, h0, rfl⟩
  · refine ⟨rM_0 (by omega) km0, ?_⟩
    refine (MisSlot_ex).imp ?_
    rintro ⟨r1, C⟩ ⟨q1, x, q2, hx⟩
    simp only at q1 q2
    subst q1
    subst q2
    exact ⟨rfl, x, hx, rfl⟩
