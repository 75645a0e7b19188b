/-! way: fences' bits -/
theorem okZ {x : Int} (h0 : 0 ≤ x) (h1 : x ≤ 1) : pm_okt 2 (0, x) = true := by
  rcases (show x = 0 ∨ x = 1 by omega) with rfl | rfl <;> rfl
def wyF (A B : pm_A) : Prop := gH wM B ∧ ∀ r j : Int, (r < 33 ∨ 38 < r) → ¬ (r = 0 ∧ (j = 54 ∨ j = 55)) → B r j = A r j
def b1I (n : Int) (bm bf : Int → Int) (f m : Int) : Prop := m = cntF (vdc n) f.toNat ∧ (∀ g : Int, 0 ≤ g → g < f → (vdF n g ∧ 0 ≤ bm g ∧ bm g < m ∧ bf (bm g) = g) ∨ (¬ vdF n g ∧ bm g = -1)) ∧ ∀ b : Int, 0 ≤ b → b < m → 0 ≤ bf b ∧ bf b < f ∧ bm (bf b) = b
theorem b1I.skip {n f m : Int} {bm bf : Int → Int} (h : b1I n bm bf f m) (f0 : 0 ≤ f) (hv : ¬ vdF n f) (hf : bm f = -1) : b1I n bm bf (f + 1) m := by
  obtain ⟨h1, h2, h3⟩ := h
  have z : vdc n f = 0 := Classical.byContradiction (fun k => hv (vdc_v.1 k))
  refine ⟨?_, fun g g0 g1 => ?_, fun b b0 b1 => ?_⟩
  · rw [show (f + 1).toNat = f.toNat + 1 by omega, cntF_s, ← h1]
    unfold iz
    rw [Int.toNat_of_nonneg f0, if_pos z]; omega
  · by_cases e : g = f
    · rw [e]; exact Or.inr ⟨hv, hf⟩
    · exact h2 g g0 (by omega)
  · have := h3 b b0 b1
    exact ⟨this.1, by omega, this.2.2⟩
theorem b1I.take {n f m : Int} {bm bf bm' bf' : Int → Int} (h : b1I n bm bf f m) (f0 : 0 ≤ f) (hv : vdF n f) (e1 : bm' f = m) (e2 : ∀ g, g ≠ f → bm' g = bm g) (e3 : bf' m = f) (e4 : ∀ b, b ≠ m → bf' b = bf b) : b1I n bm' bf' (f + 1) (m + 1) := by
  obtain ⟨h1, h2, h3⟩ := h
  have hm := cntF_b (vdc n) f.toNat
  have z : ¬ vdc n f = 0 := vdc_v.2 hv
  refine ⟨?_, fun g g0 g1 => ?_, fun b b0 b1 => ?_⟩
  · rw [show (f + 1).toNat = f.toNat + 1 by omega, cntF_s, ← h1]
    unfold iz
    rw [Int.toNat_of_nonneg f0, if_neg z]
  · by_cases e : g = f
    · rw [e, e1]; exact Or.inl ⟨hv, by omega, by omega, e3⟩
    · rw [e2 g e]
      refine (h2 g g0 (by omega)).imp (fun ⟨k1, k2, k3, k4⟩ => ⟨k1, k2, by omega, ?_⟩) id
      rw [e4 _ (by omega)]; exact k4
  · by_cases e : b = m
    · rw [e, e3]; exact ⟨f0, by omega, e1⟩
    · rw [e4 b e]
      have k := h3 b b0 (by omega)
      exact ⟨k.1, by omega, by rw [e2 _ (by omega)]; exact k.2.2⟩
theorem b1I.m34 {n f m : Int} {bm bf : Int → Int} (h : b1I n bm bf f m) (n0 : 4 ≤ n) (n1 : n ≤ 10) (f0 : 0 ≤ f) (f1 : f < 100) (hv : vdF n f) : 0 ≤ m ∧ m ≤ 34 := by
  have a := cntF_lt (vdc n) (show f.toNat < 100 by omega) (by rw [Int.toNat_of_nonneg f0]; exact vdc_v.2 hv)
  have b := vdc_35 ⟨n.toNat, by omega⟩
  simp only at b
  rw [Int.toNat_of_nonneg (by omega)] at b
  have c := cntF_b (vdc n) f.toNat
  have := h.1
  omega
theorem b1I.bmS {n m : Int} {bm bf : Int → Int} (h : b1I n bm bf 100 m) (n0 : 4 ≤ n) (n1 : n ≤ 10) : bmS n bm bf m := by
  have b := vdc_35 ⟨n.toNat, by omega⟩
  simp only at b
  rw [Int.toNat_of_nonneg (by omega)] at b
  have := h.1
  exact ⟨by rw [this]; exact b, h.2.1, h.2.2⟩
theorem srt_Mway : pm_srt o_X10_way = true := by decide +kernel
theorem wy_94 {A B : pm_A} {n m f : Int} (hB : wyF A B) (h : b1I n (B 33) (B 34) f m) (n0 : 4 ≤ n) (n1 : n ≤ 10) (f0 : 0 ≤ f) (f1 : f < 100) (hv : vdF n f) (H : ∀ (C : pm_A) (m' : Int), wyF A C → b1I n (C 33) (C 34) (f + 1) m' → Tm pmt (an_sh wM) o_X10_way 44 ([(2, 0), (0, n), (0, m'), (0, f + 1), (9, 0), (9, 0), (9, 0), (9, 0), (9, 0), (9, 0)], [], C) ri_post) : Tm pmt (an_sh wM) o_X10_way 94 ([(2, 0), (0, n), (0, m), (0, f), (9, 0), (9, 0), (9, 0), (9, 0), (9, 0), (9, 0)], [], B) ri_post := by
  have hm := h.m34 n0 n1 f0 f1 hv
  have c50 := pM_50 hB.1
  have h101 : ∀ C, C = pm_upd B 33 f m → Tm pmt (an_sh wM) o_X10_way 101 ([(2, 0), (0, n), (0, m), (0, f), (9, 0), (9, 0), (9, 0), (9, 0), (9, 0), (9, 0)], [], C) ri_post := fun C hC => by
    have hg : gH wM C := by rw [hC]; exact uM_33 hB.1 kn33 (by omega) (by omega)
    have c51 := pM_51 hg
    refine wq_ok srt_Mway (fr := []) (cuts := [44]) (J := fun pc st => (pc = 44 ∧ st = ([(2, 0), (0, n), (0, m + 1), (0, f + 1), (9, 0), (9, 0), (9, 0), (9, 0), (9, 0), (9, 0)], [], pm_upd C (C 0 51) m f))) ?_ 13 101 _ ?_
    · rintro pc st (⟨rfl, rfl⟩)
      rw [c51]
      refine H _ _ ⟨uM_34 hg kn34 (by omega) (by omega), fun r j h1 h2 => by rw [upd_o (by omega), hC, upd_o (by omega)]; exact hB.2 r j h1 h2⟩ ?_
      refine h.take f0 hv ?_ (fun g hg => ?_) ?_ (fun b hb => ?_)
      · rw [upd_o (by omega), hC, upd_at]
      · rw [upd_o (by omega), hC, upd_o (by omega)]
      · rw [upd_at]
      · rw [upd_o (by omega), hC, upd_o (by omega)]
    · refine ⟨oM_0 (by omega) km0 51 rfl, ?_⟩
      refine ⟨tM_34 (r := C 0 51) (by rw [c51]; omega) (by rw [c51]; exact kn34) (by omega) (by omega) rfl, ?_⟩
      refine ⟨⟨by omega, by omega⟩, ?_⟩
      refine ⟨⟨by omega, by omega⟩, ?_⟩
      exact ⟨rfl, rfl⟩
  refine wq_ok srt_Mway (fr := []) (cuts := [101]) (J := fun pc st => (pc = 101 ∧ st = ([(2, 0), (0, n), (0, m), (0, f), (9, 0), (9, 0), (9, 0), (9, 0), (9, 0), (9, 0)], [], pm_upd B (B 0 50) f m))) ?_ 10 94 _ ?_
  · rintro pc st (⟨rfl, rfl⟩)
    rw [c50]
    exact h101 _ rfl
  · refine ⟨oM_0 (by omega) km0 50 rfl, ?_⟩
    refine ⟨tM_33 (r := B 0 50) (by rw [c50]; omega) (by rw [c50]; exact kn33) (by omega) (by omega) rfl, ?_⟩
    exact ⟨rfl, rfl⟩
theorem wy_57 {A B : pm_A} {n m f : Int} (hB : wyF A B) (h : b1I n (B 33) (B 34) f m) (hf : B 33 f = -1) (n0 : 4 ≤ n) (n1 : n ≤ 10) (f0 : 0 ≤ f) (f1 : f < 100) (H : ∀ (C : pm_A) (m' : Int), wyF A C → b1I n (C 33) (C 34) (f + 1) m' → Tm pmt (an_sh wM) o_X10_way 44 ([(2, 0), (0, n), (0, m'), (0, f + 1), (9, 0), (9, 0), (9, 0), (9, 0), (9, 0), (9, 0)], [], C) ri_post) : Tm pmt (an_sh wM) o_X10_way 57 ([(2, 0), (0, n), (0, m), (0, f), (9, 0), (9, 0), (9, 0), (9, 0), (9, 0), (9, 0)], [], B) ri_post := by
  have sk : ¬ vdF n f → Tm pmt (an_sh wM) o_X10_way 44 ([(2, 0), (0, n), (0, m), (0, f + 1), (9, 0), (9, 0), (9, 0), (9, 0), (9, 0), (9, 0)], [], B) ri_post := fun hv => H B m hB (h.skip f0 hv hf)
  refine wq_ok srt_Mway (fr := []) (cuts := [44, 88]) (J := fun pc st => (pc = 44 ∧ ((f % 10) ≤ (f / 10)) ∧ st = ([(2, 0), (0, n), (0, m), (0, f + 1), (9, 0), (9, 0), (9, 0), (9, 0), (9, 0), (9, 0)], [], B)) ∨ (pc = 44 ∧ ((f / 10) < (f % 10)) ∧ (n ≤ (f % 10)) ∧ st = ([(2, 0), (0, n), (0, m), (0, f + 1), (9, 0), (9, 0), (9, 0), (9, 0), (9, 0), (9, 0)], [], B)) ∨ (pc = 88 ∧ ((f / 10) < (f % 10)) ∧ ((f % 10) < n) ∧ ∃ z : Int, ((z = 1 ∧ neigh n (f / 10) (f % 10)) ∨ (z = 0 ∧ ¬ neigh n (f / 10) (f % 10))) ∧ st = ([(2, 0), (0, n), (0, m), (0, f), (9, 0), (9, 0), (9, 0), (9, 0), (9, 0), (9, 0)], [(0, z)], B))) ?_ 24 57 _ ?_
  · rintro pc st (⟨rfl, h0, rfl⟩ | ⟨rfl, h0, h1, rfl⟩ | ⟨rfl, h0, h1, z, hz, rfl⟩)
    · exact sk (fun hv => by have a := hv.1; have b := hv.2.1; omega)
    · exact sk (fun hv => by have a := hv.1; have b := hv.2.1; omega)
    · have g0 : f / 10 < f % 10 := by assumption
      have g1 : f % 10 < n := by assumption
      refine wq_ok srt_Mway (fr := []) (cuts := [44, 94]) (J := fun pc st => (pc = 94 ∧ (z = 0) ∧ st = ([(2, 0), (0, n), (0, m), (0, f), (9, 0), (9, 0), (9, 0), (9, 0), (9, 0), (9, 0)], [], B)) ∨ (pc = 44 ∧ (¬ z = 0) ∧ st = ([(2, 0), (0, n), (0, m), (0, f + 1), (9, 0), (9, 0), (9, 0), (9, 0), (9, 0), (9, 0)], [], B))) ?_ 9 88 _ ?_
      · rintro pc st (⟨rfl, h0, rfl⟩ | ⟨rfl, h0, rfl⟩)
        · refine wy_94 hB h n0 n1 f0 f1 ⟨g0, g1, ?_⟩ H
          rcases hz with ⟨e, _⟩ | ⟨_, e⟩
          · omega
          · exact e
        · refine sk (fun hv => hv.2.2 ?_)
          rcases hz with ⟨_, e⟩ | ⟨e, _⟩
          · exact e
          · omega
      · refine ⟨fun h0 => ?_, fun h0 => ?_⟩
        · exact Or.inl (⟨rfl, h0, rfl⟩)
        · refine ⟨⟨by omega, by omega⟩, ?_⟩
          exact Or.inr (⟨rfl, h0, rfl⟩)
  · refine ⟨⟨by omega, by omega, by omega, by omega⟩, ?_⟩
    refine ⟨⟨by omega, by omega, by omega, by omega⟩, ?_⟩
    refine ⟨fun h0 => ?_, fun h0 => ?_⟩
    · refine ⟨⟨by omega, by omega⟩, ?_⟩
      exact Or.inl (⟨rfl, h0, rfl⟩)
    · refine ⟨⟨by omega, by omega, by omega, by omega⟩, ?_⟩
      refine ⟨fun h1 => ?_, fun h1 => ?_⟩
      · refine ⟨⟨by omega, by omega⟩, ?_⟩
        exact Or.inr (Or.inl (⟨rfl, h0, h1, rfl⟩))
      · refine ⟨⟨by omega, by omega, by omega, by omega⟩, ?_⟩
        refine ⟨⟨by omega, by omega, by omega, by omega⟩, ?_⟩
        refine ⟨rfl, ?_⟩
        refine (MareNeighbours_ex (n := n) (x := f / 10) (y := f % 10) n0 n1 (by omega) (by omega) (by omega) (by omega)).imp ?_
        rintro ⟨r1, C⟩ ⟨q1, z, q2, hz⟩
        simp only at q1 q2
        subst q1
        subst q2
        exact Or.inr (Or.inr (⟨rfl, h0, h1, z, hz, rfl⟩))
theorem wy_44 {A : pm_A} {n : Int} (n0 : 4 ≤ n) (n1 : n ≤ 10) (H : ∀ (C : pm_A) (m : Int), wyF A C → bmS n (C 33) (C 34) m → 0 ≤ m → Tm pmt (an_sh wM) o_X10_way 117 ([(2, 0), (0, n), (0, m), (0, 100), (9, 0), (9, 0), (9, 0), (9, 0), (9, 0), (9, 0)], [], C) ri_post) : ∀ (k : Nat) (f m : Int) (B : pm_A), (100 - f).toNat < k → 0 ≤ f → f ≤ 100 → wyF A B → b1I n (B 33) (B 34) f m → Tm pmt (an_sh wM) o_X10_way 44 ([(2, 0), (0, n), (0, m), (0, f), (9, 0), (9, 0), (9, 0), (9, 0), (9, 0), (9, 0)], [], B) ri_post := by
  intro k
  induction k with
  | zero => intro f m B h; omega
  | succ k ih =>
    intro f m B hk f0 f1 hB h
    have c50 := pM_50 hB.1
    have hm := cntF_b (vdc n) f.toNat
    have hm1 := h.1
    refine wq_ok srt_Mway (fr := []) (cuts := [57, 117]) (J := fun pc st => (pc = 117 ∧ (100 ≤ f) ∧ st = ([(2, 0), (0, n), (0, m), (0, f), (9, 0), (9, 0), (9, 0), (9, 0), (9, 0), (9, 0)], [], B)) ∨ (pc = 57 ∧ (f < 100) ∧ st = ([(2, 0), (0, n), (0, m), (0, f), (9, 0), (9, 0), (9, 0), (9, 0), (9, 0), (9, 0)], [], pm_upd B (B 0 50) f ((-1))))) ?_ 13 44 _ ?_
    · rintro pc st (⟨rfl, h0, rfl⟩ | ⟨rfl, h0, rfl⟩)
      · have e : f = 100 := by omega
        subst e
        exact H B m hB (h.bmS n0 n1) (by omega)
      · rw [c50]
        refine wy_57 (B := pm_upd B 33 f (-1)) ⟨uM_33 hB.1 kn33 (by omega) (by omega), fun r j h1 h2 => by rw [upd_o (by omega)]; exact hB.2 r j h1 h2⟩ ?_ (by rw [upd_at]) n0 n1 f0 (by omega) (fun C m' hC h => ih (f + 1) m' C (by omega) (by omega) (by omega) hC h)
        refine ⟨h.1, fun g g0 g1 => ?_, fun b b0 b1 => ?_⟩
        · have e : pm_upd B 33 f (-1) 33 g = B 33 g := upd_o (by omega)
          rw [e]
          exact (h.2.1 g g0 g1).imp (fun ⟨a1, a2, a3, a4⟩ => ⟨a1, a2, a3, by rw [upd_o (by omega)]; exact a4⟩) id
        · have a := h.2.2 b b0 b1
          have e : pm_upd B 33 f (-1) 34 b = B 34 b := upd_o (by omega)
          rw [e]
          exact ⟨a.1, a.2.1, by rw [upd_o (by omega)]; exact a.2.2⟩
    · refine ⟨fun h0 => ?_, fun h0 => ?_⟩
      · exact Or.inl (⟨rfl, h0, rfl⟩)
      · refine ⟨oM_0 (by omega) km0 50 rfl, ?_⟩
        refine ⟨tM_33 (r := B 0 50) (by rw [c50]; omega) (by rw [c50]; exact kn33) (by omega) (by omega) rfl, ?_⟩
        exact Or.inr (⟨rfl, h0, rfl⟩)
theorem wy_119 {A : pm_A} {n m : Int} {bm bf : Int → Int} (H : ∀ (C : pm_A) (i : Int), wyF A C → C 33 = bm → C 34 = bf → (∀ i : Int, 0 ≤ i → i < 200 → C 38 i = A 32 i) → Tm pmt (an_sh wM) o_X10_way 144 ([(2, 0), (0, n), (0, m), (0, i), (9, 0), (9, 0), (9, 0), (9, 0), (9, 0), (9, 0)], [], C) ri_post) : ∀ (k : Nat) (i : Int) (B : pm_A), (200 - i).toNat < k → 0 ≤ i → i ≤ 200 → wyF A B → B 33 = bm → B 34 = bf → (∀ j : Int, 0 ≤ j → j < i → B 38 j = A 32 j) → Tm pmt (an_sh wM) o_X10_way 119 ([(2, 0), (0, n), (0, m), (0, i), (9, 0), (9, 0), (9, 0), (9, 0), (9, 0), (9, 0)], [], B) ri_post := by
  intro k
  induction k with
  | zero => intro i B h; omega
  | succ k ih =>
    intro i B hk i0 i1 hB e33 e34 hs
    have c49 := pM_49 hB.1
    have c57 := pM_57 hB.1
    have b32 : i < 200 → 0 ≤ B 32 i ∧ B 32 i ≤ 1 := fun h => eM_32 hB.1 (r := 32) (by omega) kn32 i0 h
    refine wq_ok srt_Mway (fr := []) (cuts := [119, 144]) (J := fun pc st => (pc = 144 ∧ (200 ≤ i) ∧ st = ([(2, 0), (0, n), (0, m), (0, i), (9, 0), (9, 0), (9, 0), (9, 0), (9, 0), (9, 0)], [], B)) ∨ (pc = 119 ∧ (i < 200) ∧ st = ([(2, 0), (0, n), (0, m), (0, i + 1), (9, 0), (9, 0), (9, 0), (9, 0), (9, 0), (9, 0)], [], pm_upd B (B 0 57) i (B (B 0 49) i)))) ?_ 18 119 _ ?_
    · rintro pc st (⟨rfl, h0, rfl⟩ | ⟨rfl, h0, rfl⟩)
      · exact H B i hB e33 e34 (fun j j0 j1 => hs j j0 (by omega))
      · rw [c57, c49]
        have b := b32 (by omega)
        refine ih (i + 1) _ (by omega) (by omega) (by omega) ⟨uM_38 hB.1 kn38 b.1 b.2, fun r j h1 h2 => by rw [upd_o (by omega)]; exact hB.2 r j h1 h2⟩ (by rw [← e33]; funext j; exact upd_o (by omega)) (by rw [← e34]; funext j; exact upd_o (by omega)) (fun j j0 j1 => ?_)
        by_cases e : j = i
        · rw [e, upd_at]; exact hB.2 32 i (by omega) (by omega)
        · rw [upd_o (by omega)]; exact hs j j0 (by omega)
    · refine ⟨fun h0 => ?_, fun h0 => ?_⟩
      · exact Or.inl (⟨rfl, h0, rfl⟩)
      · refine ⟨oM_0 (by omega) km0 57 rfl, ?_⟩
        refine ⟨oM_0 (by omega) km0 49 rfl, ?_⟩
        refine ⟨aM_32 (r := B 0 49) (by rw [c49]; omega) (by rw [c49]; exact kn32) (by omega) (by omega), ?_⟩
        have e1 : B (B 0 49) i = B 32 i := by rw [c49]
        refine ⟨tM_38 (r := B 0 57) (by rw [c57]; omega) (by rw [c57]; exact kn38) (by omega) (by omega) (okZ (by rw [c49]; exact (b32 (by omega)).1) (by rw [c49]; exact (b32 (by omega)).2)), ?_⟩
        refine ⟨⟨by omega, by omega⟩, ?_⟩
        exact Or.inr (⟨rfl, h0, rfl⟩)
