/-! way: the way itself -/
set_option maxRecDepth 10000 in
theorem wy_474 {A : pm_A} {n m bg here wm : Int} {bm bf V fa : Int → Int} {cm : Int} (hA : RI A) : ∀ (k : Nat) (i : Int) (w7 w8 w9 : pm_V) (B : pm_A), (200 - i).toNat < k → 0 ≤ i → i ≤ 200 → wyS A B n bm bf V fa cm wm → (∀ j : Int, 0 ≤ j → j < i → B 32 j = A 32 j) → Tm pmt (an_sh wM) o_X10_way 474 ([(2, 0), (0, n), (0, m), (1, bg), (9, 0), (0, here), (0, i), w7, w8, w9], [], B) ri_post := by
  intro k
  induction k with
  | zero => intro i w7 w8 w9 B h; omega
  | succ k ih =>
    intro i w7 w8 w9 B hk i0 i1 hw hs
    have hw0 := hw
    obtain ⟨h1, h2, h3, h4, h5, h6, h7, h8, h9, h10⟩ := hw
    have c49 := pM_49 h1
    have c57 := pM_57 h1
    have b38 : i < 200 → 0 ≤ B 38 i ∧ B 38 i ≤ 1 := fun h => eM_38 h1 (r := 38) (by omega) kn38 i0 h
    have fin : 200 ≤ i → RI B := fun hi => hA.ring h1 (fun r j a1 a2 a3 a4 a5 a6 a7 a8 a9 => h2 r j (by omega) a9) (fun t ht => by
      rw [h2 31 t (by omega) (by omega)]
      exact rgS_congr (hA.2.2 t ht) (fun x x0 x1 => hs _ (by omega) (by omega)))
    refine wq_ok srt_Mway (fr := []) (cuts := [474]) (J := fun pc st => (pc = 474 ∧ (i < 200) ∧ st = ([(2, 0), (0, n), (0, m), (1, bg), (9, 0), (0, here), (0, i + 1), w7, w8, w9], [], pm_upd B (B 0 49) i (B (B 0 57) i)))) ?_ 18 474 _ ?_
    · rintro pc st (⟨rfl, h0, rfl⟩)
      rw [c49, c57]
      have b := b38 (by omega)
      refine ih (i + 1) _ _ _ _ (by omega) (by omega) (by omega) (hw0.c32 (uM_32 h1 kn32 b.1 b.2) (fun q j hq => upd_o (by omega))) (fun j j0 j1 => ?_)
      by_cases e : j = i
      · rw [e, upd_at]; exact h9 i i0 (by omega)
      · rw [upd_o (by omega)]; exact hs j j0 (by omega)
    · refine ⟨fun h0 => ?_, fun h0 => ?_⟩
      · refine ⟨oM_0 (by omega) km0 55 rfl, ?_⟩
        exact ⟨rfl, ⟨_, rfl⟩, fin (by omega)⟩
      · refine ⟨oM_0 (by omega) km0 49 rfl, ?_⟩
        refine ⟨oM_0 (by omega) km0 57 rfl, ?_⟩
        refine ⟨aM_38 (r := B 0 57) (by rw [c57]; omega) (by rw [c57]; exact kn38) (by omega) (by omega), ?_⟩
        have e1 : B (B 0 57) i = B 38 i := by rw [c57]
        refine ⟨tM_32 (r := B 0 49) (by rw [c49]; omega) (by rw [c49]; exact kn32) (by omega) (by omega) (okZ (by rw [c57]; exact (b38 (by omega)).1) (by rw [c57]; exact (b38 (by omega)).2)), ?_⟩
        refine ⟨⟨by omega, by omega⟩, ?_⟩
        exact ⟨rfl, h0, rfl⟩
def dnI (n : Int) (bm bf : Int → Int) (m : Int) (V fa : Int → Int) (cm here th b : Int) : Prop := (th = -1 ∧ ∀ b' w e : Int, b < b' → b' < m → mfl n bm bf (V here) b' w → 0 ≤ e → e < cm → V e = w → ¬ fa e = fa here - 1) ∨ (0 ≤ th ∧ th < cm ∧ fa th = fa here - 1)
theorem lsI.at {n m cm : Int} {bm bf V fa : Int → Int} (h : lsI n bm bf m V fa cm) {c d : Int} (c0 : 0 ≤ c) (c1 : c < cm) (d0 : 0 ≤ d) (d1 : d < cm) (e : V c = V d) : c = d := by
  have k := h.2.2.2.1
  rcases (show c < d ∨ c = d ∨ d < c by omega) with l | l | l
  · exact absurd e (k c d c0 l d1)
  · exact l
  · exact absurd e.symm (k d c d0 l c1)
theorem dnI.end {n m cm here th b : Int} {bm bf V fa : Int → Int} (hb : bmS n bm bf m) (hl : lsI n bm bf m V fa cm) (h : dnI n bm bf m V fa cm here th b) (hb0 : b < 0) (p0 : 0 ≤ here) (p1 : here < cm) (hf : 0 < fa here) : 0 ≤ th ∧ th < cm ∧ fa th = fa here - 1 := by
  rcases h with ⟨_, h⟩ | h
  · have hne : 0 < here := by
      rcases (show here = 0 ∨ 0 < here by omega) with e | e
      · rw [e, hl.2.1] at hf; omega
      · exact e
    obtain ⟨p, b1, q0, q1, q2, q3, q4, q5⟩ := hl.2.2.2.2.1 here hne p1
    obtain ⟨b2, y0, y1, y2⟩ := mfl_sym hb q2 q3 q5
    exact absurd (by omega) (h b2 (V p) p (by omega) y1 y2 q0 (by omega) rfl)
  · exact h
set_option maxRecDepth 10000 in
theorem wy_425 {A B : pm_A} {n m bg here th b cc cm wm : Int} {bm bf V fa : Int → Int} (hw : wyS A B n bm bf V fa cm wm) (hb : bmS n bm bf m) (h : bfsI n bm bf m V fa cm cc 0) (hcc : cm ≤ cc) (p0 : 0 ≤ here) (p1 : here < cm) (b0 : 0 ≤ b) (b1 : b < m) (w0 : 0 ≤ wm) (w1 : wm < 64) (hd : dnI n bm bf m V fa cm here th b) {g x : Int} (x0 : 0 ≤ x) (x1 : x < cm) (hx : fa x = fa here - 1) (H : ∀ (C : pm_A) (th' : Int) (w8 w9 : pm_V), wyS A C n bm bf V fa cm wm → dnI n bm bf m V fa cm here th' (b - 1) → Tm pmt (an_sh wM) o_X10_way 341 ([(2, 0), (0, n), (0, m), (1, bg), (9, 0), (0, here), (0, th'), (0, b + (-1)), w8, w9], [], C) ri_post) : Tm pmt (an_sh wM) o_X10_way 425 ([(2, 0), (0, n), (0, m), (1, bg), (9, 0), (0, here), (0, th), (0, b), (0, g), (0, x)], [], B) ri_post := by
  have hm := hb.1
  have hw0 := hw
  obtain ⟨h1, h2, h3, h4, h5, h6, h7, h8, h9, h10⟩ := hw
  have c51 := pM_51 h1
  have c56 := pM_56 h1
  obtain ⟨d0, d1, _⟩ := hb.2.2 b b0 b1
  have ef : B (B 0 51) b = bf b := by rw [c51, h4]
  refine wq_ok srt_Mway (fr := []) (cuts := [447]) (J := fun pc st => (pc = 447 ∧ ∃ z, 0 ≤ z ∧ z ≤ 999 ∧ st = ([(2, 0), (0, n), (0, m), (1, bg), (9, 0), (0, here), (0, x), (0, b), (0, g), (0, x)], [(0, z), (0, B 0 55), (2, B 0 56)], B))) ?_ 15 425 _ ?_
  · rintro pc st (⟨rfl, z, z0, z1, rfl⟩)
    refine wq_ok srt_Mway (fr := []) (cuts := [341]) (J := fun pc st => (pc = 341 ∧ st = ([(2, 0), (0, n), (0, m), (1, bg), (9, 0), (0, here), (0, x), (0, b + (-1)), (0, g), (0, x)], [], pm_upd B (B 0 56) (B 0 55) z))) ?_ 8 447 _ ?_
    · rintro pc st (⟨rfl, rfl⟩)
      rw [c56]
      exact H _ x _ _ ⟨uM_37 h1 kn37 (by omega) (by omega), fun r j a1 a2 => by rw [upd_o (by omega)]; exact h2 r j a1 a2, by rw [← h3]; funext j; exact upd_o (by omega), by rw [← h4]; funext j; exact upd_o (by omega), by rw [← h5]; funext j; exact upd_o (by omega), by rw [← h6]; funext j; exact upd_o (by omega), by rw [upd_o (by omega)]; exact h7, by rw [upd_o (by omega)]; exact h8, fun i i0 i1 => by rw [upd_o (by omega)]; exact h9 i i0 i1, h10⟩ (Or.inr ⟨x0, x1, hx⟩)
    · refine ⟨tM_37 (r := B 0 56) (by rw [c56]; omega) (by rw [c56]; exact kn37) (by omega) (by omega) rfl, ?_⟩
      refine ⟨⟨by omega, by omega⟩, ?_⟩
      exact ⟨rfl, rfl⟩
  · refine ⟨oM_0 (by omega) km0 56 rfl, ?_⟩
    refine ⟨oM_0 (by omega) km0 55 rfl, ?_⟩
    refine ⟨oM_0 (by omega) km0 51 rfl, ?_⟩
    refine ⟨aM_34 (r := B 0 51) (by rw [c51]; omega) (by rw [c51]; exact kn34) (by omega) (by omega), ?_⟩
    have e1 : B (B 0 51) b = B 34 b := by rw [c51]
    refine ⟨rfl, ?_⟩
    rw [ef]
    refine (named_ex d0 (by omega)).imp ?_
    rintro ⟨r1, D⟩ ⟨q1, z, q2, z0, z1⟩
    simp only at q1 q2
    subst q1
    subst q2
    exact ⟨rfl, z, z0, z1, rfl⟩
set_option maxRecDepth 10000 in
theorem wy_366 {A B : pm_A} {n m bg here th b cc cm wm : Int} {bm bf V fa : Int → Int} (hw : wyS A B n bm bf V fa cm wm) (hb : bmS n bm bf m) (h : bfsI n bm bf m V fa cm cc 0) (hcc : cm ≤ cc) (p0 : 0 ≤ here) (p1 : here < cm) (b0 : 0 ≤ b) (b1 : b < m) (w0 : 0 ≤ wm) (w1 : wm < 64) (hd : dnI n bm bf m V fa cm here th b) (ht : ¬ tbt (V here) b = 0) {w8 w9 : pm_V} (H : ∀ (C : pm_A) (th' : Int) (w8 w9 : pm_V), wyS A C n bm bf V fa cm wm → dnI n bm bf m V fa cm here th' (b - 1) → Tm pmt (an_sh wM) o_X10_way 341 ([(2, 0), (0, n), (0, m), (1, bg), (9, 0), (0, here), (0, th'), (0, b + (-1)), w8, w9], [], C) ri_post) : Tm pmt (an_sh wM) o_X10_way 366 ([(2, 0), (0, n), (0, m), (1, bg), (9, 0), (0, here), (0, th), (0, b), w8, w9], [], B) ri_post := by
  have hl := h.1.1
  obtain ⟨F, hF, hV⟩ := h.1.2.2.1 here p0 p1
  have hfh := h.1.2.2.2.2.2.2 here p0 p1
  have hn := hF.1.1
  obtain ⟨d0, d1, _⟩ := hb.2.2 b b0 b1
  have hm := hb.1
  have hFb : F (bf b) = 1 := by
    have := msk_bit hF.1 hb b0 b1
    rw [← hV] at this
    omega
  have hw0 := hw
  obtain ⟨h1, h2, h3, h4, h5, h6, h7, h8, h9, h10⟩ := hw
  have c52 := pM_52 h1
  have ev : B (B 0 52) here = V here := by rw [c52, h5]
  refine wq_ok srt_Mway (fr := []) (cuts := [378]) (J := fun pc st => (pc = 378 ∧ ∃ B1, tkB_post B 0 (bitsV bm F 100) (none, B1) ∧ st = ([(2, 0), (0, n), (0, m), (1, bg), (9, 0), (0, here), (0, th), (0, b), w8, w9], [], B1))) ?_ 11 366 _ ?_
  · rintro pc st (⟨rfl, B1, hk, rfl⟩)
    have g1 : gH wM B1 := hk.2.1
    have eF := tk_F hb hF h3 hk
    have hw1 : wyS A B1 n bm bf V fa cm wm := hw0.c32 g1 hk.2.2.1
    have hC : cutS n (fcs B1 0) := cutS_congr hF eF
    have hf : fcs B1 0 (bf b) = 1 := by rw [eF _ d0 d1]; exact hFb
    have e31 : B1 31 0 = n := by rw [hw1.2.1 31 0 (by omega) (by omega)]; exact h10.1
    have c51 := pM_51 g1
    have ef : B1 (B1 0 51) b = bf b := by rw [c51, hw1.2.2.2.1]
    refine wq_ok srt_Mway (fr := []) (cuts := [390]) (J := fun pc st => (pc = 390 ∧ ∃ B2 i o, oth n (fcs B1 0) (bf b) i o ∧ gH wM B2 ∧ B2 = pm_upd (pm_upd B1 32 (100 * 0 + bf b) 0) 32 (100 * 0 + cod i o) 1 ∧ st = ([(2, 0), (0, n), (0, m), (1, bg), (9, 0), (0, here), (0, th), (0, b), w8, w9], [(0, cod i o)], B2))) ?_ 11 378 _ ?_
    · rintro pc st (⟨rfl, B2, i, o, ho, q2, q3, rfl⟩)
      have hcb := cod_b hC.1 d0 d1 hf ho
      have hw2 : wyS A B2 n bm bf V fa cm wm := hw1.c32 q2 (fun q j hq => by rw [q3, upd_o (by omega), upd_o (by omega)])
      obtain ⟨k1, k2, k3, k4, k5, k6, k7, k8, k9, k10⟩ := hw2
      have hw2 : wyS A B2 n bm bf V fa cm wm := ⟨k1, k2, k3, k4, k5, k6, k7, k8, k9, k10⟩
      have hmf : mfl n bm bf (V here) b (bitsV (B2 33) (fcs B2 0) 100) := wy_mfl hb hF b0 b1 hV k3 eF hf ho hcb.1 hcb.2.1 q3
      refine wq_ok srt_Mway (fr := []) (cuts := [398]) (J := fun pc st => (pc = 398 ∧ st = ([(2, 0), (0, n), (0, m), (1, bg), (9, 0), (0, here), (0, th), (0, b), (0, cod i o), w9], [(1, bitsV (B2 33) (fcs B2 0) 100), (2, 0)], B2))) ?_ 9 390 _ ?_
      · rintro pc st (⟨rfl, rfl⟩)
        refine wq_ok srt_Mway (fr := []) (cuts := [401]) (J := fun pc st => (pc = 401 ∧ ∃ x, ((x = -1 ∧ ∀ d : Int, 0 ≤ d → d < B2 0 54 → ¬ B2 35 d = bitsV (B2 33) (fcs B2 0) 100) ∨ (0 ≤ x ∧ x < B2 0 54 ∧ B2 35 x = bitsV (B2 33) (fcs B2 0) 100)) ∧ st = ([(2, 0), (0, n), (0, m), (1, bg), (9, 0), (0, here), (0, th), (0, b), (0, cod i o), w9], [(0, x)], B2))) ?_ 5 398 _ ?_
        · rintro pc st (⟨rfl, x, hx, rfl⟩)
          have hx2 : 0 ≤ x ∧ x < cm ∧ V x = bitsV (B2 33) (fcs B2 0) 100 := by
            rcases hx with ⟨_, hx⟩ | ⟨y0, y1, y2⟩
            · obtain ⟨e, e0, e1, e2, _⟩ := h.2.2 here b _ p0 p1 b0 b1 (by omega) hmf
              exact absurd (by rw [k5]; exact e2) (hx e e0 (by omega))
            · exact ⟨y0, by omega, by rw [← k5]; exact y2⟩
          obtain ⟨x0, x1, x2⟩ := hx2
          have c53 := pM_53 q2
          refine wq_ok srt_Mway (fr := []) (cuts := [341, 425]) (J := fun pc st => (pc = 425 ∧ ((B2 (B2 0 53) x) = ((B2 (B2 0 53) here) - 1)) ∧ st = ([(2, 0), (0, n), (0, m), (1, bg), (9, 0), (0, here), (0, th), (0, b), (0, cod i o), (0, x)], [], B2)) ∨ (pc = 341 ∧ (¬ (B2 (B2 0 53) x) = ((B2 (B2 0 53) here) - 1)) ∧ st = ([(2, 0), (0, n), (0, m), (1, bg), (9, 0), (0, here), (0, th), (0, b + (-1)), (0, cod i o), (0, x)], [], B2))) ?_ 20 401 _ ?_
          · rintro pc st (⟨rfl, h0, rfl⟩ | ⟨rfl, h0, rfl⟩)
            · rw [c53, k6] at h0
              exact wy_425 hw2 hb h hcc p0 p1 b0 b1 w0 w1 hd x0 x1 h0 H
            · rw [c53, k6] at h0
              refine H B2 th _ _ hw2 (hd.imp (fun ⟨a1, a2⟩ => ⟨a1, fun b' w e y0 y1 y2 y3 y4 y5 => ?_⟩) id)
              by_cases eb : b' = b
              · rw [eb] at y2
                have e1 : w = bitsV (B2 33) (fcs B2 0) 100 := mfl_det hb b0 b1 y2 hmf
                have e2 : e = x := h.1.at y3 y4 x0 x1 (by rw [y5, e1, x2])
                rw [e2]; exact h0
              · exact a2 b' w e (by omega) y1 y2 y3 y4 y5
          · refine ⟨oM_0 (by omega) km0 53 rfl, ?_⟩
            refine ⟨aM_36 (r := B2 0 53) (by rw [c53]; omega) (by rw [c53]; exact kn36) (by omega) (by omega), ?_⟩
            have e1 : B2 (B2 0 53) x = B2 36 x := by rw [c53]
            refine ⟨oM_0 (by omega) km0 53 rfl, ?_⟩
            refine ⟨aM_36 (r := B2 0 53) (by rw [c53]; omega) (by rw [c53]; exact kn36) (by omega) (by omega), ?_⟩
            have e2 : B2 (B2 0 53) here = B2 36 here := by rw [c53]
            refine ⟨(by rw [c53, k6]; exact ⟨by omega, by omega⟩), ?_⟩
            refine ⟨fun h0 => ?_, fun h0 => ?_⟩
            · exact Or.inl (⟨rfl, h0, rfl⟩)
            · refine ⟨⟨by omega, by omega⟩, ?_⟩
              exact Or.inr (⟨rfl, h0, rfl⟩)
        · refine ⟨rM_0 (by omega) km0, ?_⟩
          refine (cuttingOf_ex q2).imp ?_
          rintro ⟨r1, C⟩ ⟨p1_, x, p2_, hx⟩
          simp only at p1_ p2_
          subst p1_
          subst p2_
          exact ⟨rfl, x, hx, rfl⟩
      · refine ⟨rM_0 (by omega) km0, ?_⟩
        refine (bits_ex (sl := 0) q2 (by omega) (by omega)).imp ?_
        rintro r rfl
        exact ⟨rfl, rfl⟩
    · refine ⟨oM_0 (by omega) km0 51 rfl, ?_⟩
      refine ⟨aM_34 (r := B1 0 51) (by rw [c51]; omega) (by rw [c51]; exact kn34) (by omega) (by omega), ?_⟩
      have e1 : B1 (B1 0 51) b = B1 34 b := by rw [c51]
      refine ⟨rM_0 (by omega) km0, ?_⟩
      rw [ef]
      refine (flips_ex (sl := 0) g1 (by omega) (by omega) (by rw [e31]; exact hC) d0 d1 hf).imp ?_
      rintro ⟨r1, B2⟩ ⟨i, o, ho, q1, q2, q3⟩
      simp only at q1 q2 q3
      subst q1
      rw [e31] at ho
      exact ⟨rfl, B2, i, o, ho, q2, q3, rfl⟩
  · refine ⟨oM_0 (by omega) km0 52 rfl, ?_⟩
    refine ⟨aM_35 (r := B 0 52) (by rw [c52]; omega) (by rw [c52]; exact kn35) (by omega) (by omega), ?_⟩
    have e1 : B (B 0 52) here = B 35 here := by rw [c52]
    refine ⟨rM_0 (by omega) km0, ?_⟩
    refine (takesBits_ex (sl := 0) h1 (by omega) (by omega)).imp ?_
    rintro ⟨r1, B1⟩ hk
    have q1 := hk.1
    simp only at q1
    subst q1
    rw [ev, hV] at hk
    exact ⟨rfl, B1, hk, rfl⟩
set_option maxRecDepth 10000 in
theorem wy_341 {A : pm_A} {n m bg here cc cm wm : Int} {bm bf V fa : Int → Int} (hb : bmS n bm bf m) (h : bfsI n bm bf m V fa cm cc 0) (hcc : cm ≤ cc) (p0 : 0 ≤ here) (p1 : here < cm) (w0 : 0 ≤ wm) (w1 : wm < 64) (H : ∀ (C : pm_A) (th b : Int) (w8 w9 : pm_V), wyS A C n bm bf V fa cm wm → dnI n bm bf m V fa cm here th b → b < 0 → Tm pmt (an_sh wM) o_X10_way 454 ([(2, 0), (0, n), (0, m), (1, bg), (9, 0), (0, here), (0, th), (0, b), w8, w9], [], C) ri_post) : ∀ (k : Nat) (b th : Int) (w8 w9 : pm_V) (B : pm_A), (b + 1).toNat < k → -1 ≤ b → b < m → wyS A B n bm bf V fa cm wm → dnI n bm bf m V fa cm here th b → Tm pmt (an_sh wM) o_X10_way 341 ([(2, 0), (0, n), (0, m), (1, bg), (9, 0), (0, here), (0, th), (0, b), w8, w9], [], B) ri_post := by
  have hm := hb.1
  have hl := h.1.1
  intro k
  induction k with
  | zero => intro b th w8 w9 B h; omega
  | succ k ih =>
    intro b th w8 w9 B hk b0 b1 hw hd
    have hw0 := hw
    obtain ⟨h1, h2, h3, h4, h5, h6, h7, h8, h9, h10⟩ := hw
    have c52 := pM_52 h1
    have ev : B (B 0 52) here = V here := by rw [c52, h5]
    refine wq_ok srt_Mway (fr := []) (cuts := [341, 366, 454]) (J := fun pc st => (pc = 454 ∧ (b < 0) ∧ st = ([(2, 0), (0, n), (0, m), (1, bg), (9, 0), (0, here), (0, th), (0, b), w8, w9], [], B)) ∨ (pc = 366 ∧ (0 ≤ b) ∧ (0 < (tbt (B (B 0 52) here) b)) ∧ st = ([(2, 0), (0, n), (0, m), (1, bg), (9, 0), (0, here), (0, th), (0, b), w8, w9], [], B)) ∨ (pc = 341 ∧ (0 ≤ b) ∧ ((tbt (B (B 0 52) here) b) = 0) ∧ st = ([(2, 0), (0, n), (0, m), (1, bg), (9, 0), (0, here), (0, th), (0, b + (-1)), w8, w9], [], B)) ∨ (pc = 366 ∧ (0 ≤ b) ∧ ((tbt (B (B 0 52) here) b) < 0) ∧ st = ([(2, 0), (0, n), (0, m), (1, bg), (9, 0), (0, here), (0, th), (0, b), w8, w9], [], B))) ?_ 21 341 _ ?_
    · rintro pc st (⟨rfl, h0, rfl⟩ | ⟨rfl, h0, h1_, rfl⟩ | ⟨rfl, h0, h1_, rfl⟩ | ⟨rfl, h0, h1_, rfl⟩)
      · exact H B th b _ _ hw0 hd h0
      · rw [ev] at h1_
        exact wy_366 hw0 hb h hcc p0 p1 h0 b1 w0 w1 hd (by omega) (fun C th' w8 w9 hC hD => by rw [show b + -1 = b - 1 by omega]; exact ih (b - 1) th' w8 w9 C (by omega) (by omega) (by omega) hC hD)
      · rw [ev] at h1_
        rw [show b + -1 = b - 1 by omega]
        refine ih (b - 1) th _ _ B (by omega) (by omega) (by omega) hw0 (hd.imp (fun ⟨a1, a2⟩ => ⟨a1, fun b' w e y0 y1 y2 y3 y4 y5 => ?_⟩) id)
        by_cases eb : b' = b
        · rw [eb] at y2; exact absurd h1_ (mfl_bit hb (by omega) b1 y2)
        · exact a2 b' w e (by omega) y1 y2 y3 y4 y5
      · rw [ev] at h1_
        exact wy_366 hw0 hb h hcc p0 p1 h0 b1 w0 w1 hd (by omega) (fun C th' w8 w9 hC hD => by rw [show b + -1 = b - 1 by omega]; exact ih (b - 1) th' w8 w9 C (by omega) (by omega) (by omega) hC hD)
    · refine ⟨fun h0 => ?_, fun h0 => ?_⟩
      · exact Or.inl (⟨rfl, h0, rfl⟩)
      · refine ⟨oM_0 (by omega) km0 52 rfl, ?_⟩
        refine ⟨aM_35 (r := B 0 52) (by rw [c52]; omega) (by rw [c52]; exact kn35) (by omega) (by omega), ?_⟩
        have e1 : B (B 0 52) here = B 35 here := by rw [c52]
        refine ⟨fun h1_ => ?_, fun h1_ => ?_, fun h1_ => ?_⟩
        · refine ⟨fun _ => ?_, fun hh => absurd hh (by decide)⟩
          exact Or.inr (Or.inl (⟨rfl, h0, h1_, rfl⟩))
        · refine ⟨fun hh => absurd hh (by decide), fun _ => ?_⟩
          refine ⟨⟨by omega, by omega⟩, ?_⟩
          exact Or.inr (Or.inr (Or.inl (⟨rfl, h0, h1_, rfl⟩)))
        · refine ⟨fun _ => ?_, fun hh => absurd hh (by decide)⟩
          exact Or.inr (Or.inr (Or.inr (⟨rfl, h0, h1_, rfl⟩)))
set_option maxRecDepth 10000 in
theorem wy_323 {A : pm_A} {n m bg cc cm : Int} {bm bf V fa : Int → Int} (hA : RI A) (hb : bmS n bm bf m) (m0 : 0 ≤ m) (h : bfsI n bm bf m V fa cm cc 0) (hcc : cm ≤ cc) : ∀ (k : Nat) (here wm : Int) (w6 w7 w8 w9 : pm_V) (B : pm_A), (fa here).toNat < k → 0 ≤ here → here < cm → 0 ≤ wm → wm + fa here ≤ 14 → wyS A B n bm bf V fa cm wm → Tm pmt (an_sh wM) o_X10_way 323 ([(2, 0), (0, n), (0, m), (1, bg), (9, 0), (0, here), w6, w7, w8, w9], [], B) ri_post := by
  have hm := hb.1
  have hl := h.1.1
  intro k
  induction k with
  | zero => intro here wm w6 w7 w8 w9 B h; omega
  | succ k ih =>
    intro here wm w6 w7 w8 w9 B hk p0 p1 w0 w1 hw
    have hfh := h.1.2.2.2.2.2.2 here p0 p1
    have hw0 := hw
    obtain ⟨h1, h2, h3, h4, h5, h6, h7, h8, h9, h10⟩ := hw
    have c53 := pM_53 h1
    have ev : B (B 0 53) here = fa here := by rw [c53, h6]
    have h454 : 0 < fa here → ∀ (C : pm_A) (th b : Int) (w8 w9 : pm_V), wyS A C n bm bf V fa cm wm → dnI n bm bf m V fa cm here th b → b < 0 → Tm pmt (an_sh wM) o_X10_way 454 ([(2, 0), (0, n), (0, m), (1, bg), (9, 0), (0, here), (0, th), (0, b), w8, w9], [], C) ri_post := fun hf C th b w8 w9 hC hD hb0 => by
      obtain ⟨t0, t1, t2⟩ := hD.end hb h.1 hb0 p0 p1 hf
      obtain ⟨h1, h2, h3, h4, h5, h6, h7, h8, h9, h10⟩ := hC
      refine wq_ok srt_Mway (fr := []) (cuts := [323]) (J := fun pc st => (pc = 323 ∧ st = ([(2, 0), (0, n), (0, m), (1, bg), (9, 0), (0, th), (0, th), (0, b), w8, w9], [], pm_upd C 0 55 ((C 0 55) + 1)))) ?_ 14 454 _ ?_
      · rintro pc st (⟨rfl, rfl⟩)
        rw [h8]
        exact ih th (wm + 1) _ _ _ _ _ (by omega) t0 t1 (by omega) (by omega) ⟨uM_0_55 h1 (by omega) (by omega), fun r j a1 a2 => by rw [upd_o (by omega)]; exact h2 r j a1 a2, by rw [← h3]; funext j; exact upd_o (by omega), by rw [← h4]; funext j; exact upd_o (by omega), by rw [← h5]; funext j; exact upd_o (by omega), by rw [← h6]; funext j; exact upd_o (by omega), by rw [upd_o (by omega)]; exact h7, by rw [upd_at], fun i i0 i1 => by rw [upd_o (by omega)]; exact h9 i i0 i1, h10⟩
      · refine ⟨oM_0 (by omega) km0 55 rfl, ?_⟩
        refine ⟨⟨by omega, by omega⟩, ?_⟩
        refine ⟨oM_0 (by omega) km0 55 rfl, ?_⟩
        exact ⟨rfl, rfl⟩
    refine wq_ok srt_Mway (fr := []) (cuts := [341, 474]) (J := fun pc st => (pc = 474 ∧ ((B (B 0 53) here) ≤ 0) ∧ st = ([(2, 0), (0, n), (0, m), (1, bg), (9, 0), (0, here), (0, 0), w7, w8, w9], [], B)) ∨ (pc = 341 ∧ (0 < (B (B 0 53) here)) ∧ st = ([(2, 0), (0, n), (0, m), (1, bg), (9, 0), (0, here), (0, (-1)), (0, m - 1), w8, w9], [], B))) ?_ 16 323 _ ?_
    · rintro pc st (⟨rfl, h0, rfl⟩ | ⟨rfl, h0, rfl⟩)
      · exact wy_474 hA _ 0 _ _ _ B (Nat.lt_succ_self _) (by omega) (by omega) hw0 (fun j j0 j1 => by omega)
      · rw [ev] at h0
        exact wy_341 hb h hcc p0 p1 w0 (by omega) (h454 h0) _ (m - 1) (-1) _ _ B (Nat.lt_succ_self _) (by omega) (by omega) hw0 (Or.inl ⟨rfl, fun b' w e y0 y1 => by omega⟩)
    · refine ⟨oM_0 (by omega) km0 53 rfl, ?_⟩
      refine ⟨aM_36 (r := B 0 53) (by rw [c53]; omega) (by rw [c53]; exact kn36) (by omega) (by omega), ?_⟩
      have e1 : B (B 0 53) here = B 36 here := by rw [c53]
      refine ⟨fun h0 => ?_, fun h0 => ?_⟩
      · exact Or.inl (⟨rfl, h0, rfl⟩)
      · refine ⟨⟨by omega, by omega⟩, ?_⟩
        exact Or.inr (⟨rfl, h0, rfl⟩)
set_option maxRecDepth 10000 in
theorem wy_311 {A B : pm_A} {n m cc cm wm : Int} {bm bf V fa G : Int → Int} (hA : RI A) (hb : bmS n bm bf m) (m0 : 0 ≤ m) (h : bfsI n bm bf m V fa cm cc 0) (hcc : cm ≤ cc) (hw : wyS A B n bm bf V fa cm wm) (hF : cutS n (fcs A 1)) (hG : cutS n G) {w6 w7 w8 w9 : pm_V} : Tm pmt (an_sh wM) o_X10_way 311 ([(2, 0), (0, n), (0, m), (1, bitsV bm G 100), (9, 0), (0, cc), w6, w7, w8, w9], [], B) ri_post := by
  obtain ⟨e, e0, e1, e2, e3⟩ := bfs_end hb h hcc hF hG hw.2.2.2.2.2.2.2.2.2.2.2
  obtain ⟨h1, h2, h3, h4, h5, h6, h7, h8, h9, h10⟩ := hw
  have h316 : ∀ C, C = pm_upd B 0 55 0 → Tm pmt (an_sh wM) o_X10_way 316 ([(2, 0), (0, n), (0, m), (1, bitsV bm G 100), (9, 0), (0, cc), w6, w7, w8, w9], [], C) ri_post := fun C hC => by
    have g : gH wM C := by rw [hC]; exact uM_0_55 h1 (by omega) (by omega)
    have hw : wyS A C n bm bf V fa cm 0 := ⟨g, fun r j a1 a2 => by rw [hC, upd_o (by omega)]; exact h2 r j a1 a2, by rw [← h3, hC]; funext j; exact upd_o (by omega), by rw [← h4, hC]; funext j; exact upd_o (by omega), by rw [← h5, hC]; funext j; exact upd_o (by omega), by rw [← h6, hC]; funext j; exact upd_o (by omega), by rw [hC, upd_o (by omega)]; exact h7, by rw [hC, upd_at], fun i i0 i1 => by rw [hC, upd_o (by omega)]; exact h9 i i0 i1, h10⟩
    obtain ⟨k1, k2, k3, k4, k5, k6, k7, k8, k9, k10⟩ := hw
    have hw : wyS A C n bm bf V fa cm 0 := ⟨k1, k2, k3, k4, k5, k6, k7, k8, k9, k10⟩
    refine wq_ok srt_Mway (fr := []) (cuts := [321]) (J := fun pc st => (pc = 321 ∧ ∃ x, ((x = -1 ∧ ∀ d : Int, 0 ≤ d → d < C 0 54 → ¬ C 35 d = bitsV bm G 100) ∨ (0 ≤ x ∧ x < C 0 54 ∧ C 35 x = bitsV bm G 100)) ∧ st = ([(2, 0), (0, n), (0, m), (1, bitsV bm G 100), (9, 0), (0, cc), w6, w7, w8, w9], [(0, x)], C))) ?_ 7 316 _ ?_
    · rintro pc st (⟨rfl, x, hx, rfl⟩)
      refine wq_ok srt_Mway (fr := []) (cuts := [323]) (J := fun pc st => (pc = 323 ∧ st = ([(2, 0), (0, n), (0, m), (1, bitsV bm G 100), (9, 0), (0, x), w6, w7, w8, w9], [], C))) ?_ 6 321 _ ?_
      · rintro pc st (⟨rfl, rfl⟩)
        have hx2 : x = e := by
          rcases hx with ⟨_, hx⟩ | ⟨y0, y1, y2⟩
          · exact absurd (by rw [k5]; exact e2) (hx e e0 (by omega))
          · exact h.1.at y0 (by omega) e0 e1 (by rw [e2, ← k5]; exact y2)
        subst hx2
        exact wy_323 hA hb m0 h hcc _ x 0 _ _ _ _ C (Nat.lt_succ_self _) e0 e1 (by omega) (by omega) hw
      · exact ⟨rfl, rfl⟩
    · refine ⟨rM_0 (by omega) km0, ?_⟩
      refine (cuttingOf_ex g).imp ?_
      rintro ⟨r1, D⟩ ⟨p1, x, p2, hx⟩
      simp only at p1 p2
      subst p1
      subst p2
      exact ⟨rfl, x, hx, rfl⟩
  refine wq_ok srt_Mway (fr := []) (cuts := [316]) (J := fun pc st => (pc = 316 ∧ st = ([(2, 0), (0, n), (0, m), (1, bitsV bm G 100), (9, 0), (0, cc), w6, w7, w8, w9], [], pm_upd B 0 55 0))) ?_ 8 311 _ ?_
  · rintro pc st (⟨rfl, rfl⟩)
    exact h316 _ rfl
  · refine ⟨oM_0 (by omega) km0 55 rfl, ?_⟩
    exact ⟨rfl, rfl⟩
theorem bfs_init {n m : Int} {bm bf V fa F : Int → Int} (hF : cutS n F) (e1 : V 0 = bitsV bm F 100) (e2 : fa 0 = 0) : bfsI n bm bf m V fa 1 0 0 := by
  have one : ∀ c : Int, 0 ≤ c → c < 1 → c = 0 := fun c a b => by omega
  refine ⟨⟨⟨by omega, by omega⟩, e2, fun c c0 c1 => ?_, fun c d c0 c1 d1 => by omega, fun c c0 c1 => by omega, fun c d c0 c1 d1 => ?_, fun c c0 c1 => ?_⟩, fun _ e e0 e1 => ?_, fun c b w c0 c1 b0 b1 ho _ => by omega⟩
  · rw [one c c0 c1]; exact ⟨F, hF, e1⟩
  · rw [one c c0 (by omega), one d (by omega) d1]; omega
  · rw [one c c0 c1, e2]; omega
  · rw [one e e0 e1, e2]; omega
set_option maxRecDepth 10000 in
theorem wy_144 {A B : pm_A} {n m i : Int} {bm bf : Int → Int} (hA : RI A) (hb : bmS n bm bf m) (m0 : 0 ≤ m) (hB : wyF A B) (e33 : B 33 = bm) (e34 : B 34 = bf) (hs : ∀ i : Int, 0 ≤ i → i < 200 → B 38 i = A 32 i) (h0 : cutS n (fcs A 0)) (h1 : cutS n (fcs A 1)) (a0 : A 31 0 = n) (a1 : A 31 1 = n) : Tm pmt (an_sh wM) o_X10_way 144 ([(2, 0), (0, n), (0, m), (0, i), (9, 0), (9, 0), (9, 0), (9, 0), (9, 0), (9, 0)], [], B) ri_post := by
  have ef0 : fcs B 0 = fcs A 0 := funext fun f => hB.2 32 _ (by omega) (by omega)
  have hG : bitsV (B 33) (fcs B 0) 100 = bitsV bm (fcs A 0) 100 := by rw [e33, ef0]
  have hvb := i64_b (bitsV_i64 bm (fcs A 1) 100)
  have h155 : ∀ C, C = pm_upd B 0 54 1 → Tm pmt (an_sh wM) o_X10_way 155 ([(2, 0), (0, n), (0, m), (1, bitsV bm (fcs A 0) 100), (9, 0), (9, 0), (9, 0), (9, 0), (9, 0), (9, 0)], [], C) ri_post := fun C hC => by
    have g : gH wM C := by rw [hC]; exact uM_0_54 hB.1 (by omega) (by omega)
    have c52 := pM_52 g
    have ef1 : fcs C 1 = fcs A 1 := funext fun f => by
      show C 32 _ = A 32 _
      rw [hC, upd_o (by omega)]; exact hB.2 32 _ (by omega) (by omega)
    have f33 : C 33 = bm := by rw [← e33, hC]; funext j; exact upd_o (by omega)
    have h166 : ∀ D, D = pm_upd C 35 0 (bitsV bm (fcs A 1) 100) → Tm pmt (an_sh wM) o_X10_way 166 ([(2, 0), (0, n), (0, m), (1, bitsV bm (fcs A 0) 100), (9, 0), (9, 0), (9, 0), (9, 0), (9, 0), (9, 0)], [], D) ri_post := fun D hD => by
      have gD : gH wM D := by rw [hD]; exact uM_35 g kn35 hvb.1 hvb.2
      have c53 := pM_53 gD
      refine wq_ok srt_Mway (fr := []) (cuts := [176]) (J := fun pc st => (pc = 176 ∧ st = ([(2, 0), (0, n), (0, m), (1, bitsV bm (fcs A 0) 100), (9, 0), (0, 0), (9, 0), (9, 0), (9, 0), (9, 0)], [], pm_upd D (D 0 53) 0 0))) ?_ 12 166 _ ?_
      · rintro pc st (⟨rfl, rfl⟩)
        rw [c53]
        have ho : ∀ r j : Int, ¬ (r = 0 ∧ j = 54) → ¬ (r = 36 ∧ j = 0) → ¬ (r = 35 ∧ j = 0) → pm_upd D 36 0 0 r j = B r j := fun r j b1 b2 b3 => by rw [upd_o (by omega), hD, upd_o (by omega), hC, upd_o (by omega)]
        have v0 : pm_upd D 36 0 0 35 0 = bitsV bm (fcs A 1) 100 := by rw [upd_o (by omega), hD, upd_at]
        refine wy_176 hb m0 (bm := bm) (bf := bf) (wm := B 0 55) (fun C V fa cm c w6 w7 w8 w9 hw hI hcm => ?_) _ 0 _ _ _ _ _ (pm_upd D 36 0 0 35) (pm_upd D 36 0 0 36) 1 (Nat.lt_succ_self _) (by omega) (by omega) ⟨uM_36 gD kn36 (by omega) (by omega), fun r j b1 b2 => by rw [ho r j (by omega) (by omega) (by omega)]; exact hB.2 r j (by omega) b2, by rw [← e33]; funext j; exact ho 33 j (by omega) (by omega) (by omega), by rw [← e34]; funext j; exact ho 34 j (by omega) (by omega) (by omega), rfl, rfl, by rw [upd_o (by omega), hD, upd_o (by omega), hC, upd_at], by rw [ho 0 55 (by omega) (by omega) (by omega)], fun i i0 i1 => by rw [ho 38 i (by omega) (by omega) (by omega)]; exact hs i i0 i1, a0, a1, v0⟩ (bfs_init h1 v0 (by rw [upd_at]))
        exact wy_311 hA hb m0 hI hcm hw h1 h0
      · refine ⟨oM_0 (by omega) km0 53 rfl, ?_⟩
        refine ⟨tM_36 (r := D 0 53) (by rw [c53]; omega) (by rw [c53]; exact kn36) (by omega) (by omega) rfl, ?_⟩
        exact ⟨rfl, rfl⟩
    refine wq_ok srt_Mway (fr := []) (cuts := [165]) (J := fun pc st => (pc = 165 ∧ st = ([(2, 0), (0, n), (0, m), (1, bitsV bm (fcs A 0) 100), (9, 0), (9, 0), (9, 0), (9, 0), (9, 0), (9, 0)], [(1, bitsV (C 33) (fcs C 1) 100), (0, 0), (2, C 0 52)], C))) ?_ 10 155 _ ?_
    · rintro pc st (⟨rfl, rfl⟩)
      rw [f33, ef1]
      refine wq_ok srt_Mway (fr := []) (cuts := [166]) (J := fun pc st => (pc = 166 ∧ st = ([(2, 0), (0, n), (0, m), (1, bitsV bm (fcs A 0) 100), (9, 0), (9, 0), (9, 0), (9, 0), (9, 0), (9, 0)], [], pm_upd C (C 0 52) 0 (bitsV bm (fcs A 1) 100)))) ?_ 6 165 _ ?_
      · rintro pc st (⟨rfl, rfl⟩)
        rw [c52]
        exact h166 _ rfl
      · refine ⟨tM_35 (r := C 0 52) (by rw [c52]; omega) (by rw [c52]; exact kn35) (by omega) (by omega) rfl, ?_⟩
        exact ⟨rfl, rfl⟩
    · refine ⟨oM_0 (by omega) km0 52 rfl, ?_⟩
      refine ⟨rM_0 (by omega) km0, ?_⟩
      refine (bits_ex (sl := 1) g (by omega) (by omega)).imp ?_
      rintro r rfl
      exact ⟨rfl, rfl⟩
  refine wq_ok srt_Mway (fr := []) (cuts := [149]) (J := fun pc st => (pc = 149 ∧ st = ([(2, 0), (0, n), (0, m), (0, i), (9, 0), (9, 0), (9, 0), (9, 0), (9, 0), (9, 0)], [(1, bitsV (B 33) (fcs B 0) 100)], B))) ?_ 7 144 _ ?_
  · rintro pc st (⟨rfl, rfl⟩)
    rw [hG]
    refine wq_ok srt_Mway (fr := []) (cuts := [155]) (J := fun pc st => (pc = 155 ∧ st = ([(2, 0), (0, n), (0, m), (1, bitsV bm (fcs A 0) 100), (9, 0), (9, 0), (9, 0), (9, 0), (9, 0), (9, 0)], [], pm_upd B 0 54 1))) ?_ 9 149 _ ?_
    · rintro pc st (⟨rfl, rfl⟩)
      exact h155 _ rfl
    · refine ⟨oM_0 (by omega) km0 54 rfl, ?_⟩
      exact ⟨rfl, rfl⟩
  · refine ⟨rM_0 (by omega) km0, ?_⟩
    refine (bits_ex (sl := 0) hB.1 (by omega) (by omega)).imp ?_
    rintro r rfl
    exact ⟨rfl, rfl⟩
set_option maxRecDepth 10000 in
theorem mway_ct {A : pm_A} (h : RI A) : Cl pmt (an_sh wM) 202 [(2, 0)] A ri_post := by
  have c48 := pM_48 h.g
  have b0 := eM_31 h.g (r := 31) (by omega) kn31 (j := 0) (by omega) (by omega)
  have h33 : cntF (fcs A 0) 100 = A 31 0 - 3 → cntF (fcs A 1) 100 = A 31 1 - 3 → A 31 0 = A 31 1 → Tm pmt (an_sh wM) o_X10_way 33 ([(2, 0), (9, 0), (9, 0), (9, 0), (9, 0), (9, 0), (9, 0), (9, 0), (9, 0), (9, 0)], [], A) ri_post := fun k0 k1 k2 => by
    have q0 : cutS (A 31 0) (fcs A 0) := ⟨h.2.2 0 (Or.inl rfl), k0⟩
    have q1 : cutS (A 31 0) (fcs A 1) := by rw [k2]; exact ⟨h.2.2 1 (Or.inr rfl), k1⟩
    refine wq_ok srt_Mway (fr := []) (cuts := [44]) (J := fun pc st => (pc = 44 ∧ st = ([(2, 0), (0, A (A 0 48) 0), (0, 0), (0, 0), (9, 0), (9, 0), (9, 0), (9, 0), (9, 0), (9, 0)], [], A))) ?_ 14 33 _ ?_
    · rintro pc st (⟨rfl, rfl⟩)
      rw [c48]
      refine wy_44 b0.1 b0.2 (fun C m hC hb m0 => ?_) _ 0 0 A (Nat.lt_succ_self _) (by omega) (by omega) ⟨h.g, fun _ _ _ _ => rfl⟩ ⟨rfl, fun g g0 g1 => by omega, fun b b0 b1 => by omega⟩
      refine wq_ok srt_Mway (fr := []) (cuts := [119]) (J := fun pc st => (pc = 119 ∧ st = ([(2, 0), (0, A 31 0), (0, m), (0, 0), (9, 0), (9, 0), (9, 0), (9, 0), (9, 0), (9, 0)], [], C))) ?_ 7 117 _ ?_
      · rintro pc st (⟨rfl, rfl⟩)
        exact wy_119 (fun D i hD f33 f34 hs => wy_144 h hb m0 hD f33 f34 hs q0 q1 rfl k2.symm) _ 0 C (Nat.lt_succ_self _) (by omega) (by omega) hC rfl rfl (fun j j0 j1 => by omega)
      · exact ⟨rfl, rfl⟩
    · refine ⟨oM_0 (by omega) km0 48 rfl, ?_⟩
      refine ⟨aM_31 (r := A 0 48) (by rw [c48]; omega) (by rw [c48]; exact kn31) (by omega) (by omega), ?_⟩
      have e1 : A (A 0 48) 0 = A 31 0 := by rw [c48]
      exact ⟨rfl, rfl⟩
  refine Cl.of (Nat.le_of_ble_eq_true rfl) ?_
  refine wq_ok (full := o_X10_way) srt_Mway (fr := []) (cuts := [5]) (J := fun pc st => (pc = 5 ∧ ∃ x : Int, ((x = 1 ∧ (cntF (fcs A 0) 100 = A 31 0 - 3)) ∨ (x = 0 ∧ ¬ (cntF (fcs A 0) 100 = A 31 0 - 3))) ∧ st = ([(2, 0), (9, 0), (9, 0), (9, 0), (9, 0), (9, 0), (9, 0), (9, 0), (9, 0), (9, 0)], [(0, x)], A))) ?_ 7 0 _ ?_
  · rintro pc st (⟨rfl, x, hx, rfl⟩)
    refine wq_ok srt_Mway (fr := []) (cuts := [13]) (J := fun pc st => (pc = 13 ∧ (¬ x = 0) ∧ ∃ y : Int, ((y = 1 ∧ (cntF (fcs A 1) 100 = A 31 1 - 3)) ∨ (y = 0 ∧ ¬ (cntF (fcs A 1) 100 = A 31 1 - 3))) ∧ st = ([(2, 0), (9, 0), (9, 0), (9, 0), (9, 0), (9, 0), (9, 0), (9, 0), (9, 0), (9, 0)], [(0, y)], A))) ?_ 8 5 _ ?_
    · rintro pc st (⟨rfl, h0, y, hy, rfl⟩)
      refine wq_ok srt_Mway (fr := []) (cuts := [33]) (J := fun pc st => (pc = 33 ∧ (¬ y = 0) ∧ ((A (A 0 48) 0) = (A (A 0 48) 1)) ∧ st = ([(2, 0), (9, 0), (9, 0), (9, 0), (9, 0), (9, 0), (9, 0), (9, 0), (9, 0), (9, 0)], [], A))) ?_ 16 13 _ ?_
      · rintro pc st (⟨rfl, h0, h1, rfl⟩)
        rw [c48] at h1
        refine h33 ?_ ?_ h1
        · rcases hx with ⟨_, e⟩ | ⟨e, _⟩
          · exact e
          · omega
        · rcases hy with ⟨_, e⟩ | ⟨e, _⟩
          · exact e
          · omega
      · refine ⟨fun h0 => ?_, fun h0 => ?_⟩
        · exact ⟨rfl, ⟨_, rfl⟩, h⟩
        · refine ⟨oM_0 (by omega) km0 48 rfl, ?_⟩
          refine ⟨aM_31 (r := A 0 48) (by rw [c48]; omega) (by rw [c48]; exact kn31) (by omega) (by omega), ?_⟩
          have e1 : A (A 0 48) 0 = A 31 0 := by rw [c48]
          refine ⟨oM_0 (by omega) km0 48 rfl, ?_⟩
          refine ⟨aM_31 (r := A 0 48) (by rw [c48]; omega) (by rw [c48]; exact kn31) (by omega) (by omega), ?_⟩
          have e2 : A (A 0 48) 1 = A 31 1 := by rw [c48]
          refine ⟨fun h1 => ?_, fun h1 => ?_⟩
          · exact ⟨rfl, h0, h1, rfl⟩
          · exact ⟨rfl, ⟨_, rfl⟩, h⟩
    · refine ⟨fun h0 => ?_, fun h0 => ?_⟩
      · exact ⟨rfl, ⟨_, rfl⟩, h⟩
      · refine ⟨rM_0 (by omega) km0, ?_⟩
        refine (isCutting_ex h.g (sl := 1) (by omega) (by omega)).imp ?_
        rintro ⟨r1, C⟩ ⟨q1, y, q2, hy⟩
        simp only at q1 q2
        subst q1
        subst q2
        exact ⟨rfl, h0, y, hy, rfl⟩
  · refine ⟨rM_0 (by omega) km0, ?_⟩
    refine (isCutting_ex h.g (sl := 0) (by omega) (by omega)).imp ?_
    rintro ⟨r1, C⟩ ⟨q1, x, q2, hx⟩
    simp only at q1 q2
    subst q1
    subst q2
    exact ⟨rfl, x, hx, rfl⟩
