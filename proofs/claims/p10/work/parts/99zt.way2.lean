/-! way: the search -/
def wyS (A B : pm_A) (n : Int) (bm bf V fa : Int → Int) (cm wm : Int) : Prop := gH wM B ∧ (∀ r j : Int, (r < 32 ∨ 38 < r) → ¬ (r = 0 ∧ (j = 54 ∨ j = 55)) → B r j = A r j) ∧ B 33 = bm ∧ B 34 = bf ∧ B 35 = V ∧ B 36 = fa ∧ B 0 54 = cm ∧ B 0 55 = wm ∧ (∀ i : Int, 0 ≤ i → i < 200 → B 38 i = A 32 i) ∧ A 31 0 = n ∧ A 31 1 = n ∧ V 0 = bitsV bm (fcs A 1) 100
theorem wyS.c32 {A B C : pm_A} {n cm wm : Int} {bm bf V fa : Int → Int} (h : wyS A B n bm bf V fa cm wm) (hC : gH wM C) (e : ∀ q j : Int, q ≠ 32 → C q j = B q j) : wyS A C n bm bf V fa cm wm := by
  obtain ⟨h1, h2, h3, h4, h5, h6, h7, h8, h9, h10⟩ := h
  exact ⟨hC, fun r j a b => by rw [e r j (by omega)]; exact h2 r j a b, by rw [← h3]; funext j; exact e 33 j (by omega), by rw [← h4]; funext j; exact e 34 j (by omega), by rw [← h5]; funext j; exact e 35 j (by omega), by rw [← h6]; funext j; exact e 36 j (by omega), by rw [e 0 54 (by omega)]; exact h7, by rw [e 0 55 (by omega)]; exact h8, fun i i0 i1 => by rw [e 38 i (by omega)]; exact h9 i i0 i1, h10⟩
theorem i64_b {v : Int} (h : i64 v) : -9223372036854775808 ≤ v ∧ v ≤ 9223372036854775807 := by
  have a := Int64.le_toInt (Int64.ofInt v)
  have b := Int64.toInt_lt (Int64.ofInt v)
  unfold i64 at h
  rw [h] at a b
  omega
theorem tk_F {B B1 : pm_A} {n m sl : Int} {bm bf F : Int → Int} (hb : bmS n bm bf m) (hF : cutS n F) (e33 : B 33 = bm) (h : tkB_post B sl (bitsV bm F 100) (none, B1)) : ∀ f : Int, 0 ≤ f → f < 100 → fcs B1 sl f = F f := fun f f0 f1 => by
  have a := h.2.2.2 f f0 f1
  have b := msk_f hF.1 hb f0 f1
  rw [e33] at a
  simp only at a
  unfold fcs
  omega
theorem wy_mfl {B1 B2 : pm_A} {n m sl b i o v : Int} {bm bf F : Int → Int} (hb : bmS n bm bf m) (hF : cutS n F) (b0 : 0 ≤ b) (b1 : b < m) (hv : v = bitsV bm F 100) (e33 : B2 33 = bm) (hB1 : ∀ f : Int, 0 ≤ f → f < 100 → fcs B1 sl f = F f) (hf : fcs B1 sl (bf b) = 1) (ho : oth n (fcs B1 sl) (bf b) i o) (g0 : 0 ≤ cod i o) (g1 : cod i o < 100) (h2 : B2 = pm_upd (pm_upd B1 32 (100 * sl + bf b) 0) 32 (100 * sl + cod i o) 1) : mfl n bm bf v b (bitsV (B2 33) (fcs B2 sl) 100) := by
  obtain ⟨c0, c1, _⟩ := hb.2.2 b b0 b1
  refine ⟨fcs B1 sl, i, o, cutS_congr hF hB1, ?_, hf, ho, ?_⟩
  · rw [hv]; exact bitsV_congr 100 (fun f f0 f1 => (hB1 f f0 (by omega)).symm)
  · rw [e33, h2, fl_fcs c0 c1 g0 g1]
theorem wy_260 {A B : pm_A} {n m bg c b cm wm : Int} {bm bf V fa : Int → Int} (hw : wyS A B n bm bf V fa cm wm) (hb : bmS n bm bf m) (h : bfsI n bm bf m V fa cm c b) (c0 : 0 ≤ c) (c1 : c < cm) (b0 : 0 ≤ b) (b1 : b < m) {g v : Int} (hv : mfl n bm bf (V c) b v) (iv : i64 v) (hno : ∀ d : Int, 0 ≤ d → d < cm → ¬ V d = v) (H : ∀ (C : pm_A) (V' fa' : Int → Int) (cm' : Int) (w7 w8 w9 : pm_V), wyS A C n bm bf V' fa' cm' wm → bfsI n bm bf m V' fa' cm' c (b + 1) → c < cm' → Tm pmt (an_sh wM) o_X10_way 188 ([(2, 0), (0, n), (0, m), (1, bg), (9, 0), (0, c), (0, b + 1), w7, w8, w9], [], C) ri_post) : Tm pmt (an_sh wM) o_X10_way 260 ([(2, 0), (0, n), (0, m), (1, bg), (9, 0), (0, c), (0, b), (0, g), (1, v), (9, 0)], [], B) ri_post := by
  have room := bfs_room hb h b0 b1 hv hno
  have hm35 := hb.1
  have hl := h.1.1
  have hfc := h.1.2.2.2.2.2.2 c c0 c1
  have hvb := i64_b iv
  obtain ⟨h1, h2, h3, h4, h5, h6, h7, h8, h9, h10⟩ := hw
  have c52 := pM_52 h1
  have h271 : ∀ B1, B1 = pm_upd B 35 cm v → Tm pmt (an_sh wM) o_X10_way 271 ([(2, 0), (0, n), (0, m), (1, bg), (9, 0), (0, c), (0, b), (0, g), (1, v), (9, 0)], [], B1) ri_post := fun B1 hB1 => by
    have g1 : gH wM B1 := by rw [hB1]; exact uM_35 h1 kn35 hvb.1 hvb.2
    have c53 := pM_53 g1
    have k54 : B1 0 54 = cm := by rw [hB1, upd_o (by omega)]; exact h7
    have k36 : B1 36 c = fa c := by rw [hB1, upd_o (by omega), h6]
    have h289 : ∀ B2, B2 = pm_upd B1 36 cm (fa c + 1) → Tm pmt (an_sh wM) o_X10_way 289 ([(2, 0), (0, n), (0, m), (1, bg), (9, 0), (0, c), (0, b), (0, g), (1, v), (9, 0)], [], B2) ri_post := fun B2 hB2 => by
      have g2 : gH wM B2 := by rw [hB2]; exact uM_36 g1 kn36 (by omega) (by omega)
      have j54 : B2 0 54 = cm := by rw [hB2, upd_o (by omega)]; exact k54
      refine wq_ok srt_Mway (fr := []) (cuts := [188]) (J := fun pc st => (pc = 188 ∧ st = ([(2, 0), (0, n), (0, m), (1, bg), (9, 0), (0, c), (0, b + 1), (0, g), (1, v), (9, 0)], [], pm_upd B2 0 54 ((B2 0 54) + 1)))) ?_ 13 289 _ ?_
      · rintro pc st (⟨rfl, rfl⟩)
        rw [j54]
        have ho : ∀ r j : Int, ¬ (r = 0 ∧ j = 54) → ¬ (r = 36 ∧ j = cm) → ¬ (r = 35 ∧ j = cm) → pm_upd B2 0 54 (cm + 1) r j = B r j := fun r j a1 a2 a3 => by rw [upd_o (by omega), hB2, upd_o (by omega), hB1, upd_o (by omega)]
        refine H _ (pm_upd B2 0 54 (cm + 1) 35) (pm_upd B2 0 54 (cm + 1) 36) (cm + 1) _ _ _ ⟨uM_0_54 g2 (by omega) (by omega), fun r j a1 a2 => by rw [ho r j (by omega) (by omega) (by omega)]; exact h2 r j a1 a2, by rw [← h3]; funext j; exact ho 33 j (by omega) (by omega) (by omega), by rw [← h4]; funext j; exact ho 34 j (by omega) (by omega) (by omega), rfl, rfl, by rw [upd_at], by rw [ho 0 55 (by omega) (by omega) (by omega)]; exact h8, fun i i0 i1 => by rw [ho 38 i (by omega) (by omega) (by omega)]; exact h9 i i0 i1, h10.1, h10.2.1, by rw [ho 35 0 (by omega) (by omega) (by omega), h5]; exact h10.2.2⟩ ?_ (by omega)
        refine bfs_new hb h c0 c1 b0 b1 hv hno (fun d hd => ?_) ?_ (fun d hd => ?_) ?_
        · rw [ho 35 d (by omega) (by omega) (by omega), h5]
        · rw [upd_o (by omega), hB2, upd_o (by omega), hB1, upd_at]
        · rw [ho 36 d (by omega) (by omega) (by omega), h6]
        · rw [upd_o (by omega), hB2, upd_at]
      · refine ⟨oM_0 (by omega) km0 54 rfl, ?_⟩
        refine ⟨⟨by omega, by omega⟩, ?_⟩
        refine ⟨oM_0 (by omega) km0 54 rfl, ?_⟩
        refine ⟨⟨by omega, by omega⟩, ?_⟩
        exact ⟨rfl, rfl⟩
    refine wq_ok srt_Mway (fr := []) (cuts := [289]) (J := fun pc st => (pc = 289 ∧ st = ([(2, 0), (0, n), (0, m), (1, bg), (9, 0), (0, c), (0, b), (0, g), (1, v), (9, 0)], [], pm_upd B1 (B1 0 53) (B1 0 54) ((B1 (B1 0 53) c) + 1)))) ?_ 16 271 _ ?_
    · rintro pc st (⟨rfl, rfl⟩)
      rw [c53, k54, k36]
      exact h289 _ rfl
    · refine ⟨oM_0 (by omega) km0 53 rfl, ?_⟩
      refine ⟨oM_0 (by omega) km0 54 rfl, ?_⟩
      refine ⟨oM_0 (by omega) km0 53 rfl, ?_⟩
      refine ⟨aM_36 (r := B1 0 53) (by rw [c53]; omega) (by rw [c53]; exact kn36) (by omega) (by omega), ?_⟩
      have e1 : B1 (B1 0 53) c = B1 36 c := by rw [c53]
      refine ⟨(by rw [c53, k36]; exact ⟨by omega, by omega⟩), ?_⟩
      refine ⟨tM_36 (r := B1 0 53) (by rw [c53]; omega) (by rw [c53]; exact kn36) (by omega) (by omega) rfl, ?_⟩
      exact ⟨rfl, rfl⟩
  refine wq_ok srt_Mway (fr := []) (cuts := [271]) (J := fun pc st => (pc = 271 ∧ st = ([(2, 0), (0, n), (0, m), (1, bg), (9, 0), (0, c), (0, b), (0, g), (1, v), (9, 0)], [], pm_upd B (B 0 52) (B 0 54) v))) ?_ 11 260 _ ?_
  · rintro pc st (⟨rfl, rfl⟩)
    rw [c52, h7]
    exact h271 _ rfl
  · refine ⟨oM_0 (by omega) km0 52 rfl, ?_⟩
    refine ⟨oM_0 (by omega) km0 54 rfl, ?_⟩
    refine ⟨tM_35 (r := B 0 52) (by rw [c52]; omega) (by rw [c52]; exact kn35) (by omega) (by omega) rfl, ?_⟩
    exact ⟨rfl, rfl⟩
theorem wy_214 {A B : pm_A} {n m bg c b cm wm : Int} {bm bf V fa : Int → Int} (hw : wyS A B n bm bf V fa cm wm) (hb : bmS n bm bf m) (h : bfsI n bm bf m V fa cm c b) (c0 : 0 ≤ c) (c1 : c < cm) (b0 : 0 ≤ b) (b1 : b < m) (ht : ¬ tbt (V c) b = 0) {w7 w8 w9 : pm_V} (H : ∀ (C : pm_A) (V' fa' : Int → Int) (cm' : Int) (w7 w8 w9 : pm_V), wyS A C n bm bf V' fa' cm' wm → bfsI n bm bf m V' fa' cm' c (b + 1) → c < cm' → Tm pmt (an_sh wM) o_X10_way 188 ([(2, 0), (0, n), (0, m), (1, bg), (9, 0), (0, c), (0, b + 1), w7, w8, w9], [], C) ri_post) : Tm pmt (an_sh wM) o_X10_way 214 ([(2, 0), (0, n), (0, m), (1, bg), (9, 0), (0, c), (0, b), w7, w8, w9], [], B) ri_post := by
  have hl := h.1.1
  obtain ⟨F, hF, hV⟩ := h.1.2.2.1 c c0 c1
  have hn := hF.1.1
  obtain ⟨d0, d1, _⟩ := hb.2.2 b b0 b1
  have hm := hb.1
  have hFb : F (bf b) = 1 := by
    have := msk_bit hF.1 hb b0 b1
    rw [← hV] at this
    omega
  have hw0 := hw
  obtain ⟨h1, h2, h3, h4, h5, h6, h7, h8, h9, h10⟩ := hw
  have c52 := pM_52 h1
  have ev : B (B 0 52) c = V c := by rw [c52, h5]
  refine wq_ok srt_Mway (fr := []) (cuts := [226]) (J := fun pc st => (pc = 226 ∧ ∃ B1, tkB_post B 1 (bitsV bm F 100) (none, B1) ∧ st = ([(2, 0), (0, n), (0, m), (1, bg), (9, 0), (0, c), (0, b), w7, w8, w9], [], B1))) ?_ 11 214 _ ?_
  · rintro pc st (⟨rfl, B1, hk, rfl⟩)
    have g1 : gH wM B1 := hk.2.1
    have eF := tk_F hb hF h3 hk
    have hw1 : wyS A B1 n bm bf V fa cm wm := hw0.c32 g1 hk.2.2.1
    have hC : cutS n (fcs B1 1) := cutS_congr hF eF
    have hf : fcs B1 1 (bf b) = 1 := by rw [eF _ d0 d1]; exact hFb
    have e31 : B1 31 1 = n := by rw [hw1.2.1 31 1 (by omega) (by omega)]; exact h10.2.1
    have c51 := pM_51 g1
    have ef : B1 (B1 0 51) b = bf b := by rw [c51, hw1.2.2.2.1]
    refine wq_ok srt_Mway (fr := []) (cuts := [238]) (J := fun pc st => (pc = 238 ∧ ∃ B2 i o, oth n (fcs B1 1) (bf b) i o ∧ gH wM B2 ∧ B2 = pm_upd (pm_upd B1 32 (100 * 1 + bf b) 0) 32 (100 * 1 + cod i o) 1 ∧ st = ([(2, 0), (0, n), (0, m), (1, bg), (9, 0), (0, c), (0, b), w7, w8, w9], [(0, cod i o)], B2))) ?_ 11 226 _ ?_
    · rintro pc st (⟨rfl, B2, i, o, ho, q2, q3, rfl⟩)
      have hcb := cod_b hC.1 d0 d1 hf ho
      have hw2 : wyS A B2 n bm bf V fa cm wm := hw1.c32 q2 (fun q j hq => by rw [q3, upd_o (by omega), upd_o (by omega)])
      obtain ⟨k1, k2, k3, k4, k5, k6, k7, k8, k9, k10⟩ := hw2
      have hw2 : wyS A B2 n bm bf V fa cm wm := ⟨k1, k2, k3, k4, k5, k6, k7, k8, k9, k10⟩
      have hmf : mfl n bm bf (V c) b (bitsV (B2 33) (fcs B2 1) 100) := wy_mfl hb hF b0 b1 hV k3 eF hf ho hcb.1 hcb.2.1 q3
      refine wq_ok srt_Mway (fr := []) (cuts := [245]) (J := fun pc st => (pc = 245 ∧ st = ([(2, 0), (0, n), (0, m), (1, bg), (9, 0), (0, c), (0, b), (0, cod i o), w8, w9], [(1, bitsV (B2 33) (fcs B2 1) 100)], B2))) ?_ 8 238 _ ?_
      · rintro pc st (⟨rfl, rfl⟩)
        refine wq_ok srt_Mway (fr := []) (cuts := [253]) (J := fun pc st => (pc = 253 ∧ ∃ x, ((x = -1 ∧ ∀ d : Int, 0 ≤ d → d < B2 0 54 → ¬ B2 35 d = bitsV (B2 33) (fcs B2 1) 100) ∨ (0 ≤ x ∧ x < B2 0 54 ∧ B2 35 x = bitsV (B2 33) (fcs B2 1) 100)) ∧ st = ([(2, 0), (0, n), (0, m), (1, bg), (9, 0), (0, c), (0, b), (0, cod i o), (1, bitsV (B2 33) (fcs B2 1) 100), (9, 0)], [(0, x)], B2))) ?_ 8 245 _ ?_
        · rintro pc st (⟨rfl, x, hx, rfl⟩)
          refine wq_ok srt_Mway (fr := []) (cuts := [188, 260]) (J := fun pc st => (pc = 260 ∧ (x = ((-1))) ∧ st = ([(2, 0), (0, n), (0, m), (1, bg), (9, 0), (0, c), (0, b), (0, cod i o), (1, bitsV (B2 33) (fcs B2 1) 100), (9, 0)], [], B2)) ∨ (pc = 188 ∧ (¬ x = ((-1))) ∧ st = ([(2, 0), (0, n), (0, m), (1, bg), (9, 0), (0, c), (0, b + 1), (0, cod i o), (1, bitsV (B2 33) (fcs B2 1) 100), (9, 0)], [], B2))) ?_ 10 253 _ ?_
          · rintro pc st (⟨rfl, h0, rfl⟩ | ⟨rfl, h0, rfl⟩)
            · exact wy_260 hw2 hb h c0 c1 b0 b1 hmf (bitsV_i64 _ _ _) (fun d k0 k1 => by rcases hx with ⟨_, hx⟩ | hx; exact (by have := hx d k0 (by omega); rwa [k5] at this); omega) H
            · refine H B2 V fa cm _ _ _ hw2 ?_ c1
              rcases hx with hx | ⟨x0, x1, x2⟩
              · exact absurd hx.1 h0
              · exact bfs_old hb h c1 hmf x0 (by omega) (by rw [← x2, k5])
          · refine ⟨fun h0 => ?_, fun h0 => ?_⟩
            · exact Or.inl (⟨rfl, h0, rfl⟩)
            · refine ⟨⟨by omega, by omega⟩, ?_⟩
              exact Or.inr (⟨rfl, h0, rfl⟩)
        · refine ⟨rM_0 (by omega) km0, ?_⟩
          refine (cuttingOf_ex q2).imp ?_
          rintro ⟨r1, C⟩ ⟨p1, x, p2, hx⟩
          simp only at p1 p2
          subst p1
          subst p2
          exact ⟨rfl, x, hx, rfl⟩
      · refine ⟨rM_0 (by omega) km0, ?_⟩
        refine (bits_ex (sl := 1) q2 (by omega) (by omega)).imp ?_
        rintro r rfl
        exact ⟨rfl, rfl⟩
    · refine ⟨oM_0 (by omega) km0 51 rfl, ?_⟩
      refine ⟨aM_34 (r := B1 0 51) (by rw [c51]; omega) (by rw [c51]; exact kn34) (by omega) (by omega), ?_⟩
      have e1 : B1 (B1 0 51) b = B1 34 b := by rw [c51]
      refine ⟨rM_0 (by omega) km0, ?_⟩
      rw [ef]
      refine (flips_ex (sl := 1) g1 (by omega) (by omega) (by rw [e31]; exact hC) d0 d1 hf).imp ?_
      rintro ⟨r1, B2⟩ ⟨i, o, ho, q1, q2, q3⟩
      simp only at q1 q2 q3
      subst q1
      rw [e31] at ho
      exact ⟨rfl, B2, i, o, ho, q2, q3, rfl⟩
  · refine ⟨oM_0 (by omega) km0 52 rfl, ?_⟩
    refine ⟨aM_35 (r := B 0 52) (by rw [c52]; omega) (by rw [c52]; exact kn35) (by omega) (by omega), ?_⟩
    have e1 : B (B 0 52) c = B 35 c := by rw [c52]
    refine ⟨rM_0 (by omega) km0, ?_⟩
    refine (takesBits_ex (sl := 1) h1 (by omega) (by omega)).imp ?_
    rintro ⟨r1, B1⟩ hk
    have q1 := hk.1
    simp only at q1
    subst q1
    rw [ev, hV] at hk
    exact ⟨rfl, B1, hk, rfl⟩
theorem wy_188 {A : pm_A} {n m bg c wm : Int} {bm bf : Int → Int} (hb : bmS n bm bf m) (c0 : 0 ≤ c) (H : ∀ (C : pm_A) (V fa : Int → Int) (cm : Int) (w6 w7 w8 w9 : pm_V), wyS A C n bm bf V fa cm wm → bfsI n bm bf m V fa cm (c + 1) 0 → Tm pmt (an_sh wM) o_X10_way 305 ([(2, 0), (0, n), (0, m), (1, bg), (9, 0), (0, c), w6, w7, w8, w9], [], C) ri_post) : ∀ (k : Nat) (b : Int) (w7 w8 w9 : pm_V) (B : pm_A) (V fa : Int → Int) (cm : Int), (35 - b).toNat < k → 0 ≤ b → b ≤ 35 → wyS A B n bm bf V fa cm wm → bfsI n bm bf m V fa cm c b → c < cm → Tm pmt (an_sh wM) o_X10_way 188 ([(2, 0), (0, n), (0, m), (1, bg), (9, 0), (0, c), (0, b), w7, w8, w9], [], B) ri_post := by
  have hm := hb.1
  intro k
  induction k with
  | zero => intro b w7 w8 w9 B V fa cm h; omega
  | succ k ih =>
    intro b w7 w8 w9 B V fa cm hk b0 b1 hw h c1
    have hl := h.1.1
    have hw0 := hw
    obtain ⟨h1, h2, h3, h4, h5, h6, h7, h8, h9, h10⟩ := hw
    have c52 := pM_52 h1
    have ev : B (B 0 52) c = V c := by rw [c52, h5]
    refine wq_ok srt_Mway (fr := []) (cuts := [188, 214, 305]) (J := fun pc st => (pc = 305 ∧ (m ≤ b) ∧ st = ([(2, 0), (0, n), (0, m), (1, bg), (9, 0), (0, c), (0, b), w7, w8, w9], [], B)) ∨ (pc = 214 ∧ (b < m) ∧ (0 < (tbt (B (B 0 52) c) b)) ∧ st = ([(2, 0), (0, n), (0, m), (1, bg), (9, 0), (0, c), (0, b), w7, w8, w9], [], B)) ∨ (pc = 188 ∧ (b < m) ∧ ((tbt (B (B 0 52) c) b) = 0) ∧ st = ([(2, 0), (0, n), (0, m), (1, bg), (9, 0), (0, c), (0, b + 1), w7, w8, w9], [], B)) ∨ (pc = 214 ∧ (b < m) ∧ ((tbt (B (B 0 52) c) b) < 0) ∧ st = ([(2, 0), (0, n), (0, m), (1, bg), (9, 0), (0, c), (0, b), w7, w8, w9], [], B))) ?_ 22 188 _ ?_
    · rintro pc st (⟨rfl, h0, rfl⟩ | ⟨rfl, h0, h1_, rfl⟩ | ⟨rfl, h0, h1_, rfl⟩ | ⟨rfl, h0, h1_, rfl⟩)
      · exact H B V fa cm _ _ _ _ hw0 (bfs_next h c0 (by omega))
      · rw [ev] at h1_
        exact wy_214 hw0 hb h c0 c1 b0 (by omega) (by omega) (fun C V' fa' cm' w7 w8 w9 hC hI hc => ih (b + 1) w7 w8 w9 C V' fa' cm' (by omega) (by omega) (by omega) hC hI hc)
      · rw [ev] at h1_
        exact ih (b + 1) _ _ _ B V fa cm (by omega) (by omega) (by omega) hw0 (bfs_skip hb h h1_) c1
      · rw [ev] at h1_
        exact wy_214 hw0 hb h c0 c1 b0 (by omega) (by omega) (fun C V' fa' cm' w7 w8 w9 hC hI hc => ih (b + 1) w7 w8 w9 C V' fa' cm' (by omega) (by omega) (by omega) hC hI hc)
    · refine ⟨fun h0 => ?_, fun h0 => ?_⟩
      · exact Or.inl (⟨rfl, h0, rfl⟩)
      · refine ⟨oM_0 (by omega) km0 52 rfl, ?_⟩
        refine ⟨aM_35 (r := B 0 52) (by rw [c52]; omega) (by rw [c52]; exact kn35) (by omega) (by omega), ?_⟩
        have e1 : B (B 0 52) c = B 35 c := by rw [c52]
        refine ⟨fun h1_ => ?_, fun h1_ => ?_, fun h1_ => ?_⟩
        · refine ⟨fun _ => ?_, fun hh => absurd hh (by decide)⟩
          exact Or.inr (Or.inl (⟨rfl, h0, h1_, rfl⟩))
        · refine ⟨fun hh => absurd hh (by decide), fun _ => ?_⟩
          refine ⟨⟨by omega, by omega⟩, ?_⟩
          exact Or.inr (Or.inr (Or.inl (⟨rfl, h0, h1_, rfl⟩)))
        · refine ⟨fun _ => ?_, fun hh => absurd hh (by decide)⟩
          exact Or.inr (Or.inr (Or.inr (⟨rfl, h0, h1_, rfl⟩)))
theorem wy_176 {A : pm_A} {n m bg wm : Int} {bm bf : Int → Int} (hb : bmS n bm bf m) (m0 : 0 ≤ m) (H : ∀ (C : pm_A) (V fa : Int → Int) (cm c : Int) (w6 w7 w8 w9 : pm_V), wyS A C n bm bf V fa cm wm → bfsI n bm bf m V fa cm c 0 → cm ≤ c → Tm pmt (an_sh wM) o_X10_way 311 ([(2, 0), (0, n), (0, m), (1, bg), (9, 0), (0, c), w6, w7, w8, w9], [], C) ri_post) : ∀ (k : Nat) (c : Int) (w6 w7 w8 w9 : pm_V) (B : pm_A) (V fa : Int → Int) (cm : Int), (1430 - c).toNat < k → 0 ≤ c → c ≤ 1430 → wyS A B n bm bf V fa cm wm → bfsI n bm bf m V fa cm c 0 → Tm pmt (an_sh wM) o_X10_way 176 ([(2, 0), (0, n), (0, m), (1, bg), (9, 0), (0, c), w6, w7, w8, w9], [], B) ri_post := by
  intro k
  induction k with
  | zero => intro c w6 w7 w8 w9 B V fa cm h; omega
  | succ k ih =>
    intro c w6 w7 w8 w9 B V fa cm hk c0 c1 hw h
    have hl := h.1.1
    have h7 := hw.2.2.2.2.2.2.1
    have h305 : c < 1430 → ∀ (C : pm_A) (V fa : Int → Int) (cm : Int) (w6 w7 w8 w9 : pm_V), wyS A C n bm bf V fa cm wm → bfsI n bm bf m V fa cm (c + 1) 0 → Tm pmt (an_sh wM) o_X10_way 305 ([(2, 0), (0, n), (0, m), (1, bg), (9, 0), (0, c), w6, w7, w8, w9], [], C) ri_post := fun hc C V fa cm w6 w7 w8 w9 hw h => by
      refine wq_ok srt_Mway (fr := []) (cuts := [176]) (J := fun pc st => (pc = 176 ∧ st = ([(2, 0), (0, n), (0, m), (1, bg), (9, 0), (0, c + 1), w6, w7, w8, w9], [], C))) ?_ 7 305 _ ?_
      · rintro pc st (⟨rfl, rfl⟩)
        exact ih (c + 1) _ _ _ _ C V fa cm (by omega) (by omega) (by omega) hw h
      · refine ⟨⟨by omega, by omega⟩, ?_⟩
        exact ⟨rfl, rfl⟩
    refine wq_ok srt_Mway (fr := []) (cuts := [188, 311]) (J := fun pc st => (pc = 311 ∧ ((B 0 54) ≤ c) ∧ st = ([(2, 0), (0, n), (0, m), (1, bg), (9, 0), (0, c), w6, w7, w8, w9], [], B)) ∨ (pc = 188 ∧ (c < (B 0 54)) ∧ st = ([(2, 0), (0, n), (0, m), (1, bg), (9, 0), (0, c), (0, 0), w7, w8, w9], [], B))) ?_ 11 176 _ ?_
    · rintro pc st (⟨rfl, h0, rfl⟩ | ⟨rfl, h0, rfl⟩)
      · rw [h7] at h0
        exact H B V fa cm c _ _ _ _ hw h h0
      · rw [h7] at h0
        exact wy_188 hb c0 (h305 (by omega)) _ 0 _ _ _ B V fa cm (Nat.lt_succ_self _) (by omega) (by omega) hw h h0
    · refine ⟨oM_0 (by omega) km0 54 rfl, ?_⟩
      refine ⟨fun h0 => ?_, fun h0 => ?_⟩
      · exact Or.inl (⟨rfl, h0, rfl⟩)
      · exact Or.inr (⟨rfl, h0, rfl⟩)
