/-! the search through cuttings, as rows of masks -/
theorem side_congr {n : Int} {F G : Int → Int} (e : ∀ f : Int, 0 ≤ f → f < 100 → G f = F f) {x y : Int} (x0 : 0 ≤ x) (x1 : x ≤ 9) (y0 : 0 ≤ y) (y1 : y ≤ 9) (h : side n F x y) : side n G x y := h.imp id (fun h => by rw [e _ (by omega) (by omega)]; exact h)
theorem oth_congr {n : Int} {F G : Int → Int} (hn : n ≤ 10) (e : ∀ f : Int, 0 ≤ f → f < 100 → G f = F f) {f i o : Int} (f0 : 0 ≤ f) (f1 : f < 100) (h : oth n F f i o) : oth n G f i o := by
  obtain ⟨⟨a1, a2⟩, ⟨a3, a4, a5⟩, a6, a7, a8, a9⟩ := h
  exact ⟨⟨a1, a2⟩, ⟨a3, a4, a5⟩, side_congr e (by omega) (by omega) (by omega) (by omega) a6, side_congr e (by omega) (by omega) (by omega) (by omega) a7, side_congr e (by omega) (by omega) (by omega) (by omega) a8, side_congr e (by omega) (by omega) (by omega) (by omega) a9⟩
def mfl (n : Int) (bm bf : Int → Int) (v b w : Int) : Prop := ∃ F i o, cutS n F ∧ v = bitsV bm F 100 ∧ F (bf b) = 1 ∧ oth n F (bf b) i o ∧ w = bitsV bm (flF F (bf b) (cod i o)) 100
theorem mfl_det {n m : Int} {bm bf : Int → Int} (hb : bmS n bm bf m) {v b w w' : Int} (b0 : 0 ≤ b) (b1 : b < m) (h : mfl n bm bf v b w) (h' : mfl n bm bf v b w') : w = w' := by
  obtain ⟨F, i, o, h1, h2, h3, h4, h5⟩ := h
  obtain ⟨G, i', o', k1, k2, k3, k4, k5⟩ := h'
  obtain ⟨c0, c1, _⟩ := hb.2.2 b b0 b1
  have e : ∀ f : Int, 0 ≤ f → f < 100 → F f = G f := fun f f0 f1 => msk_inj h1.1 k1.1 hb (h2.symm.trans k2) f0 f1
  have hn := h1.1.1
  have k4 := oth_congr hn.2 e c0 c1 k4
  obtain ⟨rfl, rfl⟩ := oth_uniq h1.1 c0 c1 h3 h4 k4
  rw [h5, k5]
  refine bitsV_congr 100 (fun f f0 f1 => ?_)
  unfold flF
  rw [e f f0 (by omega)]
theorem mfl_bit {n m : Int} {bm bf : Int → Int} (hb : bmS n bm bf m) {v b w : Int} (b0 : 0 ≤ b) (b1 : b < m) (h : mfl n bm bf v b w) : ¬ tbt v b = 0 := by
  obtain ⟨F, i, o, h1, h2, h3, h4, h5⟩ := h
  rw [h2]
  have := msk_bit h1.1 hb b0 b1
  omega
def lsI (n : Int) (bm bf : Int → Int) (m : Int) (V fa : Int → Int) (cm : Int) : Prop := (1 ≤ cm ∧ cm ≤ 1430) ∧ fa 0 = 0 ∧ (∀ c : Int, 0 ≤ c → c < cm → ∃ F, cutS n F ∧ V c = bitsV bm F 100) ∧ (∀ c d : Int, 0 ≤ c → c < d → d < cm → ¬ V c = V d) ∧ (∀ c : Int, 0 < c → c < cm → ∃ p b, 0 ≤ p ∧ p < c ∧ 0 ≤ b ∧ b < m ∧ fa c = fa p + 1 ∧ mfl n bm bf (V p) b (V c)) ∧ (∀ c d : Int, 0 ≤ c → c ≤ d → d < cm → fa c ≤ fa d) ∧ ∀ c : Int, 0 ≤ c → c < cm → 0 ≤ fa c ∧ fa c ≤ c
def bfsI (n : Int) (bm bf : Int → Int) (m : Int) (V fa : Int → Int) (cm c b : Int) : Prop := lsI n bm bf m V fa cm ∧ (c < cm → ∀ e : Int, 0 ≤ e → e < cm → fa e ≤ fa c + 1) ∧ ∀ c' b' w : Int, 0 ≤ c' → c' < cm → 0 ≤ b' → b' < m → (c' < c ∨ (c' = c ∧ b' < b)) → mfl n bm bf (V c') b' w → ∃ e, 0 ≤ e ∧ e < cm ∧ V e = w ∧ fa e ≤ fa c' + 1
theorem bfs_skip {n m : Int} {bm bf V fa : Int → Int} {cm c b : Int} (hb : bmS n bm bf m) (h : bfsI n bm bf m V fa cm c b) (hz : tbt (V c) b = 0) : bfsI n bm bf m V fa cm c (b + 1) := by
  obtain ⟨h1, h2, h3⟩ := h
  refine ⟨h1, h2, fun c' b' w c0 c1 b0 b1 ho hm => ?_⟩
  by_cases e : c' = c ∧ b' = b
  · obtain ⟨rfl, rfl⟩ := e
    exact absurd hz (mfl_bit hb b0 b1 hm)
  · exact h3 c' b' w c0 c1 b0 b1 (by omega) hm
theorem bfs_old {n m : Int} {bm bf V fa : Int → Int} {cm c b v e : Int} (hb : bmS n bm bf m) (h : bfsI n bm bf m V fa cm c b) (hc : c < cm) (hv : mfl n bm bf (V c) b v) (e0 : 0 ≤ e) (e1 : e < cm) (e2 : V e = v) : bfsI n bm bf m V fa cm c (b + 1) := by
  obtain ⟨h1, h2, h3⟩ := h
  refine ⟨h1, h2, fun c' b' w c0 c1 b0 b1 ho hm => ?_⟩
  by_cases k : c' = c ∧ b' = b
  · obtain ⟨rfl, rfl⟩ := k
    exact ⟨e, e0, e1, e2.trans (mfl_det hb b0 b1 hv hm), h2 hc e e0 e1⟩
  · exact h3 c' b' w c0 c1 b0 b1 (by omega) hm
theorem mfl_cut {n : Int} {bm bf : Int → Int} {m : Int} (hb : bmS n bm bf m) {v b w : Int} (b0 : 0 ≤ b) (b1 : b < m) (h : mfl n bm bf v b w) : ∃ G, cutS n G ∧ w = bitsV bm G 100 := by
  obtain ⟨F, i, o, h1, h2, h3, h4, h5⟩ := h
  obtain ⟨c0, c1, _⟩ := hb.2.2 b b0 b1
  exact ⟨_, fl_cut h1 c0 c1 h3 h4, h5⟩
def rowZ (V : Int → Int) : Nat → List Int
  | 0 => []
  | k + 1 => V k :: rowZ V k
theorem rowZ_mem {V : Int → Int} {x : Int} : ∀ k : Nat, x ∈ rowZ V k → ∃ c : Int, 0 ≤ c ∧ c < k ∧ V c = x
  | 0, h => (List.not_mem_nil h).elim
  | k + 1, h => by
    rw [rowZ, List.mem_cons] at h
    rcases h with h | h
    · exact ⟨k, by omega, by omega, h.symm⟩
    · obtain ⟨c, c0, c1, c2⟩ := rowZ_mem k h
      exact ⟨c, c0, by omega, c2⟩
theorem rowZ_len (V : Int → Int) : ∀ k : Nat, (rowZ V k).length = k
  | 0 => rfl
  | k + 1 => by rw [rowZ, List.length_cons, rowZ_len V k]
theorem rowZ_nd {V : Int → Int} : ∀ k : Nat, (∀ c d : Int, 0 ≤ c → c < d → d < k → ¬ V c = V d) → (rowZ V k).Nodup
  | 0, _ => List.nodup_nil
  | k + 1, h => by
    rw [rowZ, List.nodup_cons]
    refine ⟨fun hx => ?_, rowZ_nd k (fun c d c0 c1 d1 => h c d c0 c1 (by omega))⟩
    obtain ⟨c, c0, c1, c2⟩ := rowZ_mem k hx
    exact h c k c0 c1 (by omega) c2
theorem bfs_room {n m : Int} {bm bf V fa : Int → Int} {cm c b v : Int} (hb : bmS n bm bf m) (h : bfsI n bm bf m V fa cm c b) (b0 : 0 ≤ b) (b1 : b < m) (hv : mfl n bm bf (V c) b v) (hno : ∀ d : Int, 0 ≤ d → d < cm → ¬ V d = v) : cm < 1430 := by
  obtain ⟨⟨⟨l1, l2⟩, _, l4, l5, _⟩, _, _⟩ := h
  obtain ⟨G, g1, g2⟩ := mfl_cut hb b0 b1 hv
  have hn := g1.1.1
  have := cut_few hn.1 hn.2 (N := fun F => bitsV bm F 100) (fun F G e => bitsV_congr 100 (fun f f0 f1 => e f f0 (by omega))) (l := v :: rowZ V cm.toNat) (by
    rw [List.nodup_cons]
    refine ⟨fun hx => ?_, rowZ_nd _ (fun c d c0 c1 d1 => l5 c d c0 c1 (by omega))⟩
    obtain ⟨c, c0, c1, c2⟩ := rowZ_mem _ hx
    exact hno c c0 (by omega) c2) (fun x hx => by
    rw [List.mem_cons] at hx
    rcases hx with hx | hx
    · exact ⟨G, g1, by rw [hx, g2]⟩
    · obtain ⟨c, c0, c1, c2⟩ := rowZ_mem _ hx
      obtain ⟨F, f1, f2⟩ := l4 c c0 (by omega)
      exact ⟨F, f1, by rw [← c2, f2]⟩)
  rw [List.length_cons, rowZ_len] at this
  omega
theorem bfs_new {n m : Int} {bm bf V fa V' fa' : Int → Int} {cm c b v : Int} (hb : bmS n bm bf m) (h : bfsI n bm bf m V fa cm c b) (c0 : 0 ≤ c) (hc : c < cm) (b0 : 0 ≤ b) (b1 : b < m) (hv : mfl n bm bf (V c) b v) (hno : ∀ d : Int, 0 ≤ d → d < cm → ¬ V d = v) (hV : ∀ d : Int, d ≠ cm → V' d = V d) (hV1 : V' cm = v) (hf : ∀ d : Int, d ≠ cm → fa' d = fa d) (hf1 : fa' cm = fa c + 1) : bfsI n bm bf m V' fa' (cm + 1) c (b + 1) := by
  have room := bfs_room hb h b0 b1 hv hno
  obtain ⟨⟨⟨l1, l2⟩, l3, l4, l5, l6, l7, l8⟩, h2, h3⟩ := h
  have h2 := h2 hc
  refine ⟨⟨⟨by omega, by omega⟩, by rw [hf 0 (by omega)]; exact l3, fun d d0 d1 => ?_, fun d e d0 d1 e1 => ?_, fun d d0 d1 => ?_, fun d e d0 d1 e1 => ?_, fun d d0 d1 => ?_⟩, fun _ e e0 e1 => ?_, fun c' b' w c0' c1' b0' b1' ho hm => ?_⟩
  · by_cases k : d = cm
    · rw [k, hV1]; exact mfl_cut hb b0 b1 hv
    · rw [hV d k]; exact l4 d d0 (by omega)
  · rw [hV d (by omega)]
    by_cases k : e = cm
    · rw [k, hV1]; exact hno d d0 (by omega)
    · rw [hV e k]; exact l5 d e d0 d1 (by omega)
  · by_cases k : d = cm
    · rw [k]
      exact ⟨c, b, c0, hc, b0, b1, by rw [hf1, hf c (by omega)], by rw [hV c (by omega), hV1]; exact hv⟩
    · obtain ⟨p, b, p0, p1, p2, p3, p4, p5⟩ := l6 d d0 (by omega)
      exact ⟨p, b, p0, p1, p2, p3, by rw [hf d k, hf p (by omega)]; exact p4, by rw [hV d k, hV p (by omega)]; exact p5⟩
  · by_cases k : e = cm
    · rw [k, hf1]
      by_cases k2 : d = cm
      · rw [k2, hf1]; omega
      · rw [hf d k2]; exact h2 d d0 (by omega)
    · rw [hf d (by omega), hf e k]; exact l7 d e d0 d1 (by omega)
  · by_cases k : d = cm
    · rw [k, hf1]; have := l8 c c0 hc; omega
    · rw [hf d k]; exact l8 d d0 (by omega)
  · rw [hf c (by omega)]
    by_cases k : e = cm
    · rw [k, hf1]; omega
    · rw [hf e k]; exact h2 e e0 (by omega)
  · have kc : c' ≠ cm := by omega
    rw [hV c' kc] at hm
    rw [hf c' kc]
    by_cases k : c' = c ∧ b' = b
    · obtain ⟨rfl, rfl⟩ := k
      exact ⟨cm, by omega, by omega, by rw [hV1]; exact mfl_det hb b0' b1' hv hm, by rw [hf1]; omega⟩
    · obtain ⟨e, e0, e1, e2, e3⟩ := h3 c' b' w c0' (by omega) b0' b1' (by omega) hm
      exact ⟨e, e0, by omega, by rw [hV e (by omega)]; exact e2, by rw [hf e (by omega)]; exact e3⟩
theorem bfs_next {n m : Int} {bm bf V fa : Int → Int} {cm c b : Int} (h : bfsI n bm bf m V fa cm c b) (hc : 0 ≤ c) (hm : m ≤ b) : bfsI n bm bf m V fa cm (c + 1) 0 := by
  obtain ⟨h1, h2, h3⟩ := h
  have h10 := h1
  obtain ⟨⟨l1, l2⟩, l3, l4, l5, l6, l7, l8⟩ := h1
  refine ⟨h10, fun k e e0 e1 => ?_, fun c' b' w c0 c1 b0 b1 ho hw => h3 c' b' w c0 c1 b0 b1 (by omega) hw⟩
  have a := h2 (by omega) e e0 e1
  have b := l7 c (c + 1) hc (by omega) k
  omega
theorem mfl_sym {n m : Int} {bm bf : Int → Int} (hb : bmS n bm bf m) {v b w : Int} (b0 : 0 ≤ b) (b1 : b < m) (h : mfl n bm bf v b w) : ∃ b', 0 ≤ b' ∧ b' < m ∧ mfl n bm bf w b' v := by
  obtain ⟨F, i, o, h1, h2, h3, h4, h5⟩ := h
  obtain ⟨c0, c1, _⟩ := hb.2.2 b b0 b1
  have hc := fl_cut h1 c0 c1 h3 h4
  obtain ⟨g, i', o', g0, g1, g2, g3, g4⟩ := fnb_sym h1 ⟨bf b, i, o, c0, c1, h3, h4, rfl⟩
  have k := msk_b hc.1 hb g0 g1 (by omega)
  refine ⟨bm g, k.1, k.2.1, flF F (bf b) (cod i o), i', o', hc, h5, ?_, ?_, ?_⟩
  · rw [k.2.2]; exact g2
  · rw [k.2.2]; exact g3
  · rw [k.2.2, ← g4]; exact h2
/-- at the search's end: the first cutting is there, not far -/
theorem bfs_end {n m : Int} {bm bf V fa : Int → Int} {cm c b : Int} (hb : bmS n bm bf m) (h : bfsI n bm bf m V fa cm c b) (hc : cm ≤ c) {F G : Int → Int} (hF : cutS n F) (hG : cutS n G) (h0 : V 0 = bitsV bm F 100) : ∃ e, 0 ≤ e ∧ e < cm ∧ V e = bitsV bm G 100 ∧ fa e ≤ 14 := by
  obtain ⟨⟨⟨l1, l2⟩, l3, l4, l5, l6, l7, l8⟩, h2, h3⟩ := h
  obtain ⟨d, d1, e, e0, e1, e2, e3⟩ := conn (n := n) (S := fun F d => ∃ e, 0 ≤ e ∧ e < cm ∧ V e = bitsV bm F 100 ∧ fa e ≤ d) (fun F G d hF hn ⟨e, e0, e1, e2, e3⟩ => by
    obtain ⟨f, i, o, f0, f1, hf, ho, rfl⟩ := hn
    have k := msk_b hF.1 hb f0 f1 (by omega)
    obtain ⟨e', y0, y1, y2, y3⟩ := h3 e (bm f) (bitsV bm (flF F f (cod i o)) 100) e0 e1 k.1 k.2.1 (by omega) ⟨F, i, o, hF, e2, by rw [k.2.2]; exact hf, by rw [k.2.2]; exact ho, by rw [k.2.2]⟩
    exact ⟨e', y0, y1, y2, by omega⟩) (fun F G d hF he ⟨e, e0, e1, e2, e3⟩ => ⟨e, e0, e1, by rw [e2]; exact bitsV_congr 100 (fun f f0 f1 => (he f f0 (by omega)).symm), e3⟩) (d := 0) hF hG ⟨0, by omega, by omega, h0, by omega⟩
  exact ⟨e, e0, e1, e2, by omega⟩
