section
/-! cuttings: each fence has two others; a flip is a cutting again -/
def cutS (n : Int) (F : Int → Int) : Prop := rgS n F ∧ cntF F 100 = n - 3
def iz (F : Int → Int) (f : Int) : Int := if F f = 0 then 0 else 1
def gIn (F : Int → Int) (lo hi : Int) : Int → Int := fun f => if lo ≤ f / 10 ∧ f % 10 ≤ hi ∧ ¬ F f = 0 then 1 else 0
def one1 (F : Int → Int) (k : Int) : Int → Int := fun f => if f = k ∧ ¬ F f = 0 then 1 else 0
def eI (F : Int → Int) (lo hi : Int) : Int := cntF (gIn F lo hi) 100
theorem iz_b (F : Int → Int) (f : Int) : 0 ≤ iz F f ∧ iz F f ≤ 1 := by unfold iz; split <;> omega
theorem cntF_s (F : Int → Int) (n : Nat) : cntF F (n + 1) = cntF F n + iz F n := rfl
theorem cntF_sum {F G H K : Int → Int} : ∀ n : Nat, (∀ f : Int, 0 ≤ f → f < n → iz F f = iz G f + iz H f + iz K f) → cntF F n = cntF G n + cntF H n + cntF K n
  | 0, _ => rfl
  | n + 1, h => by
    have a := cntF_sum n (fun f f0 f1 => h f f0 (by omega))
    have b := h n (by omega) (by omega)
    rw [cntF_s, cntF_s, cntF_s, cntF_s]
    omega
theorem cntF_one (F : Int → Int) (k : Int) (k0 : 0 ≤ k) : ∀ n : Nat, cntF (one1 F k) n = if k < n then iz F k else 0
  | 0 => by rw [if_neg (by omega)]; rfl
  | n + 1 => by
    rw [cntF_s, cntF_one F k k0 n]
    by_cases e : (n : Int) = k
    · rw [if_neg (by omega), if_pos (by omega), ← e]
      unfold iz one1
      by_cases z : F n = 0 <;> simp [z]
    · have z : iz (one1 F k) n = 0 := by unfold iz one1; simp [e]
      rw [z]
      by_cases l : k < n
      · rw [if_pos l, if_pos (by omega)]; omega
      · rw [if_neg l, if_neg (by omega)]; omega
theorem cntF_zero {F : Int → Int} : ∀ n : Nat, (∀ f : Int, 0 ≤ f → f < n → F f = 0) → cntF F n = 0
  | 0, _ => rfl
  | n + 1, h => by
    rw [cntF_s, cntF_zero n (fun f f0 f1 => h f f0 (by omega))]
    unfold iz
    rw [if_pos (h n (by omega) (by omega))]; rfl
theorem iz_if {P : Prop} [Decidable P] : (if (if P then (1 : Int) else 0) = 0 then (0 : Int) else 1) = if P then 1 else 0 := by
  by_cases h : P <;> simp [h]
theorem gIn_split {n : Int} {F : Int → Int} (h : rgS n F) {lo hi c : Int} (l0 : 0 ≤ lo) (lc : lo < c) (ch : c < hi) (hn : hi < n) (hc : c = lo + 1 ∨ F (10 * lo + c) = 1) (hm : ∀ d, c < d → d < hi → ¬ F (10 * lo + d) = 1) : eI F lo hi = eI F lo c + eI F c hi + iz F (10 * lo + hi) := by
  have h1 := h.1
  have e := cntF_one F (10 * lo + hi) (by omega) 100
  rw [if_pos (by omega)] at e
  rw [← e]
  refine cntF_sum 100 (fun f f0 f1 => ?_)
  unfold iz gIn one1
  rw [iz_if, iz_if, iz_if, iz_if]
  by_cases z : F f = 0
  · simp [z]
  · have z1 : F f = 1 := (h.2.1 f f0 (by omega)).resolve_left z
    obtain ⟨⟨v1, v2, v3⟩, v4⟩ := h.2.2 f f0 (by omega) z1
    have x1 : ¬ (f / 10 < c ∧ c < f % 10 ∧ lo < f / 10) := fun ⟨a, b, d⟩ => by
      rcases hc with hc | hc
      · omega
      · have w := v4 (10 * lo + c) (by omega) (by omega) hc
        rw [show (10 * lo + c) / 10 = lo by omega, show (10 * lo + c) % 10 = c by omega] at w
        exact w (Or.inr ⟨by omega, by omega, by omega⟩)
    have x2 : ¬ (f / 10 = lo ∧ c < f % 10 ∧ f % 10 < hi) := fun ⟨a, b, d⟩ => by
      have w := hm (f % 10) b d
      rw [show 10 * lo + f % 10 = f by omega] at w
      exact w z1
    have x3 : f = 10 * lo + hi ↔ (f / 10 = lo ∧ f % 10 = hi) := by omega
    simp only [z, not_false_eq_true, and_true, x3]
    generalize f / 10 = p at *
    generalize f % 10 = q at *
    split <;> split <;> split <;> split <;> omega
theorem pick {F : Int → Int} {lo hi : Int} : ∀ (m : Nat) (k : Int), (k - lo).toNat < m → lo < k → k < hi → (∀ d, k < d → d < hi → ¬ F (10 * lo + d) = 1) → ∃ c, lo < c ∧ c < hi ∧ (c = lo + 1 ∨ F (10 * lo + c) = 1) ∧ ∀ d, c < d → d < hi → ¬ F (10 * lo + d) = 1 := by
  intro m
  induction m with
  | zero => intro k h; omega
  | succ m ih =>
    intro k hm k0 k1 hd
    by_cases e : k = lo + 1 ∨ F (10 * lo + k) = 1
    · exact ⟨k, k0, k1, e, hd⟩
    · refine ih (k - 1) (by omega) (by omega) (by omega) (fun d d0 d1 => ?_)
      by_cases e2 : d = k
      · rw [e2]; exact fun x => e (Or.inr x)
      · exact hd d (by omega) d1
theorem eI_le {n : Int} {F : Int → Int} (h : rgS n F) : ∀ (m : Nat) (lo hi : Int), (hi - lo).toNat < m → 0 ≤ lo → lo < hi → hi < n → eI F lo hi ≤ hi - lo - 1 ∧ (lo + 2 ≤ hi → eI F lo hi - iz F (10 * lo + hi) ≤ hi - lo - 2) := by
  intro m
  induction m with
  | zero => intro lo hi h; omega
  | succ m ih =>
    intro lo hi hm l0 l1 hn
    have h1 := h.1
    by_cases l2 : lo + 2 ≤ hi
    · obtain ⟨c, c0, c1, c2, c3⟩ := pick (F := F) (lo := lo) (hi := hi) _ (hi - 1) (Nat.lt_succ_self _) (by omega) (by omega) (fun d d0 d1 => by omega)
      have s := gIn_split h l0 c0 c1 hn c2 c3
      have a := (ih lo c (by omega) l0 c0 (by omega)).1
      have b := (ih c hi (by omega) (by omega) c1 hn).1
      have d := iz_b F (10 * lo + hi)
      exact ⟨by omega, fun _ => by omega⟩
    · have z : eI F lo hi = 0 := by
        refine cntF_zero 100 (fun f f0 f1 => ?_)
        unfold gIn
        refine if_neg ?_
        rintro ⟨a, b, d⟩
        obtain ⟨⟨v1, v2, v3⟩, v4⟩ := h.2.2 f f0 (by omega) ((h.2.1 f f0 (by omega)).resolve_left d)
        unfold neigh at v3
        omega
      exact ⟨by omega, fun x => by omega⟩
theorem tri_of {n : Int} {F : Int → Int} (h : rgS n F) {lo hi : Int} (l0 : 0 ≤ lo) (l2 : lo + 2 ≤ hi) (hn : hi < n) (hs : eI F lo hi - iz F (10 * lo + hi) = hi - lo - 2) : ∃ c, lo < c ∧ c < hi ∧ (c = lo + 1 ∨ F (10 * lo + c) = 1) ∧ (hi = c + 1 ∨ F (10 * c + hi) = 1) ∧ (lo + 2 ≤ c → eI F lo c - iz F (10 * lo + c) = c - lo - 2) ∧ (c + 2 ≤ hi → eI F c hi - iz F (10 * c + hi) = hi - c - 2) ∧ ∀ f : Int, 0 ≤ f → f < 100 → F f = 1 → lo ≤ f / 10 → f % 10 ≤ hi → f ≠ 10 * lo + hi → (f % 10 ≤ c ∨ c ≤ f / 10) := by
  have h1 := h.1
  obtain ⟨c, c0, c1, c2, c3⟩ := pick (F := F) (lo := lo) (hi := hi) _ (hi - 1) (Nat.lt_succ_self _) (by omega) (by omega) (fun d d0 d1 => by omega)
  have s := gIn_split h l0 c0 c1 hn c2 c3
  obtain ⟨a1, a2⟩ := eI_le h _ lo c (Nat.lt_succ_self _) l0 c0 (by omega)
  obtain ⟨b1, b2⟩ := eI_le h _ c hi (Nat.lt_succ_self _) (by omega) c1 hn
  have d1 := iz_b F (10 * lo + c)
  have d2 := iz_b F (10 * c + hi)
  refine ⟨c, c0, c1, c2, ?_, fun e => ?_, fun e => ?_, fun f f0 f1 hf hp hq hne => ?_⟩
  · by_cases e : c + 2 ≤ hi
    · have b2 := b2 e
      refine Or.inr ((h.2.1 _ (by omega) (by omega)).resolve_left (fun z => ?_))
      have : iz F (10 * c + hi) = 0 := by unfold iz; rw [if_pos z]
      omega
    · exact Or.inl (by omega)
  · have := a2 e
    omega
  · have := b2 e
    omega
  · obtain ⟨⟨v1, v2, v3⟩, v4⟩ := h.2.2 f f0 (by omega) hf
    by_cases q1 : f % 10 ≤ c
    · exact Or.inl q1
    · by_cases q2 : c ≤ f / 10
      · exact Or.inr q2
      · exfalso
        by_cases q3 : f / 10 = lo
        · have w := c3 (f % 10) (by omega) (by omega)
          rw [show 10 * lo + f % 10 = f by omega] at w
          exact w hf
        · rcases c2 with c2 | c2
          · omega
          · have w := v4 (10 * lo + c) (by omega) (by omega) c2
            rw [show (10 * lo + c) / 10 = lo by omega, show (10 * lo + c) % 10 = c by omega] at w
            exact w (Or.inr ⟨by omega, by omega, by omega⟩)
def oth (n : Int) (F : Int → Int) (f i o : Int) : Prop := (f / 10 < i ∧ i < f % 10) ∧ (0 ≤ o ∧ o < n ∧ (o < f / 10 ∨ f % 10 < o)) ∧ side n F (f / 10) i ∧ side n F (f % 10) i ∧ side n F (f / 10) o ∧ side n F (f % 10) o
theorem side_lt {n : Int} {F : Int → Int} {x y : Int} (l : x < y) (h : neigh n x y ∨ F (10 * x + y) = 1) : side n F x y := by
  unfold side
  rw [show min x y = x by omega, show max x y = y by omega]
  exact h
theorem side_sym {n : Int} {F : Int → Int} {x y : Int} (h : side n F x y) : side n F y x := by
  unfold side at h ⊢
  rw [show min y x = min x y by omega, show max y x = max x y by omega]
  exact h.imp (fun h => by unfold neigh at *; omega) id
theorem oth_sat {n : Int} {F : Int → Int} (h : rgS n F) : ∀ (m : Nat) (lo hi : Int), (hi - lo).toNat < m → 0 ≤ lo → lo + 2 ≤ hi → hi < n → eI F lo hi - iz F (10 * lo + hi) = hi - lo - 2 → (neigh n lo hi ∨ F (10 * lo + hi) = 1) → ∀ f : Int, 0 ≤ f → f < 100 → F f = 1 → lo ≤ f / 10 → f % 10 ≤ hi → f ≠ 10 * lo + hi → ∃ i o, oth n F f i o := by
  intro m
  induction m with
  | zero => intro lo hi h; omega
  | succ m ih =>
    intro lo hi hm l0 l2 hn hs hb f f0 f1 hf hp hq hne
    have h1 := h.1
    obtain ⟨⟨v1, v2, v3⟩, v4⟩ := h.2.2 f f0 (by omega) hf
    have v5 : ¬ f % 10 = f / 10 + 1 := fun e => v3 (Or.inl e)
    obtain ⟨c, c0, c1, c2, c3, c4, c5, c6⟩ := tri_of h l0 l2 hn hs
    have sb : side n F lo hi := side_lt (by omega) hb
    have s1 : side n F lo c := side_lt (by omega) (c2.imp (fun e => Or.inl e) id)
    have s2 : side n F c hi := side_lt (by omega) (c3.imp (fun e => Or.inl e) id)
    rcases c6 f f0 f1 hf hp hq hne with q | q
    · by_cases e : f = 10 * lo + c
      · obtain ⟨i, i0, i1, i2, i3, _⟩ := tri_of h l0 (show lo + 2 ≤ c by omega) (by omega) (c4 (by omega))
        have e1 : f / 10 = lo := by omega
        have e2 : f % 10 = c := by omega
        refine ⟨i, hi, ?_⟩
        unfold oth
        rw [e1, e2]
        exact ⟨⟨i0, i1⟩, ⟨by omega, by omega, Or.inr (by omega)⟩, side_lt (by omega) (i2.imp (fun e => Or.inl e) id), side_sym (side_lt (by omega) (i3.imp (fun e => Or.inl e) id)), sb, s2⟩
      · exact ih lo c (by omega) l0 (by omega) (by omega) (c4 (by omega)) (c2.imp (fun e => Or.inl e) id) f f0 f1 hf hp q e
    · by_cases e : f = 10 * c + hi
      · obtain ⟨i, i0, i1, i2, i3, _⟩ := tri_of h (show 0 ≤ c by omega) (show c + 2 ≤ hi by omega) (by omega) (c5 (by omega))
        have e1 : f / 10 = c := by omega
        have e2 : f % 10 = hi := by omega
        refine ⟨i, lo, ?_⟩
        unfold oth
        rw [e1, e2]
        exact ⟨⟨i0, i1⟩, ⟨by omega, by omega, Or.inl (by omega)⟩, side_lt (by omega) (i2.imp (fun e => Or.inl e) id), side_sym (side_lt (by omega) (i3.imp (fun e => Or.inl e) id)), side_sym s1, side_sym sb⟩
      · exact ih c hi (by omega) (by omega) (by omega) (by omega) (c5 (by omega)) (c3.imp (fun e => Or.inl e) id) f f0 f1 hf q hq e
theorem cut_top {n : Int} {F : Int → Int} (h : cutS n F) : eI F 0 (n - 1) - iz F (10 * 0 + (n - 1)) = n - 1 - 0 - 2 := by
  obtain ⟨h, hc⟩ := h
  have h1 := h.1
  have z : F (10 * 0 + (n - 1)) = 0 := by
    refine (h.2.1 _ (by omega) (by omega)).resolve_right (fun e => ?_)
    obtain ⟨⟨v1, v2, v3⟩, _⟩ := h.2.2 _ (by omega) (by omega) e
    exact v3 (Or.inr (Or.inr (Or.inl ⟨by omega, by omega⟩)))
  have e : eI F 0 (n - 1) = cntF F 100 := by
    refine cntF_congr 100 (fun f f0 f1 => ?_)
    unfold gIn
    rcases h.2.1 f f0 (by omega) with e | e
    · rw [e]; simp
    · obtain ⟨⟨v1, v2, v3⟩, _⟩ := h.2.2 f f0 (by omega) e
      rw [e, if_pos ⟨by omega, by omega, by omega⟩]
  have e2 : iz F (10 * 0 + (n - 1)) = 0 := by unfold iz; rw [if_pos z]
  omega
theorem cut_oth {n : Int} {F : Int → Int} (h : cutS n F) {f : Int} (f0 : 0 ≤ f) (f1 : f < 100) (hf : F f = 1) : ∃ i o, oth n F f i o := by
  have h1 := h.1.1
  obtain ⟨⟨v1, v2, v3⟩, _⟩ := h.1.2.2 f f0 f1 hf
  refine oth_sat h.1 _ 0 (n - 1) (Nat.lt_succ_self _) (by omega) (by omega) (by omega) (cut_top h) (Or.inl (Or.inr (Or.inr (Or.inl ⟨rfl, rfl⟩)))) f f0 f1 hf (by omega) (by omega) (fun e => ?_)
  exact v3 (Or.inr (Or.inr (Or.inl ⟨by omega, by omega⟩)))
theorem side_nc {n : Int} {F : Int → Int} (h : rgS n F) {a b y : Int} (a0 : 0 ≤ a) (ab : a < b) (bn : b < n) (hs : side n F a b) (y0 : 0 ≤ y) (y1 : y < 100) (hy : F y = 1) : ¬ crossd a b (y / 10) (y % 10) := by
  have h1 := h.1
  obtain ⟨⟨v1, v2, v3⟩, v4⟩ := h.2.2 y y0 y1 hy
  unfold side at hs
  rw [show min a b = a by omega, show max a b = b by omega] at hs
  rcases hs with hs | hs
  · unfold neigh at hs; unfold crossd; omega
  · have w := v4 (10 * a + b) (by omega) (by omega) hs
    rw [show (10 * a + b) / 10 = a by omega, show (10 * a + b) % 10 = b by omega] at w
    exact fun x => w (crossd_sym x)
theorem side_fence {n : Int} {F : Int → Int} {a b : Int} (a0 : 0 ≤ a) (ab : a + 2 ≤ b) (hn : ¬ (a = 0 ∧ b = n - 1)) (hs : side n F a b) : F (10 * a + b) = 1 := by
  unfold side at hs
  rw [show min a b = a by omega, show max a b = b by omega] at hs
  rcases hs with hs | hs
  · unfold neigh at hs; omega
  · exact hs
theorem nocross {n : Int} {F : Int → Int} (h : rgS n F) {a b c d : Int} (a0 : 0 ≤ a) (ac : a < c) (cb : c < b) (bd : b < d) (dn : d < n) (h1 : side n F a b) (h2 : side n F c d) : False := by
  have hn := h.1
  have e := side_fence (by omega) (by omega) (by omega) h2
  have w := side_nc h a0 (by omega) (by omega) h1 (show 0 ≤ 10 * c + d by omega) (by omega) e
  rw [show (10 * c + d) / 10 = c by omega, show (10 * c + d) % 10 = d by omega] at w
  exact w (Or.inl ⟨ac, cb, bd⟩)
theorem oth_uniq {n : Int} {F : Int → Int} (h : rgS n F) {f i o i' o' : Int} (f0 : 0 ≤ f) (f1 : f < 100) (hf : F f = 1) (h1 : oth n F f i o) (h2 : oth n F f i' o') : i = i' ∧ o = o' := by
  obtain ⟨⟨v1, v2, v3⟩, _⟩ := h.2.2 f f0 f1 hf
  have key : ∀ i o i' o', oth n F f i o → oth n F f i' o' → ¬ i < i' ∧ ¬ o < o' := fun i o i' o' h1 h2 => by
    obtain ⟨⟨a1, a2⟩, ⟨a3, a4, a5⟩, a6, a7, a8, a9⟩ := h1
    obtain ⟨⟨b1, b2⟩, ⟨b3, b4, b5⟩, b6, b7, b8, b9⟩ := h2
    refine ⟨fun l => nocross h (by omega) a1 l b2 (by omega) b6 (side_sym a7), fun l => ?_⟩
    rcases a5 with a5 | a5
    · rcases b5 with b5 | b5
      · exact nocross h a3 l b5 v1 (by omega) (side_sym a8) (side_sym b9)
      · exact nocross h a3 a5 v1 b5 b4 (side_sym a9) b8
    · rcases b5 with b5 | b5
      · omega
      · exact nocross h (by omega) v1 a5 l b4 a8 b9
  have k1 := key i o i' o' h1 h2
  have k2 := key i' o' i o h2 h1
  omega
def flF (F : Int → Int) (f g : Int) : Int → Int := fun x => if x = g then 1 else if x = f then 0 else F x
def cod (i o : Int) : Int := 10 * min i o + max i o
theorem cod_b {n : Int} {F : Int → Int} (h : rgS n F) {f i o : Int} (f0 : 0 ≤ f) (f1 : f < 100) (hf : F f = 1) (ho : oth n F f i o) : 0 ≤ cod i o ∧ cod i o < 100 ∧ cod i o / 10 = min i o ∧ cod i o % 10 = max i o ∧ cod i o ≠ f ∧ F (cod i o) = 0 := by
  have h1 := h.1
  obtain ⟨⟨v1, v2, v3⟩, v4⟩ := h.2.2 f f0 f1 hf
  obtain ⟨⟨a1, a2⟩, ⟨a3, a4, a5⟩, a6, a7, a8, a9⟩ := ho
  have b0 : 0 ≤ cod i o := by unfold cod; omega
  have b1 : cod i o < 100 := by unfold cod; omega
  have b2 : cod i o / 10 = min i o := by unfold cod; omega
  have b3 : cod i o % 10 = max i o := by unfold cod; omega
  refine ⟨b0, b1, b2, b3, by omega, (h.2.1 _ b0 b1).resolve_right (fun e => ?_)⟩
  have w := v4 _ b0 b1 e
  rw [b2, b3] at w
  unfold crossd at w
  omega
theorem fl_nc {n : Int} {F : Int → Int} (h : rgS n F) {f i o : Int} (f0 : 0 ≤ f) (f1 : f < 100) (hf : F f = 1) (ho : oth n F f i o) {y : Int} (y0 : 0 ≤ y) (y1 : y < 100) (hy : F y = 1) (hne : y ≠ f) : ¬ crossd (cod i o / 10) (cod i o % 10) (y / 10) (y % 10) := by
  have h1 := h.1
  obtain ⟨b0, b1, b2, b3, b4, b5⟩ := cod_b h f0 f1 hf ho
  obtain ⟨⟨v1, v2, v3⟩, v4⟩ := h.2.2 f f0 f1 hf
  obtain ⟨⟨u1, u2, u3⟩, u4⟩ := h.2.2 y y0 y1 hy
  have u5 := v4 y y0 y1 hy
  obtain ⟨⟨a1, a2⟩, ⟨a3, a4, a5⟩, a6, a7, a8, a9⟩ := ho
  have hne2 : ¬ (y / 10 = f / 10 ∧ y % 10 = f % 10) := by omega
  have w1 := side_nc h (by omega) a1 (by omega) a6 y0 y1 hy
  have w2 := side_nc h (by omega) a2 (by omega) (side_sym a7) y0 y1 hy
  have lo0 : 0 ≤ f / 10 := by omega
  rw [b2, b3]
  clear b0 b1 b2 b3 b4 b5 hf
  generalize f / 10 = lo at *
  generalize f % 10 = hi at *
  rcases a5 with a5 | a5
  · have w3 := side_nc h a3 a5 (by omega) (side_sym a8) y0 y1 (by assumption)
    have w4 := side_nc h a3 (show o < hi by omega) (by omega) (side_sym a9) y0 y1 (by assumption)
    rw [show min i o = o by omega, show max i o = i by omega]
    generalize y / 10 = p at *
    generalize y % 10 = q at *
    unfold crossd at *
    omega
  · have w3 := side_nc h (by omega) a5 (by omega) a9 y0 y1 (by assumption)
    have w4 := side_nc h (by omega) (show lo < o by omega) (by omega) a8 y0 y1 (by assumption)
    rw [show min i o = i by omega, show max i o = o by omega]
    generalize y / 10 = p at *
    generalize y % 10 = q at *
    unfold crossd at *
    omega
end

section
/-! a flip is a cutting again, and flipped back it is the first one; all go to the fan; how many there are -/
theorem flF_g {F : Int → Int} {f g : Int} : flF F f g g = 1 := by unfold flF; rw [if_pos rfl]
theorem flF_f {F : Int → Int} {f g : Int} (h : g ≠ f) : flF F f g f = 0 := by unfold flF; rw [if_neg (fun e => h e.symm), if_pos rfl]
theorem flF_o {F : Int → Int} {f g x : Int} (h1 : x ≠ g) (h2 : x ≠ f) : flF F f g x = F x := by unfold flF; rw [if_neg h1, if_neg h2]
theorem flF_1 {F : Int → Int} {f g x : Int} (h : flF F f g x = 1) : x = g ∨ (x ≠ g ∧ x ≠ f ∧ F x = 1) := by
  by_cases e1 : x = g
  · exact Or.inl e1
  · by_cases e2 : x = f
    · subst e2; rw [flF_f (fun e => e1 e.symm)] at h; omega
    · rw [flF_o e1 e2] at h; exact Or.inr ⟨e1, e2, h⟩
theorem fl_cnt {F : Int → Int} {f g : Int} (f0 : 0 ≤ f) (f1 : f < 100) (g0 : 0 ≤ g) (g1 : g < 100) (hf : F f = 1) (hg : F g = 0) (hne : g ≠ f) : cntF (flF F f g) 100 = cntF F 100 := by
  have key : ∀ G : Int → Int, (∀ x, x ≠ f → x ≠ g → G x = F x) → cntF G 100 = cntF (fun x => if x = f ∨ x = g then 0 else F x) 100 + iz G f + iz G g := fun G hG => by
    have e1 := cntF_one G f f0 100
    have e2 := cntF_one G g g0 100
    rw [if_pos (by omega)] at e1 e2
    rw [← e1, ← e2]
    refine cntF_sum 100 (fun x x0 x1 => ?_)
    unfold iz one1
    rw [iz_if, iz_if]
    by_cases a : x = f
    · subst a
      have : ¬ x = g := fun e => hne e.symm
      by_cases z : G x = 0 <;> simp [z, this]
    · by_cases b : x = g
      · subst b
        by_cases z : G x = 0 <;> simp [z, a]
      · rw [hG x a b]
        by_cases z : F x = 0 <;> simp [z, a, b]
  rw [key F (fun _ _ _ => rfl), key (flF F f g) (fun x a b => flF_o b a)]
  unfold iz
  rw [flF_g, flF_f hne, hf, hg]
  simp
theorem fl_cut {n : Int} {F : Int → Int} (h : cutS n F) {f i o : Int} (f0 : 0 ≤ f) (f1 : f < 100) (hf : F f = 1) (ho : oth n F f i o) : cutS n (flF F f (cod i o)) := by
  obtain ⟨b0, b1, b2, b3, b4, b5⟩ := cod_b h.1 f0 f1 hf ho
  have hnc := fun {y : Int} (y0 : 0 ≤ y) (y1 : y < 100) (hy : F y = 1) (hne : y ≠ f) => fl_nc h.1 f0 f1 hf ho y0 y1 hy hne
  have h1 := h.1.1
  obtain ⟨⟨v1, v2, v3⟩, v4⟩ := h.1.2.2 f f0 f1 hf
  refine ⟨⟨h1, fun x x0 x1 => ?_, fun x x0 x1 hx => ⟨?_, fun y y0 y1 hy => ?_⟩⟩, by rw [fl_cnt f0 f1 b0 b1 hf b5 b4]; exact h.2⟩
  · unfold flF
    split
    · exact Or.inr rfl
    · split
      · exact Or.inl rfl
      · exact h.1.2.1 x x0 x1
  · rcases flF_1 hx with e | ⟨_, _, e⟩
    · subst e
      rw [b2, b3]
      obtain ⟨⟨a1, a2⟩, ⟨a3, a4, a5⟩, _⟩ := ho
      unfold neigh
      omega
    · exact (h.1.2.2 x x0 x1 e).1
  · rcases flF_1 hx with e | ⟨_, e2, e⟩
    · rcases flF_1 hy with d | ⟨_, d2, d⟩
      · rw [e, d]; unfold crossd; omega
      · rw [e]; exact hnc y0 y1 d d2
    · rcases flF_1 hy with d | ⟨_, d2, d⟩
      · rw [d]; exact fun w => hnc x0 x1 e e2 (crossd_sym w)
      · exact (h.1.2.2 x x0 x1 e).2 y y0 y1 d
theorem side_fl {n : Int} {F : Int → Int} {f g x y : Int} (h : side n F x y) (hne : 10 * min x y + max x y ≠ f) : side n (flF F f g) x y := by
  rcases h with h | h
  · exact Or.inl h
  · refine Or.inr ?_
    unfold flF
    rw [if_neg hne]
    split
    · rfl
    · exact h
theorem fl_oth {n : Int} {F : Int → Int} (h : cutS n F) {f i o : Int} (f0 : 0 ≤ f) (f1 : f < 100) (hf : F f = 1) (ho : oth n F f i o) : ∃ i' o', oth n (flF F f (cod i o)) (cod i o) i' o' ∧ cod i' o' = f := by
  obtain ⟨b0, b1, b2, b3, b4, b5⟩ := cod_b h.1 f0 f1 hf ho
  obtain ⟨⟨v1, v2, v3⟩, v4⟩ := h.1.2.2 f f0 f1 hf
  have h1 := h.1.1
  obtain ⟨⟨a1, a2⟩, ⟨a3, a4, a5⟩, a6, a7, a8, a9⟩ := ho
  have s1 := side_fl (f := f) (g := cod i o) a6 (by omega)
  have s2 := side_fl (f := f) (g := cod i o) a7 (by omega)
  have s3 := side_fl (f := f) (g := cod i o) a8 (by omega)
  have s4 := side_fl (f := f) (g := cod i o) a9 (by omega)
  rcases a5 with a5 | a5
  · refine ⟨f / 10, f % 10, ?_, by unfold cod; omega⟩
    unfold oth
    rw [b2, b3, show min i o = o by omega, show max i o = i by omega]
    exact ⟨⟨a5, a1⟩, ⟨by omega, v2, Or.inr a2⟩, side_sym s3, side_sym s1, side_sym s4, side_sym s2⟩
  · refine ⟨f % 10, f / 10, ?_, by unfold cod; omega⟩
    unfold oth
    rw [b2, b3, show min i o = i by omega, show max i o = o by omega]
    exact ⟨⟨a2, a5⟩, ⟨by omega, by omega, Or.inl a1⟩, side_sym s2, side_sym s4, side_sym s1, side_sym s3⟩
theorem fl_fl {F : Int → Int} {f g : Int} (hf : F f = 1) (hg : F g = 0) (hne : g ≠ f) : flF (flF F f g) g f = F := by
  funext x
  by_cases a : x = f
  · rw [a, flF_g, hf]
  · by_cases b : x = g
    · rw [b, flF_f (fun e => hne e.symm), hg]
    · rw [flF_o a b, flF_o b a]
theorem cutS_congr {n : Int} {F G : Int → Int} (h : cutS n F) (e : ∀ f : Int, 0 ≤ f → f < 100 → G f = F f) : cutS n G := ⟨rgS_congr h.1 e, by rw [cntF_congr 100 (fun f f0 f1 => e f f0 (by omega))]; exact h.2⟩
/-- the fences that do not end at the first corner -/
def aw (F : Int → Int) : Int → Int := fun f => if f / 10 = 0 then 0 else F f
def mu (F : Int → Int) : Int := cntF (aw F) 100
theorem to0 {n : Int} {F : Int → Int} (h : cutS n F) : ∀ (m : Nat) (f : Int), (10 - (f % 10 - f / 10)).toNat < m → 0 ≤ f → f < 100 → F f = 1 → 0 < f / 10 → ∃ f' i, 0 ≤ f' ∧ f' < 100 ∧ F f' = 1 ∧ 0 < f' / 10 ∧ oth n F f' i 0 := by
  intro m
  induction m with
  | zero => intro f h; omega
  | succ m ih =>
    intro f hm f0 f1 hf hp
    have h1 := h.1.1
    obtain ⟨⟨v1, v2, v3⟩, v4⟩ := h.1.2.2 f f0 f1 hf
    obtain ⟨i, o, ho⟩ := cut_oth h f0 f1 hf
    by_cases e : o = 0
    · subst e; exact ⟨f, i, f0, f1, hf, hp, ho⟩
    · obtain ⟨⟨a1, a2⟩, ⟨a3, a4, a5⟩, a6, a7, a8, a9⟩ := ho
      rcases a5 with a5 | a5
      · have w := side_fence (by omega) (by omega) (by omega) (side_sym a9)
        exact ih (10 * o + f % 10) (by omega) (by omega) (by omega) w (by omega)
      · have w := side_fence (by omega) (by omega) (by omega) a8
        exact ih (10 * (f / 10) + o) (by omega) (by omega) (by omega) w (by omega)
theorem mu_fl {n : Int} {F : Int → Int} (h : cutS n F) {f i : Int} (f0 : 0 ≤ f) (f1 : f < 100) (hf : F f = 1) (hp : 0 < f / 10) (ho : oth n F f i 0) : mu F = mu (flF F f (cod i 0)) + 1 := by
  obtain ⟨b0, b1, b2, b3, b4, b5⟩ := cod_b h.1 f0 f1 hf ho
  obtain ⟨⟨a1, a2⟩, _⟩ := ho
  have e1 := cntF_one (aw F) f f0 100
  rw [if_pos (by omega)] at e1
  have e2 : cntF (fun _ => 0) 100 = 0 := cntF_zero 100 (fun _ _ _ => rfl)
  have e3 : iz (aw F) f = 1 := by
    unfold iz aw
    rw [if_neg (show ¬ f / 10 = 0 by omega), hf]; rfl
  have s : mu F = mu (flF F f (cod i 0)) + cntF (one1 (aw F) f) 100 + cntF (fun _ => 0) 100 := by
    refine cntF_sum 100 (fun x x0 x1 => ?_)
    have z0 : iz (fun _ => 0) x = 0 := by unfold iz; rw [if_pos rfl]
    rw [z0]
    by_cases p : x / 10 = 0
    · unfold iz one1 aw
      simp [p]
    · by_cases a : x = f
      · subst a
        unfold iz one1 aw
        rw [flF_f b4, if_neg p, if_neg p, hf]
        simp
      · have c : x ≠ cod i 0 := fun e => p (by rw [e, b2]; omega)
        unfold iz one1 aw
        rw [if_neg p, if_neg p, flF_o c a]
        simp [a]
  omega
theorem mu_0 {n : Int} {F G : Int → Int} (hF : cutS n F) (hG : cutS n G) (eF : mu F = 0) (eG : mu G = 0) : ∀ f : Int, 0 ≤ f → f < 100 → F f = G f := by
  have zero : ∀ F : Int → Int, mu F = 0 → ∀ f : Int, 0 ≤ f → f < 100 → ¬ f / 10 = 0 → F f = 0 := fun F e f f0 f1 hp => by
    by_cases z : F f = 0
    · exact z
    · have := cntF_lt (aw F) (n := f.toNat) (m := 100) (by omega) (by rw [Int.toNat_of_nonneg f0]; unfold aw; rw [if_neg hp]; exact z)
      have := cntF_b (aw F) f.toNat
      unfold mu at e
      omega
  have full : ∀ F : Int → Int, cutS n F → mu F = 0 → ∀ c : Int, 2 ≤ c → c ≤ n - 2 → F c = 1 := fun F h e c c0 c1 => by
    have h1 := h.1.1
    refine (h.1.2.1 c (by omega) (by omega)).resolve_left (fun z => ?_)
    have s := cntF_sum (F := fun f => if 2 ≤ f ∧ f ≤ n - 2 then 1 else 0) (G := F) (H := one1 (fun f => if f = c then 1 else 0) c) (K := fun f => if 2 ≤ f ∧ f ≤ n - 2 ∧ f ≠ c ∧ F f = 0 then 1 else 0) 100 (fun f f0 f1 => by
      have hz : F f = 1 → 2 ≤ f ∧ f ≤ n - 2 ∧ f ≠ c := fun hf => by
        obtain ⟨⟨v1, v2, v3⟩, _⟩ := h.1.2.2 f f0 (by omega) hf
        have p0 : f / 10 = 0 := by
          by_cases p : f / 10 = 0
          · exact p
          · have := zero F e f f0 (by omega) p; omega
        refine ⟨?_, ?_, fun e => by subst e; omega⟩
        · unfold neigh at v3; omega
        · unfold neigh at v3; omega
      unfold iz one1
      rw [iz_if, iz_if, iz_if]
      rcases h.1.2.1 f f0 (by omega) with hf | hf
      · by_cases a : f = c
        · subst a
          rw [hf, if_pos ⟨by omega, by omega⟩]; simp
        · rw [hf]; simp [a]
      · obtain ⟨y1, y2, y3⟩ := hz hf
        rw [hf, if_pos ⟨y1, y2⟩]; simp [y3])
    have s1 : cntF (one1 (fun f => if f = c then 1 else 0) c) 100 = 1 := by
      rw [cntF_one _ c (by omega) 100, if_pos (by omega)]
      unfold iz
      simp
    have s2 := cntF_b (fun f => if 2 ≤ f ∧ f ≤ n - 2 ∧ f ≠ c ∧ F f = 0 then 1 else 0) 100
    have s3 : ∀ m : Nat, cntF (fun f => if 2 ≤ f ∧ f ≤ n - 2 then 1 else 0) m ≤ max 0 (min ((m : Int) - 2) (n - 3)) := fun m => by
      induction m with
      | zero => show (0 : Int) ≤ _; omega
      | succ m ih =>
        rw [cntF_s]
        unfold iz
        rw [iz_if]
        split <;> omega
    have s4 := s3 100
    have s5 := h.2
    omega
  have hn := hF.1.1
  intro f f0 f1
  by_cases p : f / 10 = 0
  · by_cases q : 2 ≤ f ∧ f ≤ n - 2
    · rw [full F hF eF f q.1 q.2, full G hG eG f q.1 q.2]
    · have no : ∀ F : Int → Int, cutS n F → F f = 0 := fun F h => by
        refine (h.1.2.1 f f0 f1).resolve_right (fun hf => ?_)
        obtain ⟨⟨v1, v2, v3⟩, _⟩ := h.1.2.2 f f0 f1 hf
        unfold neigh at v3
        omega
      rw [no F hF, no G hG]
  · rw [zero F eF f f0 f1 p, zero G eG f f0 f1 p]
/-- one is a flip of the other -/
def fnb (n : Int) (F G : Int → Int) : Prop := ∃ f i o, 0 ≤ f ∧ f < 100 ∧ F f = 1 ∧ oth n F f i o ∧ G = flF F f (cod i o)
theorem fnb_sym {n : Int} {F G : Int → Int} (h : cutS n F) (hn : fnb n F G) : fnb n G F := by
  obtain ⟨f, i, o, f0, f1, hf, ho, rfl⟩ := hn
  obtain ⟨b0, b1, b2, b3, b4, b5⟩ := cod_b h.1 f0 f1 hf ho
  obtain ⟨i', o', h1, h2⟩ := fl_oth h f0 f1 hf ho
  exact ⟨cod i o, i', o', b0, b1, flF_g, h1, by rw [h2, fl_fl hf b5 b4]⟩
theorem fnb_cut {n : Int} {F G : Int → Int} (h : cutS n F) (hn : fnb n F G) : cutS n G := by
  obtain ⟨f, i, o, f0, f1, hf, ho, rfl⟩ := hn
  exact fl_cut h f0 f1 hf ho
theorem mu_le {n : Int} {F : Int → Int} (h : cutS n F) : 0 ≤ mu F ∧ mu F ≤ 7 := by
  have h1 := h.1.1
  have h2 := h.2
  have e : cntF F 100 = mu F + cntF (fun f => if f / 10 = 0 then F f else 0) 100 + cntF (fun _ => 0) 100 := by
    refine cntF_sum 100 (fun x x0 x1 => ?_)
    unfold iz aw
    by_cases p : x / 10 = 0 <;> simp [p]
  have a := cntF_b (aw F) 100
  have b := cntF_b (fun f => if f / 10 = 0 then F f else 0) 100
  have c := cntF_b (fun _ => 0) 100
  unfold mu at *
  omega
/-- what is closed by flips, with steps counted, holds every cutting -/
theorem conn {n : Int} {S : (Int → Int) → Int → Prop} (hS : ∀ F G d, cutS n F → fnb n F G → S F d → S G (d + 1)) (hE : ∀ F G d, cutS n F → (∀ f : Int, 0 ≤ f → f < 100 → G f = F f) → S F d → S G d) {F G : Int → Int} {d : Int} (hF : cutS n F) (hG : cutS n G) (h : S F d) : ∃ e, e ≤ d + 14 ∧ S G e := by
  have down : ∀ (m : Nat) (F : Int → Int), cutS n F → mu F = m → ∃ Z, cutS n Z ∧ mu Z = 0 ∧ (∀ d, S F d → S Z (d + m)) ∧ ∀ d, S Z d → S F (d + m) := by
    intro m
    induction m with
    | zero => intro F hF e; exact ⟨F, hF, e, fun d h => by rwa [show d + ((0 : Nat) : Int) = d by omega], fun d h => by rwa [show d + ((0 : Nat) : Int) = d by omega]⟩
    | succ m ih =>
      intro F hF e
      have ex : ∃ f : Int, 0 ≤ f ∧ f < 100 ∧ F f = 1 ∧ 0 < f / 10 := by
        refine Classical.byContradiction (fun hno => ?_)
        have : mu F = 0 := cntF_zero 100 (fun f f0 f1 => by
          unfold aw
          split
          · rfl
          · refine (hF.1.2.1 f f0 (by omega)).resolve_right (fun hf => hno ⟨f, f0, by omega, hf, by omega⟩))
        omega
      obtain ⟨f, f0, f1, hf, hp⟩ := ex
      obtain ⟨f', i, f0', f1', hf', hp', ho⟩ := to0 hF _ f (Nat.lt_succ_self _) f0 f1 hf hp
      have hm := mu_fl hF f0' f1' hf' hp' ho
      have nb : fnb n F (flF F f' (cod i 0)) := ⟨f', i, 0, f0', f1', hf', ho, rfl⟩
      have hc := fnb_cut hF nb
      obtain ⟨Z, z1, z2, z3, z4⟩ := ih _ hc (by omega)
      refine ⟨Z, z1, z2, fun d h => ?_, fun d h => ?_⟩
      · rw [show d + ((m + 1 : Nat) : Int) = d + 1 + m by omega]
        exact z3 _ (hS _ _ _ hF nb h)
      · rw [show d + ((m + 1 : Nat) : Int) = d + m + 1 by omega]
        exact hS _ _ _ hc (fnb_sym hF nb) (z4 d h)
  have mF := mu_le hF
  have mG := mu_le hG
  obtain ⟨Z, z1, z2, z3, _⟩ := down (mu F).toNat F hF (by omega)
  obtain ⟨Y, y1, y2, _, y4⟩ := down (mu G).toNat G hG (by omega)
  have hz := z3 d h
  have hy := hE Z Y _ z1 (mu_0 y1 z1 y2 z2) hz
  exact ⟨_, by omega, y4 _ hy⟩
/-- all cuttings of what lies between two corners, as rows of fences -/
def Tl : Nat → Int → Nat → List (List Int)
  | 0, _, _ => [[]]
  | k + 1, lo, w => if w ≤ 1 then [[]] else (List.range (w - 1)).flatMap fun d => (Tl k lo (d + 1)).flatMap fun a => (Tl k (lo + (d + 1 : Nat)) (w - 1 - d)).map fun b => (10 * lo + (lo + w)) :: (a ++ b)
theorem Tl_mem {n : Int} {F : Int → Int} (h : rgS n F) : ∀ (k : Nat) (lo : Int) (w : Nat), w ≤ k → 1 ≤ w → 0 ≤ lo → lo + w < n → (2 ≤ w → eI F lo (lo + w) - iz F (10 * lo + (lo + w)) = w - 2) → ∃ l, l ∈ Tl k lo w ∧ ∀ f : Int, 0 ≤ f → f < 100 → (f ∈ l ↔ ((F f = 1 ∧ lo ≤ f / 10 ∧ f % 10 ≤ lo + w) ∨ (2 ≤ w ∧ f = 10 * lo + (lo + w)))) := by
  intro k
  induction k with
  | zero => intro lo w h1 h2; omega
  | succ k ih =>
    intro lo w hw w1 l0 ln hs
    have h1 := h.1
    by_cases w2 : w ≤ 1
    · refine ⟨[], by unfold Tl; rw [if_pos w2]; exact List.mem_singleton.2 rfl, fun f f0 f1 => ⟨fun x => (List.not_mem_nil x).elim, ?_⟩⟩
      rintro (⟨hf, a, b⟩ | ⟨a, b⟩)
      · obtain ⟨⟨v1, v2, v3⟩, _⟩ := h.2.2 f f0 f1 hf
        unfold neigh at v3
        omega
      · omega
    · obtain ⟨c, c0, c1, c2, c3, c4, c5, c6⟩ := tri_of h l0 (show lo + 2 ≤ lo + w by omega) ln (by rw [hs (by omega)]; omega)
      obtain ⟨a, a1, a2⟩ := ih lo (c - lo).toNat (by omega) (by omega) l0 (by omega) (fun e => by rw [show lo + ((c - lo).toNat : Int) = c by omega, c4 (by omega)]; omega)
      obtain ⟨b, b1, b2⟩ := ih c (lo + w - c).toNat (by omega) (by omega) (by omega) (by omega) (fun e => by rw [show c + ((lo + w - c).toNat : Int) = lo + w by omega, c5 (by omega)]; omega)
      rw [show lo + ((c - lo).toNat : Int) = c by omega] at a2
      rw [show c + ((lo + w - c).toNat : Int) = lo + w by omega] at b2
      refine ⟨(10 * lo + (lo + w)) :: (a ++ b), ?_, fun f f0 f1 => ?_⟩
      · unfold Tl
        rw [if_neg w2]
        refine List.mem_flatMap.2 ⟨(c - lo - 1).toNat, List.mem_range.2 (by omega), List.mem_flatMap.2 ⟨a, ?_, List.mem_map.2 ⟨b, ?_, rfl⟩⟩⟩
        · rw [show (c - lo - 1).toNat + 1 = (c - lo).toNat by omega]; exact a1
        · rw [show (c - lo - 1).toNat + 1 = (c - lo).toNat by omega, show lo + (((c - lo).toNat : Nat) : Int) = c by omega, show w - 1 - (c - lo - 1).toNat = (lo + w - c).toNat by omega]; exact b1
      · rw [List.mem_cons, List.mem_append, a2 f f0 f1, b2 f f0 f1]
        refine ⟨?_, ?_⟩
        · rintro (e | ((⟨e1, e2, e3⟩ | ⟨e1, e2⟩) | (⟨e1, e2, e3⟩ | ⟨e1, e2⟩)))
          · exact Or.inr ⟨by omega, e⟩
          · exact Or.inl ⟨e1, e2, by omega⟩
          · refine Or.inl ⟨?_, by omega, by omega⟩
            rcases c2 with c2 | c2
            · omega
            · rw [e2]; exact c2
          · exact Or.inl ⟨e1, by omega, e3⟩
          · refine Or.inl ⟨?_, by omega, by omega⟩
            rcases c3 with c3 | c3
            · omega
            · rw [e2]; exact c3
        · rintro (⟨hf, e1, e2⟩ | ⟨_, e⟩)
          · by_cases e : f = 10 * lo + (lo + w)
            · exact Or.inl e
            · rcases c6 f f0 f1 hf e1 e2 e with q | q
              · exact Or.inr (Or.inl (Or.inl ⟨hf, e1, q⟩))
              · exact Or.inr (Or.inr (Or.inl ⟨hf, q, e2⟩))
          · exact Or.inl e
def Cn : Nat → Nat → Nat
  | 0, _ => 1
  | k + 1, w => if w ≤ 1 then 1 else ((List.range (w - 1)).map fun d => Cn k (d + 1) * Cn k (w - 1 - d)).sum
theorem len_fm {α β : Type} (f : α → List β) (c : Nat) : ∀ l : List α, (∀ x, (f x).length = c) → (l.flatMap f).length = l.length * c
  | [], _ => by simp
  | x :: l, h => by rw [List.flatMap_cons, List.length_append, len_fm f c l h, h x, List.length_cons, Nat.succ_mul]; omega
theorem len_fs {α β : Type} (f : α → List β) (g : α → Nat) : ∀ l : List α, (∀ x, (f x).length = g x) → (l.flatMap f).length = (l.map g).sum
  | [], _ => by simp
  | x :: l, h => by rw [List.flatMap_cons, List.length_append, len_fs f g l h, h x, List.map_cons, List.sum_cons]
theorem Tl_len : ∀ (k : Nat) (lo : Int) (w : Nat), (Tl k lo w).length = Cn k w
  | 0, _, _ => rfl
  | k + 1, lo, w => by
    unfold Tl Cn
    split
    · rfl
    · refine len_fs _ _ _ (fun d => ?_)
      rw [len_fm _ (Cn k (w - 1 - d)) _ (fun a => by rw [List.length_map, Tl_len k]), Tl_len k]
theorem Cn_le : ∀ w : Fin 10, Cn 9 w.1 ≤ 1430 := by decide +kernel
theorem nodup_le {α : Type} [DecidableEq α] : ∀ (l m : List α), l.Nodup → (∀ x, x ∈ l → x ∈ m) → l.length ≤ m.length
  | [], _, _, _ => Nat.zero_le _
  | x :: l, m, hn, hs => by
    rw [List.nodup_cons] at hn
    have hx := hs x List.mem_cons_self
    have := nodup_le l (m.erase x) hn.2 (fun y hy => (List.mem_erase_of_ne (fun (e : y = x) => hn.1 (by rw [← e]; exact hy))).2 (hs y (List.mem_cons_of_mem _ hy)))
    rw [List.length_erase_of_mem hx] at this
    have : 0 < m.length := List.length_pos_of_mem hx
    rw [List.length_cons]
    omega
/-- at most 1430 cuttings, told by any name that sees the fences alone -/
theorem cut_few {n : Int} (h1 : 4 ≤ n) (h2 : n ≤ 10) {N : (Int → Int) → Int} (hN : ∀ F G : Int → Int, (∀ f : Int, 0 ≤ f → f < 100 → F f = G f) → N F = N G) {l : List Int} (hn : l.Nodup) (hl : ∀ x, x ∈ l → ∃ F, cutS n F ∧ x = N F) : l.length ≤ 1430 := by
  have key : ∀ x, x ∈ l → x ∈ (Tl 9 0 (n - 1).toNat).map (fun a => N (fun f => if f ∈ a ∧ f ≠ n - 1 then 1 else 0)) := fun x hx => by
    obtain ⟨F, hF, rfl⟩ := hl x hx
    have ht := cut_top hF
    obtain ⟨a, a1, a2⟩ := Tl_mem hF.1 9 0 (n - 1).toNat (by omega) (by omega) (by omega) (by omega) (fun _ => by rw [show (0 : Int) + ((n - 1).toNat : Int) = n - 1 by omega]; omega)
    refine List.mem_map.2 ⟨a, a1, hN _ _ (fun f f0 f1 => ?_)⟩
    have a2 := a2 f f0 f1
    have hno : F f = 1 → f ≠ n - 1 := fun hf e => by
      obtain ⟨⟨v1, v2, v3⟩, _⟩ := hF.1.2.2 f f0 f1 hf
      unfold neigh at v3
      omega
    rcases hF.1.2.1 f f0 f1 with hf | hf
    · rw [hf]
      refine if_neg ?_
      rintro ⟨e1, e2⟩
      rcases a2.1 e1 with ⟨e3, _⟩ | ⟨_, e3⟩
      · omega
      · omega
    · rw [hf]
      obtain ⟨⟨v1, v2, v3⟩, _⟩ := hF.1.2.2 f f0 f1 hf
      exact if_pos ⟨a2.2 (Or.inl ⟨hf, by omega, by omega⟩), hno hf⟩
  have := nodup_le l _ hn key
  rw [List.length_map, Tl_len] at this
  have := Cn_le ⟨(n - 1).toNat, by omega⟩
  simp only at this
  omega
end

section
/-! bits of a long -/
def lbit (v : Int) (j : Nat) : Bool := (Int64.ofInt v).toBitVec.getLsbD j
def shl1 (b : Int) : Int := (o_ls 0 (Int64.ofInt 1) (Int32.ofInt b)).toInt
def shrV (v b : Int) : Int := (o_ls 1 (Int64.ofInt v) (Int32.ofInt b)).toInt
def tbt (v b : Int) : Int := pp_lb 3 (shrV v b) 1
theorem shl1_d : ∀ b : Fin 35, ∀ j : Fin 64, (Int64.ofInt (shl1 (b.1 : Int))).toBitVec.getLsbD j.1 = decide (j.1 = b.1) := by decide +kernel
theorem shl1_bit {b : Int} (b0 : 0 ≤ b) (b1 : b ≤ 34) {j : Nat} (hj : j < 64) : lbit (shl1 b) j = decide (j = b.toNat) := by
  have := shl1_d ⟨b.toNat, by omega⟩ ⟨j, hj⟩
  simp only at this
  rw [Int.toNat_of_nonneg b0] at this
  exact this
theorem lbit_or (x y : Int) (j : Nat) : lbit (pp_lb 4 x y) j = (lbit x j || lbit y j) := by
  show (Int64.ofInt ((Int64.ofInt x ||| Int64.ofInt y).toInt)).toBitVec.getLsbD j = _
  rw [Int64.ofInt_toInt]
  show ((Int64.ofInt x).toBitVec ||| (Int64.ofInt y).toBitVec).getLsbD j = _
  rw [BitVec.getLsbD_or]
  rfl
theorem shamt : ∀ b : Fin 35, ((((Int32.ofInt (b.1 : Int)).toInt64 &&& 63).toBitVec.smod 64).toNat) = b.1 := by decide +kernel
theorem tbt_eq (v : Int) {b : Int} (b0 : 0 ≤ b) (b1 : b ≤ 34) : tbt v b = if lbit v b.toNat = true then 1 else 0 := by
  have hs := shamt ⟨b.toNat, by omega⟩
  simp only at hs
  rw [Int.toNat_of_nonneg b0] at hs
  show (Int64.ofInt ((Int64.ofInt v >>> ((Int32.ofInt b).toInt64 &&& 63)).toInt) &&& Int64.ofInt 1).toInt = _
  rw [Int64.ofInt_toInt]
  show BitVec.toInt (((Int64.ofInt v).toBitVec.sshiftRight (((Int32.ofInt b).toInt64 &&& 63).toBitVec.smod 64).toNat) &&& 1#64) = _
  rw [BitVec.and_one_eq_setWidth_ofBool_getLsbD, BitVec.getLsbD_sshiftRight, hs, if_pos (by omega)]
  unfold lbit
  rw [show b.toNat + 0 = b.toNat from rfl]
  generalize (Int64.ofInt v).toBitVec.getLsbD b.toNat = c
  cases c <;> decide
def i64 (v : Int) : Prop := (Int64.ofInt v).toInt = v
theorem lbit_ext {v w : Int} (hv : i64 v) (hw : i64 w) (h : ∀ j : Nat, j < 64 → lbit v j = lbit w j) : v = w := by
  have e : Int64.ofInt v = Int64.ofInt w := Int64.toBitVec.inj (BitVec.eq_of_getLsbD_eq (fun i hi => h i hi))
  exact hv.symm.trans ((congrArg Int64.toInt e).trans hw)
def bitsV (bm F : Int → Int) : Nat → Int
  | 0 => 0
  | f + 1 => if F f = 0 then bitsV bm F f else pp_lb 4 (bitsV bm F f) (shl1 (bm f))
theorem bitsV_i64 (bm F : Int → Int) : ∀ m : Nat, i64 (bitsV bm F m)
  | 0 => by show (Int64.ofInt 0).toInt = 0; decide
  | m + 1 => by
    rw [bitsV]
    split
    · exact bitsV_i64 bm F m
    · show (Int64.ofInt ((Int64.ofInt _ ||| Int64.ofInt _).toInt)).toInt = (Int64.ofInt _ ||| Int64.ofInt _).toInt
      rw [Int64.ofInt_toInt]
theorem bitsV_congr {bm F G : Int → Int} : ∀ m : Nat, (∀ f : Int, 0 ≤ f → f < m → F f = G f) → bitsV bm F m = bitsV bm G m
  | 0, _ => rfl
  | m + 1, h => by rw [bitsV, bitsV, bitsV_congr m (fun f f0 f1 => h f f0 (by omega)), h m (by omega) (by omega)]
theorem bitsV_bit {bm F : Int → Int} {j : Nat} (hj : j < 64) : ∀ m : Nat, (∀ f : Int, 0 ≤ f → f < m → ¬ F f = 0 → 0 ≤ bm f ∧ bm f ≤ 34) → (lbit (bitsV bm F m) j = true ↔ ∃ f : Int, 0 ≤ f ∧ f < m ∧ ¬ F f = 0 ∧ bm f = j)
  | 0, _ => by
    refine ⟨fun h => ?_, fun ⟨f, f0, f1, _⟩ => by omega⟩
    have : lbit 0 j = false := by
      show ((0 : BitVec 64)).getLsbD j = false
      simp
    rw [bitsV, this] at h
    cases h
  | m + 1, hb => by
    have ih := bitsV_bit hj m (fun f f0 f1 => hb f f0 (by omega))
    rw [bitsV]
    by_cases z : F m = 0
    · rw [if_pos z, ih]
      refine ⟨fun ⟨f, f0, f1, f2, f3⟩ => ⟨f, f0, by omega, f2, f3⟩, fun ⟨f, f0, f1, f2, f3⟩ => ⟨f, f0, ?_, f2, f3⟩⟩
      by_cases e : f = m
      · rw [e] at f2; exact absurd z f2
      · omega
    · have b := hb m (by omega) (by omega) z
      rw [if_neg z, lbit_or, shl1_bit b.1 b.2 hj, Bool.or_eq_true, decide_eq_true_eq, ih]
      refine ⟨?_, fun ⟨f, f0, f1, f2, f3⟩ => ?_⟩
      · rintro (⟨f, f0, f1, f2, f3⟩ | e)
        · exact ⟨f, f0, by omega, f2, f3⟩
        · exact ⟨m, by omega, by omega, z, by omega⟩
      · by_cases e : f = m
        · subst e; exact Or.inr (by omega)
        · exact Or.inl ⟨f, f0, by omega, f2, f3⟩
def vdF (n f : Int) : Prop := f / 10 < f % 10 ∧ f % 10 < n ∧ ¬ neigh n (f / 10) (f % 10)
def bmS (n : Int) (bm bf : Int → Int) (m : Int) : Prop := m ≤ 35 ∧ (∀ f : Int, 0 ≤ f → f < 100 → (vdF n f ∧ 0 ≤ bm f ∧ bm f < m ∧ bf (bm f) = f) ∨ (¬ vdF n f ∧ bm f = -1)) ∧ ∀ b : Int, 0 ≤ b → b < m → 0 ≤ bf b ∧ bf b < 100 ∧ bm (bf b) = b
theorem msk_b {n m : Int} {bm bf F : Int → Int} (h : rgS n F) (hb : bmS n bm bf m) {f : Int} (f0 : 0 ≤ f) (f1 : f < 100) (hf : ¬ F f = 0) : 0 ≤ bm f ∧ bm f < m ∧ bf (bm f) = f := by
  have v := (h.2.2 f f0 f1 ((h.2.1 f f0 f1).resolve_left hf)).1
  rcases hb.2.1 f f0 f1 with ⟨_, e⟩ | ⟨e, _⟩
  · exact e
  · exact absurd v e
theorem msk_bit {n m : Int} {bm bf F : Int → Int} (h : rgS n F) (hb : bmS n bm bf m) {b : Int} (b0 : 0 ≤ b) (b1 : b < m) : (tbt (bitsV bm F 100) b = 1 ∧ F (bf b) = 1) ∨ (tbt (bitsV bm F 100) b = 0 ∧ F (bf b) = 0) := by
  have hm := hb.1
  obtain ⟨c0, c1, c2⟩ := hb.2.2 b b0 b1
  have k := bitsV_bit (bm := bm) (F := F) (j := b.toNat) (by omega) 100 (fun f f0 f1 hf => by have := msk_b h hb f0 (by omega) hf; omega)
  rw [tbt_eq _ b0 (by omega)]
  rcases h.2.1 (bf b) c0 c1 with z | z
  · refine Or.inr ⟨if_neg (fun e => ?_), z⟩
    obtain ⟨f, f0, f1, f2, f3⟩ := k.1 e
    have := msk_b h hb f0 (by omega) f2
    rw [show bm f = b by omega] at this
    rw [← this.2.2] at f2
    exact f2 z
  · exact Or.inl ⟨if_pos (k.2 ⟨bf b, c0, by omega, by omega, by omega⟩), z⟩
theorem msk_f {n m : Int} {bm bf F : Int → Int} (h : rgS n F) (hb : bmS n bm bf m) {f : Int} (f0 : 0 ≤ f) (f1 : f < 100) : (F f = 1 ∧ ¬ bm f = -1 ∧ tbt (bitsV bm F 100) (bm f) = 1) ∨ (F f = 0 ∧ (bm f = -1 ∨ tbt (bitsV bm F 100) (bm f) = 0)) := by
  rcases hb.2.1 f f0 f1 with ⟨_, e1, e2, e3⟩ | ⟨e1, e2⟩
  · have k := msk_bit h hb e1 e2
    rw [e3] at k
    rcases k with ⟨k1, k2⟩ | ⟨k1, k2⟩
    · exact Or.inl ⟨k2, by omega, k1⟩
    · exact Or.inr ⟨k2, Or.inr k1⟩
  · rcases h.2.1 f f0 f1 with z | z
    · exact Or.inr ⟨z, Or.inl e2⟩
    · exact absurd (h.2.2 f f0 f1 z).1 e1
theorem msk_inj {n m : Int} {bm bf F G : Int → Int} (hF : rgS n F) (hG : rgS n G) (hb : bmS n bm bf m) (e : bitsV bm F 100 = bitsV bm G 100) {f : Int} (f0 : 0 ≤ f) (f1 : f < 100) : F f = G f := by
  have a := msk_f hF hb f0 f1
  have b := msk_f hG hb f0 f1
  rw [e] at a
  omega
def vdc (n f : Int) : Int := if f / 10 < f % 10 ∧ f % 10 < n ∧ ¬ f % 10 = f / 10 + 1 ∧ ¬ (f / 10 = 0 ∧ f % 10 = n - 1) then 1 else 0
theorem vdc_35 : ∀ n : Fin 11, cntF (vdc (n.1 : Int)) 100 ≤ 35 := by decide +kernel
theorem vdc_v {n f : Int} : ¬ vdc n f = 0 ↔ vdF n f := by
  unfold vdc vdF neigh
  split
  · exact ⟨fun _ => by omega, fun _ => by omega⟩
  · exact ⟨fun h => by omega, fun h => by omega⟩
end

section
/-! other, flips, flip -/
def inI (n : Int) (F : Int → Int) (lo hi c x : Int) : Prop := (x = -1 ∧ ∀ d : Int, lo < d → d < hi → d < c → ¬ (side n F lo d ∧ side n F hi d)) ∨ ((lo < x ∧ x < hi) ∧ side n F lo x ∧ side n F hi x)
def ouI (n : Int) (F : Int → Int) (lo hi c y : Int) : Prop := (y = -1 ∧ ∀ d : Int, 0 ≤ d → (d < lo ∨ hi < d) → d < c → ¬ (side n F lo d ∧ side n F hi d)) ∨ ((0 ≤ y ∧ y < n ∧ (y < lo ∨ hi < y)) ∧ side n F lo y ∧ side n F hi y)
theorem inI.skip {n : Int} {F : Int → Int} {lo hi c x : Int} (h : inI n F lo hi c x) (hc : ¬ (lo < c ∧ c < hi) ∨ ¬ (side n F lo c ∧ side n F hi c)) : inI n F lo hi (c + 1) x := h.imp (fun ⟨h1, h2⟩ => ⟨h1, fun d d0 d1 d2 => by
  by_cases e : d = c
  · subst e; exact hc.resolve_left (fun k => k ⟨d0, d1⟩)
  · exact h2 d d0 d1 (by omega)⟩) id
theorem ouI.skip {n : Int} {F : Int → Int} {lo hi c y : Int} (h : ouI n F lo hi c y) (hc : ¬ (c < lo ∨ hi < c) ∨ ¬ (side n F lo c ∧ side n F hi c)) : ouI n F lo hi (c + 1) y := h.imp (fun ⟨h1, h2⟩ => ⟨h1, fun d d0 d1 d2 => by
  by_cases e : d = c
  · subst e; exact hc.resolve_left (fun k => k d1)
  · exact h2 d d0 d1 (by omega)⟩) id
def ot_post (A : pm_A) (sl f : Int) (r : pm_R) : Prop := r.2 = A ∧ ∃ i o, oth (A 31 sl) (fcs A sl) f i o ∧ r.1 = some (0, cod i o)
theorem srt_Mother : pm_srt o_X10_other = true := by decide +kernel
theorem ot_86 {A : pm_A} {sl f x y c : Int} (hC : cutS (A 31 sl) (fcs A sl)) (f0 : 0 ≤ f) (f1 : f < 100) (hf : fcs A sl f = 1) (hc : A 31 sl ≤ c) (hx : inI (A 31 sl) (fcs A sl) (f / 10) (f % 10) c x) (hy : ouI (A 31 sl) (fcs A sl) (f / 10) (f % 10) c y) : Tm pmt (an_sh wM) o_X10_other 86 ([(2, 0), (0, sl), (0, f / 10), (0, f % 10), (0, x), (0, y), (0, c)], [], A) (ot_post A sl f) := by
  obtain ⟨⟨v1, v2, v3⟩, _⟩ := hC.1.2.2 f f0 f1 hf
  obtain ⟨i, o, ho⟩ := cut_oth hC f0 f1 hf
  have h1 := hC.1.1
  have hxy : oth (A 31 sl) (fcs A sl) f x y := by
    obtain ⟨a1, ⟨a2, a3, a4⟩, a5, a6, a7, a8⟩ := ho
    rcases hx with ⟨_, hx⟩ | ⟨x1, x2, x3⟩
    · exact absurd ⟨a5, a6⟩ (hx i a1.1 a1.2 (by omega))
    · rcases hy with ⟨_, hy⟩ | ⟨y1, y2, y3⟩
      · exact absurd ⟨a7, a8⟩ (hy o a2 a4 (by omega))
      · exact ⟨x1, y1, x2, x3, y2, y3⟩
  have hb := cod_b hC.1 f0 f1 hf hxy
  have hxy2 := hxy
  obtain ⟨x1, ⟨y1, y2, y3⟩, _⟩ := hxy2
  refine wq_ok srt_Mother (fr := []) (cuts := [95]) (J := fun pc st => (pc = 95 ∧ st = ([(2, 0), (0, sl), (0, f / 10), (0, f % 10), (0, x), (0, y), (0, c)], [(0, min x y), (0, 10)], A))) ?_ 8 86 _ ?_
  · rintro pc st (⟨rfl, rfl⟩)
    refine wq_ok srt_Mother (fr := []) (cuts := [103]) (J := fun pc st => (pc = 103 ∧ st = ([(2, 0), (0, sl), (0, f / 10), (0, f % 10), (0, x), (0, y), (0, c)], [(0, max x y), (0, 10 * (min x y))], A))) ?_ 8 95 _ ?_
    · rintro pc st (⟨rfl, rfl⟩)
      refine wq_ok srt_Mother (fr := []) (cuts := []) (J := fun _ _ => False) ?_ 6 103 _ ?_
      · intro pc st h; exact h.elim
      · refine ⟨⟨by omega, by omega⟩, ?_⟩
        exact ⟨rfl, rfl, x, y, hxy, rfl⟩
    · refine ⟨⟨by omega, by omega⟩, ?_⟩
      refine ⟨rfl, ?_⟩
      refine (greater_ex).imp ?_
      rintro r rfl
      exact ⟨rfl, rfl⟩
  · refine ⟨rfl, ?_⟩
    refine (lesser_ex).imp ?_
    rintro r rfl
    exact ⟨rfl, rfl⟩
theorem ot_9 {A : pm_A} {sl f : Int} (hA : gH wM A) (s0 : 0 ≤ sl) (s1 : sl ≤ 1) (hC : cutS (A 31 sl) (fcs A sl)) (f0 : 0 ≤ f) (f1 : f < 100) (hf : fcs A sl f = 1) : ∀ (m : Nat) (x y c : Int), (10 - c).toNat < m → 0 ≤ c → c ≤ 10 → inI (A 31 sl) (fcs A sl) (f / 10) (f % 10) c x → ouI (A 31 sl) (fcs A sl) (f / 10) (f % 10) c y → Tm pmt (an_sh wM) o_X10_other 9 ([(2, 0), (0, sl), (0, f / 10), (0, f % 10), (0, x), (0, y), (0, c)], [], A) (ot_post A sl f) := by
  have c48 := pM_48 hA
  have b31 := eM_31 hA (r := 31) (by omega) kn31 s0 (show sl < 2 by omega)
  intro m
  induction m with
  | zero => intro x y c h; omega
  | succ m ih =>
    intro x y c hm c0 c1 hx hy
    have h80 : c < A 31 sl → ∀ x y, inI (A 31 sl) (fcs A sl) (f / 10) (f % 10) (c + 1) x → ouI (A 31 sl) (fcs A sl) (f / 10) (f % 10) (c + 1) y → Tm pmt (an_sh wM) o_X10_other 80 ([(2, 0), (0, sl), (0, f / 10), (0, f % 10), (0, x), (0, y), (0, c)], [], A) (ot_post A sl f) := fun hc x y hx hy => by
      refine wq_ok srt_Mother (fr := []) (cuts := [9]) (J := fun pc st => (pc = 9 ∧ st = ([(2, 0), (0, sl), (0, f / 10), (0, f % 10), (0, x), (0, y), (0, c + 1)], [], A))) ?_ 7 80 _ ?_
      · rintro pc st (⟨rfl, rfl⟩)
        exact ih x y (c + 1) (by omega) (by omega) (by omega) hx hy
      · refine ⟨⟨by omega, by omega⟩, ?_⟩
        exact ⟨rfl, rfl⟩
    obtain ⟨⟨v1, v2, v3⟩, _⟩ := hC.1.2.2 f f0 f1 hf
    refine wq_ok srt_Mother (fr := []) (cuts := [40, 80, 86]) (J := fun pc st => (pc = 86 ∧ ((A (A 0 48) sl) ≤ c) ∧ st = ([(2, 0), (0, sl), (0, f / 10), (0, f % 10), (0, x), (0, y), (0, c)], [], A)) ∨ (pc = 80 ∧ (c < (A (A 0 48) sl)) ∧ (c = (f / 10)) ∧ st = ([(2, 0), (0, sl), (0, f / 10), (0, f % 10), (0, x), (0, y), (0, c)], [], A)) ∨ (pc = 80 ∧ (c < (A (A 0 48) sl)) ∧ (¬ c = (f / 10)) ∧ (c = (f % 10)) ∧ st = ([(2, 0), (0, sl), (0, f / 10), (0, f % 10), (0, x), (0, y), (0, c)], [], A)) ∨ (pc = 40 ∧ (c < (A (A 0 48) sl)) ∧ (¬ c = (f / 10)) ∧ (¬ c = (f % 10)) ∧ ∃ z1 : Int, ((z1 = 1 ∧ side (A 31 sl) (fcs A sl) (f / 10) c) ∨ (z1 = 0 ∧ ¬ side (A 31 sl) (fcs A sl) (f / 10) c)) ∧ st = ([(2, 0), (0, sl), (0, f / 10), (0, f % 10), (0, x), (0, y), (0, c)], [(0, z1)], A))) ?_ 21 9 _ ?_
    · rintro pc st (⟨rfl, h0, rfl⟩ | ⟨rfl, h0, h1, rfl⟩ | ⟨rfl, h0, h1, h2, rfl⟩ | ⟨rfl, h0, h1, h2, z1, hz1, rfl⟩)
      · rw [c48] at h0
        exact ot_86 hC f0 f1 hf h0 hx hy
      · rw [c48] at h0
        exact h80 h0 _ _ (hx.skip (Or.inl (by omega))) (hy.skip (Or.inl (by omega)))
      · rw [c48] at h0
        exact h80 h0 _ _ (hx.skip (Or.inl (by omega))) (hy.skip (Or.inl (by omega)))
      · rw [c48] at h0
        have hcn := h0
        clear h0
        have k1 : ¬ c = f / 10 := by assumption
        have k2 : ¬ c = f % 10 := by assumption
        refine wq_ok srt_Mother (fr := []) (cuts := [51, 80]) (J := fun pc st => (pc = 80 ∧ (z1 = 0) ∧ st = ([(2, 0), (0, sl), (0, f / 10), (0, f % 10), (0, x), (0, y), (0, c)], [], A)) ∨ (pc = 51 ∧ (¬ z1 = 0) ∧ ∃ z2 : Int, ((z2 = 1 ∧ side (A 31 sl) (fcs A sl) (f % 10) c) ∨ (z2 = 0 ∧ ¬ side (A 31 sl) (fcs A sl) (f % 10) c)) ∧ st = ([(2, 0), (0, sl), (0, f / 10), (0, f % 10), (0, x), (0, y), (0, c)], [(0, z2)], A))) ?_ 10 40 _ ?_
        · rintro pc st (⟨rfl, h0, rfl⟩ | ⟨rfl, h0, z2, hz2, rfl⟩)
          · have e1 : ¬ side (A 31 sl) (fcs A sl) (f / 10) c := by rcases hz1 with ⟨e, _⟩ | ⟨_, e⟩; omega; exact e
            exact h80 (by omega) _ _ (hx.skip (Or.inr (fun k => e1 k.1))) (hy.skip (Or.inr (fun k => e1 k.1)))
          · have e1 : side (A 31 sl) (fcs A sl) (f / 10) c := by rcases hz1 with ⟨_, e⟩ | ⟨e, _⟩; exact e; omega
            refine wq_ok srt_Mother (fr := []) (cuts := [80]) (J := fun pc st => (pc = 80 ∧ (¬ z2 = 0) ∧ (c ≤ (f / 10)) ∧ st = ([(2, 0), (0, sl), (0, f / 10), (0, f % 10), (0, x), (0, c), (0, c)], [], A)) ∨ (pc = 80 ∧ (¬ z2 = 0) ∧ ((f / 10) < c) ∧ ((f % 10) ≤ c) ∧ st = ([(2, 0), (0, sl), (0, f / 10), (0, f % 10), (0, x), (0, c), (0, c)], [], A)) ∨ (pc = 80 ∧ (¬ z2 = 0) ∧ ((f / 10) < c) ∧ (c < (f % 10)) ∧ st = ([(2, 0), (0, sl), (0, f / 10), (0, f % 10), (0, c), (0, y), (0, c)], [], A)) ∨ (pc = 80 ∧ (z2 = 0) ∧ st = ([(2, 0), (0, sl), (0, f / 10), (0, f % 10), (0, x), (0, y), (0, c)], [], A))) ?_ 15 51 _ ?_
            · rintro pc st (⟨rfl, h0, h1, rfl⟩ | ⟨rfl, h0, h1, h2, rfl⟩ | ⟨rfl, h0, h1, h2, rfl⟩ | ⟨rfl, h0, rfl⟩)
              · have e2 : side (A 31 sl) (fcs A sl) (f % 10) c := by rcases hz2 with ⟨_, e⟩ | ⟨e, _⟩; exact e; omega
                exact h80 (by omega) _ _ (hx.skip (Or.inl (by omega))) (Or.inr ⟨⟨by omega, by omega, by omega⟩, e1, e2⟩)
              · have e2 : side (A 31 sl) (fcs A sl) (f % 10) c := by rcases hz2 with ⟨_, e⟩ | ⟨e, _⟩; exact e; omega
                exact h80 (by omega) _ _ (hx.skip (Or.inl (by omega))) (Or.inr ⟨⟨by omega, by omega, by omega⟩, e1, e2⟩)
              · have e2 : side (A 31 sl) (fcs A sl) (f % 10) c := by rcases hz2 with ⟨_, e⟩ | ⟨e, _⟩; exact e; omega
                exact h80 (by omega) _ _ (Or.inr ⟨⟨by omega, by omega⟩, e1, e2⟩) (hy.skip (Or.inl (by omega)))
              · have e2 : ¬ side (A 31 sl) (fcs A sl) (f % 10) c := by rcases hz2 with ⟨e, _⟩ | ⟨_, e⟩; omega; exact e
                exact h80 (by omega) _ _ (hx.skip (Or.inr (fun k => e2 k.2))) (hy.skip (Or.inr (fun k => e2 k.2)))
            · refine ⟨fun h0 => ?_, fun h0 => ?_⟩
              · refine ⟨fun h1 => ?_, fun h1 => ?_⟩
                · exact Or.inl (⟨rfl, h0, h1, rfl⟩)
                · refine ⟨fun h2 => ?_, fun h2 => ?_⟩
                  · exact Or.inr (Or.inl (⟨rfl, h0, h1, h2, rfl⟩))
                  · exact Or.inr (Or.inr (Or.inl (⟨rfl, h0, h1, h2, rfl⟩)))
              · exact Or.inr (Or.inr (Or.inr (⟨rfl, h0, rfl⟩)))
        · refine ⟨fun h0 => ?_, fun h0 => ?_⟩
          · exact Or.inl (⟨rfl, h0, rfl⟩)
          · refine ⟨rM_0 (by omega) km0, ?_⟩
            refine (isSide_ex (A := A) (sl := sl) (x := f % 10) (y := c) hA s0 s1 (by omega) (by omega) (by omega) (by omega)).imp ?_
            rintro ⟨r1, C⟩ ⟨q1, z2, q2, hz2⟩
            simp only at q1 q2
            subst q1
            subst q2
            exact Or.inr (⟨rfl, h0, z2, hz2, rfl⟩)
    · refine ⟨oM_0 (by omega) km0 48 rfl, ?_⟩
      refine ⟨aM_31 (r := A 0 48) (by rw [c48]; omega) (by rw [c48]; exact kn31) (by omega) (by omega), ?_⟩
      have e1 : A (A 0 48) sl = A 31 sl := by rw [c48]
      refine ⟨fun h0 => ?_, fun h0 => ?_⟩
      · exact Or.inl (⟨rfl, h0, rfl⟩)
      · refine ⟨fun h1 => ?_, fun h1 => ?_⟩
        · exact Or.inr (Or.inl (⟨rfl, h0, h1, rfl⟩))
        · refine ⟨fun h2 => ?_, fun h2 => ?_⟩
          · exact Or.inr (Or.inr (Or.inl (⟨rfl, h0, h1, h2, rfl⟩)))
          · refine ⟨rM_0 (by omega) km0, ?_⟩
            refine (isSide_ex (A := A) (sl := sl) (x := f / 10) (y := c) hA s0 s1 (by omega) (by omega) (by omega) (by omega)).imp ?_
            rintro ⟨r1, C⟩ ⟨q1, z1, q2, hz1⟩
            simp only at q1 q2
            subst q1
            subst q2
            exact Or.inr (Or.inr (Or.inr (⟨rfl, h0, h1, h2, z1, hz1, rfl⟩)))
theorem other_ex {A : pm_A} {sl f : Int} (hA : gH wM A) (s0 : 0 ≤ sl) (s1 : sl ≤ 1) (hC : cutS (A 31 sl) (fcs A sl)) (f0 : 0 ≤ f) (f1 : f < 100) (hf : fcs A sl f = 1) : Cl pmt (an_sh wM) 171 [(2, 0), (0, sl), (0, f / 10), (0, f % 10)] A (ot_post A sl f) := by
  refine Cl.of (Nat.le_of_ble_eq_true rfl) ?_
  refine wq_ok (full := o_X10_other) srt_Mother (fr := []) (cuts := [9]) (J := fun pc st => (pc = 9 ∧ st = ([(2, 0), (0, sl), (0, f / 10), (0, f % 10), (0, (-1)), (0, (-1)), (0, 0)], [], A))) ?_ 11 0 _ ?_
  · rintro pc st (⟨rfl, rfl⟩)
    exact ot_9 hA s0 s1 hC f0 f1 hf _ _ _ 0 (Nat.lt_succ_self _) (by omega) (by omega) (Or.inl ⟨rfl, fun d d0 d1 d2 => by omega⟩) (Or.inl ⟨rfl, fun d d0 d1 d2 => by omega⟩)
  · exact ⟨rfl, rfl⟩
def fl_post (A : pm_A) (sl f : Int) (r : pm_R) : Prop := ∃ i o, oth (A 31 sl) (fcs A sl) f i o ∧ r.1 = some (0, cod i o) ∧ gH wM r.2 ∧ r.2 = pm_upd (pm_upd A 32 (100 * sl + f) 0) 32 (100 * sl + cod i o) 1
theorem srt_Mflips : pm_srt o_X10_flips = true := by decide +kernel
theorem flips_13 {A : pm_A} {sl f i o : Int} (hA : gH wM A) (s0 : 0 ≤ sl) (s1 : sl ≤ 1) (f0 : 0 ≤ f) (f1 : f < 100) (g0 : 0 ≤ cod i o) (g1 : cod i o < 100) (ho : oth (A 31 sl) (fcs A sl) f i o) : Tm pmt (an_sh wM) o_X10_flips 13 ([(2, 0), (0, sl), (0, f), (9, 0)], [(0, cod i o)], A) (fl_post A sl f) := by
  have c49 := pM_49 hA
  have h26 : ∀ B, B = pm_upd A 32 (100 * sl + f) 0 → Tm pmt (an_sh wM) o_X10_flips 26 ([(2, 0), (0, sl), (0, f), (0, cod i o)], [], B) (fl_post A sl f) := fun B hB => by
    have hg : gH wM B := by rw [hB]; exact uM_32 hA kn32 (by omega) (by omega)
    have c49 := pM_49 hg
    refine wq_ok srt_Mflips (fr := []) (cuts := []) (J := fun _ _ => False) ?_ 15 26 _ ?_
    · intro pc st h; exact h.elim
    · refine ⟨oM_0 (by omega) km0 49 rfl, ?_⟩
      refine ⟨⟨by omega, by omega⟩, ?_⟩
      refine ⟨⟨by omega, by omega⟩, ?_⟩
      refine ⟨tM_32 (r := B 0 49) (by rw [c49]; omega) (by rw [c49]; exact kn32) (by omega) (by omega) rfl, ?_⟩
      exact ⟨rfl, (by rw [c49]; exact ⟨i, o, ho, rfl, uM_32 hg kn32 (by omega) (by omega), by rw [hB]⟩)⟩
  refine wq_ok srt_Mflips (fr := []) (cuts := [26]) (J := fun pc st => (pc = 26 ∧ st = ([(2, 0), (0, sl), (0, f), (0, cod i o)], [], pm_upd A (A 0 49) ((100 * sl) + f) 0))) ?_ 15 13 _ ?_
  · rintro pc st (⟨rfl, rfl⟩)
    rw [c49]
    exact h26 _ rfl
  · refine ⟨oM_0 (by omega) km0 49 rfl, ?_⟩
    refine ⟨⟨by omega, by omega⟩, ?_⟩
    refine ⟨⟨by omega, by omega⟩, ?_⟩
    refine ⟨tM_32 (r := A 0 49) (by rw [c49]; omega) (by rw [c49]; exact kn32) (by omega) (by omega) rfl, ?_⟩
    exact ⟨rfl, rfl⟩
theorem flips_ex {A : pm_A} {sl f : Int} (hA : gH wM A) (s0 : 0 ≤ sl) (s1 : sl ≤ 1) (hC : cutS (A 31 sl) (fcs A sl)) (f0 : 0 ≤ f) (f1 : f < 100) (hf : fcs A sl f = 1) : Cl pmt (an_sh wM) 144 [(2, 0), (0, sl), (0, f)] A (fl_post A sl f) := by
  refine Cl.of (Nat.le_of_ble_eq_true rfl) ?_
  refine wq_ok (full := o_X10_flips) srt_Mflips (fr := []) (cuts := [13]) (J := fun pc st => (pc = 13 ∧ ∃ i o, oth (A 31 sl) (fcs A sl) f i o ∧ st = ([(2, 0), (0, sl), (0, f), (9, 0)], [(0, cod i o)], A))) ?_ 13 0 _ ?_
  · rintro pc st (⟨rfl, i, o, ho, rfl⟩)
    have hb := cod_b hC.1 f0 f1 hf ho
    exact flips_13 hA s0 s1 f0 f1 hb.1 hb.2.1 ho
  · refine ⟨⟨by omega, by omega, by omega, by omega⟩, ?_⟩
    refine ⟨⟨by omega, by omega, by omega, by omega⟩, ?_⟩
    refine ⟨rM_0 (by omega) km0, ?_⟩
    refine (other_ex hA s0 s1 hC f0 f1 hf).imp ?_
    rintro ⟨r1, C⟩ ⟨q1, i, o, ho, q2⟩
    simp only at q1 q2
    subst q1
    subst q2
    exact ⟨rfl, i, o, ho, rfl⟩
theorem fl_fcs {A : pm_A} {sl f g : Int} (f0 : 0 ≤ f) (f1 : f < 100) (g0 : 0 ≤ g) (g1 : g < 100) : fcs (pm_upd (pm_upd A 32 (100 * sl + f) 0) 32 (100 * sl + g) 1) sl = flF (fcs A sl) f g := by
  funext x
  unfold fcs flF
  by_cases e : x = g
  · rw [e, upd_at, if_pos rfl]
  · rw [upd_o (by omega), if_neg e]
    by_cases e2 : x = f
    · rw [e2, upd_at, if_pos rfl]
    · rw [upd_o (by omega), if_neg e2]
theorem fl_RI {A B : pm_A} {sl f i o : Int} (h : RI A) (hs : sl = 0 ∨ sl = 1) (hC : cutS (A 31 sl) (fcs A sl)) (f0 : 0 ≤ f) (f1 : f < 100) (hf : fcs A sl f = 1) (ho : oth (A 31 sl) (fcs A sl) f i o) (hg : gH wM B) (hB : B = pm_upd (pm_upd A 32 (100 * sl + f) 0) 32 (100 * sl + cod i o) 1) : RI B := by
  obtain ⟨b0, b1, _⟩ := cod_b hC.1 f0 f1 hf ho
  refine h.ring hg (fun r j a1 a2 a3 a4 a5 a6 a7 a8 a9 => by rw [hB, upd_o (by omega), upd_o (by omega)]) (fun t ht => ?_)
  have e31 : B 31 t = A 31 t := by rw [hB, upd_o (by omega), upd_o (by omega)]
  rw [e31]
  by_cases e : t = sl
  · rw [e]
    have := (fl_cut hC f0 f1 hf ho).1
    rw [← fl_fcs (A := A) (sl := sl) f0 f1 b0 b1, ← hB] at this
    exact this
  · refine rgS_congr (h.2.2 t ht) (fun x x0 x1 => ?_)
    show B 32 (100 * t + x) = A 32 (100 * t + x)
    rw [hB, upd_o (by omega), upd_o (by omega)]
theorem srt_Mflip : pm_srt o_X10_flip = true := by decide +kernel
theorem mflip_51 {A : pm_A} {sl a b : Int} (h : RI A) (hs : sl = 0 ∨ sl = 1) (hcut : cntF (fcs A sl) 100 = A 31 sl - 3) (a0 : 0 ≤ a) (a1 : a < A 31 sl) (b0 : 0 ≤ b) (b1 : b < A 31 sl) : Tm pmt (an_sh wM) o_X10_flip 51 ([(2, 0), (0, sl), (0, a), (0, b), (9, 0)], [], A) ri_post := by
  have c49 := pM_49 h.g
  have b31 := eM_31 h.g (r := 31) (by omega) kn31 (j := sl) (by omega) (by omega)
  have hC : cutS (A 31 sl) (fcs A sl) := ⟨h.2.2 sl hs, hcut⟩
  have h67 : ∀ f, 0 ≤ f → f < 100 → Tm pmt (an_sh wM) o_X10_flip 67 ([(2, 0), (0, sl), (0, a), (0, b), (0, f)], [], A) ri_post := fun f f0 f1 => by
    have b32 := eM_32 h.g (r := 32) (by omega) kn32 (j := 100 * sl + f) (by omega) (by omega)
    refine wq_ok srt_Mflip (fr := []) (cuts := [89]) (J := fun pc st => (pc = 89 ∧ ∃ C i o, fcs A sl f = 1 ∧ oth (A 31 sl) (fcs A sl) f i o ∧ RI C ∧ st = ([(2, 0), (0, sl), (0, a), (0, b), (0, f)], [(0, cod i o)], C))) ?_ 17 67 _ ?_
    · rintro pc st (⟨rfl, C, i, o, hf, ho, hR, rfl⟩)
      refine wq_ok srt_Mflip (fr := []) (cuts := [92]) (J := fun pc st => (pc = 92 ∧ ∃ x, st = ([(2, 0), (0, sl), (0, a), (0, b), (0, f)], [(0, x)], C))) ?_ 5 89 _ ?_
      · rintro pc st (⟨rfl, x, rfl⟩)
        refine wq_ok srt_Mflip (fr := []) (cuts := []) (J := fun _ _ => False) ?_ 6 92 _ ?_
        · intro pc st h; exact h.elim
        · exact ⟨rfl, ⟨_, rfl⟩, hR⟩
      · refine ⟨rfl, ?_⟩
        have hb := cod_b hC.1 f0 f1 hf ho
        refine (named_ex hb.1 (by omega)).imp ?_
        rintro ⟨r1, D⟩ ⟨q1, x, q2, _⟩
        simp only at q1 q2
        subst q1
        subst q2
        exact ⟨rfl, x, rfl⟩
    · refine ⟨oM_0 (by omega) km0 49 rfl, ?_⟩
      refine ⟨⟨by omega, by omega⟩, ?_⟩
      refine ⟨⟨by omega, by omega⟩, ?_⟩
      refine ⟨aM_32 (r := A 0 49) (by rw [c49]; omega) (by rw [c49]; exact kn32) (by omega) (by omega), ?_⟩
      have e1 : A (A 0 49) ((100 * sl) + f) = A 32 ((100 * sl) + f) := by rw [c49]
      refine ⟨fun h0 => ?_, fun h0 => ?_⟩
      · exact ⟨rfl, ⟨_, rfl⟩, h⟩
      · refine ⟨rM_0 (by omega) km0, ?_⟩
        have hf : fcs A sl f = 1 := by rw [c49] at h0; unfold fcs; omega
        refine (flips_ex h.g (by omega) (by omega) hC f0 f1 hf).imp ?_
        rintro ⟨r1, C⟩ ⟨i, o, ho, q1, q2, q3⟩
        simp only at q1 q2 q3
        subst q1
        exact ⟨rfl, C, i, o, hf, ho, fl_RI h hs hC f0 f1 hf ho q2 q3, rfl⟩
  refine wq_ok srt_Mflip (fr := []) (cuts := [58]) (J := fun pc st => (pc = 58 ∧ st = ([(2, 0), (0, sl), (0, a), (0, b), (9, 0)], [(0, min a b), (0, 10)], A))) ?_ 8 51 _ ?_
  · rintro pc st (⟨rfl, rfl⟩)
    refine wq_ok srt_Mflip (fr := []) (cuts := [64]) (J := fun pc st => (pc = 64 ∧ st = ([(2, 0), (0, sl), (0, a), (0, b), (9, 0)], [(0, max a b), (0, 10 * (min a b))], A))) ?_ 8 58 _ ?_
    · rintro pc st (⟨rfl, rfl⟩)
      refine wq_ok srt_Mflip (fr := []) (cuts := [67]) (J := fun pc st => (pc = 67 ∧ st = ([(2, 0), (0, sl), (0, a), (0, b), (0, (10 * (min a b)) + (max a b))], [], A))) ?_ 7 64 _ ?_
      · rintro pc st (⟨rfl, rfl⟩)
        exact h67 _ (by omega) (by omega)
      · refine ⟨⟨by omega, by omega⟩, ?_⟩
        exact ⟨rfl, rfl⟩
    · refine ⟨⟨by omega, by omega⟩, ?_⟩
      refine ⟨rfl, ?_⟩
      refine (greater_ex).imp ?_
      rintro r rfl
      exact ⟨rfl, rfl⟩
  · refine ⟨rfl, ?_⟩
    refine (lesser_ex).imp ?_
    rintro r rfl
    exact ⟨rfl, rfl⟩
theorem mflip_ct {A : pm_A} (h : RI A) (sl a b : Int) : Cl pmt (an_sh wM) 143 [(2, 0), (0, sl), (0, a), (0, b)] A ri_post := by
  have c48 := pM_48 h.g
  have h8 : sl = 0 ∨ sl = 1 → Tm pmt (an_sh wM) o_X10_flip 8 ([(2, 0), (0, sl), (0, a), (0, b), (9, 0)], [], A) ri_post := fun hs => by
    have b31 := eM_31 h.g (r := 31) (by omega) kn31 (j := sl) (by omega) (by omega)
    refine wq_ok srt_Mflip (fr := []) (cuts := [13]) (J := fun pc st => (pc = 13 ∧ ∃ x : Int, ((x = 1 ∧ (cntF (fcs A sl) 100 = A 31 sl - 3)) ∨ (x = 0 ∧ ¬ (cntF (fcs A sl) 100 = A 31 sl - 3))) ∧ st = ([(2, 0), (0, sl), (0, a), (0, b), (9, 0)], [(0, x)], A))) ?_ 7 8 _ ?_
    · rintro pc st (⟨rfl, x, hx, rfl⟩)
      refine wq_ok srt_Mflip (fr := []) (cuts := [51]) (J := fun pc st => (pc = 51 ∧ (¬ x = 0) ∧ (0 ≤ a) ∧ (a < (A (A 0 48) sl)) ∧ (0 ≤ b) ∧ (b < (A (A 0 48) sl)) ∧ (¬ a = b) ∧ st = ([(2, 0), (0, sl), (0, a), (0, b), (9, 0)], [], A))) ?_ 26 13 _ ?_
      · rintro pc st (⟨rfl, h0, h1, h2, h3, h4, h5, rfl⟩)
        rw [c48] at h2 h4
        refine mflip_51 h hs ?_ h1 h2 h3 h4
        rcases hx with ⟨_, e⟩ | ⟨e, _⟩
        · exact e
        · omega
      · refine ⟨fun h0 => ?_, fun h0 => ?_⟩
        · exact ⟨rfl, ⟨_, rfl⟩, h⟩
        · refine ⟨fun h1 => ?_, fun h1 => ?_⟩
          · exact ⟨rfl, ⟨_, rfl⟩, h⟩
          · refine ⟨oM_0 (by omega) km0 48 rfl, ?_⟩
            refine ⟨aM_31 (r := A 0 48) (by rw [c48]; omega) (by rw [c48]; exact kn31) (by omega) (by omega), ?_⟩
            have e1 : A (A 0 48) sl = A 31 sl := by rw [c48]
            refine ⟨fun h2 => ?_, fun h2 => ?_⟩
            · exact ⟨rfl, ⟨_, rfl⟩, h⟩
            · refine ⟨fun h3 => ?_, fun h3 => ?_⟩
              · exact ⟨rfl, ⟨_, rfl⟩, h⟩
              · refine ⟨oM_0 (by omega) km0 48 rfl, ?_⟩
                refine ⟨aM_31 (r := A 0 48) (by rw [c48]; omega) (by rw [c48]; exact kn31) (by omega) (by omega), ?_⟩
                have e2 : A (A 0 48) sl = A 31 sl := by rw [c48]
                refine ⟨fun h4 => ?_, fun h4 => ?_⟩
                · exact ⟨rfl, ⟨_, rfl⟩, h⟩
                · refine ⟨fun h5 => ?_, fun h5 => ?_⟩
                  · exact ⟨rfl, h0, h1, h2, h3, h4, h5, rfl⟩
                  · exact ⟨rfl, ⟨_, rfl⟩, h⟩
    · refine ⟨rM_0 (by omega) km0, ?_⟩
      refine (isCutting_ex h.g (sl := sl) (by omega) (by omega)).imp ?_
      rintro ⟨r1, C⟩ ⟨q1, x, q2, hx⟩
      simp only at q1 q2
      subst q1
      subst q2
      exact ⟨rfl, x, hx, rfl⟩
  refine Cl.of (Nat.le_of_ble_eq_true rfl) ?_
  refine wq_ok (full := o_X10_flip) srt_Mflip (fr := []) (cuts := [5]) (J := fun pc st => (pc = 5 ∧ ∃ x : Int, ((x = 1 ∧ (sl = 0 ∨ sl = 1)) ∨ (x = 0 ∧ ¬ (sl = 0 ∨ sl = 1))) ∧ st = ([(2, 0), (0, sl), (0, a), (0, b), (9, 0)], [(0, x)], A))) ?_ 7 0 _ ?_
  · rintro pc st (⟨rfl, x, hx, rfl⟩)
    refine wq_ok srt_Mflip (fr := []) (cuts := [8]) (J := fun pc st => (pc = 8 ∧ (¬ x = 0) ∧ st = ([(2, 0), (0, sl), (0, a), (0, b), (9, 0)], [], A))) ?_ 7 5 _ ?_
    · rintro pc st (⟨rfl, h0, rfl⟩)
      refine h8 ?_
      rcases hx with ⟨_, e⟩ | ⟨e, _⟩
      · exact e
      · omega
    · refine ⟨fun h0 => ?_, fun h0 => ?_⟩
      · exact ⟨rfl, ⟨_, rfl⟩, h⟩
      · exact ⟨rfl, h0, rfl⟩
  · refine ⟨rM_0 (by omega) km0, ?_⟩
    refine (MisSlot_ex).imp ?_
    rintro ⟨r1, C⟩ ⟨q1, x, q2, hx⟩
    simp only at q1 q2
    subst q1
    subst q2
    exact ⟨rfl, x, hx, rfl⟩
end

section
/-! bits, takesBits, cuttingOf -/
theorem srt_Mbits : pm_srt o_X10_bits = true := by decide +kernel
theorem mb_5 {A : pm_A} {sl : Int} (hA : gH wM A) (s0 : 0 ≤ sl) (s1 : sl ≤ 1) : ∀ (m : Nat) (i : Nat), 100 - i < m → i ≤ 100 → Tm pmt (an_sh wM) o_X10_bits 5 ([(2, 0), (0, sl), (1, bitsV (A 33) (fcs A sl) i), (9, 0), (0, (i : Int))], [], A) (fun r => r = (some (1, bitsV (A 33) (fcs A sl) 100), A)) := by
  have c49 := pM_49 hA
  have c50 := pM_50 hA
  intro m
  induction m with
  | zero => intro i h; omega
  | succ m ih =>
    intro i hm i1
    have st : bitsV (A 33) (fcs A sl) (i + 1) = if fcs A sl i = 0 then bitsV (A 33) (fcs A sl) i else pp_lb 4 (bitsV (A 33) (fcs A sl) i) (shl1 (A 33 i)) := rfl
    refine wq_ok srt_Mbits (fr := []) (cuts := [5]) (J := fun pc st => (pc = 5 ∧ (((i : Int)) < 100) ∧ ((A (A 0 49) ((100 * sl) + ((i : Int)))) = 0) ∧ st = ([(2, 0), (0, sl), (1, bitsV (A 33) (fcs A sl) i), (9, 0), (0, ((i : Int)) + 1)], [], A)) ∨ (pc = 5 ∧ (((i : Int)) < 100) ∧ (¬ (A (A 0 49) ((100 * sl) + ((i : Int)))) = 0) ∧ st = ([(2, 0), (0, sl), (1, pp_lb 4 (bitsV (A 33) (fcs A sl) i) (shl1 (A (A 0 50) ((i : Int))))), (9, 0), (0, ((i : Int)) + 1)], [], A))) ?_ 28 5 _ ?_
    · rintro pc st (⟨rfl, h0, h1, rfl⟩ | ⟨rfl, h0, h1, rfl⟩)
      · rw [c49] at h1
        have h1 : fcs A sl i = 0 := h1
        rw [if_pos h1] at st
        rw [← st, show (i : Int) + 1 = ((i + 1 : Nat) : Int) by omega]
        exact ih (i + 1) (by omega) (by omega)
      · rw [c49] at h1
        have h1 : ¬ fcs A sl i = 0 := h1
        rw [if_neg h1] at st
        rw [c50]
        rw [← st, show (i : Int) + 1 = ((i + 1 : Nat) : Int) by omega]
        exact ih (i + 1) (by omega) (by omega)
    · refine ⟨fun h0 => ?_, fun h0 => ?_⟩
      · exact ⟨rfl, (by rw [show i = 100 by omega])⟩
      · refine ⟨oM_0 (by omega) km0 49 rfl, ?_⟩
        refine ⟨⟨by omega, by omega⟩, ?_⟩
        refine ⟨⟨by omega, by omega⟩, ?_⟩
        refine ⟨aM_32 (r := A 0 49) (by rw [c49]; omega) (by rw [c49]; exact kn32) (by omega) (by omega), ?_⟩
        have e1 : A (A 0 49) ((100 * sl) + ((i : Int))) = A 32 ((100 * sl) + ((i : Int))) := by rw [c49]
        refine ⟨fun h1 => ?_, fun h1 => ?_⟩
        · refine ⟨⟨by omega, by omega⟩, ?_⟩
          exact Or.inl (⟨rfl, h0, h1, rfl⟩)
        · refine ⟨oM_0 (by omega) km0 50 rfl, ?_⟩
          refine ⟨aM_33 (r := A 0 50) (by rw [c50]; omega) (by rw [c50]; exact kn33) (by omega) (by omega), ?_⟩
          have e2 : A (A 0 50) ((i : Int)) = A 33 ((i : Int)) := by rw [c50]
          refine ⟨⟨by omega, by omega⟩, ?_⟩
          exact Or.inr (⟨rfl, h0, h1, rfl⟩)
theorem bits_ex {A : pm_A} {sl : Int} (hA : gH wM A) (s0 : 0 ≤ sl) (s1 : sl ≤ 1) : Cl pmt (an_sh wM) 131 [(2, 0), (0, sl)] A (fun r => r = (some (1, bitsV (A 33) (fcs A sl) 100), A)) := by
  refine Cl.of (Nat.le_of_ble_eq_true rfl) ?_
  refine wq_ok (full := o_X10_bits) srt_Mbits (fr := []) (cuts := [5]) (J := fun pc st => (pc = 5 ∧ st = ([(2, 0), (0, sl), (1, 0), (9, 0), (0, 0)], [], A))) ?_ 9 0 _ ?_
  · rintro pc st (⟨rfl, rfl⟩)
    exact mb_5 hA s0 s1 _ 0 (Nat.lt_succ_self _) (by omega)
  · exact ⟨rfl, rfl⟩
def tkB_post (A : pm_A) (sl v : Int) (r : pm_R) : Prop := r.1 = none ∧ gH wM r.2 ∧ (∀ q j, q ≠ 32 → r.2 q j = A q j) ∧ ∀ f : Int, 0 ≤ f → f < 100 → (r.2 32 (100 * sl + f) = 1 ∧ ¬ A 33 f = -1 ∧ tbt v (A 33 f) = 1) ∨ (r.2 32 (100 * sl + f) = 0 ∧ (A 33 f = -1 ∨ ¬ tbt v (A 33 f) = 1))
theorem srt_MtakesBits : pm_srt o_X10_takesBits = true := by decide +kernel
theorem tk_3 {A : pm_A} {sl v : Int} (s0 : 0 ≤ sl) (s1 : sl ≤ 1) : ∀ (m : Nat) (i : Int) (B : pm_A), (100 - i).toNat < m → 0 ≤ i → i ≤ 100 → gH wM B → (∀ q j, q ≠ 32 → B q j = A q j) → (∀ f : Int, 0 ≤ f → f < i → (B 32 (100 * sl + f) = 1 ∧ ¬ A 33 f = -1 ∧ tbt v (A 33 f) = 1) ∨ (B 32 (100 * sl + f) = 0 ∧ (A 33 f = -1 ∨ ¬ tbt v (A 33 f) = 1))) → Tm pmt (an_sh wM) o_X10_takesBits 3 ([(2, 0), (0, sl), (1, v), (9, 0), (0, i)], [], B) (tkB_post A sl v) := by
  intro m
  induction m with
  | zero => intro i B h; omega
  | succ m ih =>
    intro i B hm i0 i1 hB ho hd
    have c49 := pM_49 hB
    have c50 := pM_50 hB
    have b33 := ho 33 i (by omega)
    have go : ∀ x, ((x = 1 ∧ ¬ A 33 i = -1 ∧ tbt v (A 33 i) = 1) ∨ (x = 0 ∧ (A 33 i = -1 ∨ ¬ tbt v (A 33 i) = 1))) → i < 100 → Tm pmt (an_sh wM) o_X10_takesBits 3 ([(2, 0), (0, sl), (1, v), (9, 0), (0, i + 1)], [], pm_upd B 32 (100 * sl + i) x) (tkB_post A sl v) := fun x hx hi => by
      refine ih (i + 1) _ (by omega) (by omega) (by omega) (uM_32 hB kn32 (by omega) (by omega)) (fun q j hq => by rw [upd_o (by omega)]; exact ho q j hq) (fun f f0 f1 => ?_)
      by_cases e : f = i
      · rw [e, upd_at]; exact hx
      · rw [upd_o (by omega)]; exact hd f f0 (by omega)
    refine wq_ok srt_MtakesBits (fr := []) (cuts := [3]) (J := fun pc st => (pc = 3 ∧ (i < 100) ∧ ((B (B 0 50) i) = ((-1))) ∧ st = ([(2, 0), (0, sl), (1, v), (9, 0), (0, i + 1)], [], pm_upd B (B 0 49) ((100 * sl) + i) 0)) ∨ (pc = 3 ∧ (i < 100) ∧ (¬ (B (B 0 50) i) = ((-1))) ∧ (1 < (tbt v (B (B 0 50) i))) ∧ st = ([(2, 0), (0, sl), (1, v), (9, 0), (0, i + 1)], [], pm_upd B (B 0 49) ((100 * sl) + i) 0)) ∨ (pc = 3 ∧ (i < 100) ∧ (¬ (B (B 0 50) i) = ((-1))) ∧ ((tbt v (B (B 0 50) i)) = 1) ∧ st = ([(2, 0), (0, sl), (1, v), (9, 0), (0, i + 1)], [], pm_upd B (B 0 49) ((100 * sl) + i) 1)) ∨ (pc = 3 ∧ (i < 100) ∧ (¬ (B (B 0 50) i) = ((-1))) ∧ ((tbt v (B (B 0 50) i)) < 1) ∧ st = ([(2, 0), (0, sl), (1, v), (9, 0), (0, i + 1)], [], pm_upd B (B 0 49) ((100 * sl) + i) 0))) ?_ 37 3 _ ?_
    · rintro pc st (⟨rfl, h0, h1, rfl⟩ | ⟨rfl, h0, h1, h2, rfl⟩ | ⟨rfl, h0, h1, h2, rfl⟩ | ⟨rfl, h0, h1, h2, rfl⟩)
      · rw [c50] at h1
        rw [c49]
        exact go _ (Or.inr ⟨rfl, Or.inl (by rw [← b33]; exact h1)⟩) (by omega)
      · rw [c50] at h1 h2
        rw [c49]
        exact go _ (Or.inr ⟨rfl, Or.inr (by rw [← b33]; omega)⟩) (by omega)
      · rw [c50] at h1 h2
        rw [c49]
        exact go _ (Or.inl ⟨rfl, by rw [← b33]; exact h1, by rw [← b33]; exact h2⟩) (by omega)
      · rw [c50] at h1 h2
        rw [c49]
        exact go _ (Or.inr ⟨rfl, Or.inr (by rw [← b33]; omega)⟩) (by omega)
    · refine ⟨fun h0 => ?_, fun h0 => ?_⟩
      · exact ⟨rfl, hB, ho, fun f f0 f1 => hd f f0 (by omega)⟩
      · refine ⟨oM_0 (by omega) km0 49 rfl, ?_⟩
        refine ⟨⟨by omega, by omega⟩, ?_⟩
        refine ⟨⟨by omega, by omega⟩, ?_⟩
        refine ⟨oM_0 (by omega) km0 50 rfl, ?_⟩
        refine ⟨aM_33 (r := B 0 50) (by rw [c50]; omega) (by rw [c50]; exact kn33) (by omega) (by omega), ?_⟩
        have e1 : B (B 0 50) i = B 33 i := by rw [c50]
        refine ⟨fun h1 => ?_, fun h1 => ?_⟩
        · refine ⟨tM_32 (r := B 0 49) (by rw [c49]; omega) (by rw [c49]; exact kn32) (by omega) (by omega) rfl, ?_⟩
          refine ⟨⟨by omega, by omega⟩, ?_⟩
          exact Or.inl (⟨rfl, h0, h1, rfl⟩)
        · refine ⟨oM_0 (by omega) km0 50 rfl, ?_⟩
          refine ⟨aM_33 (r := B 0 50) (by rw [c50]; omega) (by rw [c50]; exact kn33) (by omega) (by omega), ?_⟩
          have e2 : B (B 0 50) i = B 33 i := by rw [c50]
          refine ⟨fun h2 => ?_, fun h2 => ?_, fun h2 => ?_⟩
          · refine ⟨fun _ => ?_, fun hh => absurd hh (by decide)⟩
            refine ⟨tM_32 (r := B 0 49) (by rw [c49]; omega) (by rw [c49]; exact kn32) (by omega) (by omega) rfl, ?_⟩
            refine ⟨⟨by omega, by omega⟩, ?_⟩
            exact Or.inr (Or.inl (⟨rfl, h0, h1, h2, rfl⟩))
          · refine ⟨fun hh => absurd hh (by decide), fun _ => ?_⟩
            refine ⟨tM_32 (r := B 0 49) (by rw [c49]; omega) (by rw [c49]; exact kn32) (by omega) (by omega) rfl, ?_⟩
            refine ⟨⟨by omega, by omega⟩, ?_⟩
            exact Or.inr (Or.inr (Or.inl (⟨rfl, h0, h1, h2, rfl⟩)))
          · refine ⟨fun _ => ?_, fun hh => absurd hh (by decide)⟩
            refine ⟨tM_32 (r := B 0 49) (by rw [c49]; omega) (by rw [c49]; exact kn32) (by omega) (by omega) rfl, ?_⟩
            refine ⟨⟨by omega, by omega⟩, ?_⟩
            exact Or.inr (Or.inr (Or.inr (⟨rfl, h0, h1, h2, rfl⟩)))
theorem takesBits_ex {A : pm_A} {sl v : Int} (hA : gH wM A) (s0 : 0 ≤ sl) (s1 : sl ≤ 1) : Cl pmt (an_sh wM) 191 [(2, 0), (0, sl), (1, v)] A (tkB_post A sl v) := by
  refine Cl.of (Nat.le_of_ble_eq_true rfl) ?_
  refine wq_ok (full := o_X10_takesBits) srt_MtakesBits (fr := []) (cuts := [3]) (J := fun pc st => (pc = 3 ∧ st = ([(2, 0), (0, sl), (1, v), (9, 0), (0, 0)], [], A))) ?_ 7 0 _ ?_
  · rintro pc st (⟨rfl, rfl⟩)
    exact tk_3 s0 s1 _ 0 A (Nat.lt_succ_self _) (by omega) (by omega) hA (fun _ _ _ => rfl) (fun f f0 f1 => by omega)
  · exact ⟨rfl, rfl⟩
def cu_post (A : pm_A) (v : Int) (r : pm_R) : Prop := r.2 = A ∧ ∃ c, r.1 = some (0, c) ∧ ((c = -1 ∧ ∀ d : Int, 0 ≤ d → d < A 0 54 → ¬ A 35 d = v) ∨ (0 ≤ c ∧ c < A 0 54 ∧ A 35 c = v))
theorem srt_McuttingOf : pm_srt o_X10_cuttingOf = true := by decide +kernel
theorem cu_2 {A : pm_A} {v : Int} (hA : gH wM A) : ∀ (m : Nat) (i : Int), (1430 - i).toNat < m → 0 ≤ i → i ≤ 1430 → (∀ d : Int, 0 ≤ d → d < i → ¬ A 35 d = v) → Tm pmt (an_sh wM) o_X10_cuttingOf 2 ([(2, 0), (1, v), (9, 0), (0, i)], [], A) (cu_post A v) := by
  have c52 := pM_52 hA
  have b54 := fM_0_54 hA (r := 0) (by omega) km0
  intro m
  induction m with
  | zero => intro i h; omega
  | succ m ih =>
    intro i hm i0 i1 hd
    have go : i < A 0 54 → ¬ A 35 i = v → Tm pmt (an_sh wM) o_X10_cuttingOf 2 ([(2, 0), (1, v), (9, 0), (0, i + 1)], [], A) (cu_post A v) := fun h1 h2 => by
      refine ih (i + 1) (by omega) (by omega) (by omega) (fun d d0 d1 => ?_)
      by_cases e : d = i
      · rw [e]; exact h2
      · exact hd d d0 (by omega)
    refine wq_ok srt_McuttingOf (fr := []) (cuts := [2]) (J := fun pc st => (pc = 2 ∧ (i < (A 0 54)) ∧ (v < (A (A 0 52) i)) ∧ st = ([(2, 0), (1, v), (9, 0), (0, i + 1)], [], A)) ∨ (pc = 2 ∧ (i < (A 0 54)) ∧ ((A (A 0 52) i) < v) ∧ st = ([(2, 0), (1, v), (9, 0), (0, i + 1)], [], A))) ?_ 18 2 _ ?_
    · rintro pc st (⟨rfl, h0, h1, rfl⟩ | ⟨rfl, h0, h1, rfl⟩)
      · rw [c52] at h1
        exact go (by omega) (by omega)
      · rw [c52] at h1
        exact go (by omega) (by omega)
    · refine ⟨oM_0 (by omega) km0 54 rfl, ?_⟩
      refine ⟨fun h0 => ?_, fun h0 => ?_⟩
      · exact ⟨rfl, rfl, _, rfl, Or.inl ⟨rfl, fun d d0 d1 => hd d d0 (by omega)⟩⟩
      · refine ⟨oM_0 (by omega) km0 52 rfl, ?_⟩
        refine ⟨aM_35 (r := A 0 52) (by rw [c52]; omega) (by rw [c52]; exact kn35) (by omega) (by omega), ?_⟩
        have e1 : A (A 0 52) i = A 35 i := by rw [c52]
        refine ⟨fun h1 => ?_, fun h1 => ?_, fun h1 => ?_⟩
        · refine ⟨fun _ => ?_, fun hh => absurd hh (by decide)⟩
          refine ⟨⟨by omega, by omega⟩, ?_⟩
          exact Or.inl (⟨rfl, h0, h1, rfl⟩)
        · refine ⟨fun hh => absurd hh (by decide), fun _ => ?_⟩
          exact ⟨rfl, rfl, _, rfl, Or.inr ⟨by omega, by omega, by rw [c52] at h1; exact h1⟩⟩
        · refine ⟨fun _ => ?_, fun hh => absurd hh (by decide)⟩
          refine ⟨⟨by omega, by omega⟩, ?_⟩
          exact Or.inr (⟨rfl, h0, h1, rfl⟩)
theorem cuttingOf_ex {A : pm_A} {v : Int} (hA : gH wM A) : Cl pmt (an_sh wM) 137 [(2, 0), (1, v)] A (cu_post A v) := by
  refine Cl.of (Nat.le_of_ble_eq_true rfl) ?_
  refine wq_ok (full := o_X10_cuttingOf) srt_McuttingOf (fr := []) (cuts := [2]) (J := fun pc st => (pc = 2 ∧ st = ([(2, 0), (1, v), (9, 0), (0, 0)], [], A))) ?_ 7 0 _ ?_
  · rintro pc st (⟨rfl, rfl⟩)
    exact cu_2 hA _ 0 (Nat.lt_succ_self _) (by omega) (by omega) (fun d d0 d1 => by omega)
  · exact ⟨rfl, rfl⟩
end

section
/-! the search through cuttings, as rows of masks -/
theorem side_congr {n : Int} {F G : Int → Int} (e : ∀ f : Int, 0 ≤ f → f < 100 → G f = F f) {x y : Int} (x0 : 0 ≤ x) (x1 : x ≤ 9) (y0 : 0 ≤ y) (y1 : y ≤ 9) (h : side n F x y) : side n G x y := h.imp id (fun h => by rw [e _ (by omega) (by omega)]; exact h)
theorem oth_congr {n : Int} {F G : Int → Int} (hn : n ≤ 10) (e : ∀ f : Int, 0 ≤ f → f < 100 → G f = F f) {f i o : Int} (f0 : 0 ≤ f) (f1 : f < 100) (h : oth n F f i o) : oth n G f i o := by
  obtain ⟨⟨a1, a2⟩, ⟨a3, a4, a5⟩, a6, a7, a8, a9⟩ := h
  exact ⟨⟨a1, a2⟩, ⟨a3, a4, a5⟩, side_congr e (by omega) (by omega) (by omega) (by omega) a6, side_congr e (by omega) (by omega) (by omega) (by omega) a7, side_congr e (by omega) (by omega) (by omega) (by omega) a8, side_congr e (by omega) (by omega) (by omega) (by omega) a9⟩
def mfl (n : Int) (bm bf : Int → Int) (v b w : Int) : Prop := ∃ F i o, cutS n F ∧ v = bitsV bm F 100 ∧ F (bf b) = 1 ∧ oth n F (bf b) i o ∧ w = bitsV bm (flF F (bf b) (cod i o)) 100
theorem mfl_det {n m : Int} {bm bf : Int → Int} (hb : bmS n bm bf m) {v b w w' : Int} (b0 : 0 ≤ b) (b1 : b < m) (h : mfl n bm bf v b w) (h' : mfl n bm bf v b w') : w = w' := by
  obtain ⟨F, i, o, h1, h2, h3, h4, h5⟩ := h
  obtain ⟨G, i', o', k1, k2, k3, k4, k5⟩ := h'
  obtain ⟨c0, c1, _⟩ := hb.2.2 b b0 b1
  have e : ∀ f : Int, 0 ≤ f → f < 100 → F f = G f := fun f f0 f1 => msk_inj h1.1 k1.1 hb (h2.symm.trans k2) f0 f1
  have hn := h1.1.1
  have k4 := oth_congr hn.2 e c0 c1 k4
  obtain ⟨rfl, rfl⟩ := oth_uniq h1.1 c0 c1 h3 h4 k4
  rw [h5, k5]
  refine bitsV_congr 100 (fun f f0 f1 => ?_)
  unfold flF
  rw [e f f0 (by omega)]
theorem mfl_bit {n m : Int} {bm bf : Int → Int} (hb : bmS n bm bf m) {v b w : Int} (b0 : 0 ≤ b) (b1 : b < m) (h : mfl n bm bf v b w) : ¬ tbt v b = 0 := by
  obtain ⟨F, i, o, h1, h2, h3, h4, h5⟩ := h
  rw [h2]
  have := msk_bit h1.1 hb b0 b1
  omega
def lsI (n : Int) (bm bf : Int → Int) (m : Int) (V fa : Int → Int) (cm : Int) : Prop := (1 ≤ cm ∧ cm ≤ 1430) ∧ fa 0 = 0 ∧ (∀ c : Int, 0 ≤ c → c < cm → ∃ F, cutS n F ∧ V c = bitsV bm F 100) ∧ (∀ c d : Int, 0 ≤ c → c < d → d < cm → ¬ V c = V d) ∧ (∀ c : Int, 0 < c → c < cm → ∃ p b, 0 ≤ p ∧ p < c ∧ 0 ≤ b ∧ b < m ∧ fa c = fa p + 1 ∧ mfl n bm bf (V p) b (V c)) ∧ (∀ c d : Int, 0 ≤ c → c ≤ d → d < cm → fa c ≤ fa d) ∧ ∀ c : Int, 0 ≤ c → c < cm → 0 ≤ fa c ∧ fa c ≤ c
def bfsI (n : Int) (bm bf : Int → Int) (m : Int) (V fa : Int → Int) (cm c b : Int) : Prop := lsI n bm bf m V fa cm ∧ (c < cm → ∀ e : Int, 0 ≤ e → e < cm → fa e ≤ fa c + 1) ∧ ∀ c' b' w : Int, 0 ≤ c' → c' < cm → 0 ≤ b' → b' < m → (c' < c ∨ (c' = c ∧ b' < b)) → mfl n bm bf (V c') b' w → ∃ e, 0 ≤ e ∧ e < cm ∧ V e = w ∧ fa e ≤ fa c' + 1
theorem bfs_skip {n m : Int} {bm bf V fa : Int → Int} {cm c b : Int} (hb : bmS n bm bf m) (h : bfsI n bm bf m V fa cm c b) (hz : tbt (V c) b = 0) : bfsI n bm bf m V fa cm c (b + 1) := by
  obtain ⟨h1, h2, h3⟩ := h
  refine ⟨h1, h2, fun c' b' w c0 c1 b0 b1 ho hm => ?_⟩
  by_cases e : c' = c ∧ b' = b
  · obtain ⟨rfl, rfl⟩ := e
    exact absurd hz (mfl_bit hb b0 b1 hm)
  · exact h3 c' b' w c0 c1 b0 b1 (by omega) hm
theorem bfs_old {n m : Int} {bm bf V fa : Int → Int} {cm c b v e : Int} (hb : bmS n bm bf m) (h : bfsI n bm bf m V fa cm c b) (hc : c < cm) (hv : mfl n bm bf (V c) b v) (e0 : 0 ≤ e) (e1 : e < cm) (e2 : V e = v) : bfsI n bm bf m V fa cm c (b + 1) := by
  obtain ⟨h1, h2, h3⟩ := h
  refine ⟨h1, h2, fun c' b' w c0 c1 b0 b1 ho hm => ?_⟩
  by_cases k : c' = c ∧ b' = b
  · obtain ⟨rfl, rfl⟩ := k
    exact ⟨e, e0, e1, e2.trans (mfl_det hb b0 b1 hv hm), h2 hc e e0 e1⟩
  · exact h3 c' b' w c0 c1 b0 b1 (by omega) hm
theorem mfl_cut {n : Int} {bm bf : Int → Int} {m : Int} (hb : bmS n bm bf m) {v b w : Int} (b0 : 0 ≤ b) (b1 : b < m) (h : mfl n bm bf v b w) : ∃ G, cutS n G ∧ w = bitsV bm G 100 := by
  obtain ⟨F, i, o, h1, h2, h3, h4, h5⟩ := h
  obtain ⟨c0, c1, _⟩ := hb.2.2 b b0 b1
  exact ⟨_, fl_cut h1 c0 c1 h3 h4, h5⟩
def rowZ (V : Int → Int) : Nat → List Int
  | 0 => []
  | k + 1 => V k :: rowZ V k
theorem rowZ_mem {V : Int → Int} {x : Int} : ∀ k : Nat, x ∈ rowZ V k → ∃ c : Int, 0 ≤ c ∧ c < k ∧ V c = x
  | 0, h => (List.not_mem_nil h).elim
  | k + 1, h => by
    rw [rowZ, List.mem_cons] at h
    rcases h with h | h
    · exact ⟨k, by omega, by omega, h.symm⟩
    · obtain ⟨c, c0, c1, c2⟩ := rowZ_mem k h
      exact ⟨c, c0, by omega, c2⟩
theorem rowZ_len (V : Int → Int) : ∀ k : Nat, (rowZ V k).length = k
  | 0 => rfl
  | k + 1 => by rw [rowZ, List.length_cons, rowZ_len V k]
theorem rowZ_nd {V : Int → Int} : ∀ k : Nat, (∀ c d : Int, 0 ≤ c → c < d → d < k → ¬ V c = V d) → (rowZ V k).Nodup
  | 0, _ => List.nodup_nil
  | k + 1, h => by
    rw [rowZ, List.nodup_cons]
    refine ⟨fun hx => ?_, rowZ_nd k (fun c d c0 c1 d1 => h c d c0 c1 (by omega))⟩
    obtain ⟨c, c0, c1, c2⟩ := rowZ_mem k hx
    exact h c k c0 c1 (by omega) c2
theorem bfs_room {n m : Int} {bm bf V fa : Int → Int} {cm c b v : Int} (hb : bmS n bm bf m) (h : bfsI n bm bf m V fa cm c b) (b0 : 0 ≤ b) (b1 : b < m) (hv : mfl n bm bf (V c) b v) (hno : ∀ d : Int, 0 ≤ d → d < cm → ¬ V d = v) : cm < 1430 := by
  obtain ⟨⟨⟨l1, l2⟩, _, l4, l5, _⟩, _, _⟩ := h
  obtain ⟨G, g1, g2⟩ := mfl_cut hb b0 b1 hv
  have hn := g1.1.1
  have := cut_few hn.1 hn.2 (N := fun F => bitsV bm F 100) (fun F G e => bitsV_congr 100 (fun f f0 f1 => e f f0 (by omega))) (l := v :: rowZ V cm.toNat) (by
    rw [List.nodup_cons]
    refine ⟨fun hx => ?_, rowZ_nd _ (fun c d c0 c1 d1 => l5 c d c0 c1 (by omega))⟩
    obtain ⟨c, c0, c1, c2⟩ := rowZ_mem _ hx
    exact hno c c0 (by omega) c2) (fun x hx => by
    rw [List.mem_cons] at hx
    rcases hx with hx | hx
    · exact ⟨G, g1, by rw [hx, g2]⟩
    · obtain ⟨c, c0, c1, c2⟩ := rowZ_mem _ hx
      obtain ⟨F, f1, f2⟩ := l4 c c0 (by omega)
      exact ⟨F, f1, by rw [← c2, f2]⟩)
  rw [List.length_cons, rowZ_len] at this
  omega
theorem bfs_new {n m : Int} {bm bf V fa V' fa' : Int → Int} {cm c b v : Int} (hb : bmS n bm bf m) (h : bfsI n bm bf m V fa cm c b) (c0 : 0 ≤ c) (hc : c < cm) (b0 : 0 ≤ b) (b1 : b < m) (hv : mfl n bm bf (V c) b v) (hno : ∀ d : Int, 0 ≤ d → d < cm → ¬ V d = v) (hV : ∀ d : Int, d ≠ cm → V' d = V d) (hV1 : V' cm = v) (hf : ∀ d : Int, d ≠ cm → fa' d = fa d) (hf1 : fa' cm = fa c + 1) : bfsI n bm bf m V' fa' (cm + 1) c (b + 1) := by
  have room := bfs_room hb h b0 b1 hv hno
  obtain ⟨⟨⟨l1, l2⟩, l3, l4, l5, l6, l7, l8⟩, h2, h3⟩ := h
  have h2 := h2 hc
  refine ⟨⟨⟨by omega, by omega⟩, by rw [hf 0 (by omega)]; exact l3, fun d d0 d1 => ?_, fun d e d0 d1 e1 => ?_, fun d d0 d1 => ?_, fun d e d0 d1 e1 => ?_, fun d d0 d1 => ?_⟩, fun _ e e0 e1 => ?_, fun c' b' w c0' c1' b0' b1' ho hm => ?_⟩
  · by_cases k : d = cm
    · rw [k, hV1]; exact mfl_cut hb b0 b1 hv
    · rw [hV d k]; exact l4 d d0 (by omega)
  · rw [hV d (by omega)]
    by_cases k : e = cm
    · rw [k, hV1]; exact hno d d0 (by omega)
    · rw [hV e k]; exact l5 d e d0 d1 (by omega)
  · by_cases k : d = cm
    · rw [k]
      exact ⟨c, b, c0, hc, b0, b1, by rw [hf1, hf c (by omega)], by rw [hV c (by omega), hV1]; exact hv⟩
    · obtain ⟨p, b, p0, p1, p2, p3, p4, p5⟩ := l6 d d0 (by omega)
      exact ⟨p, b, p0, p1, p2, p3, by rw [hf d k, hf p (by omega)]; exact p4, by rw [hV d k, hV p (by omega)]; exact p5⟩
  · by_cases k : e = cm
    · rw [k, hf1]
      by_cases k2 : d = cm
      · rw [k2, hf1]; omega
      · rw [hf d k2]; exact h2 d d0 (by omega)
    · rw [hf d (by omega), hf e k]; exact l7 d e d0 d1 (by omega)
  · by_cases k : d = cm
    · rw [k, hf1]; have := l8 c c0 hc; omega
    · rw [hf d k]; exact l8 d d0 (by omega)
  · rw [hf c (by omega)]
    by_cases k : e = cm
    · rw [k, hf1]; omega
    · rw [hf e k]; exact h2 e e0 (by omega)
  · have kc : c' ≠ cm := by omega
    rw [hV c' kc] at hm
    rw [hf c' kc]
    by_cases k : c' = c ∧ b' = b
    · obtain ⟨rfl, rfl⟩ := k
      exact ⟨cm, by omega, by omega, by rw [hV1]; exact mfl_det hb b0' b1' hv hm, by rw [hf1]; omega⟩
    · obtain ⟨e, e0, e1, e2, e3⟩ := h3 c' b' w c0' (by omega) b0' b1' (by omega) hm
      exact ⟨e, e0, by omega, by rw [hV e (by omega)]; exact e2, by rw [hf e (by omega)]; exact e3⟩
theorem bfs_next {n m : Int} {bm bf V fa : Int → Int} {cm c b : Int} (h : bfsI n bm bf m V fa cm c b) (hc : 0 ≤ c) (hm : m ≤ b) : bfsI n bm bf m V fa cm (c + 1) 0 := by
  obtain ⟨h1, h2, h3⟩ := h
  have h10 := h1
  obtain ⟨⟨l1, l2⟩, l3, l4, l5, l6, l7, l8⟩ := h1
  refine ⟨h10, fun k e e0 e1 => ?_, fun c' b' w c0 c1 b0 b1 ho hw => h3 c' b' w c0 c1 b0 b1 (by omega) hw⟩
  have a := h2 (by omega) e e0 e1
  have b := l7 c (c + 1) hc (by omega) k
  omega
theorem mfl_sym {n m : Int} {bm bf : Int → Int} (hb : bmS n bm bf m) {v b w : Int} (b0 : 0 ≤ b) (b1 : b < m) (h : mfl n bm bf v b w) : ∃ b', 0 ≤ b' ∧ b' < m ∧ mfl n bm bf w b' v := by
  obtain ⟨F, i, o, h1, h2, h3, h4, h5⟩ := h
  obtain ⟨c0, c1, _⟩ := hb.2.2 b b0 b1
  have hc := fl_cut h1 c0 c1 h3 h4
  obtain ⟨g, i', o', g0, g1, g2, g3, g4⟩ := fnb_sym h1 ⟨bf b, i, o, c0, c1, h3, h4, rfl⟩
  have k := msk_b hc.1 hb g0 g1 (by omega)
  refine ⟨bm g, k.1, k.2.1, flF F (bf b) (cod i o), i', o', hc, h5, ?_, ?_, ?_⟩
  · rw [k.2.2]; exact g2
  · rw [k.2.2]; exact g3
  · rw [k.2.2, ← g4]; exact h2
/-- at the search's end: the first cutting is there, not far -/
theorem bfs_end {n m : Int} {bm bf V fa : Int → Int} {cm c b : Int} (hb : bmS n bm bf m) (h : bfsI n bm bf m V fa cm c b) (hc : cm ≤ c) {F G : Int → Int} (hF : cutS n F) (hG : cutS n G) (h0 : V 0 = bitsV bm F 100) : ∃ e, 0 ≤ e ∧ e < cm ∧ V e = bitsV bm G 100 ∧ fa e ≤ 14 := by
  obtain ⟨⟨⟨l1, l2⟩, l3, l4, l5, l6, l7, l8⟩, h2, h3⟩ := h
  obtain ⟨d, d1, e, e0, e1, e2, e3⟩ := conn (n := n) (S := fun F d => ∃ e, 0 ≤ e ∧ e < cm ∧ V e = bitsV bm F 100 ∧ fa e ≤ d) (fun F G d hF hn ⟨e, e0, e1, e2, e3⟩ => by
    obtain ⟨f, i, o, f0, f1, hf, ho, rfl⟩ := hn
    have k := msk_b hF.1 hb f0 f1 (by omega)
    obtain ⟨e', y0, y1, y2, y3⟩ := h3 e (bm f) (bitsV bm (flF F f (cod i o)) 100) e0 e1 k.1 k.2.1 (by omega) ⟨F, i, o, hF, e2, by rw [k.2.2]; exact hf, by rw [k.2.2]; exact ho, by rw [k.2.2]⟩
    exact ⟨e', y0, y1, y2, by omega⟩) (fun F G d hF he ⟨e, e0, e1, e2, e3⟩ => ⟨e, e0, e1, by rw [e2]; exact bitsV_congr 100 (fun f f0 f1 => (he f f0 (by omega)).symm), e3⟩) (d := 0) hF hG ⟨0, by omega, by omega, h0, by omega⟩
  exact ⟨e, e0, e1, e2, by omega⟩
end

section
/-! way: fences' bits -/
theorem okZ {x : Int} (h0 : 0 ≤ x) (h1 : x ≤ 1) : pm_okt 2 (0, x) = true := by
  rcases (show x = 0 ∨ x = 1 by omega) with rfl | rfl <;> rfl
def wyF (A B : pm_A) : Prop := gH wM B ∧ ∀ r j : Int, (r < 33 ∨ 38 < r) → ¬ (r = 0 ∧ (j = 54 ∨ j = 55)) → B r j = A r j
def b1I (n : Int) (bm bf : Int → Int) (f m : Int) : Prop := m = cntF (vdc n) f.toNat ∧ (∀ g : Int, 0 ≤ g → g < f → (vdF n g ∧ 0 ≤ bm g ∧ bm g < m ∧ bf (bm g) = g) ∨ (¬ vdF n g ∧ bm g = -1)) ∧ ∀ b : Int, 0 ≤ b → b < m → 0 ≤ bf b ∧ bf b < f ∧ bm (bf b) = b
theorem b1I.skip {n f m : Int} {bm bf : Int → Int} (h : b1I n bm bf f m) (f0 : 0 ≤ f) (hv : ¬ vdF n f) (hf : bm f = -1) : b1I n bm bf (f + 1) m := by
  obtain ⟨h1, h2, h3⟩ := h
  have z : vdc n f = 0 := Classical.byContradiction (fun k => hv (vdc_v.1 k))
  refine ⟨?_, fun g g0 g1 => ?_, fun b b0 b1 => ?_⟩
  · rw [show (f + 1).toNat = f.toNat + 1 by omega, cntF_s, ← h1]
    unfold iz
    rw [Int.toNat_of_nonneg f0, if_pos z]; omega
  · by_cases e : g = f
    · rw [e]; exact Or.inr ⟨hv, hf⟩
    · exact h2 g g0 (by omega)
  · have := h3 b b0 b1
    exact ⟨this.1, by omega, this.2.2⟩
theorem b1I.take {n f m : Int} {bm bf bm' bf' : Int → Int} (h : b1I n bm bf f m) (f0 : 0 ≤ f) (hv : vdF n f) (e1 : bm' f = m) (e2 : ∀ g, g ≠ f → bm' g = bm g) (e3 : bf' m = f) (e4 : ∀ b, b ≠ m → bf' b = bf b) : b1I n bm' bf' (f + 1) (m + 1) := by
  obtain ⟨h1, h2, h3⟩ := h
  have hm := cntF_b (vdc n) f.toNat
  have z : ¬ vdc n f = 0 := vdc_v.2 hv
  refine ⟨?_, fun g g0 g1 => ?_, fun b b0 b1 => ?_⟩
  · rw [show (f + 1).toNat = f.toNat + 1 by omega, cntF_s, ← h1]
    unfold iz
    rw [Int.toNat_of_nonneg f0, if_neg z]
  · by_cases e : g = f
    · rw [e, e1]; exact Or.inl ⟨hv, by omega, by omega, e3⟩
    · rw [e2 g e]
      refine (h2 g g0 (by omega)).imp (fun ⟨k1, k2, k3, k4⟩ => ⟨k1, k2, by omega, ?_⟩) id
      rw [e4 _ (by omega)]; exact k4
  · by_cases e : b = m
    · rw [e, e3]; exact ⟨f0, by omega, e1⟩
    · rw [e4 b e]
      have k := h3 b b0 (by omega)
      exact ⟨k.1, by omega, by rw [e2 _ (by omega)]; exact k.2.2⟩
theorem b1I.m34 {n f m : Int} {bm bf : Int → Int} (h : b1I n bm bf f m) (n0 : 4 ≤ n) (n1 : n ≤ 10) (f0 : 0 ≤ f) (f1 : f < 100) (hv : vdF n f) : 0 ≤ m ∧ m ≤ 34 := by
  have a := cntF_lt (vdc n) (show f.toNat < 100 by omega) (by rw [Int.toNat_of_nonneg f0]; exact vdc_v.2 hv)
  have b := vdc_35 ⟨n.toNat, by omega⟩
  simp only at b
  rw [Int.toNat_of_nonneg (by omega)] at b
  have c := cntF_b (vdc n) f.toNat
  have := h.1
  omega
theorem b1I.bmS {n m : Int} {bm bf : Int → Int} (h : b1I n bm bf 100 m) (n0 : 4 ≤ n) (n1 : n ≤ 10) : bmS n bm bf m := by
  have b := vdc_35 ⟨n.toNat, by omega⟩
  simp only at b
  rw [Int.toNat_of_nonneg (by omega)] at b
  have := h.1
  exact ⟨by rw [this]; exact b, h.2.1, h.2.2⟩
theorem srt_Mway : pm_srt o_X10_way = true := by decide +kernel
theorem wy_94 {A B : pm_A} {n m f : Int} (hB : wyF A B) (h : b1I n (B 33) (B 34) f m) (n0 : 4 ≤ n) (n1 : n ≤ 10) (f0 : 0 ≤ f) (f1 : f < 100) (hv : vdF n f) (H : ∀ (C : pm_A) (m' : Int), wyF A C → b1I n (C 33) (C 34) (f + 1) m' → Tm pmt (an_sh wM) o_X10_way 44 ([(2, 0), (0, n), (0, m'), (0, f + 1), (9, 0), (9, 0), (9, 0), (9, 0), (9, 0), (9, 0)], [], C) ri_post) : Tm pmt (an_sh wM) o_X10_way 94 ([(2, 0), (0, n), (0, m), (0, f), (9, 0), (9, 0), (9, 0), (9, 0), (9, 0), (9, 0)], [], B) ri_post := by
  have hm := h.m34 n0 n1 f0 f1 hv
  have c50 := pM_50 hB.1
  have h101 : ∀ C, C = pm_upd B 33 f m → Tm pmt (an_sh wM) o_X10_way 101 ([(2, 0), (0, n), (0, m), (0, f), (9, 0), (9, 0), (9, 0), (9, 0), (9, 0), (9, 0)], [], C) ri_post := fun C hC => by
    have hg : gH wM C := by rw [hC]; exact uM_33 hB.1 kn33 (by omega) (by omega)
    have c51 := pM_51 hg
    refine wq_ok srt_Mway (fr := []) (cuts := [44]) (J := fun pc st => (pc = 44 ∧ st = ([(2, 0), (0, n), (0, m + 1), (0, f + 1), (9, 0), (9, 0), (9, 0), (9, 0), (9, 0), (9, 0)], [], pm_upd C (C 0 51) m f))) ?_ 13 101 _ ?_
    · rintro pc st (⟨rfl, rfl⟩)
      rw [c51]
      refine H _ _ ⟨uM_34 hg kn34 (by omega) (by omega), fun r j h1 h2 => by rw [upd_o (by omega), hC, upd_o (by omega)]; exact hB.2 r j h1 h2⟩ ?_
      refine h.take f0 hv ?_ (fun g hg => ?_) ?_ (fun b hb => ?_)
      · rw [upd_o (by omega), hC, upd_at]
      · rw [upd_o (by omega), hC, upd_o (by omega)]
      · rw [upd_at]
      · rw [upd_o (by omega), hC, upd_o (by omega)]
    · refine ⟨oM_0 (by omega) km0 51 rfl, ?_⟩
      refine ⟨tM_34 (r := C 0 51) (by rw [c51]; omega) (by rw [c51]; exact kn34) (by omega) (by omega) rfl, ?_⟩
      refine ⟨⟨by omega, by omega⟩, ?_⟩
      refine ⟨⟨by omega, by omega⟩, ?_⟩
      exact ⟨rfl, rfl⟩
  refine wq_ok srt_Mway (fr := []) (cuts := [101]) (J := fun pc st => (pc = 101 ∧ st = ([(2, 0), (0, n), (0, m), (0, f), (9, 0), (9, 0), (9, 0), (9, 0), (9, 0), (9, 0)], [], pm_upd B (B 0 50) f m))) ?_ 10 94 _ ?_
  · rintro pc st (⟨rfl, rfl⟩)
    rw [c50]
    exact h101 _ rfl
  · refine ⟨oM_0 (by omega) km0 50 rfl, ?_⟩
    refine ⟨tM_33 (r := B 0 50) (by rw [c50]; omega) (by rw [c50]; exact kn33) (by omega) (by omega) rfl, ?_⟩
    exact ⟨rfl, rfl⟩
theorem wy_57 {A B : pm_A} {n m f : Int} (hB : wyF A B) (h : b1I n (B 33) (B 34) f m) (hf : B 33 f = -1) (n0 : 4 ≤ n) (n1 : n ≤ 10) (f0 : 0 ≤ f) (f1 : f < 100) (H : ∀ (C : pm_A) (m' : Int), wyF A C → b1I n (C 33) (C 34) (f + 1) m' → Tm pmt (an_sh wM) o_X10_way 44 ([(2, 0), (0, n), (0, m'), (0, f + 1), (9, 0), (9, 0), (9, 0), (9, 0), (9, 0), (9, 0)], [], C) ri_post) : Tm pmt (an_sh wM) o_X10_way 57 ([(2, 0), (0, n), (0, m), (0, f), (9, 0), (9, 0), (9, 0), (9, 0), (9, 0), (9, 0)], [], B) ri_post := by
  have sk : ¬ vdF n f → Tm pmt (an_sh wM) o_X10_way 44 ([(2, 0), (0, n), (0, m), (0, f + 1), (9, 0), (9, 0), (9, 0), (9, 0), (9, 0), (9, 0)], [], B) ri_post := fun hv => H B m hB (h.skip f0 hv hf)
  refine wq_ok srt_Mway (fr := []) (cuts := [44, 88]) (J := fun pc st => (pc = 44 ∧ ((f % 10) ≤ (f / 10)) ∧ st = ([(2, 0), (0, n), (0, m), (0, f + 1), (9, 0), (9, 0), (9, 0), (9, 0), (9, 0), (9, 0)], [], B)) ∨ (pc = 44 ∧ ((f / 10) < (f % 10)) ∧ (n ≤ (f % 10)) ∧ st = ([(2, 0), (0, n), (0, m), (0, f + 1), (9, 0), (9, 0), (9, 0), (9, 0), (9, 0), (9, 0)], [], B)) ∨ (pc = 88 ∧ ((f / 10) < (f % 10)) ∧ ((f % 10) < n) ∧ ∃ z : Int, ((z = 1 ∧ neigh n (f / 10) (f % 10)) ∨ (z = 0 ∧ ¬ neigh n (f / 10) (f % 10))) ∧ st = ([(2, 0), (0, n), (0, m), (0, f), (9, 0), (9, 0), (9, 0), (9, 0), (9, 0), (9, 0)], [(0, z)], B))) ?_ 24 57 _ ?_
  · rintro pc st (⟨rfl, h0, rfl⟩ | ⟨rfl, h0, h1, rfl⟩ | ⟨rfl, h0, h1, z, hz, rfl⟩)
    · exact sk (fun hv => by have a := hv.1; have b := hv.2.1; omega)
    · exact sk (fun hv => by have a := hv.1; have b := hv.2.1; omega)
    · have g0 : f / 10 < f % 10 := by assumption
      have g1 : f % 10 < n := by assumption
      refine wq_ok srt_Mway (fr := []) (cuts := [44, 94]) (J := fun pc st => (pc = 94 ∧ (z = 0) ∧ st = ([(2, 0), (0, n), (0, m), (0, f), (9, 0), (9, 0), (9, 0), (9, 0), (9, 0), (9, 0)], [], B)) ∨ (pc = 44 ∧ (¬ z = 0) ∧ st = ([(2, 0), (0, n), (0, m), (0, f + 1), (9, 0), (9, 0), (9, 0), (9, 0), (9, 0), (9, 0)], [], B))) ?_ 9 88 _ ?_
      · rintro pc st (⟨rfl, h0, rfl⟩ | ⟨rfl, h0, rfl⟩)
        · refine wy_94 hB h n0 n1 f0 f1 ⟨g0, g1, ?_⟩ H
          rcases hz with ⟨e, _⟩ | ⟨_, e⟩
          · omega
          · exact e
        · refine sk (fun hv => hv.2.2 ?_)
          rcases hz with ⟨_, e⟩ | ⟨e, _⟩
          · exact e
          · omega
      · refine ⟨fun h0 => ?_, fun h0 => ?_⟩
        · exact Or.inl (⟨rfl, h0, rfl⟩)
        · refine ⟨⟨by omega, by omega⟩, ?_⟩
          exact Or.inr (⟨rfl, h0, rfl⟩)
  · refine ⟨⟨by omega, by omega, by omega, by omega⟩, ?_⟩
    refine ⟨⟨by omega, by omega, by omega, by omega⟩, ?_⟩
    refine ⟨fun h0 => ?_, fun h0 => ?_⟩
    · refine ⟨⟨by omega, by omega⟩, ?_⟩
      exact Or.inl (⟨rfl, h0, rfl⟩)
    · refine ⟨⟨by omega, by omega, by omega, by omega⟩, ?_⟩
      refine ⟨fun h1 => ?_, fun h1 => ?_⟩
      · refine ⟨⟨by omega, by omega⟩, ?_⟩
        exact Or.inr (Or.inl (⟨rfl, h0, h1, rfl⟩))
      · refine ⟨⟨by omega, by omega, by omega, by omega⟩, ?_⟩
        refine ⟨⟨by omega, by omega, by omega, by omega⟩, ?_⟩
        refine ⟨rfl, ?_⟩
        refine (MareNeighbours_ex (n := n) (x := f / 10) (y := f % 10) n0 n1 (by omega) (by omega) (by omega) (by omega)).imp ?_
        rintro ⟨r1, C⟩ ⟨q1, z, q2, hz⟩
        simp only at q1 q2
        subst q1
        subst q2
        exact Or.inr (Or.inr (⟨rfl, h0, h1, z, hz, rfl⟩))
theorem wy_44 {A : pm_A} {n : Int} (n0 : 4 ≤ n) (n1 : n ≤ 10) (H : ∀ (C : pm_A) (m : Int), wyF A C → bmS n (C 33) (C 34) m → 0 ≤ m → Tm pmt (an_sh wM) o_X10_way 117 ([(2, 0), (0, n), (0, m), (0, 100), (9, 0), (9, 0), (9, 0), (9, 0), (9, 0), (9, 0)], [], C) ri_post) : ∀ (k : Nat) (f m : Int) (B : pm_A), (100 - f).toNat < k → 0 ≤ f → f ≤ 100 → wyF A B → b1I n (B 33) (B 34) f m → Tm pmt (an_sh wM) o_X10_way 44 ([(2, 0), (0, n), (0, m), (0, f), (9, 0), (9, 0), (9, 0), (9, 0), (9, 0), (9, 0)], [], B) ri_post := by
  intro k
  induction k with
  | zero => intro f m B h; omega
  | succ k ih =>
    intro f m B hk f0 f1 hB h
    have c50 := pM_50 hB.1
    have hm := cntF_b (vdc n) f.toNat
    have hm1 := h.1
    refine wq_ok srt_Mway (fr := []) (cuts := [57, 117]) (J := fun pc st => (pc = 117 ∧ (100 ≤ f) ∧ st = ([(2, 0), (0, n), (0, m), (0, f), (9, 0), (9, 0), (9, 0), (9, 0), (9, 0), (9, 0)], [], B)) ∨ (pc = 57 ∧ (f < 100) ∧ st = ([(2, 0), (0, n), (0, m), (0, f), (9, 0), (9, 0), (9, 0), (9, 0), (9, 0), (9, 0)], [], pm_upd B (B 0 50) f ((-1))))) ?_ 13 44 _ ?_
    · rintro pc st (⟨rfl, h0, rfl⟩ | ⟨rfl, h0, rfl⟩)
      · have e : f = 100 := by omega
        subst e
        exact H B m hB (h.bmS n0 n1) (by omega)
      · rw [c50]
        refine wy_57 (B := pm_upd B 33 f (-1)) ⟨uM_33 hB.1 kn33 (by omega) (by omega), fun r j h1 h2 => by rw [upd_o (by omega)]; exact hB.2 r j h1 h2⟩ ?_ (by rw [upd_at]) n0 n1 f0 (by omega) (fun C m' hC h => ih (f + 1) m' C (by omega) (by omega) (by omega) hC h)
        refine ⟨h.1, fun g g0 g1 => ?_, fun b b0 b1 => ?_⟩
        · have e : pm_upd B 33 f (-1) 33 g = B 33 g := upd_o (by omega)
          rw [e]
          exact (h.2.1 g g0 g1).imp (fun ⟨a1, a2, a3, a4⟩ => ⟨a1, a2, a3, by rw [upd_o (by omega)]; exact a4⟩) id
        · have a := h.2.2 b b0 b1
          have e : pm_upd B 33 f (-1) 34 b = B 34 b := upd_o (by omega)
          rw [e]
          exact ⟨a.1, a.2.1, by rw [upd_o (by omega)]; exact a.2.2⟩
    · refine ⟨fun h0 => ?_, fun h0 => ?_⟩
      · exact Or.inl (⟨rfl, h0, rfl⟩)
      · refine ⟨oM_0 (by omega) km0 50 rfl, ?_⟩
        refine ⟨tM_33 (r := B 0 50) (by rw [c50]; omega) (by rw [c50]; exact kn33) (by omega) (by omega) rfl, ?_⟩
        exact Or.inr (⟨rfl, h0, rfl⟩)
theorem wy_119 {A : pm_A} {n m : Int} {bm bf : Int → Int} (H : ∀ (C : pm_A) (i : Int), wyF A C → C 33 = bm → C 34 = bf → (∀ i : Int, 0 ≤ i → i < 200 → C 38 i = A 32 i) → Tm pmt (an_sh wM) o_X10_way 144 ([(2, 0), (0, n), (0, m), (0, i), (9, 0), (9, 0), (9, 0), (9, 0), (9, 0), (9, 0)], [], C) ri_post) : ∀ (k : Nat) (i : Int) (B : pm_A), (200 - i).toNat < k → 0 ≤ i → i ≤ 200 → wyF A B → B 33 = bm → B 34 = bf → (∀ j : Int, 0 ≤ j → j < i → B 38 j = A 32 j) → Tm pmt (an_sh wM) o_X10_way 119 ([(2, 0), (0, n), (0, m), (0, i), (9, 0), (9, 0), (9, 0), (9, 0), (9, 0), (9, 0)], [], B) ri_post := by
  intro k
  induction k with
  | zero => intro i B h; omega
  | succ k ih =>
    intro i B hk i0 i1 hB e33 e34 hs
    have c49 := pM_49 hB.1
    have c57 := pM_57 hB.1
    have b32 : i < 200 → 0 ≤ B 32 i ∧ B 32 i ≤ 1 := fun h => eM_32 hB.1 (r := 32) (by omega) kn32 i0 h
    refine wq_ok srt_Mway (fr := []) (cuts := [119, 144]) (J := fun pc st => (pc = 144 ∧ (200 ≤ i) ∧ st = ([(2, 0), (0, n), (0, m), (0, i), (9, 0), (9, 0), (9, 0), (9, 0), (9, 0), (9, 0)], [], B)) ∨ (pc = 119 ∧ (i < 200) ∧ st = ([(2, 0), (0, n), (0, m), (0, i + 1), (9, 0), (9, 0), (9, 0), (9, 0), (9, 0), (9, 0)], [], pm_upd B (B 0 57) i (B (B 0 49) i)))) ?_ 18 119 _ ?_
    · rintro pc st (⟨rfl, h0, rfl⟩ | ⟨rfl, h0, rfl⟩)
      · exact H B i hB e33 e34 (fun j j0 j1 => hs j j0 (by omega))
      · rw [c57, c49]
        have b := b32 (by omega)
        refine ih (i + 1) _ (by omega) (by omega) (by omega) ⟨uM_38 hB.1 kn38 b.1 b.2, fun r j h1 h2 => by rw [upd_o (by omega)]; exact hB.2 r j h1 h2⟩ (by rw [← e33]; funext j; exact upd_o (by omega)) (by rw [← e34]; funext j; exact upd_o (by omega)) (fun j j0 j1 => ?_)
        by_cases e : j = i
        · rw [e, upd_at]; exact hB.2 32 i (by omega) (by omega)
        · rw [upd_o (by omega)]; exact hs j j0 (by omega)
    · refine ⟨fun h0 => ?_, fun h0 => ?_⟩
      · exact Or.inl (⟨rfl, h0, rfl⟩)
      · refine ⟨oM_0 (by omega) km0 57 rfl, ?_⟩
        refine ⟨oM_0 (by omega) km0 49 rfl, ?_⟩
        refine ⟨aM_32 (r := B 0 49) (by rw [c49]; omega) (by rw [c49]; exact kn32) (by omega) (by omega), ?_⟩
        have e1 : B (B 0 49) i = B 32 i := by rw [c49]
        refine ⟨tM_38 (r := B 0 57) (by rw [c57]; omega) (by rw [c57]; exact kn38) (by omega) (by omega) (okZ (by rw [c49]; exact (b32 (by omega)).1) (by rw [c49]; exact (b32 (by omega)).2)), ?_⟩
        refine ⟨⟨by omega, by omega⟩, ?_⟩
        exact Or.inr (⟨rfl, h0, rfl⟩)
end

section
/-! way: the search -/
def wyS (A B : pm_A) (n : Int) (bm bf V fa : Int → Int) (cm wm : Int) : Prop := gH wM B ∧ (∀ r j : Int, (r < 32 ∨ 38 < r) → ¬ (r = 0 ∧ (j = 54 ∨ j = 55)) → B r j = A r j) ∧ B 33 = bm ∧ B 34 = bf ∧ B 35 = V ∧ B 36 = fa ∧ B 0 54 = cm ∧ B 0 55 = wm ∧ (∀ i : Int, 0 ≤ i → i < 200 → B 38 i = A 32 i) ∧ A 31 0 = n ∧ A 31 1 = n ∧ V 0 = bitsV bm (fcs A 1) 100
theorem wyS.c32 {A B C : pm_A} {n cm wm : Int} {bm bf V fa : Int → Int} (h : wyS A B n bm bf V fa cm wm) (hC : gH wM C) (e : ∀ q j : Int, q ≠ 32 → C q j = B q j) : wyS A C n bm bf V fa cm wm := by
  obtain ⟨h1, h2, h3, h4, h5, h6, h7, h8, h9, h10⟩ := h
  exact ⟨hC, fun r j a b => by rw [e r j (by omega)]; exact h2 r j a b, by rw [← h3]; funext j; exact e 33 j (by omega), by rw [← h4]; funext j; exact e 34 j (by omega), by rw [← h5]; funext j; exact e 35 j (by omega), by rw [← h6]; funext j; exact e 36 j (by omega), by rw [e 0 54 (by omega)]; exact h7, by rw [e 0 55 (by omega)]; exact h8, fun i i0 i1 => by rw [e 38 i (by omega)]; exact h9 i i0 i1, h10⟩
theorem i64_b {v : Int} (h : i64 v) : -9223372036854775808 ≤ v ∧ v ≤ 9223372036854775807 := by
  have a := Int64.le_toInt (Int64.ofInt v)
  have b := Int64.toInt_lt (Int64.ofInt v)
  unfold i64 at h
  rw [h] at a b
  omega
theorem tk_F {B B1 : pm_A} {n m sl : Int} {bm bf F : Int → Int} (hb : bmS n bm bf m) (hF : cutS n F) (e33 : B 33 = bm) (h : tkB_post B sl (bitsV bm F 100) (none, B1)) : ∀ f : Int, 0 ≤ f → f < 100 → fcs B1 sl f = F f := fun f f0 f1 => by
  have a := h.2.2.2 f f0 f1
  have b := msk_f hF.1 hb f0 f1
  rw [e33] at a
  simp only at a
  unfold fcs
  omega
theorem wy_mfl {B1 B2 : pm_A} {n m sl b i o v : Int} {bm bf F : Int → Int} (hb : bmS n bm bf m) (hF : cutS n F) (b0 : 0 ≤ b) (b1 : b < m) (hv : v = bitsV bm F 100) (e33 : B2 33 = bm) (hB1 : ∀ f : Int, 0 ≤ f → f < 100 → fcs B1 sl f = F f) (hf : fcs B1 sl (bf b) = 1) (ho : oth n (fcs B1 sl) (bf b) i o) (g0 : 0 ≤ cod i o) (g1 : cod i o < 100) (h2 : B2 = pm_upd (pm_upd B1 32 (100 * sl + bf b) 0) 32 (100 * sl + cod i o) 1) : mfl n bm bf v b (bitsV (B2 33) (fcs B2 sl) 100) := by
  obtain ⟨c0, c1, _⟩ := hb.2.2 b b0 b1
  refine ⟨fcs B1 sl, i, o, cutS_congr hF hB1, ?_, hf, ho, ?_⟩
  · rw [hv]; exact bitsV_congr 100 (fun f f0 f1 => (hB1 f f0 (by omega)).symm)
  · rw [e33, h2, fl_fcs c0 c1 g0 g1]
theorem wy_260 {A B : pm_A} {n m bg c b cm wm : Int} {bm bf V fa : Int → Int} (hw : wyS A B n bm bf V fa cm wm) (hb : bmS n bm bf m) (h : bfsI n bm bf m V fa cm c b) (c0 : 0 ≤ c) (c1 : c < cm) (b0 : 0 ≤ b) (b1 : b < m) {g v : Int} (hv : mfl n bm bf (V c) b v) (iv : i64 v) (hno : ∀ d : Int, 0 ≤ d → d < cm → ¬ V d = v) (H : ∀ (C : pm_A) (V' fa' : Int → Int) (cm' : Int) (w7 w8 w9 : pm_V), wyS A C n bm bf V' fa' cm' wm → bfsI n bm bf m V' fa' cm' c (b + 1) → c < cm' → Tm pmt (an_sh wM) o_X10_way 188 ([(2, 0), (0, n), (0, m), (1, bg), (9, 0), (0, c), (0, b + 1), w7, w8, w9], [], C) ri_post) : Tm pmt (an_sh wM) o_X10_way 260 ([(2, 0), (0, n), (0, m), (1, bg), (9, 0), (0, c), (0, b), (0, g), (1, v), (9, 0)], [], B) ri_post := by
  have room := bfs_room hb h b0 b1 hv hno
  have hm35 := hb.1
  have hl := h.1.1
  have hfc := h.1.2.2.2.2.2.2 c c0 c1
  have hvb := i64_b iv
  obtain ⟨h1, h2, h3, h4, h5, h6, h7, h8, h9, h10⟩ := hw
  have c52 := pM_52 h1
  have h271 : ∀ B1, B1 = pm_upd B 35 cm v → Tm pmt (an_sh wM) o_X10_way 271 ([(2, 0), (0, n), (0, m), (1, bg), (9, 0), (0, c), (0, b), (0, g), (1, v), (9, 0)], [], B1) ri_post := fun B1 hB1 => by
    have g1 : gH wM B1 := by rw [hB1]; exact uM_35 h1 kn35 hvb.1 hvb.2
    have c53 := pM_53 g1
    have k54 : B1 0 54 = cm := by rw [hB1, upd_o (by omega)]; exact h7
    have k36 : B1 36 c = fa c := by rw [hB1, upd_o (by omega), h6]
    have h289 : ∀ B2, B2 = pm_upd B1 36 cm (fa c + 1) → Tm pmt (an_sh wM) o_X10_way 289 ([(2, 0), (0, n), (0, m), (1, bg), (9, 0), (0, c), (0, b), (0, g), (1, v), (9, 0)], [], B2) ri_post := fun B2 hB2 => by
      have g2 : gH wM B2 := by rw [hB2]; exact uM_36 g1 kn36 (by omega) (by omega)
      have j54 : B2 0 54 = cm := by rw [hB2, upd_o (by omega)]; exact k54
      refine wq_ok srt_Mway (fr := []) (cuts := [188]) (J := fun pc st => (pc = 188 ∧ st = ([(2, 0), (0, n), (0, m), (1, bg), (9, 0), (0, c), (0, b + 1), (0, g), (1, v), (9, 0)], [], pm_upd B2 0 54 ((B2 0 54) + 1)))) ?_ 13 289 _ ?_
      · rintro pc st (⟨rfl, rfl⟩)
        rw [j54]
        have ho : ∀ r j : Int, ¬ (r = 0 ∧ j = 54) → ¬ (r = 36 ∧ j = cm) → ¬ (r = 35 ∧ j = cm) → pm_upd B2 0 54 (cm + 1) r j = B r j := fun r j a1 a2 a3 => by rw [upd_o (by omega), hB2, upd_o (by omega), hB1, upd_o (by omega)]
        refine H _ (pm_upd B2 0 54 (cm + 1) 35) (pm_upd B2 0 54 (cm + 1) 36) (cm + 1) _ _ _ ⟨uM_0_54 g2 (by omega) (by omega), fun r j a1 a2 => by rw [ho r j (by omega) (by omega) (by omega)]; exact h2 r j a1 a2, by rw [← h3]; funext j; exact ho 33 j (by omega) (by omega) (by omega), by rw [← h4]; funext j; exact ho 34 j (by omega) (by omega) (by omega), rfl, rfl, by rw [upd_at], by rw [ho 0 55 (by omega) (by omega) (by omega)]; exact h8, fun i i0 i1 => by rw [ho 38 i (by omega) (by omega) (by omega)]; exact h9 i i0 i1, h10.1, h10.2.1, by rw [ho 35 0 (by omega) (by omega) (by omega), h5]; exact h10.2.2⟩ ?_ (by omega)
        refine bfs_new hb h c0 c1 b0 b1 hv hno (fun d hd => ?_) ?_ (fun d hd => ?_) ?_
        · rw [ho 35 d (by omega) (by omega) (by omega), h5]
        · rw [upd_o (by omega), hB2, upd_o (by omega), hB1, upd_at]
        · rw [ho 36 d (by omega) (by omega) (by omega), h6]
        · rw [upd_o (by omega), hB2, upd_at]
      · refine ⟨oM_0 (by omega) km0 54 rfl, ?_⟩
        refine ⟨⟨by omega, by omega⟩, ?_⟩
        refine ⟨oM_0 (by omega) km0 54 rfl, ?_⟩
        refine ⟨⟨by omega, by omega⟩, ?_⟩
        exact ⟨rfl, rfl⟩
    refine wq_ok srt_Mway (fr := []) (cuts := [289]) (J := fun pc st => (pc = 289 ∧ st = ([(2, 0), (0, n), (0, m), (1, bg), (9, 0), (0, c), (0, b), (0, g), (1, v), (9, 0)], [], pm_upd B1 (B1 0 53) (B1 0 54) ((B1 (B1 0 53) c) + 1)))) ?_ 16 271 _ ?_
    · rintro pc st (⟨rfl, rfl⟩)
      rw [c53, k54, k36]
      exact h289 _ rfl
    · refine ⟨oM_0 (by omega) km0 53 rfl, ?_⟩
      refine ⟨oM_0 (by omega) km0 54 rfl, ?_⟩
      refine ⟨oM_0 (by omega) km0 53 rfl, ?_⟩
      refine ⟨aM_36 (r := B1 0 53) (by rw [c53]; omega) (by rw [c53]; exact kn36) (by omega) (by omega), ?_⟩
      have e1 : B1 (B1 0 53) c = B1 36 c := by rw [c53]
      refine ⟨(by rw [c53, k36]; exact ⟨by omega, by omega⟩), ?_⟩
      refine ⟨tM_36 (r := B1 0 53) (by rw [c53]; omega) (by rw [c53]; exact kn36) (by omega) (by omega) rfl, ?_⟩
      exact ⟨rfl, rfl⟩
  refine wq_ok srt_Mway (fr := []) (cuts := [271]) (J := fun pc st => (pc = 271 ∧ st = ([(2, 0), (0, n), (0, m), (1, bg), (9, 0), (0, c), (0, b), (0, g), (1, v), (9, 0)], [], pm_upd B (B 0 52) (B 0 54) v))) ?_ 11 260 _ ?_
  · rintro pc st (⟨rfl, rfl⟩)
    rw [c52, h7]
    exact h271 _ rfl
  · refine ⟨oM_0 (by omega) km0 52 rfl, ?_⟩
    refine ⟨oM_0 (by omega) km0 54 rfl, ?_⟩
    refine ⟨tM_35 (r := B 0 52) (by rw [c52]; omega) (by rw [c52]; exact kn35) (by omega) (by omega) rfl, ?_⟩
    exact ⟨rfl, rfl⟩
theorem wy_214 {A B : pm_A} {n m bg c b cm wm : Int} {bm bf V fa : Int → Int} (hw : wyS A B n bm bf V fa cm wm) (hb : bmS n bm bf m) (h : bfsI n bm bf m V fa cm c b) (c0 : 0 ≤ c) (c1 : c < cm) (b0 : 0 ≤ b) (b1 : b < m) (ht : ¬ tbt (V c) b = 0) {w7 w8 w9 : pm_V} (H : ∀ (C : pm_A) (V' fa' : Int → Int) (cm' : Int) (w7 w8 w9 : pm_V), wyS A C n bm bf V' fa' cm' wm → bfsI n bm bf m V' fa' cm' c (b + 1) → c < cm' → Tm pmt (an_sh wM) o_X10_way 188 ([(2, 0), (0, n), (0, m), (1, bg), (9, 0), (0, c), (0, b + 1), w7, w8, w9], [], C) ri_post) : Tm pmt (an_sh wM) o_X10_way 214 ([(2, 0), (0, n), (0, m), (1, bg), (9, 0), (0, c), (0, b), w7, w8, w9], [], B) ri_post := by
  have hl := h.1.1
  obtain ⟨F, hF, hV⟩ := h.1.2.2.1 c c0 c1
  have hn := hF.1.1
  obtain ⟨d0, d1, _⟩ := hb.2.2 b b0 b1
  have hm := hb.1
  have hFb : F (bf b) = 1 := by
    have := msk_bit hF.1 hb b0 b1
    rw [← hV] at this
    omega
  have hw0 := hw
  obtain ⟨h1, h2, h3, h4, h5, h6, h7, h8, h9, h10⟩ := hw
  have c52 := pM_52 h1
  have ev : B (B 0 52) c = V c := by rw [c52, h5]
  refine wq_ok srt_Mway (fr := []) (cuts := [226]) (J := fun pc st => (pc = 226 ∧ ∃ B1, tkB_post B 1 (bitsV bm F 100) (none, B1) ∧ st = ([(2, 0), (0, n), (0, m), (1, bg), (9, 0), (0, c), (0, b), w7, w8, w9], [], B1))) ?_ 11 214 _ ?_
  · rintro pc st (⟨rfl, B1, hk, rfl⟩)
    have g1 : gH wM B1 := hk.2.1
    have eF := tk_F hb hF h3 hk
    have hw1 : wyS A B1 n bm bf V fa cm wm := hw0.c32 g1 hk.2.2.1
    have hC : cutS n (fcs B1 1) := cutS_congr hF eF
    have hf : fcs B1 1 (bf b) = 1 := by rw [eF _ d0 d1]; exact hFb
    have e31 : B1 31 1 = n := by rw [hw1.2.1 31 1 (by omega) (by omega)]; exact h10.2.1
    have c51 := pM_51 g1
    have ef : B1 (B1 0 51) b = bf b := by rw [c51, hw1.2.2.2.1]
    refine wq_ok srt_Mway (fr := []) (cuts := [238]) (J := fun pc st => (pc = 238 ∧ ∃ B2 i o, oth n (fcs B1 1) (bf b) i o ∧ gH wM B2 ∧ B2 = pm_upd (pm_upd B1 32 (100 * 1 + bf b) 0) 32 (100 * 1 + cod i o) 1 ∧ st = ([(2, 0), (0, n), (0, m), (1, bg), (9, 0), (0, c), (0, b), w7, w8, w9], [(0, cod i o)], B2))) ?_ 11 226 _ ?_
    · rintro pc st (⟨rfl, B2, i, o, ho, q2, q3, rfl⟩)
      have hcb := cod_b hC.1 d0 d1 hf ho
      have hw2 : wyS A B2 n bm bf V fa cm wm := hw1.c32 q2 (fun q j hq => by rw [q3, upd_o (by omega), upd_o (by omega)])
      obtain ⟨k1, k2, k3, k4, k5, k6, k7, k8, k9, k10⟩ := hw2
      have hw2 : wyS A B2 n bm bf V fa cm wm := ⟨k1, k2, k3, k4, k5, k6, k7, k8, k9, k10⟩
      have hmf : mfl n bm bf (V c) b (bitsV (B2 33) (fcs B2 1) 100) := wy_mfl hb hF b0 b1 hV k3 eF hf ho hcb.1 hcb.2.1 q3
      refine wq_ok srt_Mway (fr := []) (cuts := [245]) (J := fun pc st => (pc = 245 ∧ st = ([(2, 0), (0, n), (0, m), (1, bg), (9, 0), (0, c), (0, b), (0, cod i o), w8, w9], [(1, bitsV (B2 33) (fcs B2 1) 100)], B2))) ?_ 8 238 _ ?_
      · rintro pc st (⟨rfl, rfl⟩)
        refine wq_ok srt_Mway (fr := []) (cuts := [253]) (J := fun pc st => (pc = 253 ∧ ∃ x, ((x = -1 ∧ ∀ d : Int, 0 ≤ d → d < B2 0 54 → ¬ B2 35 d = bitsV (B2 33) (fcs B2 1) 100) ∨ (0 ≤ x ∧ x < B2 0 54 ∧ B2 35 x = bitsV (B2 33) (fcs B2 1) 100)) ∧ st = ([(2, 0), (0, n), (0, m), (1, bg), (9, 0), (0, c), (0, b), (0, cod i o), (1, bitsV (B2 33) (fcs B2 1) 100), (9, 0)], [(0, x)], B2))) ?_ 8 245 _ ?_
        · rintro pc st (⟨rfl, x, hx, rfl⟩)
          refine wq_ok srt_Mway (fr := []) (cuts := [188, 260]) (J := fun pc st => (pc = 260 ∧ (x = ((-1))) ∧ st = ([(2, 0), (0, n), (0, m), (1, bg), (9, 0), (0, c), (0, b), (0, cod i o), (1, bitsV (B2 33) (fcs B2 1) 100), (9, 0)], [], B2)) ∨ (pc = 188 ∧ (¬ x = ((-1))) ∧ st = ([(2, 0), (0, n), (0, m), (1, bg), (9, 0), (0, c), (0, b + 1), (0, cod i o), (1, bitsV (B2 33) (fcs B2 1) 100), (9, 0)], [], B2))) ?_ 10 253 _ ?_
          · rintro pc st (⟨rfl, h0, rfl⟩ | ⟨rfl, h0, rfl⟩)
            · exact wy_260 hw2 hb h c0 c1 b0 b1 hmf (bitsV_i64 _ _ _) (fun d k0 k1 => by rcases hx with ⟨_, hx⟩ | hx; exact (by have := hx d k0 (by omega); rwa [k5] at this); omega) H
            · refine H B2 V fa cm _ _ _ hw2 ?_ c1
              rcases hx with hx | ⟨x0, x1, x2⟩
              · exact absurd hx.1 h0
              · exact bfs_old hb h c1 hmf x0 (by omega) (by rw [← x2, k5])
          · refine ⟨fun h0 => ?_, fun h0 => ?_⟩
            · exact Or.inl (⟨rfl, h0, rfl⟩)
            · refine ⟨⟨by omega, by omega⟩, ?_⟩
              exact Or.inr (⟨rfl, h0, rfl⟩)
        · refine ⟨rM_0 (by omega) km0, ?_⟩
          refine (cuttingOf_ex q2).imp ?_
          rintro ⟨r1, C⟩ ⟨p1, x, p2, hx⟩
          simp only at p1 p2
          subst p1
          subst p2
          exact ⟨rfl, x, hx, rfl⟩
      · refine ⟨rM_0 (by omega) km0, ?_⟩
        refine (bits_ex (sl := 1) q2 (by omega) (by omega)).imp ?_
        rintro r rfl
        exact ⟨rfl, rfl⟩
    · refine ⟨oM_0 (by omega) km0 51 rfl, ?_⟩
      refine ⟨aM_34 (r := B1 0 51) (by rw [c51]; omega) (by rw [c51]; exact kn34) (by omega) (by omega), ?_⟩
      have e1 : B1 (B1 0 51) b = B1 34 b := by rw [c51]
      refine ⟨rM_0 (by omega) km0, ?_⟩
      rw [ef]
      refine (flips_ex (sl := 1) g1 (by omega) (by omega) (by rw [e31]; exact hC) d0 d1 hf).imp ?_
      rintro ⟨r1, B2⟩ ⟨i, o, ho, q1, q2, q3⟩
      simp only at q1 q2 q3
      subst q1
      rw [e31] at ho
      exact ⟨rfl, B2, i, o, ho, q2, q3, rfl⟩
  · refine ⟨oM_0 (by omega) km0 52 rfl, ?_⟩
    refine ⟨aM_35 (r := B 0 52) (by rw [c52]; omega) (by rw [c52]; exact kn35) (by omega) (by omega), ?_⟩
    have e1 : B (B 0 52) c = B 35 c := by rw [c52]
    refine ⟨rM_0 (by omega) km0, ?_⟩
    refine (takesBits_ex (sl := 1) h1 (by omega) (by omega)).imp ?_
    rintro ⟨r1, B1⟩ hk
    have q1 := hk.1
    simp only at q1
    subst q1
    rw [ev, hV] at hk
    exact ⟨rfl, B1, hk, rfl⟩
theorem wy_188 {A : pm_A} {n m bg c wm : Int} {bm bf : Int → Int} (hb : bmS n bm bf m) (c0 : 0 ≤ c) (H : ∀ (C : pm_A) (V fa : Int → Int) (cm : Int) (w6 w7 w8 w9 : pm_V), wyS A C n bm bf V fa cm wm → bfsI n bm bf m V fa cm (c + 1) 0 → Tm pmt (an_sh wM) o_X10_way 305 ([(2, 0), (0, n), (0, m), (1, bg), (9, 0), (0, c), w6, w7, w8, w9], [], C) ri_post) : ∀ (k : Nat) (b : Int) (w7 w8 w9 : pm_V) (B : pm_A) (V fa : Int → Int) (cm : Int), (35 - b).toNat < k → 0 ≤ b → b ≤ 35 → wyS A B n bm bf V fa cm wm → bfsI n bm bf m V fa cm c b → c < cm → Tm pmt (an_sh wM) o_X10_way 188 ([(2, 0), (0, n), (0, m), (1, bg), (9, 0), (0, c), (0, b), w7, w8, w9], [], B) ri_post := by
  have hm := hb.1
  intro k
  induction k with
  | zero => intro b w7 w8 w9 B V fa cm h; omega
  | succ k ih =>
    intro b w7 w8 w9 B V fa cm hk b0 b1 hw h c1
    have hl := h.1.1
    have hw0 := hw
    obtain ⟨h1, h2, h3, h4, h5, h6, h7, h8, h9, h10⟩ := hw
    have c52 := pM_52 h1
    have ev : B (B 0 52) c = V c := by rw [c52, h5]
    refine wq_ok srt_Mway (fr := []) (cuts := [188, 214, 305]) (J := fun pc st => (pc = 305 ∧ (m ≤ b) ∧ st = ([(2, 0), (0, n), (0, m), (1, bg), (9, 0), (0, c), (0, b), w7, w8, w9], [], B)) ∨ (pc = 214 ∧ (b < m) ∧ (0 < (tbt (B (B 0 52) c) b)) ∧ st = ([(2, 0), (0, n), (0, m), (1, bg), (9, 0), (0, c), (0, b), w7, w8, w9], [], B)) ∨ (pc = 188 ∧ (b < m) ∧ ((tbt (B (B 0 52) c) b) = 0) ∧ st = ([(2, 0), (0, n), (0, m), (1, bg), (9, 0), (0, c), (0, b + 1), w7, w8, w9], [], B)) ∨ (pc = 214 ∧ (b < m) ∧ ((tbt (B (B 0 52) c) b) < 0) ∧ st = ([(2, 0), (0, n), (0, m), (1, bg), (9, 0), (0, c), (0, b), w7, w8, w9], [], B))) ?_ 22 188 _ ?_
    · rintro pc st (⟨rfl, h0, rfl⟩ | ⟨rfl, h0, h1_, rfl⟩ | ⟨rfl, h0, h1_, rfl⟩ | ⟨rfl, h0, h1_, rfl⟩)
      · exact H B V fa cm _ _ _ _ hw0 (bfs_next h c0 (by omega))
      · rw [ev] at h1_
        exact wy_214 hw0 hb h c0 c1 b0 (by omega) (by omega) (fun C V' fa' cm' w7 w8 w9 hC hI hc => ih (b + 1) w7 w8 w9 C V' fa' cm' (by omega) (by omega) (by omega) hC hI hc)
      · rw [ev] at h1_
        exact ih (b + 1) _ _ _ B V fa cm (by omega) (by omega) (by omega) hw0 (bfs_skip hb h h1_) c1
      · rw [ev] at h1_
        exact wy_214 hw0 hb h c0 c1 b0 (by omega) (by omega) (fun C V' fa' cm' w7 w8 w9 hC hI hc => ih (b + 1) w7 w8 w9 C V' fa' cm' (by omega) (by omega) (by omega) hC hI hc)
    · refine ⟨fun h0 => ?_, fun h0 => ?_⟩
      · exact Or.inl (⟨rfl, h0, rfl⟩)
      · refine ⟨oM_0 (by omega) km0 52 rfl, ?_⟩
        refine ⟨aM_35 (r := B 0 52) (by rw [c52]; omega) (by rw [c52]; exact kn35) (by omega) (by omega), ?_⟩
        have e1 : B (B 0 52) c = B 35 c := by rw [c52]
        refine ⟨fun h1_ => ?_, fun h1_ => ?_, fun h1_ => ?_⟩
        · refine ⟨fun _ => ?_, fun hh => absurd hh (by decide)⟩
          exact Or.inr (Or.inl (⟨rfl, h0, h1_, rfl⟩))
        · refine ⟨fun hh => absurd hh (by decide), fun _ => ?_⟩
          refine ⟨⟨by omega, by omega⟩, ?_⟩
          exact Or.inr (Or.inr (Or.inl (⟨rfl, h0, h1_, rfl⟩)))
        · refine ⟨fun _ => ?_, fun hh => absurd hh (by decide)⟩
          exact Or.inr (Or.inr (Or.inr (⟨rfl, h0, h1_, rfl⟩)))
theorem wy_176 {A : pm_A} {n m bg wm : Int} {bm bf : Int → Int} (hb : bmS n bm bf m) (m0 : 0 ≤ m) (H : ∀ (C : pm_A) (V fa : Int → Int) (cm c : Int) (w6 w7 w8 w9 : pm_V), wyS A C n bm bf V fa cm wm → bfsI n bm bf m V fa cm c 0 → cm ≤ c → Tm pmt (an_sh wM) o_X10_way 311 ([(2, 0), (0, n), (0, m), (1, bg), (9, 0), (0, c), w6, w7, w8, w9], [], C) ri_post) : ∀ (k : Nat) (c : Int) (w6 w7 w8 w9 : pm_V) (B : pm_A) (V fa : Int → Int) (cm : Int), (1430 - c).toNat < k → 0 ≤ c → c ≤ 1430 → wyS A B n bm bf V fa cm wm → bfsI n bm bf m V fa cm c 0 → Tm pmt (an_sh wM) o_X10_way 176 ([(2, 0), (0, n), (0, m), (1, bg), (9, 0), (0, c), w6, w7, w8, w9], [], B) ri_post := by
  intro k
  induction k with
  | zero => intro c w6 w7 w8 w9 B V fa cm h; omega
  | succ k ih =>
    intro c w6 w7 w8 w9 B V fa cm hk c0 c1 hw h
    have hl := h.1.1
    have h7 := hw.2.2.2.2.2.2.1
    have h305 : c < 1430 → ∀ (C : pm_A) (V fa : Int → Int) (cm : Int) (w6 w7 w8 w9 : pm_V), wyS A C n bm bf V fa cm wm → bfsI n bm bf m V fa cm (c + 1) 0 → Tm pmt (an_sh wM) o_X10_way 305 ([(2, 0), (0, n), (0, m), (1, bg), (9, 0), (0, c), w6, w7, w8, w9], [], C) ri_post := fun hc C V fa cm w6 w7 w8 w9 hw h => by
      refine wq_ok srt_Mway (fr := []) (cuts := [176]) (J := fun pc st => (pc = 176 ∧ st = ([(2, 0), (0, n), (0, m), (1, bg), (9, 0), (0, c + 1), w6, w7, w8, w9], [], C))) ?_ 7 305 _ ?_
      · rintro pc st (⟨rfl, rfl⟩)
        exact ih (c + 1) _ _ _ _ C V fa cm (by omega) (by omega) (by omega) hw h
      · refine ⟨⟨by omega, by omega⟩, ?_⟩
        exact ⟨rfl, rfl⟩
    refine wq_ok srt_Mway (fr := []) (cuts := [188, 311]) (J := fun pc st => (pc = 311 ∧ ((B 0 54) ≤ c) ∧ st = ([(2, 0), (0, n), (0, m), (1, bg), (9, 0), (0, c), w6, w7, w8, w9], [], B)) ∨ (pc = 188 ∧ (c < (B 0 54)) ∧ st = ([(2, 0), (0, n), (0, m), (1, bg), (9, 0), (0, c), (0, 0), w7, w8, w9], [], B))) ?_ 11 176 _ ?_
    · rintro pc st (⟨rfl, h0, rfl⟩ | ⟨rfl, h0, rfl⟩)
      · rw [h7] at h0
        exact H B V fa cm c _ _ _ _ hw h h0
      · rw [h7] at h0
        exact wy_188 hb c0 (h305 (by omega)) _ 0 _ _ _ B V fa cm (Nat.lt_succ_self _) (by omega) (by omega) hw h h0
    · refine ⟨oM_0 (by omega) km0 54 rfl, ?_⟩
      refine ⟨fun h0 => ?_, fun h0 => ?_⟩
      · exact Or.inl (⟨rfl, h0, rfl⟩)
      · exact Or.inr (⟨rfl, h0, rfl⟩)
end

section
/-! way: the way itself -/
set_option maxRecDepth 10000 in
theorem wy_474 {A : pm_A} {n m bg here wm : Int} {bm bf V fa : Int → Int} {cm : Int} (hA : RI A) : ∀ (k : Nat) (i : Int) (w7 w8 w9 : pm_V) (B : pm_A), (200 - i).toNat < k → 0 ≤ i → i ≤ 200 → wyS A B n bm bf V fa cm wm → (∀ j : Int, 0 ≤ j → j < i → B 32 j = A 32 j) → Tm pmt (an_sh wM) o_X10_way 474 ([(2, 0), (0, n), (0, m), (1, bg), (9, 0), (0, here), (0, i), w7, w8, w9], [], B) ri_post := by
  intro k
  induction k with
  | zero => intro i w7 w8 w9 B h; omega
  | succ k ih =>
    intro i w7 w8 w9 B hk i0 i1 hw hs
    have hw0 := hw
    obtain ⟨h1, h2, h3, h4, h5, h6, h7, h8, h9, h10⟩ := hw
    have c49 := pM_49 h1
    have c57 := pM_57 h1
    have b38 : i < 200 → 0 ≤ B 38 i ∧ B 38 i ≤ 1 := fun h => eM_38 h1 (r := 38) (by omega) kn38 i0 h
    have fin : 200 ≤ i → RI B := fun hi => hA.ring h1 (fun r j a1 a2 a3 a4 a5 a6 a7 a8 a9 => h2 r j (by omega) a9) (fun t ht => by
      rw [h2 31 t (by omega) (by omega)]
      exact rgS_congr (hA.2.2 t ht) (fun x x0 x1 => hs _ (by omega) (by omega)))
    refine wq_ok srt_Mway (fr := []) (cuts := [474]) (J := fun pc st => (pc = 474 ∧ (i < 200) ∧ st = ([(2, 0), (0, n), (0, m), (1, bg), (9, 0), (0, here), (0, i + 1), w7, w8, w9], [], pm_upd B (B 0 49) i (B (B 0 57) i)))) ?_ 18 474 _ ?_
    · rintro pc st (⟨rfl, h0, rfl⟩)
      rw [c49, c57]
      have b := b38 (by omega)
      refine ih (i + 1) _ _ _ _ (by omega) (by omega) (by omega) (hw0.c32 (uM_32 h1 kn32 b.1 b.2) (fun q j hq => upd_o (by omega))) (fun j j0 j1 => ?_)
      by_cases e : j = i
      · rw [e, upd_at]; exact h9 i i0 (by omega)
      · rw [upd_o (by omega)]; exact hs j j0 (by omega)
    · refine ⟨fun h0 => ?_, fun h0 => ?_⟩
      · refine ⟨oM_0 (by omega) km0 55 rfl, ?_⟩
        exact ⟨rfl, ⟨_, rfl⟩, fin (by omega)⟩
      · refine ⟨oM_0 (by omega) km0 49 rfl, ?_⟩
        refine ⟨oM_0 (by omega) km0 57 rfl, ?_⟩
        refine ⟨aM_38 (r := B 0 57) (by rw [c57]; omega) (by rw [c57]; exact kn38) (by omega) (by omega), ?_⟩
        have e1 : B (B 0 57) i = B 38 i := by rw [c57]
        refine ⟨tM_32 (r := B 0 49) (by rw [c49]; omega) (by rw [c49]; exact kn32) (by omega) (by omega) (okZ (by rw [c57]; exact (b38 (by omega)).1) (by rw [c57]; exact (b38 (by omega)).2)), ?_⟩
        refine ⟨⟨by omega, by omega⟩, ?_⟩
        exact ⟨rfl, h0, rfl⟩
def dnI (n : Int) (bm bf : Int → Int) (m : Int) (V fa : Int → Int) (cm here th b : Int) : Prop := (th = -1 ∧ ∀ b' w e : Int, b < b' → b' < m → mfl n bm bf (V here) b' w → 0 ≤ e → e < cm → V e = w → ¬ fa e = fa here - 1) ∨ (0 ≤ th ∧ th < cm ∧ fa th = fa here - 1)
theorem lsI.at {n m cm : Int} {bm bf V fa : Int → Int} (h : lsI n bm bf m V fa cm) {c d : Int} (c0 : 0 ≤ c) (c1 : c < cm) (d0 : 0 ≤ d) (d1 : d < cm) (e : V c = V d) : c = d := by
  have k := h.2.2.2.1
  rcases (show c < d ∨ c = d ∨ d < c by omega) with l | l | l
  · exact absurd e (k c d c0 l d1)
  · exact l
  · exact absurd e.symm (k d c d0 l c1)
theorem dnI.end {n m cm here th b : Int} {bm bf V fa : Int → Int} (hb : bmS n bm bf m) (hl : lsI n bm bf m V fa cm) (h : dnI n bm bf m V fa cm here th b) (hb0 : b < 0) (p0 : 0 ≤ here) (p1 : here < cm) (hf : 0 < fa here) : 0 ≤ th ∧ th < cm ∧ fa th = fa here - 1 := by
  rcases h with ⟨_, h⟩ | h
  · have hne : 0 < here := by
      rcases (show here = 0 ∨ 0 < here by omega) with e | e
      · rw [e, hl.2.1] at hf; omega
      · exact e
    obtain ⟨p, b1, q0, q1, q2, q3, q4, q5⟩ := hl.2.2.2.2.1 here hne p1
    obtain ⟨b2, y0, y1, y2⟩ := mfl_sym hb q2 q3 q5
    exact absurd (by omega) (h b2 (V p) p (by omega) y1 y2 q0 (by omega) rfl)
  · exact h
set_option maxRecDepth 10000 in
theorem wy_425 {A B : pm_A} {n m bg here th b cc cm wm : Int} {bm bf V fa : Int → Int} (hw : wyS A B n bm bf V fa cm wm) (hb : bmS n bm bf m) (h : bfsI n bm bf m V fa cm cc 0) (hcc : cm ≤ cc) (p0 : 0 ≤ here) (p1 : here < cm) (b0 : 0 ≤ b) (b1 : b < m) (w0 : 0 ≤ wm) (w1 : wm < 64) (hd : dnI n bm bf m V fa cm here th b) {g x : Int} (x0 : 0 ≤ x) (x1 : x < cm) (hx : fa x = fa here - 1) (H : ∀ (C : pm_A) (th' : Int) (w8 w9 : pm_V), wyS A C n bm bf V fa cm wm → dnI n bm bf m V fa cm here th' (b - 1) → Tm pmt (an_sh wM) o_X10_way 341 ([(2, 0), (0, n), (0, m), (1, bg), (9, 0), (0, here), (0, th'), (0, b + (-1)), w8, w9], [], C) ri_post) : Tm pmt (an_sh wM) o_X10_way 425 ([(2, 0), (0, n), (0, m), (1, bg), (9, 0), (0, here), (0, th), (0, b), (0, g), (0, x)], [], B) ri_post := by
  have hm := hb.1
  have hw0 := hw
  obtain ⟨h1, h2, h3, h4, h5, h6, h7, h8, h9, h10⟩ := hw
  have c51 := pM_51 h1
  have c56 := pM_56 h1
  obtain ⟨d0, d1, _⟩ := hb.2.2 b b0 b1
  have ef : B (B 0 51) b = bf b := by rw [c51, h4]
  refine wq_ok srt_Mway (fr := []) (cuts := [447]) (J := fun pc st => (pc = 447 ∧ ∃ z, 0 ≤ z ∧ z ≤ 999 ∧ st = ([(2, 0), (0, n), (0, m), (1, bg), (9, 0), (0, here), (0, x), (0, b), (0, g), (0, x)], [(0, z), (0, B 0 55), (2, B 0 56)], B))) ?_ 15 425 _ ?_
  · rintro pc st (⟨rfl, z, z0, z1, rfl⟩)
    refine wq_ok srt_Mway (fr := []) (cuts := [341]) (J := fun pc st => (pc = 341 ∧ st = ([(2, 0), (0, n), (0, m), (1, bg), (9, 0), (0, here), (0, x), (0, b + (-1)), (0, g), (0, x)], [], pm_upd B (B 0 56) (B 0 55) z))) ?_ 8 447 _ ?_
    · rintro pc st (⟨rfl, rfl⟩)
      rw [c56]
      exact H _ x _ _ ⟨uM_37 h1 kn37 (by omega) (by omega), fun r j a1 a2 => by rw [upd_o (by omega)]; exact h2 r j a1 a2, by rw [← h3]; funext j; exact upd_o (by omega), by rw [← h4]; funext j; exact upd_o (by omega), by rw [← h5]; funext j; exact upd_o (by omega), by rw [← h6]; funext j; exact upd_o (by omega), by rw [upd_o (by omega)]; exact h7, by rw [upd_o (by omega)]; exact h8, fun i i0 i1 => by rw [upd_o (by omega)]; exact h9 i i0 i1, h10⟩ (Or.inr ⟨x0, x1, hx⟩)
    · refine ⟨tM_37 (r := B 0 56) (by rw [c56]; omega) (by rw [c56]; exact kn37) (by omega) (by omega) rfl, ?_⟩
      refine ⟨⟨by omega, by omega⟩, ?_⟩
      exact ⟨rfl, rfl⟩
  · refine ⟨oM_0 (by omega) km0 56 rfl, ?_⟩
    refine ⟨oM_0 (by omega) km0 55 rfl, ?_⟩
    refine ⟨oM_0 (by omega) km0 51 rfl, ?_⟩
    refine ⟨aM_34 (r := B 0 51) (by rw [c51]; omega) (by rw [c51]; exact kn34) (by omega) (by omega), ?_⟩
    have e1 : B (B 0 51) b = B 34 b := by rw [c51]
    refine ⟨rfl, ?_⟩
    rw [ef]
    refine (named_ex d0 (by omega)).imp ?_
    rintro ⟨r1, D⟩ ⟨q1, z, q2, z0, z1⟩
    simp only at q1 q2
    subst q1
    subst q2
    exact ⟨rfl, z, z0, z1, rfl⟩
set_option maxRecDepth 10000 in
theorem wy_366 {A B : pm_A} {n m bg here th b cc cm wm : Int} {bm bf V fa : Int → Int} (hw : wyS A B n bm bf V fa cm wm) (hb : bmS n bm bf m) (h : bfsI n bm bf m V fa cm cc 0) (hcc : cm ≤ cc) (p0 : 0 ≤ here) (p1 : here < cm) (b0 : 0 ≤ b) (b1 : b < m) (w0 : 0 ≤ wm) (w1 : wm < 64) (hd : dnI n bm bf m V fa cm here th b) (ht : ¬ tbt (V here) b = 0) {w8 w9 : pm_V} (H : ∀ (C : pm_A) (th' : Int) (w8 w9 : pm_V), wyS A C n bm bf V fa cm wm → dnI n bm bf m V fa cm here th' (b - 1) → Tm pmt (an_sh wM) o_X10_way 341 ([(2, 0), (0, n), (0, m), (1, bg), (9, 0), (0, here), (0, th'), (0, b + (-1)), w8, w9], [], C) ri_post) : Tm pmt (an_sh wM) o_X10_way 366 ([(2, 0), (0, n), (0, m), (1, bg), (9, 0), (0, here), (0, th), (0, b), w8, w9], [], B) ri_post := by
  have hl := h.1.1
  obtain ⟨F, hF, hV⟩ := h.1.2.2.1 here p0 p1
  have hfh := h.1.2.2.2.2.2.2 here p0 p1
  have hn := hF.1.1
  obtain ⟨d0, d1, _⟩ := hb.2.2 b b0 b1
  have hm := hb.1
  have hFb : F (bf b) = 1 := by
    have := msk_bit hF.1 hb b0 b1
    rw [← hV] at this
    omega
  have hw0 := hw
  obtain ⟨h1, h2, h3, h4, h5, h6, h7, h8, h9, h10⟩ := hw
  have c52 := pM_52 h1
  have ev : B (B 0 52) here = V here := by rw [c52, h5]
  refine wq_ok srt_Mway (fr := []) (cuts := [378]) (J := fun pc st => (pc = 378 ∧ ∃ B1, tkB_post B 0 (bitsV bm F 100) (none, B1) ∧ st = ([(2, 0), (0, n), (0, m), (1, bg), (9, 0), (0, here), (0, th), (0, b), w8, w9], [], B1))) ?_ 11 366 _ ?_
  · rintro pc st (⟨rfl, B1, hk, rfl⟩)
    have g1 : gH wM B1 := hk.2.1
    have eF := tk_F hb hF h3 hk
    have hw1 : wyS A B1 n bm bf V fa cm wm := hw0.c32 g1 hk.2.2.1
    have hC : cutS n (fcs B1 0) := cutS_congr hF eF
    have hf : fcs B1 0 (bf b) = 1 := by rw [eF _ d0 d1]; exact hFb
    have e31 : B1 31 0 = n := by rw [hw1.2.1 31 0 (by omega) (by omega)]; exact h10.1
    have c51 := pM_51 g1
    have ef : B1 (B1 0 51) b = bf b := by rw [c51, hw1.2.2.2.1]
    refine wq_ok srt_Mway (fr := []) (cuts := [390]) (J := fun pc st => (pc = 390 ∧ ∃ B2 i o, oth n (fcs B1 0) (bf b) i o ∧ gH wM B2 ∧ B2 = pm_upd (pm_upd B1 32 (100 * 0 + bf b) 0) 32 (100 * 0 + cod i o) 1 ∧ st = ([(2, 0), (0, n), (0, m), (1, bg), (9, 0), (0, here), (0, th), (0, b), w8, w9], [(0, cod i o)], B2))) ?_ 11 378 _ ?_
    · rintro pc st (⟨rfl, B2, i, o, ho, q2, q3, rfl⟩)
      have hcb := cod_b hC.1 d0 d1 hf ho
      have hw2 : wyS A B2 n bm bf V fa cm wm := hw1.c32 q2 (fun q j hq => by rw [q3, upd_o (by omega), upd_o (by omega)])
      obtain ⟨k1, k2, k3, k4, k5, k6, k7, k8, k9, k10⟩ := hw2
      have hw2 : wyS A B2 n bm bf V fa cm wm := ⟨k1, k2, k3, k4, k5, k6, k7, k8, k9, k10⟩
      have hmf : mfl n bm bf (V here) b (bitsV (B2 33) (fcs B2 0) 100) := wy_mfl hb hF b0 b1 hV k3 eF hf ho hcb.1 hcb.2.1 q3
      refine wq_ok srt_Mway (fr := []) (cuts := [398]) (J := fun pc st => (pc = 398 ∧ st = ([(2, 0), (0, n), (0, m), (1, bg), (9, 0), (0, here), (0, th), (0, b), (0, cod i o), w9], [(1, bitsV (B2 33) (fcs B2 0) 100), (2, 0)], B2))) ?_ 9 390 _ ?_
      · rintro pc st (⟨rfl, rfl⟩)
        refine wq_ok srt_Mway (fr := []) (cuts := [401]) (J := fun pc st => (pc = 401 ∧ ∃ x, ((x = -1 ∧ ∀ d : Int, 0 ≤ d → d < B2 0 54 → ¬ B2 35 d = bitsV (B2 33) (fcs B2 0) 100) ∨ (0 ≤ x ∧ x < B2 0 54 ∧ B2 35 x = bitsV (B2 33) (fcs B2 0) 100)) ∧ st = ([(2, 0), (0, n), (0, m), (1, bg), (9, 0), (0, here), (0, th), (0, b), (0, cod i o), w9], [(0, x)], B2))) ?_ 5 398 _ ?_
        · rintro pc st (⟨rfl, x, hx, rfl⟩)
          have hx2 : 0 ≤ x ∧ x < cm ∧ V x = bitsV (B2 33) (fcs B2 0) 100 := by
            rcases hx with ⟨_, hx⟩ | ⟨y0, y1, y2⟩
            · obtain ⟨e, e0, e1, e2, _⟩ := h.2.2 here b _ p0 p1 b0 b1 (by omega) hmf
              exact absurd (by rw [k5]; exact e2) (hx e e0 (by omega))
            · exact ⟨y0, by omega, by rw [← k5]; exact y2⟩
          obtain ⟨x0, x1, x2⟩ := hx2
          have c53 := pM_53 q2
          refine wq_ok srt_Mway (fr := []) (cuts := [341, 425]) (J := fun pc st => (pc = 425 ∧ ((B2 (B2 0 53) x) = ((B2 (B2 0 53) here) - 1)) ∧ st = ([(2, 0), (0, n), (0, m), (1, bg), (9, 0), (0, here), (0, th), (0, b), (0, cod i o), (0, x)], [], B2)) ∨ (pc = 341 ∧ (¬ (B2 (B2 0 53) x) = ((B2 (B2 0 53) here) - 1)) ∧ st = ([(2, 0), (0, n), (0, m), (1, bg), (9, 0), (0, here), (0, th), (0, b + (-1)), (0, cod i o), (0, x)], [], B2))) ?_ 20 401 _ ?_
          · rintro pc st (⟨rfl, h0, rfl⟩ | ⟨rfl, h0, rfl⟩)
            · rw [c53, k6] at h0
              exact wy_425 hw2 hb h hcc p0 p1 b0 b1 w0 w1 hd x0 x1 h0 H
            · rw [c53, k6] at h0
              refine H B2 th _ _ hw2 (hd.imp (fun ⟨a1, a2⟩ => ⟨a1, fun b' w e y0 y1 y2 y3 y4 y5 => ?_⟩) id)
              by_cases eb : b' = b
              · rw [eb] at y2
                have e1 : w = bitsV (B2 33) (fcs B2 0) 100 := mfl_det hb b0 b1 y2 hmf
                have e2 : e = x := h.1.at y3 y4 x0 x1 (by rw [y5, e1, x2])
                rw [e2]; exact h0
              · exact a2 b' w e (by omega) y1 y2 y3 y4 y5
          · refine ⟨oM_0 (by omega) km0 53 rfl, ?_⟩
            refine ⟨aM_36 (r := B2 0 53) (by rw [c53]; omega) (by rw [c53]; exact kn36) (by omega) (by omega), ?_⟩
            have e1 : B2 (B2 0 53) x = B2 36 x := by rw [c53]
            refine ⟨oM_0 (by omega) km0 53 rfl, ?_⟩
            refine ⟨aM_36 (r := B2 0 53) (by rw [c53]; omega) (by rw [c53]; exact kn36) (by omega) (by omega), ?_⟩
            have e2 : B2 (B2 0 53) here = B2 36 here := by rw [c53]
            refine ⟨(by rw [c53, k6]; exact ⟨by omega, by omega⟩), ?_⟩
            refine ⟨fun h0 => ?_, fun h0 => ?_⟩
            · exact Or.inl (⟨rfl, h0, rfl⟩)
            · refine ⟨⟨by omega, by omega⟩, ?_⟩
              exact Or.inr (⟨rfl, h0, rfl⟩)
        · refine ⟨rM_0 (by omega) km0, ?_⟩
          refine (cuttingOf_ex q2).imp ?_
          rintro ⟨r1, C⟩ ⟨p1_, x, p2_, hx⟩
          simp only at p1_ p2_
          subst p1_
          subst p2_
          exact ⟨rfl, x, hx, rfl⟩
      · refine ⟨rM_0 (by omega) km0, ?_⟩
        refine (bits_ex (sl := 0) q2 (by omega) (by omega)).imp ?_
        rintro r rfl
        exact ⟨rfl, rfl⟩
    · refine ⟨oM_0 (by omega) km0 51 rfl, ?_⟩
      refine ⟨aM_34 (r := B1 0 51) (by rw [c51]; omega) (by rw [c51]; exact kn34) (by omega) (by omega), ?_⟩
      have e1 : B1 (B1 0 51) b = B1 34 b := by rw [c51]
      refine ⟨rM_0 (by omega) km0, ?_⟩
      rw [ef]
      refine (flips_ex (sl := 0) g1 (by omega) (by omega) (by rw [e31]; exact hC) d0 d1 hf).imp ?_
      rintro ⟨r1, B2⟩ ⟨i, o, ho, q1, q2, q3⟩
      simp only at q1 q2 q3
      subst q1
      rw [e31] at ho
      exact ⟨rfl, B2, i, o, ho, q2, q3, rfl⟩
  · refine ⟨oM_0 (by omega) km0 52 rfl, ?_⟩
    refine ⟨aM_35 (r := B 0 52) (by rw [c52]; omega) (by rw [c52]; exact kn35) (by omega) (by omega), ?_⟩
    have e1 : B (B 0 52) here = B 35 here := by rw [c52]
    refine ⟨rM_0 (by omega) km0, ?_⟩
    refine (takesBits_ex (sl := 0) h1 (by omega) (by omega)).imp ?_
    rintro ⟨r1, B1⟩ hk
    have q1 := hk.1
    simp only at q1
    subst q1
    rw [ev, hV] at hk
    exact ⟨rfl, B1, hk, rfl⟩
set_option maxRecDepth 10000 in
theorem wy_341 {A : pm_A} {n m bg here cc cm wm : Int} {bm bf V fa : Int → Int} (hb : bmS n bm bf m) (h : bfsI n bm bf m V fa cm cc 0) (hcc : cm ≤ cc) (p0 : 0 ≤ here) (p1 : here < cm) (w0 : 0 ≤ wm) (w1 : wm < 64) (H : ∀ (C : pm_A) (th b : Int) (w8 w9 : pm_V), wyS A C n bm bf V fa cm wm → dnI n bm bf m V fa cm here th b → b < 0 → Tm pmt (an_sh wM) o_X10_way 454 ([(2, 0), (0, n), (0, m), (1, bg), (9, 0), (0, here), (0, th), (0, b), w8, w9], [], C) ri_post) : ∀ (k : Nat) (b th : Int) (w8 w9 : pm_V) (B : pm_A), (b + 1).toNat < k → -1 ≤ b → b < m → wyS A B n bm bf V fa cm wm → dnI n bm bf m V fa cm here th b → Tm pmt (an_sh wM) o_X10_way 341 ([(2, 0), (0, n), (0, m), (1, bg), (9, 0), (0, here), (0, th), (0, b), w8, w9], [], B) ri_post := by
  have hm := hb.1
  have hl := h.1.1
  intro k
  induction k with
  | zero => intro b th w8 w9 B h; omega
  | succ k ih =>
    intro b th w8 w9 B hk b0 b1 hw hd
    have hw0 := hw
    obtain ⟨h1, h2, h3, h4, h5, h6, h7, h8, h9, h10⟩ := hw
    have c52 := pM_52 h1
    have ev : B (B 0 52) here = V here := by rw [c52, h5]
    refine wq_ok srt_Mway (fr := []) (cuts := [341, 366, 454]) (J := fun pc st => (pc = 454 ∧ (b < 0) ∧ st = ([(2, 0), (0, n), (0, m), (1, bg), (9, 0), (0, here), (0, th), (0, b), w8, w9], [], B)) ∨ (pc = 366 ∧ (0 ≤ b) ∧ (0 < (tbt (B (B 0 52) here) b)) ∧ st = ([(2, 0), (0, n), (0, m), (1, bg), (9, 0), (0, here), (0, th), (0, b), w8, w9], [], B)) ∨ (pc = 341 ∧ (0 ≤ b) ∧ ((tbt (B (B 0 52) here) b) = 0) ∧ st = ([(2, 0), (0, n), (0, m), (1, bg), (9, 0), (0, here), (0, th), (0, b + (-1)), w8, w9], [], B)) ∨ (pc = 366 ∧ (0 ≤ b) ∧ ((tbt (B (B 0 52) here) b) < 0) ∧ st = ([(2, 0), (0, n), (0, m), (1, bg), (9, 0), (0, here), (0, th), (0, b), w8, w9], [], B))) ?_ 21 341 _ ?_
    · rintro pc st (⟨rfl, h0, rfl⟩ | ⟨rfl, h0, h1_, rfl⟩ | ⟨rfl, h0, h1_, rfl⟩ | ⟨rfl, h0, h1_, rfl⟩)
      · exact H B th b _ _ hw0 hd h0
      · rw [ev] at h1_
        exact wy_366 hw0 hb h hcc p0 p1 h0 b1 w0 w1 hd (by omega) (fun C th' w8 w9 hC hD => by rw [show b + -1 = b - 1 by omega]; exact ih (b - 1) th' w8 w9 C (by omega) (by omega) (by omega) hC hD)
      · rw [ev] at h1_
        rw [show b + -1 = b - 1 by omega]
        refine ih (b - 1) th _ _ B (by omega) (by omega) (by omega) hw0 (hd.imp (fun ⟨a1, a2⟩ => ⟨a1, fun b' w e y0 y1 y2 y3 y4 y5 => ?_⟩) id)
        by_cases eb : b' = b
        · rw [eb] at y2; exact absurd h1_ (mfl_bit hb (by omega) b1 y2)
        · exact a2 b' w e (by omega) y1 y2 y3 y4 y5
      · rw [ev] at h1_
        exact wy_366 hw0 hb h hcc p0 p1 h0 b1 w0 w1 hd (by omega) (fun C th' w8 w9 hC hD => by rw [show b + -1 = b - 1 by omega]; exact ih (b - 1) th' w8 w9 C (by omega) (by omega) (by omega) hC hD)
    · refine ⟨fun h0 => ?_, fun h0 => ?_⟩
      · exact Or.inl (⟨rfl, h0, rfl⟩)
      · refine ⟨oM_0 (by omega) km0 52 rfl, ?_⟩
        refine ⟨aM_35 (r := B 0 52) (by rw [c52]; omega) (by rw [c52]; exact kn35) (by omega) (by omega), ?_⟩
        have e1 : B (B 0 52) here = B 35 here := by rw [c52]
        refine ⟨fun h1_ => ?_, fun h1_ => ?_, fun h1_ => ?_⟩
        · refine ⟨fun _ => ?_, fun hh => absurd hh (by decide)⟩
          exact Or.inr (Or.inl (⟨rfl, h0, h1_, rfl⟩))
        · refine ⟨fun hh => absurd hh (by decide), fun _ => ?_⟩
          refine ⟨⟨by omega, by omega⟩, ?_⟩
          exact Or.inr (Or.inr (Or.inl (⟨rfl, h0, h1_, rfl⟩)))
        · refine ⟨fun _ => ?_, fun hh => absurd hh (by decide)⟩
          exact Or.inr (Or.inr (Or.inr (⟨rfl, h0, h1_, rfl⟩)))
set_option maxRecDepth 10000 in
theorem wy_323 {A : pm_A} {n m bg cc cm : Int} {bm bf V fa : Int → Int} (hA : RI A) (hb : bmS n bm bf m) (m0 : 0 ≤ m) (h : bfsI n bm bf m V fa cm cc 0) (hcc : cm ≤ cc) : ∀ (k : Nat) (here wm : Int) (w6 w7 w8 w9 : pm_V) (B : pm_A), (fa here).toNat < k → 0 ≤ here → here < cm → 0 ≤ wm → wm + fa here ≤ 14 → wyS A B n bm bf V fa cm wm → Tm pmt (an_sh wM) o_X10_way 323 ([(2, 0), (0, n), (0, m), (1, bg), (9, 0), (0, here), w6, w7, w8, w9], [], B) ri_post := by
  have hm := hb.1
  have hl := h.1.1
  intro k
  induction k with
  | zero => intro here wm w6 w7 w8 w9 B h; omega
  | succ k ih =>
    intro here wm w6 w7 w8 w9 B hk p0 p1 w0 w1 hw
    have hfh := h.1.2.2.2.2.2.2 here p0 p1
    have hw0 := hw
    obtain ⟨h1, h2, h3, h4, h5, h6, h7, h8, h9, h10⟩ := hw
    have c53 := pM_53 h1
    have ev : B (B 0 53) here = fa here := by rw [c53, h6]
    have h454 : 0 < fa here → ∀ (C : pm_A) (th b : Int) (w8 w9 : pm_V), wyS A C n bm bf V fa cm wm → dnI n bm bf m V fa cm here th b → b < 0 → Tm pmt (an_sh wM) o_X10_way 454 ([(2, 0), (0, n), (0, m), (1, bg), (9, 0), (0, here), (0, th), (0, b), w8, w9], [], C) ri_post := fun hf C th b w8 w9 hC hD hb0 => by
      obtain ⟨t0, t1, t2⟩ := hD.end hb h.1 hb0 p0 p1 hf
      obtain ⟨h1, h2, h3, h4, h5, h6, h7, h8, h9, h10⟩ := hC
      refine wq_ok srt_Mway (fr := []) (cuts := [323]) (J := fun pc st => (pc = 323 ∧ st = ([(2, 0), (0, n), (0, m), (1, bg), (9, 0), (0, th), (0, th), (0, b), w8, w9], [], pm_upd C 0 55 ((C 0 55) + 1)))) ?_ 14 454 _ ?_
      · rintro pc st (⟨rfl, rfl⟩)
        rw [h8]
        exact ih th (wm + 1) _ _ _ _ _ (by omega) t0 t1 (by omega) (by omega) ⟨uM_0_55 h1 (by omega) (by omega), fun r j a1 a2 => by rw [upd_o (by omega)]; exact h2 r j a1 a2, by rw [← h3]; funext j; exact upd_o (by omega), by rw [← h4]; funext j; exact upd_o (by omega), by rw [← h5]; funext j; exact upd_o (by omega), by rw [← h6]; funext j; exact upd_o (by omega), by rw [upd_o (by omega)]; exact h7, by rw [upd_at], fun i i0 i1 => by rw [upd_o (by omega)]; exact h9 i i0 i1, h10⟩
      · refine ⟨oM_0 (by omega) km0 55 rfl, ?_⟩
        refine ⟨⟨by omega, by omega⟩, ?_⟩
        refine ⟨oM_0 (by omega) km0 55 rfl, ?_⟩
        exact ⟨rfl, rfl⟩
    refine wq_ok srt_Mway (fr := []) (cuts := [341, 474]) (J := fun pc st => (pc = 474 ∧ ((B (B 0 53) here) ≤ 0) ∧ st = ([(2, 0), (0, n), (0, m), (1, bg), (9, 0), (0, here), (0, 0), w7, w8, w9], [], B)) ∨ (pc = 341 ∧ (0 < (B (B 0 53) here)) ∧ st = ([(2, 0), (0, n), (0, m), (1, bg), (9, 0), (0, here), (0, (-1)), (0, m - 1), w8, w9], [], B))) ?_ 16 323 _ ?_
    · rintro pc st (⟨rfl, h0, rfl⟩ | ⟨rfl, h0, rfl⟩)
      · exact wy_474 hA _ 0 _ _ _ B (Nat.lt_succ_self _) (by omega) (by omega) hw0 (fun j j0 j1 => by omega)
      · rw [ev] at h0
        exact wy_341 hb h hcc p0 p1 w0 (by omega) (h454 h0) _ (m - 1) (-1) _ _ B (Nat.lt_succ_self _) (by omega) (by omega) hw0 (Or.inl ⟨rfl, fun b' w e y0 y1 => by omega⟩)
    · refine ⟨oM_0 (by omega) km0 53 rfl, ?_⟩
      refine ⟨aM_36 (r := B 0 53) (by rw [c53]; omega) (by rw [c53]; exact kn36) (by omega) (by omega), ?_⟩
      have e1 : B (B 0 53) here = B 36 here := by rw [c53]
      refine ⟨fun h0 => ?_, fun h0 => ?_⟩
      · exact Or.inl (⟨rfl, h0, rfl⟩)
      · refine ⟨⟨by omega, by omega⟩, ?_⟩
        exact Or.inr (⟨rfl, h0, rfl⟩)
set_option maxRecDepth 10000 in
theorem wy_311 {A B : pm_A} {n m cc cm wm : Int} {bm bf V fa G : Int → Int} (hA : RI A) (hb : bmS n bm bf m) (m0 : 0 ≤ m) (h : bfsI n bm bf m V fa cm cc 0) (hcc : cm ≤ cc) (hw : wyS A B n bm bf V fa cm wm) (hF : cutS n (fcs A 1)) (hG : cutS n G) {w6 w7 w8 w9 : pm_V} : Tm pmt (an_sh wM) o_X10_way 311 ([(2, 0), (0, n), (0, m), (1, bitsV bm G 100), (9, 0), (0, cc), w6, w7, w8, w9], [], B) ri_post := by
  obtain ⟨e, e0, e1, e2, e3⟩ := bfs_end hb h hcc hF hG hw.2.2.2.2.2.2.2.2.2.2.2
  obtain ⟨h1, h2, h3, h4, h5, h6, h7, h8, h9, h10⟩ := hw
  have h316 : ∀ C, C = pm_upd B 0 55 0 → Tm pmt (an_sh wM) o_X10_way 316 ([(2, 0), (0, n), (0, m), (1, bitsV bm G 100), (9, 0), (0, cc), w6, w7, w8, w9], [], C) ri_post := fun C hC => by
    have g : gH wM C := by rw [hC]; exact uM_0_55 h1 (by omega) (by omega)
    have hw : wyS A C n bm bf V fa cm 0 := ⟨g, fun r j a1 a2 => by rw [hC, upd_o (by omega)]; exact h2 r j a1 a2, by rw [← h3, hC]; funext j; exact upd_o (by omega), by rw [← h4, hC]; funext j; exact upd_o (by omega), by rw [← h5, hC]; funext j; exact upd_o (by omega), by rw [← h6, hC]; funext j; exact upd_o (by omega), by rw [hC, upd_o (by omega)]; exact h7, by rw [hC, upd_at], fun i i0 i1 => by rw [hC, upd_o (by omega)]; exact h9 i i0 i1, h10⟩
    obtain ⟨k1, k2, k3, k4, k5, k6, k7, k8, k9, k10⟩ := hw
    have hw : wyS A C n bm bf V fa cm 0 := ⟨k1, k2, k3, k4, k5, k6, k7, k8, k9, k10⟩
    refine wq_ok srt_Mway (fr := []) (cuts := [321]) (J := fun pc st => (pc = 321 ∧ ∃ x, ((x = -1 ∧ ∀ d : Int, 0 ≤ d → d < C 0 54 → ¬ C 35 d = bitsV bm G 100) ∨ (0 ≤ x ∧ x < C 0 54 ∧ C 35 x = bitsV bm G 100)) ∧ st = ([(2, 0), (0, n), (0, m), (1, bitsV bm G 100), (9, 0), (0, cc), w6, w7, w8, w9], [(0, x)], C))) ?_ 7 316 _ ?_
    · rintro pc st (⟨rfl, x, hx, rfl⟩)
      refine wq_ok srt_Mway (fr := []) (cuts := [323]) (J := fun pc st => (pc = 323 ∧ st = ([(2, 0), (0, n), (0, m), (1, bitsV bm G 100), (9, 0), (0, x), w6, w7, w8, w9], [], C))) ?_ 6 321 _ ?_
      · rintro pc st (⟨rfl, rfl⟩)
        have hx2 : x = e := by
          rcases hx with ⟨_, hx⟩ | ⟨y0, y1, y2⟩
          · exact absurd (by rw [k5]; exact e2) (hx e e0 (by omega))
          · exact h.1.at y0 (by omega) e0 e1 (by rw [e2, ← k5]; exact y2)
        subst hx2
        exact wy_323 hA hb m0 h hcc _ x 0 _ _ _ _ C (Nat.lt_succ_self _) e0 e1 (by omega) (by omega) hw
      · exact ⟨rfl, rfl⟩
    · refine ⟨rM_0 (by omega) km0, ?_⟩
      refine (cuttingOf_ex g).imp ?_
      rintro ⟨r1, D⟩ ⟨p1, x, p2, hx⟩
      simp only at p1 p2
      subst p1
      subst p2
      exact ⟨rfl, x, hx, rfl⟩
  refine wq_ok srt_Mway (fr := []) (cuts := [316]) (J := fun pc st => (pc = 316 ∧ st = ([(2, 0), (0, n), (0, m), (1, bitsV bm G 100), (9, 0), (0, cc), w6, w7, w8, w9], [], pm_upd B 0 55 0))) ?_ 8 311 _ ?_
  · rintro pc st (⟨rfl, rfl⟩)
    exact h316 _ rfl
  · refine ⟨oM_0 (by omega) km0 55 rfl, ?_⟩
    exact ⟨rfl, rfl⟩
theorem bfs_init {n m : Int} {bm bf V fa F : Int → Int} (hF : cutS n F) (e1 : V 0 = bitsV bm F 100) (e2 : fa 0 = 0) : bfsI n bm bf m V fa 1 0 0 := by
  have one : ∀ c : Int, 0 ≤ c → c < 1 → c = 0 := fun c a b => by omega
  refine ⟨⟨⟨by omega, by omega⟩, e2, fun c c0 c1 => ?_, fun c d c0 c1 d1 => by omega, fun c c0 c1 => by omega, fun c d c0 c1 d1 => ?_, fun c c0 c1 => ?_⟩, fun _ e e0 e1 => ?_, fun c b w c0 c1 b0 b1 ho _ => by omega⟩
  · rw [one c c0 c1]; exact ⟨F, hF, e1⟩
  · rw [one c c0 (by omega), one d (by omega) d1]; omega
  · rw [one c c0 c1, e2]; omega
  · rw [one e e0 e1, e2]; omega
set_option maxRecDepth 10000 in
theorem wy_144 {A B : pm_A} {n m i : Int} {bm bf : Int → Int} (hA : RI A) (hb : bmS n bm bf m) (m0 : 0 ≤ m) (hB : wyF A B) (e33 : B 33 = bm) (e34 : B 34 = bf) (hs : ∀ i : Int, 0 ≤ i → i < 200 → B 38 i = A 32 i) (h0 : cutS n (fcs A 0)) (h1 : cutS n (fcs A 1)) (a0 : A 31 0 = n) (a1 : A 31 1 = n) : Tm pmt (an_sh wM) o_X10_way 144 ([(2, 0), (0, n), (0, m), (0, i), (9, 0), (9, 0), (9, 0), (9, 0), (9, 0), (9, 0)], [], B) ri_post := by
  have ef0 : fcs B 0 = fcs A 0 := funext fun f => hB.2 32 _ (by omega) (by omega)
  have hG : bitsV (B 33) (fcs B 0) 100 = bitsV bm (fcs A 0) 100 := by rw [e33, ef0]
  have hvb := i64_b (bitsV_i64 bm (fcs A 1) 100)
  have h155 : ∀ C, C = pm_upd B 0 54 1 → Tm pmt (an_sh wM) o_X10_way 155 ([(2, 0), (0, n), (0, m), (1, bitsV bm (fcs A 0) 100), (9, 0), (9, 0), (9, 0), (9, 0), (9, 0), (9, 0)], [], C) ri_post := fun C hC => by
    have g : gH wM C := by rw [hC]; exact uM_0_54 hB.1 (by omega) (by omega)
    have c52 := pM_52 g
    have ef1 : fcs C 1 = fcs A 1 := funext fun f => by
      show C 32 _ = A 32 _
      rw [hC, upd_o (by omega)]; exact hB.2 32 _ (by omega) (by omega)
    have f33 : C 33 = bm := by rw [← e33, hC]; funext j; exact upd_o (by omega)
    have h166 : ∀ D, D = pm_upd C 35 0 (bitsV bm (fcs A 1) 100) → Tm pmt (an_sh wM) o_X10_way 166 ([(2, 0), (0, n), (0, m), (1, bitsV bm (fcs A 0) 100), (9, 0), (9, 0), (9, 0), (9, 0), (9, 0), (9, 0)], [], D) ri_post := fun D hD => by
      have gD : gH wM D := by rw [hD]; exact uM_35 g kn35 hvb.1 hvb.2
      have c53 := pM_53 gD
      refine wq_ok srt_Mway (fr := []) (cuts := [176]) (J := fun pc st => (pc = 176 ∧ st = ([(2, 0), (0, n), (0, m), (1, bitsV bm (fcs A 0) 100), (9, 0), (0, 0), (9, 0), (9, 0), (9, 0), (9, 0)], [], pm_upd D (D 0 53) 0 0))) ?_ 12 166 _ ?_
      · rintro pc st (⟨rfl, rfl⟩)
        rw [c53]
        have ho : ∀ r j : Int, ¬ (r = 0 ∧ j = 54) → ¬ (r = 36 ∧ j = 0) → ¬ (r = 35 ∧ j = 0) → pm_upd D 36 0 0 r j = B r j := fun r j b1 b2 b3 => by rw [upd_o (by omega), hD, upd_o (by omega), hC, upd_o (by omega)]
        have v0 : pm_upd D 36 0 0 35 0 = bitsV bm (fcs A 1) 100 := by rw [upd_o (by omega), hD, upd_at]
        refine wy_176 hb m0 (bm := bm) (bf := bf) (wm := B 0 55) (fun C V fa cm c w6 w7 w8 w9 hw hI hcm => ?_) _ 0 _ _ _ _ _ (pm_upd D 36 0 0 35) (pm_upd D 36 0 0 36) 1 (Nat.lt_succ_self _) (by omega) (by omega) ⟨uM_36 gD kn36 (by omega) (by omega), fun r j b1 b2 => by rw [ho r j (by omega) (by omega) (by omega)]; exact hB.2 r j (by omega) b2, by rw [← e33]; funext j; exact ho 33 j (by omega) (by omega) (by omega), by rw [← e34]; funext j; exact ho 34 j (by omega) (by omega) (by omega), rfl, rfl, by rw [upd_o (by omega), hD, upd_o (by omega), hC, upd_at], by rw [ho 0 55 (by omega) (by omega) (by omega)], fun i i0 i1 => by rw [ho 38 i (by omega) (by omega) (by omega)]; exact hs i i0 i1, a0, a1, v0⟩ (bfs_init h1 v0 (by rw [upd_at]))
        exact wy_311 hA hb m0 hI hcm hw h1 h0
      · refine ⟨oM_0 (by omega) km0 53 rfl, ?_⟩
        refine ⟨tM_36 (r := D 0 53) (by rw [c53]; omega) (by rw [c53]; exact kn36) (by omega) (by omega) rfl, ?_⟩
        exact ⟨rfl, rfl⟩
    refine wq_ok srt_Mway (fr := []) (cuts := [165]) (J := fun pc st => (pc = 165 ∧ st = ([(2, 0), (0, n), (0, m), (1, bitsV bm (fcs A 0) 100), (9, 0), (9, 0), (9, 0), (9, 0), (9, 0), (9, 0)], [(1, bitsV (C 33) (fcs C 1) 100), (0, 0), (2, C 0 52)], C))) ?_ 10 155 _ ?_
    · rintro pc st (⟨rfl, rfl⟩)
      rw [f33, ef1]
      refine wq_ok srt_Mway (fr := []) (cuts := [166]) (J := fun pc st => (pc = 166 ∧ st = ([(2, 0), (0, n), (0, m), (1, bitsV bm (fcs A 0) 100), (9, 0), (9, 0), (9, 0), (9, 0), (9, 0), (9, 0)], [], pm_upd C (C 0 52) 0 (bitsV bm (fcs A 1) 100)))) ?_ 6 165 _ ?_
      · rintro pc st (⟨rfl, rfl⟩)
        rw [c52]
        exact h166 _ rfl
      · refine ⟨tM_35 (r := C 0 52) (by rw [c52]; omega) (by rw [c52]; exact kn35) (by omega) (by omega) rfl, ?_⟩
        exact ⟨rfl, rfl⟩
    · refine ⟨oM_0 (by omega) km0 52 rfl, ?_⟩
      refine ⟨rM_0 (by omega) km0, ?_⟩
      refine (bits_ex (sl := 1) g (by omega) (by omega)).imp ?_
      rintro r rfl
      exact ⟨rfl, rfl⟩
  refine wq_ok srt_Mway (fr := []) (cuts := [149]) (J := fun pc st => (pc = 149 ∧ st = ([(2, 0), (0, n), (0, m), (0, i), (9, 0), (9, 0), (9, 0), (9, 0), (9, 0), (9, 0)], [(1, bitsV (B 33) (fcs B 0) 100)], B))) ?_ 7 144 _ ?_
  · rintro pc st (⟨rfl, rfl⟩)
    rw [hG]
    refine wq_ok srt_Mway (fr := []) (cuts := [155]) (J := fun pc st => (pc = 155 ∧ st = ([(2, 0), (0, n), (0, m), (1, bitsV bm (fcs A 0) 100), (9, 0), (9, 0), (9, 0), (9, 0), (9, 0), (9, 0)], [], pm_upd B 0 54 1))) ?_ 9 149 _ ?_
    · rintro pc st (⟨rfl, rfl⟩)
      exact h155 _ rfl
    · refine ⟨oM_0 (by omega) km0 54 rfl, ?_⟩
      exact ⟨rfl, rfl⟩
  · refine ⟨rM_0 (by omega) km0, ?_⟩
    refine (bits_ex (sl := 0) hB.1 (by omega) (by omega)).imp ?_
    rintro r rfl
    exact ⟨rfl, rfl⟩
set_option maxRecDepth 10000 in
theorem mway_ct {A : pm_A} (h : RI A) : Cl pmt (an_sh wM) 202 [(2, 0)] A ri_post := by
  have c48 := pM_48 h.g
  have b0 := eM_31 h.g (r := 31) (by omega) kn31 (j := 0) (by omega) (by omega)
  have h33 : cntF (fcs A 0) 100 = A 31 0 - 3 → cntF (fcs A 1) 100 = A 31 1 - 3 → A 31 0 = A 31 1 → Tm pmt (an_sh wM) o_X10_way 33 ([(2, 0), (9, 0), (9, 0), (9, 0), (9, 0), (9, 0), (9, 0), (9, 0), (9, 0), (9, 0)], [], A) ri_post := fun k0 k1 k2 => by
    have q0 : cutS (A 31 0) (fcs A 0) := ⟨h.2.2 0 (Or.inl rfl), k0⟩
    have q1 : cutS (A 31 0) (fcs A 1) := by rw [k2]; exact ⟨h.2.2 1 (Or.inr rfl), k1⟩
    refine wq_ok srt_Mway (fr := []) (cuts := [44]) (J := fun pc st => (pc = 44 ∧ st = ([(2, 0), (0, A (A 0 48) 0), (0, 0), (0, 0), (9, 0), (9, 0), (9, 0), (9, 0), (9, 0), (9, 0)], [], A))) ?_ 14 33 _ ?_
    · rintro pc st (⟨rfl, rfl⟩)
      rw [c48]
      refine wy_44 b0.1 b0.2 (fun C m hC hb m0 => ?_) _ 0 0 A (Nat.lt_succ_self _) (by omega) (by omega) ⟨h.g, fun _ _ _ _ => rfl⟩ ⟨rfl, fun g g0 g1 => by omega, fun b b0 b1 => by omega⟩
      refine wq_ok srt_Mway (fr := []) (cuts := [119]) (J := fun pc st => (pc = 119 ∧ st = ([(2, 0), (0, A 31 0), (0, m), (0, 0), (9, 0), (9, 0), (9, 0), (9, 0), (9, 0), (9, 0)], [], C))) ?_ 7 117 _ ?_
      · rintro pc st (⟨rfl, rfl⟩)
        exact wy_119 (fun D i hD f33 f34 hs => wy_144 h hb m0 hD f33 f34 hs q0 q1 rfl k2.symm) _ 0 C (Nat.lt_succ_self _) (by omega) (by omega) hC rfl rfl (fun j j0 j1 => by omega)
      · exact ⟨rfl, rfl⟩
    · refine ⟨oM_0 (by omega) km0 48 rfl, ?_⟩
      refine ⟨aM_31 (r := A 0 48) (by rw [c48]; omega) (by rw [c48]; exact kn31) (by omega) (by omega), ?_⟩
      have e1 : A (A 0 48) 0 = A 31 0 := by rw [c48]
      exact ⟨rfl, rfl⟩
  refine Cl.of (Nat.le_of_ble_eq_true rfl) ?_
  refine wq_ok (full := o_X10_way) srt_Mway (fr := []) (cuts := [5]) (J := fun pc st => (pc = 5 ∧ ∃ x : Int, ((x = 1 ∧ (cntF (fcs A 0) 100 = A 31 0 - 3)) ∨ (x = 0 ∧ ¬ (cntF (fcs A 0) 100 = A 31 0 - 3))) ∧ st = ([(2, 0), (9, 0), (9, 0), (9, 0), (9, 0), (9, 0), (9, 0), (9, 0), (9, 0), (9, 0)], [(0, x)], A))) ?_ 7 0 _ ?_
  · rintro pc st (⟨rfl, x, hx, rfl⟩)
    refine wq_ok srt_Mway (fr := []) (cuts := [13]) (J := fun pc st => (pc = 13 ∧ (¬ x = 0) ∧ ∃ y : Int, ((y = 1 ∧ (cntF (fcs A 1) 100 = A 31 1 - 3)) ∨ (y = 0 ∧ ¬ (cntF (fcs A 1) 100 = A 31 1 - 3))) ∧ st = ([(2, 0), (9, 0), (9, 0), (9, 0), (9, 0), (9, 0), (9, 0), (9, 0), (9, 0), (9, 0)], [(0, y)], A))) ?_ 8 5 _ ?_
    · rintro pc st (⟨rfl, h0, y, hy, rfl⟩)
      refine wq_ok srt_Mway (fr := []) (cuts := [33]) (J := fun pc st => (pc = 33 ∧ (¬ y = 0) ∧ ((A (A 0 48) 0) = (A (A 0 48) 1)) ∧ st = ([(2, 0), (9, 0), (9, 0), (9, 0), (9, 0), (9, 0), (9, 0), (9, 0), (9, 0), (9, 0)], [], A))) ?_ 16 13 _ ?_
      · rintro pc st (⟨rfl, h0, h1, rfl⟩)
        rw [c48] at h1
        refine h33 ?_ ?_ h1
        · rcases hx with ⟨_, e⟩ | ⟨e, _⟩
          · exact e
          · omega
        · rcases hy with ⟨_, e⟩ | ⟨e, _⟩
          · exact e
          · omega
      · refine ⟨fun h0 => ?_, fun h0 => ?_⟩
        · exact ⟨rfl, ⟨_, rfl⟩, h⟩
        · refine ⟨oM_0 (by omega) km0 48 rfl, ?_⟩
          refine ⟨aM_31 (r := A 0 48) (by rw [c48]; omega) (by rw [c48]; exact kn31) (by omega) (by omega), ?_⟩
          have e1 : A (A 0 48) 0 = A 31 0 := by rw [c48]
          refine ⟨oM_0 (by omega) km0 48 rfl, ?_⟩
          refine ⟨aM_31 (r := A 0 48) (by rw [c48]; omega) (by rw [c48]; exact kn31) (by omega) (by omega), ?_⟩
          have e2 : A (A 0 48) 1 = A 31 1 := by rw [c48]
          refine ⟨fun h1 => ?_, fun h1 => ?_⟩
          · exact ⟨rfl, h0, h1, rfl⟩
          · exact ⟨rfl, ⟨_, rfl⟩, h⟩
    · refine ⟨fun h0 => ?_, fun h0 => ?_⟩
      · exact ⟨rfl, ⟨_, rfl⟩, h⟩
      · refine ⟨rM_0 (by omega) km0, ?_⟩
        refine (isCutting_ex h.g (sl := 1) (by omega) (by omega)).imp ?_
        rintro ⟨r1, C⟩ ⟨q1, y, q2, hy⟩
        simp only at q1 q2
        subst q1
        subst q2
        exact ⟨rfl, h0, y, hy, rfl⟩
  · refine ⟨rM_0 (by omega) km0, ?_⟩
    refine (isCutting_ex h.g (sl := 0) (by omega) (by omega)).imp ?_
    rintro ⟨r1, C⟩ ⟨q1, x, q2, hx⟩
    simp only at q1 q2
    subst q1
    subst q2
    exact ⟨rfl, x, hx, rfl⟩
end
