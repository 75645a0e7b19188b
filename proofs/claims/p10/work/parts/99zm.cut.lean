/-! cuttings: each fence has two others; a flip is a cutting again -/
def cutS (n : Int) (F : Int → Int) : Prop := rgS n F ∧ cntF F 100 = n - 3
def iz (F : Int → Int) (f : Int) : Int := if F f = 0 then 0 else 1
def gIn (F : Int → Int) (lo hi : Int) : Int → Int := fun f => if lo ≤ f / 10 ∧ f % 10 ≤ hi ∧ ¬ F f = 0 then 1 else 0
def one1 (F : Int → Int) (k : Int) : Int → Int := fun f => if f = k ∧ ¬ F f = 0 then 1 else 0
def eI (F : Int → Int) (lo hi : Int) : Int := cntF (gIn F lo hi) 100
theorem iz_b (F : Int → Int) (f : Int) : 0 ≤ iz F f ∧ iz F f ≤ 1 := by unfold iz; split <;> omega
theorem cntF_s (F : Int → Int) (n : Nat) : cntF F (n + 1) = cntF F n + iz F n := rfl
theorem cntF_sum {F G H K : Int → Int} : ∀ n : Nat, (∀ f : Int, 0 ≤ f → f < n → iz F f = iz G f + iz H f + iz K f) → cntF F n = cntF G n + cntF H n + cntF K n
  | 0, _ => rfl
  | n + 1, h => by
    have a := cntF_sum n (fun f f0 f1 => h f f0 (by omega))
    have b := h n (by omega) (by omega)
    rw [cntF_s, cntF_s, cntF_s, cntF_s]
    omega
theorem cntF_one (F : Int → Int) (k : Int) (k0 : 0 ≤ k) : ∀ n : Nat, cntF (one1 F k) n = if k < n then iz F k else 0
  | 0 => by rw [if_neg (by omega)]; rfl
  | n + 1 => by
    rw [cntF_s, cntF_one F k k0 n]
    by_cases e : (n : Int) = k
    · rw [if_neg (by omega), if_pos (by omega), ← e]
      unfold iz one1
      by_cases z : F n = 0 <;> simp [z]
    · have z : iz (one1 F k) n = 0 := by unfold iz one1; simp [e]
      rw [z]
      by_cases l : k < n
      · rw [if_pos l, if_pos (by omega)]; omega
      · rw [if_neg l, if_neg (by omega)]; omega
theorem cntF_zero {F : Int → Int} : ∀ n : Nat, (∀ f : Int, 0 ≤ f → f < n → F f = 0) → cntF F n = 0
  | 0, _ => rfl
  | n + 1, h => by
    rw [cntF_s, cntF_zero n (fun f f0 f1 => h f f0 (by omega))]
    unfold iz
    rw [if_pos (h n (by omega) (by omega))]; rfl
theorem iz_if {P : Prop} [Decidable P] : (if (if P then (1 : Int) else 0) = 0 then (0 : Int) else 1) = if P then 1 else 0 := by
  by_cases h : P <;> simp [h]
theorem gIn_split {n : Int} {F : Int → Int} (h : rgS n F) {lo hi c : Int} (l0 : 0 ≤ lo) (lc : lo < c) (ch : c < hi) (hn : hi < n) (hc : c = lo + 1 ∨ F (10 * lo + c) = 1) (hm : ∀ d, c < d → d < hi → ¬ F (10 * lo + d) = 1) : eI F lo hi = eI F lo c + eI F c hi + iz F (10 * lo + hi) := by
  have h1 := h.1
  have e := cntF_one F (10 * lo + hi) (by omega) 100
  rw [if_pos (by omega)] at e
  rw [← e]
  refine cntF_sum 100 (fun f f0 f1 => ?_)
  unfold iz gIn one1
  rw [iz_if, iz_if, iz_if, iz_if]
  by_cases z : F f = 0
  · simp [z]
  · have z1 : F f = 1 := (h.2.1 f f0 (by omega)).resolve_left z
    obtain ⟨⟨v1, v2, v3⟩, v4⟩ := h.2.2 f f0 (by omega) z1
    have x1 : ¬ (f / 10 < c ∧ c < f % 10 ∧ lo < f / 10) := fun ⟨a, b, d⟩ => by
      rcases hc with hc | hc
      · omega
      · have w := v4 (10 * lo + c) (by omega) (by omega) hc
        rw [show (10 * lo + c) / 10 = lo by omega, show (10 * lo + c) % 10 = c by omega] at w
        exact w (Or.inr ⟨by omega, by omega, by omega⟩)
    have x2 : ¬ (f / 10 = lo ∧ c < f % 10 ∧ f % 10 < hi) := fun ⟨a, b, d⟩ => by
      have w := hm (f % 10) b d
      rw [show 10 * lo + f % 10 = f by omega] at w
      exact w z1
    have x3 : f = 10 * lo + hi ↔ (f / 10 = lo ∧ f % 10 = hi) := by omega
    simp only [z, not_false_eq_true, and_true, x3]
    generalize f / 10 = p at *
    generalize f % 10 = q at *
    split <;> split <;> split <;> split <;> omega
theorem pick {F : Int → Int} {lo hi : Int} : ∀ (m : Nat) (k : Int), (k - lo).toNat < m → lo < k → k < hi → (∀ d, k < d → d < hi → ¬ F (10 * lo + d) = 1) → ∃ c, lo < c ∧ c < hi ∧ (c = lo + 1 ∨ F (10 * lo + c) = 1) ∧ ∀ d, c < d → d < hi → ¬ F (10 * lo + d) = 1 := by
  intro m
  induction m with
  | zero => intro k h; omega
  | succ m ih =>
    intro k hm k0 k1 hd
    by_cases e : k = lo + 1 ∨ F (10 * lo + k) = 1
    · exact ⟨k, k0, k1, e, hd⟩
    · refine ih (k - 1) (by omega) (by omega) (by omega) (fun d d0 d1 => ?_)
      by_cases e2 : d = k
      · rw [e2]; exact fun x => e (Or.inr x)
      · exact hd d (by omega) d1
theorem eI_le {n : Int} {F : Int → Int} (h : rgS n F) : ∀ (m : Nat) (lo hi : Int), (hi - lo).toNat < m → 0 ≤ lo → lo < hi → hi < n → eI F lo hi ≤ hi - lo - 1 ∧ (lo + 2 ≤ hi → eI F lo hi - iz F (10 * lo + hi) ≤ hi - lo - 2) := by
  intro m
  induction m with
  | zero => intro lo hi h; omega
  | succ m ih =>
    intro lo hi hm l0 l1 hn
    have h1 := h.1
    by_cases l2 : lo + 2 ≤ hi
    · obtain ⟨c, c0, c1, c2, c3⟩ := pick (F := F) (lo := lo) (hi := hi) _ (hi - 1) (Nat.lt_succ_self _) (by omega) (by omega) (fun d d0 d1 => by omega)
      have s := gIn_split h l0 c0 c1 hn c2 c3
      have a := (ih lo c (by omega) l0 c0 (by omega)).1
      have b := (ih c hi (by omega) (by omega) c1 hn).1
      have d := iz_b F (10 * lo + hi)
      exact ⟨by omega, fun _ => by omega⟩
    · have z : eI F lo hi = 0 := by
        refine cntF_zero 100 (fun f f0 f1 => ?_)
        unfold gIn
        refine if_neg ?_
        rintro ⟨a, b, d⟩
        obtain ⟨⟨v1, v2, v3⟩, v4⟩ := h.2.2 f f0 (by omega) ((h.2.1 f f0 (by omega)).resolve_left d)
        unfold neigh at v3
        omega
      exact ⟨by omega, fun x => by omega⟩
theorem tri_of {n : Int} {F : Int → Int} (h : rgS n F) {lo hi : Int} (l0 : 0 ≤ lo) (l2 : lo + 2 ≤ hi) (hn : hi < n) (hs : eI F lo hi - iz F (10 * lo + hi) = hi - lo - 2) : ∃ c, lo < c ∧ c < hi ∧ (c = lo + 1 ∨ F (10 * lo + c) = 1) ∧ (hi = c + 1 ∨ F (10 * c + hi) = 1) ∧ (lo + 2 ≤ c → eI F lo c - iz F (10 * lo + c) = c - lo - 2) ∧ (c + 2 ≤ hi → eI F c hi - iz F (10 * c + hi) = hi - c - 2) ∧ ∀ f : Int, 0 ≤ f → f < 100 → F f = 1 → lo ≤ f / 10 → f % 10 ≤ hi → f ≠ 10 * lo + hi → (f % 10 ≤ c ∨ c ≤ f / 10) := by
  have h1 := h.1
  obtain ⟨c, c0, c1, c2, c3⟩ := pick (F := F) (lo := lo) (hi := hi) _ (hi - 1) (Nat.lt_succ_self _) (by omega) (by omega) (fun d d0 d1 => by omega)
  have s := gIn_split h l0 c0 c1 hn c2 c3
  obtain ⟨a1, a2⟩ := eI_le h _ lo c (Nat.lt_succ_self _) l0 c0 (by omega)
  obtain ⟨b1, b2⟩ := eI_le h _ c hi (Nat.lt_succ_self _) (by omega) c1 hn
  have d1 := iz_b F (10 * lo + c)
  have d2 := iz_b F (10 * c + hi)
  refine ⟨c, c0, c1, c2, ?_, fun e => ?_, fun e => ?_, fun f f0 f1 hf hp hq hne => ?_⟩
  · by_cases e : c + 2 ≤ hi
    · have b2 := b2 e
      refine Or.inr ((h.2.1 _ (by omega) (by omega)).resolve_left (fun z => ?_))
      have : iz F (10 * c + hi) = 0 := by unfold iz; rw [if_pos z]
      omega
    · exact Or.inl (by omega)
  · have := a2 e
    omega
  · have := b2 e
    omega
  · obtain ⟨⟨v1, v2, v3⟩, v4⟩ := h.2.2 f f0 (by omega) hf
    by_cases q1 : f % 10 ≤ c
    · exact Or.inl q1
    · by_cases q2 : c ≤ f / 10
      · exact Or.inr q2
      · exfalso
        by_cases q3 : f / 10 = lo
        · have w := c3 (f % 10) (by omega) (by omega)
          rw [show 10 * lo + f % 10 = f by omega] at w
          exact w hf
        · rcases c2 with c2 | c2
          · omega
          · have w := v4 (10 * lo + c) (by omega) (by omega) c2
            rw [show (10 * lo + c) / 10 = lo by omega, show (10 * lo + c) % 10 = c by omega] at w
            exact w (Or.inr ⟨by omega, by omega, by omega⟩)
def oth (n : Int) (F : Int → Int) (f i o : Int) : Prop := (f / 10 < i ∧ i < f % 10) ∧ (0 ≤ o ∧ o < n ∧ (o < f / 10 ∨ f % 10 < o)) ∧ side n F (f / 10) i ∧ side n F (f % 10) i ∧ side n F (f / 10) o ∧ side n F (f % 10) o
theorem side_lt {n : Int} {F : Int → Int} {x y : Int} (l : x < y) (h : neigh n x y ∨ F (10 * x + y) = 1) : side n F x y := by
  unfold side
  rw [show min x y = x by omega, show max x y = y by omega]
  exact h
theorem side_sym {n : Int} {F : Int → Int} {x y : Int} (h : side n F x y) : side n F y x := by
  unfold side at h ⊢
  rw [show min y x = min x y by omega, show max y x = max x y by omega]
  exact h.imp (fun h => by unfold neigh at *; omega) id
theorem oth_sat {n : Int} {F : Int → Int} (h : rgS n F) : ∀ (m : Nat) (lo hi : Int), (hi - lo).toNat < m → 0 ≤ lo → lo + 2 ≤ hi → hi < n → eI F lo hi - iz F (10 * lo + hi) = hi - lo - 2 → (neigh n lo hi ∨ F (10 * lo + hi) = 1) → ∀ f : Int, 0 ≤ f → f < 100 → F f = 1 → lo ≤ f / 10 → f % 10 ≤ hi → f ≠ 10 * lo + hi → ∃ i o, oth n F f i o := by
  intro m
  induction m with
  | zero => intro lo hi h; omega
  | succ m ih =>
    intro lo hi hm l0 l2 hn hs hb f f0 f1 hf hp hq hne
    have h1 := h.1
    obtain ⟨⟨v1, v2, v3⟩, v4⟩ := h.2.2 f f0 (by omega) hf
    have v5 : ¬ f % 10 = f / 10 + 1 := fun e => v3 (Or.inl e)
    obtain ⟨c, c0, c1, c2, c3, c4, c5, c6⟩ := tri_of h l0 l2 hn hs
    have sb : side n F lo hi := side_lt (by omega) hb
    have s1 : side n F lo c := side_lt (by omega) (c2.imp (fun e => Or.inl e) id)
    have s2 : side n F c hi := side_lt (by omega) (c3.imp (fun e => Or.inl e) id)
    rcases c6 f f0 f1 hf hp hq hne with q | q
    · by_cases e : f = 10 * lo + c
      · obtain ⟨i, i0, i1, i2, i3, _⟩ := tri_of h l0 (show lo + 2 ≤ c by omega) (by omega) (c4 (by omega))
        have e1 : f / 10 = lo := by omega
        have e2 : f % 10 = c := by omega
        refine ⟨i, hi, ?_⟩
        unfold oth
        rw [e1, e2]
        exact ⟨⟨i0, i1⟩, ⟨by omega, by omega, Or.inr (by omega)⟩, side_lt (by omega) (i2.imp (fun e => Or.inl e) id), side_sym (side_lt (by omega) (i3.imp (fun e => Or.inl e) id)), sb, s2⟩
      · exact ih lo c (by omega) l0 (by omega) (by omega) (c4 (by omega)) (c2.imp (fun e => Or.inl e) id) f f0 f1 hf hp q e
    · by_cases e : f = 10 * c + hi
      · obtain ⟨i, i0, i1, i2, i3, _⟩ := tri_of h (show 0 ≤ c by omega) (show c + 2 ≤ hi by omega) (by omega) (c5 (by omega))
        have e1 : f / 10 = c := by omega
        have e2 : f % 10 = hi := by omega
        refine ⟨i, lo, ?_⟩
        unfold oth
        rw [e1, e2]
        exact ⟨⟨i0, i1⟩, ⟨by omega, by omega, Or.inl (by omega)⟩, side_lt (by omega) (i2.imp (fun e => Or.inl e) id), side_sym (side_lt (by omega) (i3.imp (fun e => Or.inl e) id)), side_sym s1, side_sym sb⟩
      · exact ih c hi (by omega) (by omega) (by omega) (by omega) (c5 (by omega)) (c3.imp (fun e => Or.inl e) id) f f0 f1 hf q hq e
theorem cut_top {n : Int} {F : Int → Int} (h : cutS n F) : eI F 0 (n - 1) - iz F (10 * 0 + (n - 1)) = n - 1 - 0 - 2 := by
  obtain ⟨h, hc⟩ := h
  have h1 := h.1
  have z : F (10 * 0 + (n - 1)) = 0 := by
    refine (h.2.1 _ (by omega) (by omega)).resolve_right (fun e => ?_)
    obtain ⟨⟨v1, v2, v3⟩, _⟩ := h.2.2 _ (by omega) (by omega) e
    exact v3 (Or.inr (Or.inr (Or.inl ⟨by omega, by omega⟩)))
  have e : eI F 0 (n - 1) = cntF F 100 := by
    refine cntF_congr 100 (fun f f0 f1 => ?_)
    unfold gIn
    rcases h.2.1 f f0 (by omega) with e | e
    · rw [e]; simp
    · obtain ⟨⟨v1, v2, v3⟩, _⟩ := h.2.2 f f0 (by omega) e
      rw [e, if_pos ⟨by omega, by omega, by omega⟩]
  have e2 : iz F (10 * 0 + (n - 1)) = 0 := by unfold iz; rw [if_pos z]
  omega
theorem cut_oth {n : Int} {F : Int → Int} (h : cutS n F) {f : Int} (f0 : 0 ≤ f) (f1 : f < 100) (hf : F f = 1) : ∃ i o, oth n F f i o := by
  have h1 := h.1.1
  obtain ⟨⟨v1, v2, v3⟩, _⟩ := h.1.2.2 f f0 f1 hf
  refine oth_sat h.1 _ 0 (n - 1) (Nat.lt_succ_self _) (by omega) (by omega) (by omega) (cut_top h) (Or.inl (Or.inr (Or.inr (Or.inl ⟨rfl, rfl⟩)))) f f0 f1 hf (by omega) (by omega) (fun e => ?_)
  exact v3 (Or.inr (Or.inr (Or.inl ⟨by omega, by omega⟩)))
theorem side_nc {n : Int} {F : Int → Int} (h : rgS n F) {a b y : Int} (a0 : 0 ≤ a) (ab : a < b) (bn : b < n) (hs : side n F a b) (y0 : 0 ≤ y) (y1 : y < 100) (hy : F y = 1) : ¬ crossd a b (y / 10) (y % 10) := by
  have h1 := h.1
  obtain ⟨⟨v1, v2, v3⟩, v4⟩ := h.2.2 y y0 y1 hy
  unfold side at hs
  rw [show min a b = a by omega, show max a b = b by omega] at hs
  rcases hs with hs | hs
  · unfold neigh at hs; unfold crossd; omega
  · have w := v4 (10 * a + b) (by omega) (by omega) hs
    rw [show (10 * a + b) / 10 = a by omega, show (10 * a + b) % 10 = b by omega] at w
    exact fun x => w (crossd_sym x)
theorem side_fence {n : Int} {F : Int → Int} {a b : Int} (a0 : 0 ≤ a) (ab : a + 2 ≤ b) (hn : ¬ (a = 0 ∧ b = n - 1)) (hs : side n F a b) : F (10 * a + b) = 1 := by
  unfold side at hs
  rw [show min a b = a by omega, show max a b = b by omega] at hs
  rcases hs with hs | hs
  · unfold neigh at hs; omega
  · exact hs
theorem nocross {n : Int} {F : Int → Int} (h : rgS n F) {a b c d : Int} (a0 : 0 ≤ a) (ac : a < c) (cb : c < b) (bd : b < d) (dn : d < n) (h1 : side n F a b) (h2 : side n F c d) : False := by
  have hn := h.1
  have e := side_fence (by omega) (by omega) (by omega) h2
  have w := side_nc h a0 (by omega) (by omega) h1 (show 0 ≤ 10 * c + d by omega) (by omega) e
  rw [show (10 * c + d) / 10 = c by omega, show (10 * c + d) % 10 = d by omega] at w
  exact w (Or.inl ⟨ac, cb, bd⟩)
theorem oth_uniq {n : Int} {F : Int → Int} (h : rgS n F) {f i o i' o' : Int} (f0 : 0 ≤ f) (f1 : f < 100) (hf : F f = 1) (h1 : oth n F f i o) (h2 : oth n F f i' o') : i = i' ∧ o = o' := by
  obtain ⟨⟨v1, v2, v3⟩, _⟩ := h.2.2 f f0 f1 hf
  have key : ∀ i o i' o', oth n F f i o → oth n F f i' o' → ¬ i < i' ∧ ¬ o < o' := fun i o i' o' h1 h2 => by
    obtain ⟨⟨a1, a2⟩, ⟨a3, a4, a5⟩, a6, a7, a8, a9⟩ := h1
    obtain ⟨⟨b1, b2⟩, ⟨b3, b4, b5⟩, b6, b7, b8, b9⟩ := h2
    refine ⟨fun l => nocross h (by omega) a1 l b2 (by omega) b6 (side_sym a7), fun l => ?_⟩
    rcases a5 with a5 | a5
    · rcases b5 with b5 | b5
      · exact nocross h a3 l b5 v1 (by omega) (side_sym a8) (side_sym b9)
      · exact nocross h a3 a5 v1 b5 b4 (side_sym a9) b8
    · rcases b5 with b5 | b5
      · omega
      · exact nocross h (by omega) v1 a5 l b4 a8 b9
  have k1 := key i o i' o' h1 h2
  have k2 := key i' o' i o h2 h1
  omega
def flF (F : Int → Int) (f g : Int) : Int → Int := fun x => if x = g then 1 else if x = f then 0 else F x
def cod (i o : Int) : Int := 10 * min i o + max i o
theorem cod_b {n : Int} {F : Int → Int} (h : rgS n F) {f i o : Int} (f0 : 0 ≤ f) (f1 : f < 100) (hf : F f = 1) (ho : oth n F f i o) : 0 ≤ cod i o ∧ cod i o < 100 ∧ cod i o / 10 = min i o ∧ cod i o % 10 = max i o ∧ cod i o ≠ f ∧ F (cod i o) = 0 := by
  have h1 := h.1
  obtain ⟨⟨v1, v2, v3⟩, v4⟩ := h.2.2 f f0 f1 hf
  obtain ⟨⟨a1, a2⟩, ⟨a3, a4, a5⟩, a6, a7, a8, a9⟩ := ho
  have b0 : 0 ≤ cod i o := by unfold cod; omega
  have b1 : cod i o < 100 := by unfold cod; omega
  have b2 : cod i o / 10 = min i o := by unfold cod; omega
  have b3 : cod i o % 10 = max i o := by unfold cod; omega
  refine ⟨b0, b1, b2, b3, by omega, (h.2.1 _ b0 b1).resolve_right (fun e => ?_)⟩
  have w := v4 _ b0 b1 e
  rw [b2, b3] at w
  unfold crossd at w
  omega
theorem fl_nc {n : Int} {F : Int → Int} (h : rgS n F) {f i o : Int} (f0 : 0 ≤ f) (f1 : f < 100) (hf : F f = 1) (ho : oth n F f i o) {y : Int} (y0 : 0 ≤ y) (y1 : y < 100) (hy : F y = 1) (hne : y ≠ f) : ¬ crossd (cod i o / 10) (cod i o % 10) (y / 10) (y % 10) := by
  have h1 := h.1
  obtain ⟨b0, b1, b2, b3, b4, b5⟩ := cod_b h f0 f1 hf ho
  obtain ⟨⟨v1, v2, v3⟩, v4⟩ := h.2.2 f f0 f1 hf
  obtain ⟨⟨u1, u2, u3⟩, u4⟩ := h.2.2 y y0 y1 hy
  have u5 := v4 y y0 y1 hy
  obtain ⟨⟨a1, a2⟩, ⟨a3, a4, a5⟩, a6, a7, a8, a9⟩ := ho
  have hne2 : ¬ (y / 10 = f / 10 ∧ y % 10 = f % 10) := by omega
  have w1 := side_nc h (by omega) a1 (by omega) a6 y0 y1 hy
  have w2 := side_nc h (by omega) a2 (by omega) (side_sym a7) y0 y1 hy
  have lo0 : 0 ≤ f / 10 := by omega
  rw [b2, b3]
  clear b0 b1 b2 b3 b4 b5 hf
  generalize f / 10 = lo at *
  generalize f % 10 = hi at *
  rcases a5 with a5 | a5
  · have w3 := side_nc h a3 a5 (by omega) (side_sym a8) y0 y1 (by assumption)
    have w4 := side_nc h a3 (show o < hi by omega) (by omega) (side_sym a9) y0 y1 (by assumption)
    rw [show min i o = o by omega, show max i o = i by omega]
    generalize y / 10 = p at *
    generalize y % 10 = q at *
    unfold crossd at *
    omega
  · have w3 := side_nc h (by omega) a5 (by omega) a9 y0 y1 (by assumption)
    have w4 := side_nc h (by omega) (show lo < o by omega) (by omega) a8 y0 y1 (by assumption)
    rw [show min i o = i by omega, show max i o = o by omega]
    generalize y / 10 = p at *
    generalize y % 10 = q at *
    unfold crossd at *
    omega
