/-! a flip is a cutting again, and flipped back it is the first one; all go to the fan; how many there are -/
theorem flF_g {F : Int → Int} {f g : Int} : flF F f g g = 1 := by unfold flF; rw [if_pos rfl]
theorem flF_f {F : Int → Int} {f g : Int} (h : g ≠ f) : flF F f g f = 0 := by unfold flF; rw [if_neg (fun e => h e.symm), if_pos rfl]
theorem flF_o {F : Int → Int} {f g x : Int} (h1 : x ≠ g) (h2 : x ≠ f) : flF F f g x = F x := by unfold flF; rw [if_neg h1, if_neg h2]
theorem flF_1 {F : Int → Int} {f g x : Int} (h : flF F f g x = 1) : x = g ∨ (x ≠ g ∧ x ≠ f ∧ F x = 1) := by
  by_cases e1 : x = g
  · exact Or.inl e1
  · by_cases e2 : x = f
    · subst e2; rw [flF_f (fun e => e1 e.symm)] at h; omega
    · rw [flF_o e1 e2] at h; exact Or.inr ⟨e1, e2, h⟩
theorem fl_cnt {F : Int → Int} {f g : Int} (f0 : 0 ≤ f) (f1 : f < 100) (g0 : 0 ≤ g) (g1 : g < 100) (hf : F f = 1) (hg : F g = 0) (hne : g ≠ f) : cntF (flF F f g) 100 = cntF F 100 := by
  have key : ∀ G : Int → Int, (∀ x, x ≠ f → x ≠ g → G x = F x) → cntF G 100 = cntF (fun x => if x = f ∨ x = g then 0 else F x) 100 + iz G f + iz G g := fun G hG => by
    have e1 := cntF_one G f f0 100
    have e2 := cntF_one G g g0 100
    rw [if_pos (by omega)] at e1 e2
    rw [← e1, ← e2]
    refine cntF_sum 100 (fun x x0 x1 => ?_)
    unfold iz one1
    rw [iz_if, iz_if]
    by_cases a : x = f
    · subst a
      have : ¬ x = g := fun e => hne e.symm
      by_cases z : G x = 0 <;> simp [z, this]
    · by_cases b : x = g
      · subst b
        by_cases z : G x = 0 <;> simp [z, a]
      · rw [hG x a b]
        by_cases z : F x = 0 <;> simp [z, a, b]
  rw [key F (fun _ _ _ => rfl), key (flF F f g) (fun x a b => flF_o b a)]
  unfold iz
  rw [flF_g, flF_f hne, hf, hg]
  simp
theorem fl_cut {n : Int} {F : Int → Int} (h : cutS n F) {f i o : Int} (f0 : 0 ≤ f) (f1 : f < 100) (hf : F f = 1) (ho : oth n F f i o) : cutS n (flF F f (cod i o)) := by
  obtain ⟨b0, b1, b2, b3, b4, b5⟩ := cod_b h.1 f0 f1 hf ho
  have hnc := fun {y : Int} (y0 : 0 ≤ y) (y1 : y < 100) (hy : F y = 1) (hne : y ≠ f) => fl_nc h.1 f0 f1 hf ho y0 y1 hy hne
  have h1 := h.1.1
  obtain ⟨⟨v1, v2, v3⟩, v4⟩ := h.1.2.2 f f0 f1 hf
  refine ⟨⟨h1, fun x x0 x1 => ?_, fun x x0 x1 hx => ⟨?_, fun y y0 y1 hy => ?_⟩⟩, by rw [fl_cnt f0 f1 b0 b1 hf b5 b4]; exact h.2⟩
  · unfold flF
    split
    · exact Or.inr rfl
    · split
      · exact Or.inl rfl
      · exact h.1.2.1 x x0 x1
  · rcases flF_1 hx with e | ⟨_, _, e⟩
    · subst e
      rw [b2, b3]
      obtain ⟨⟨a1, a2⟩, ⟨a3, a4, a5⟩, _⟩ := ho
      unfold neigh
      omega
    · exact (h.1.2.2 x x0 x1 e).1
  · rcases flF_1 hx with e | ⟨_, e2, e⟩
    · rcases flF_1 hy with d | ⟨_, d2, d⟩
      · rw [e, d]; unfold crossd; omega
      · rw [e]; exact hnc y0 y1 d d2
    · rcases flF_1 hy with d | ⟨_, d2, d⟩
      · rw [d]; exact fun w => hnc x0 x1 e e2 (crossd_sym w)
      · exact (h.1.2.2 x x0 x1 e).2 y y0 y1 d
theorem side_fl {n : Int} {F : Int → Int} {f g x y : Int} (h : side n F x y) (hne : 10 * min x y + max x y ≠ f) : side n (flF F f g) x y := by
  rcases h with h | h
  · exact Or.inl h
  · refine Or.inr ?_
    unfold flF
    rw [if_neg hne]
    split
    · rfl
    · exact h
theorem fl_oth {n : Int} {F : Int → Int} (h : cutS n F) {f i o : Int} (f0 : 0 ≤ f) (f1 : f < 100) (hf : F f = 1) (ho : oth n F f i o) : ∃ i' o', oth n (flF F f (cod i o)) (cod i o) i' o' ∧ cod i' o' = f := by
  obtain ⟨b0, b1, b2, b3, b4, b5⟩ := cod_b h.1 f0 f1 hf ho
  obtain ⟨⟨v1, v2, v3⟩, v4⟩ := h.1.2.2 f f0 f1 hf
  have h1 := h.1.1
  obtain ⟨⟨a1, a2⟩, ⟨a3, a4, a5⟩, a6, a7, a8, a9⟩ := ho
  have s1 := side_fl (f := f) (g := cod i o) a6 (by omega)
  have s2 := side_fl (f := f) (g := cod i o) a7 (by omega)
  have s3 := side_fl (f := f) (g := cod i o) a8 (by omega)
  have s4 := side_fl (f := f) (g := cod i o) a9 (by omega)
  rcases a5 with a5 | a5
  · refine ⟨f / 10, f % 10, ?_, by unfold cod; omega⟩
    unfold oth
    rw [b2, b3, show min i o = o by omega, show max i o = i by omega]
    exact ⟨⟨a5, a1⟩, ⟨by omega, v2, Or.inr a2⟩, side_sym s3, side_sym s1, side_sym s4, side_sym s2⟩
  · refine ⟨f % 10, f / 10, ?_, by unfold cod; omega⟩
    unfold oth
    rw [b2, b3, show min i o = i by omega, show max i o = o by omega]
    exact ⟨⟨a2, a5⟩, ⟨by omega, by omega, Or.inl a1⟩, side_sym s2, side_sym s4, side_sym s1, side_sym s3⟩
theorem fl_fl {F : Int → Int} {f g : Int} (hf : F f = 1) (hg : F g = 0) (hne : g ≠ f) : flF (flF F f g) g f = F := by
  funext x
  by_cases a : x = f
  · rw [a, flF_g, hf]
  · by_cases b : x = g
    · rw [b, flF_f (fun e => hne e.symm), hg]
    · rw [flF_o a b, flF_o b a]
theorem cutS_congr {n : Int} {F G : Int → Int} (h : cutS n F) (e : ∀ f : Int, 0 ≤ f → f < 100 → G f = F f) : cutS n G := ⟨rgS_congr h.1 e, by rw [cntF_congr 100 (fun f f0 f1 => e f f0 (by omega))]; exact h.2⟩
/-- the fences that do not end at the first corner -/
def aw (F : Int → Int) : Int → Int := fun f => if f / 10 = 0 then 0 else F f
def mu (F : Int → Int) : Int := cntF (aw F) 100
theorem to0 {n : Int} {F : Int → Int} (h : cutS n F) : ∀ (m : Nat) (f : Int), (10 - (f % 10 - f / 10)).toNat < m → 0 ≤ f → f < 100 → F f = 1 → 0 < f / 10 → ∃ f' i, 0 ≤ f' ∧ f' < 100 ∧ F f' = 1 ∧ 0 < f' / 10 ∧ oth n F f' i 0 := by
  intro m
  induction m with
  | zero => intro f h; omega
  | succ m ih =>
    intro f hm f0 f1 hf hp
    have h1 := h.1.1
    obtain ⟨⟨v1, v2, v3⟩, v4⟩ := h.1.2.2 f f0 f1 hf
    obtain ⟨i, o, ho⟩ := cut_oth h f0 f1 hf
    by_cases e : o = 0
    · subst e; exact ⟨f, i, f0, f1, hf, hp, ho⟩
    · obtain ⟨⟨a1, a2⟩, ⟨a3, a4, a5⟩, a6, a7, a8, a9⟩ := ho
      rcases a5 with a5 | a5
      · have w := side_fence (by omega) (by omega) (by omega) (side_sym a9)
        exact ih (10 * o + f % 10) (by omega) (by omega) (by omega) w (by omega)
      · have w := side_fence (by omega) (by omega) (by omega) a8
        exact ih (10 * (f / 10) + o) (by omega) (by omega) (by omega) w (by omega)
theorem mu_fl {n : Int} {F : Int → Int} (h : cutS n F) {f i : Int} (f0 : 0 ≤ f) (f1 : f < 100) (hf : F f = 1) (hp : 0 < f / 10) (ho : oth n F f i 0) : mu F = mu (flF F f (cod i 0)) + 1 := by
  obtain ⟨b0, b1, b2, b3, b4, b5⟩ := cod_b h.1 f0 f1 hf ho
  obtain ⟨⟨a1, a2⟩, _⟩ := ho
  have e1 := cntF_one (aw F) f f0 100
  rw [if_pos (by omega)] at e1
  have e2 : cntF (fun _ => 0) 100 = 0 := cntF_zero 100 (fun _ _ _ => rfl)
  have e3 : iz (aw F) f = 1 := by
    unfold iz aw
    rw [if_neg (show ¬ f / 10 = 0 by omega), hf]; rfl
  have s : mu F = mu (flF F f (cod i 0)) + cntF (one1 (aw F) f) 100 + cntF (fun _ => 0) 100 := by
    refine cntF_sum 100 (fun x x0 x1 => ?_)
    have z0 : iz (fun _ => 0) x = 0 := by unfold iz; rw [if_pos rfl]
    rw [z0]
    by_cases p : x / 10 = 0
    · unfold iz one1 aw
      simp [p]
    · by_cases a : x = f
      · subst a
        unfold iz one1 aw
        rw [flF_f b4, if_neg p, if_neg p, hf]
        simp
      · have c : x ≠ cod i 0 := fun e => p (by rw [e, b2]; omega)
        unfold iz one1 aw
        rw [if_neg p, if_neg p, flF_o c a]
        simp [a]
  omega
theorem mu_0 {n : Int} {F G : Int → Int} (hF : cutS n F) (hG : cutS n G) (eF : mu F = 0) (eG : mu G = 0) : ∀ f : Int, 0 ≤ f → f < 100 → F f = G f := by
  have zero : ∀ F : Int → Int, mu F = 0 → ∀ f : Int, 0 ≤ f → f < 100 → ¬ f / 10 = 0 → F f = 0 := fun F e f f0 f1 hp => by
    by_cases z : F f = 0
    · exact z
    · have := cntF_lt (aw F) (n := f.toNat) (m := 100) (by omega) (by rw [Int.toNat_of_nonneg f0]; unfold aw; rw [if_neg hp]; exact z)
      have := cntF_b (aw F) f.toNat
      unfold mu at e
      omega
  have full : ∀ F : Int → Int, cutS n F → mu F = 0 → ∀ c : Int, 2 ≤ c → c ≤ n - 2 → F c = 1 := fun F h e c c0 c1 => by
    have h1 := h.1.1
    refine (h.1.2.1 c (by omega) (by omega)).resolve_left (fun z => ?_)
    have s := cntF_sum (F := fun f => if 2 ≤ f ∧ f ≤ n - 2 then 1 else 0) (G := F) (H := one1 (fun f => if f = c then 1 else 0) c) (K := fun f => if 2 ≤ f ∧ f ≤ n - 2 ∧ f ≠ c ∧ F f = 0 then 1 else 0) 100 (fun f f0 f1 => by
      have hz : F f = 1 → 2 ≤ f ∧ f ≤ n - 2 ∧ f ≠ c := fun hf => by
        obtain ⟨⟨v1, v2, v3⟩, _⟩ := h.1.2.2 f f0 (by omega) hf
        have p0 : f / 10 = 0 := by
          by_cases p : f / 10 = 0
          · exact p
          · have := zero F e f f0 (by omega) p; omega
        refine ⟨?_, ?_, fun e => by subst e; omega⟩
        · unfold neigh at v3; omega
        · unfold neigh at v3; omega
      unfold iz one1
      rw [iz_if, iz_if, iz_if]
      rcases h.1.2.1 f f0 (by omega) with hf | hf
      · by_cases a : f = c
        · subst a
          rw [hf, if_pos ⟨by omega, by omega⟩]; simp
        · rw [hf]; simp [a]
      · obtain ⟨y1, y2, y3⟩ := hz hf
        rw [hf, if_pos ⟨y1, y2⟩]; simp [y3])
    have s1 : cntF (one1 (fun f => if f = c then 1 else 0) c) 100 = 1 := by
      rw [cntF_one _ c (by omega) 100, if_pos (by omega)]
      unfold iz
      simp
    have s2 := cntF_b (fun f => if 2 ≤ f ∧ f ≤ n - 2 ∧ f ≠ c ∧ F f = 0 then 1 else 0) 100
    have s3 : ∀ m : Nat, cntF (fun f => if 2 ≤ f ∧ f ≤ n - 2 then 1 else 0) m ≤ max 0 (min ((m : Int) - 2) (n - 3)) := fun m => by
      induction m with
      | zero => show (0 : Int) ≤ _; omega
      | succ m ih =>
        rw [cntF_s]
        unfold iz
        rw [iz_if]
        split <;> omega
    have s4 := s3 100
    have s5 := h.2
    omega
  have hn := hF.1.1
  intro f f0 f1
  by_cases p : f / 10 = 0
  · by_cases q : 2 ≤ f ∧ f ≤ n - 2
    · rw [full F hF eF f q.1 q.2, full G hG eG f q.1 q.2]
    · have no : ∀ F : Int → Int, cutS n F → F f = 0 := fun F h => by
        refine (h.1.2.1 f f0 f1).resolve_right (fun hf => ?_)
        obtain ⟨⟨v1, v2, v3⟩, _⟩ := h.1.2.2 f f0 f1 hf
        unfold neigh at v3
        omega
      rw [no F hF, no G hG]
  · rw [zero F eF f f0 f1 p, zero G eG f f0 f1 p]
/-- one is a flip of the other -/
def fnb (n : Int) (F G : Int → Int) : Prop := ∃ f i o, 0 ≤ f ∧ f < 100 ∧ F f = 1 ∧ oth n F f i o ∧ G = flF F f (cod i o)
theorem fnb_sym {n : Int} {F G : Int → Int} (h : cutS n F) (hn : fnb n F G) : fnb n G F := by
  obtain ⟨f, i, o, f0, f1, hf, ho, rfl⟩ := hn
  obtain ⟨b0, b1, b2, b3, b4, b5⟩ := cod_b h.1 f0 f1 hf ho
  obtain ⟨i', o', h1, h2⟩ := fl_oth h f0 f1 hf ho
  exact ⟨cod i o, i', o', b0, b1, flF_g, h1, by rw [h2, fl_fl hf b5 b4]⟩
theorem fnb_cut {n : Int} {F G : Int → Int} (h : cutS n F) (hn : fnb n F G) : cutS n G := by
  obtain ⟨f, i, o, f0, f1, hf, ho, rfl⟩ := hn
  exact fl_cut h f0 f1 hf ho
theorem mu_le {n : Int} {F : Int → Int} (h : cutS n F) : 0 ≤ mu F ∧ mu F ≤ 7 := by
  have h1 := h.1.1
  have h2 := h.2
  have e : cntF F 100 = mu F + cntF (fun f => if f / 10 = 0 then F f else 0) 100 + cntF (fun _ => 0) 100 := by
    refine cntF_sum 100 (fun x x0 x1 => ?_)
    unfold iz aw
    by_cases p : x / 10 = 0 <;> simp [p]
  have a := cntF_b (aw F) 100
  have b := cntF_b (fun f => if f / 10 = 0 then F f else 0) 100
  have c := cntF_b (fun _ => 0) 100
  unfold mu at *
  omega
/-- what is closed by flips, with steps counted, holds every cutting -/
theorem conn {n : Int} {S : (Int → Int) → Int → Prop} (hS : ∀ F G d, cutS n F → fnb n F G → S F d → S G (d + 1)) (hE : ∀ F G d, cutS n F → (∀ f : Int, 0 ≤ f → f < 100 → G f = F f) → S F d → S G d) {F G : Int → Int} {d : Int} (hF : cutS n F) (hG : cutS n G) (h : S F d) : ∃ e, e ≤ d + 14 ∧ S G e := by
  have down : ∀ (m : Nat) (F : Int → Int), cutS n F → mu F = m → ∃ Z, cutS n Z ∧ mu Z = 0 ∧ (∀ d, S F d → S Z (d + m)) ∧ ∀ d, S Z d → S F (d + m) := by
    intro m
    induction m with
    | zero => intro F hF e; exact ⟨F, hF, e, fun d h => by rwa [show d + ((0 : Nat) : Int) = d by omega], fun d h => by rwa [show d + ((0 : Nat) : Int) = d by omega]⟩
    | succ m ih =>
      intro F hF e
      have ex : ∃ f : Int, 0 ≤ f ∧ f < 100 ∧ F f = 1 ∧ 0 < f / 10 := by
        refine Classical.byContradiction (fun hno => ?_)
        have : mu F = 0 := cntF_zero 100 (fun f f0 f1 => by
          unfold aw
          split
          · rfl
          · refine (hF.1.2.1 f f0 (by omega)).resolve_right (fun hf => hno ⟨f, f0, by omega, hf, by omega⟩))
        omega
      obtain ⟨f, f0, f1, hf, hp⟩ := ex
      obtain ⟨f', i, f0', f1', hf', hp', ho⟩ := to0 hF _ f (Nat.lt_succ_self _) f0 f1 hf hp
      have hm := mu_fl hF f0' f1' hf' hp' ho
      have nb : fnb n F (flF F f' (cod i 0)) := ⟨f', i, 0, f0', f1', hf', ho, rfl⟩
      have hc := fnb_cut hF nb
      obtain ⟨Z, z1, z2, z3, z4⟩ := ih _ hc (by omega)
      refine ⟨Z, z1, z2, fun d h => ?_, fun d h => ?_⟩
      · rw [show d + ((m + 1 : Nat) : Int) = d + 1 + m by omega]
        exact z3 _ (hS _ _ _ hF nb h)
      · rw [show d + ((m + 1 : Nat) : Int) = d + m + 1 by omega]
        exact hS _ _ _ hc (fnb_sym hF nb) (z4 d h)
  have mF := mu_le hF
  have mG := mu_le hG
  obtain ⟨Z, z1, z2, z3, _⟩ := down (mu F).toNat F hF (by omega)
  obtain ⟨Y, y1, y2, _, y4⟩ := down (mu G).toNat G hG (by omega)
  have hz := z3 d h
  have hy := hE Z Y _ z1 (mu_0 y1 z1 y2 z2) hz
  exact ⟨_, by omega, y4 _ hy⟩
/-- all cuttings of what lies between two corners, as rows of fences -/
def Tl : Nat → Int → Nat → List (List Int)
  | 0, _, _ => [[]]
  | k + 1, lo, w => if w ≤ 1 then [[]] else (List.range (w - 1)).flatMap fun d => (Tl k lo (d + 1)).flatMap fun a => (Tl k (lo + (d + 1 : Nat)) (w - 1 - d)).map fun b => (10 * lo + (lo + w)) :: (a ++ b)
theorem Tl_mem {n : Int} {F : Int → Int} (h : rgS n F) : ∀ (k : Nat) (lo : Int) (w : Nat), w ≤ k → 1 ≤ w → 0 ≤ lo → lo + w < n → (2 ≤ w → eI F lo (lo + w) - iz F (10 * lo + (lo + w)) = w - 2) → ∃ l, l ∈ Tl k lo w ∧ ∀ f : Int, 0 ≤ f → f < 100 → (f ∈ l ↔ ((F f = 1 ∧ lo ≤ f / 10 ∧ f % 10 ≤ lo + w) ∨ (2 ≤ w ∧ f = 10 * lo + (lo + w)))) := by
  intro k
  induction k with
  | zero => intro lo w h1 h2; omega
  | succ k ih =>
    intro lo w hw w1 l0 ln hs
    have h1 := h.1
    by_cases w2 : w ≤ 1
    · refine ⟨[], by unfold Tl; rw [if_pos w2]; exact List.mem_singleton.2 rfl, fun f f0 f1 => ⟨fun x => (List.not_mem_nil x).elim, ?_⟩⟩
      rintro (⟨hf, a, b⟩ | ⟨a, b⟩)
      · obtain ⟨⟨v1, v2, v3⟩, _⟩ := h.2.2 f f0 f1 hf
        unfold neigh at v3
        omega
      · omega
    · obtain ⟨c, c0, c1, c2, c3, c4, c5, c6⟩ := tri_of h l0 (show lo + 2 ≤ lo + w by omega) ln (by rw [hs (by omega)]; omega)
      obtain ⟨a, a1, a2⟩ := ih lo (c - lo).toNat (by omega) (by omega) l0 (by omega) (fun e => by rw [show lo + ((c - lo).toNat : Int) = c by omega, c4 (by omega)]; omega)
      obtain ⟨b, b1, b2⟩ := ih c (lo + w - c).toNat (by omega) (by omega) (by omega) (by omega) (fun e => by rw [show c + ((lo + w - c).toNat : Int) = lo + w by omega, c5 (by omega)]; omega)
      rw [show lo + ((c - lo).toNat : Int) = c by omega] at a2
      rw [show c + ((lo + w - c).toNat : Int) = lo + w by omega] at b2
      refine ⟨(10 * lo + (lo + w)) :: (a ++ b), ?_, fun f f0 f1 => ?_⟩
      · unfold Tl
        rw [if_neg w2]
        refine List.mem_flatMap.2 ⟨(c - lo - 1).toNat, List.mem_range.2 (by omega), List.mem_flatMap.2 ⟨a, ?_, List.mem_map.2 ⟨b, ?_, rfl⟩⟩⟩
        · rw [show (c - lo - 1).toNat + 1 = (c - lo).toNat by omega]; exact a1
        · rw [show (c - lo - 1).toNat + 1 = (c - lo).toNat by omega, show lo + (((c - lo).toNat : Nat) : Int) = c by omega, show w - 1 - (c - lo - 1).toNat = (lo + w - c).toNat by omega]; exact b1
      · rw [List.mem_cons, List.mem_append, a2 f f0 f1, b2 f f0 f1]
        refine ⟨?_, ?_⟩
        · rintro (e | ((⟨e1, e2, e3⟩ | ⟨e1, e2⟩) | (⟨e1, e2, e3⟩ | ⟨e1, e2⟩)))
          · exact Or.inr ⟨by omega, e⟩
          · exact Or.inl ⟨e1, e2, by omega⟩
          · refine Or.inl ⟨?_, by omega, by omega⟩
            rcases c2 with c2 | c2
            · omega
            · rw [e2]; exact c2
          · exact Or.inl ⟨e1, by omega, e3⟩
          · refine Or.inl ⟨?_, by omega, by omega⟩
            rcases c3 with c3 | c3
            · omega
            · rw [e2]; exact c3
        · rintro (⟨hf, e1, e2⟩ | ⟨_, e⟩)
          · by_cases e : f = 10 * lo + (lo + w)
            · exact Or.inl e
            · rcases c6 f f0 f1 hf e1 e2 e with q | q
              · exact Or.inr (Or.inl (Or.inl ⟨hf, e1, q⟩))
              · exact Or.inr (Or.inr (Or.inl ⟨hf, q, e2⟩))
          · exact Or.inl e
def Cn : Nat → Nat → Nat
  | 0, _ => 1
  | k + 1, w => if w ≤ 1 then 1 else ((List.range (w - 1)).map fun d => Cn k (d + 1) * Cn k (w - 1 - d)).sum
theorem len_fm {α β : Type} (f : α → List β) (c : Nat) : ∀ l : List α, (∀ x, (f x).length = c) → (l.flatMap f).length = l.length * c
  | [], _ => by simp
  | x :: l, h => by rw [List.flatMap_cons, List.length_append, len_fm f c l h, h x, List.length_cons, Nat.succ_mul]; omega
theorem len_fs {α β : Type} (f : α → List β) (g : α → Nat) : ∀ l : List α, (∀ x, (f x).length = g x) → (l.flatMap f).length = (l.map g).sum
  | [], _ => by simp
  | x :: l, h => by rw [List.flatMap_cons, List.length_append, len_fs f g l h, h x, List.map_cons, List.sum_cons]
theorem Tl_len : ∀ (k : Nat) (lo : Int) (w : Nat), (Tl k lo w).length = Cn k w
  | 0, _, _ => rfl
  | k + 1, lo, w => by
    unfold Tl Cn
    split
    · rfl
    · refine len_fs _ _ _ (fun d => ?_)
      rw [len_fm _ (Cn k (w - 1 - d)) _ (fun a => by rw [List.length_map, Tl_len k]), Tl_len k]
theorem Cn_le : ∀ w : Fin 10, Cn 9 w.1 ≤ 1430 := by decide +kernel
theorem nodup_le {α : Type} [DecidableEq α] : ∀ (l m : List α), l.Nodup → (∀ x, x ∈ l → x ∈ m) → l.length ≤ m.length
  | [], _, _, _ => Nat.zero_le _
  | x :: l, m, hn, hs => by
    rw [List.nodup_cons] at hn
    have hx := hs x List.mem_cons_self
    have := nodup_le l (m.erase x) hn.2 (fun y hy => (List.mem_erase_of_ne (fun (e : y = x) => hn.1 (by rw [← e]; exact hy))).2 (hs y (List.mem_cons_of_mem _ hy)))
    rw [List.length_erase_of_mem hx] at this
    have : 0 < m.length := List.length_pos_of_mem hx
    rw [List.length_cons]
    omega
/-- at most 1430 cuttings, told by any name that sees the fences alone -/
theorem cut_few {n : Int} (h1 : 4 ≤ n) (h2 : n ≤ 10) {N : (Int → Int) → Int} (hN : ∀ F G : Int → Int, (∀ f : Int, 0 ≤ f → f < 100 → F f = G f) → N F = N G) {l : List Int} (hn : l.Nodup) (hl : ∀ x, x ∈ l → ∃ F, cutS n F ∧ x = N F) : l.length ≤ 1430 := by
  have key : ∀ x, x ∈ l → x ∈ (Tl 9 0 (n - 1).toNat).map (fun a => N (fun f => if f ∈ a ∧ f ≠ n - 1 then 1 else 0)) := fun x hx => by
    obtain ⟨F, hF, rfl⟩ := hl x hx
    have ht := cut_top hF
    obtain ⟨a, a1, a2⟩ := Tl_mem hF.1 9 0 (n - 1).toNat (by omega) (by omega) (by omega) (by omega) (fun _ => by rw [show (0 : Int) + ((n - 1).toNat : Int) = n - 1 by omega]; omega)
    refine List.mem_map.2 ⟨a, a1, hN _ _ (fun f f0 f1 => ?_)⟩
    have a2 := a2 f f0 f1
    have hno : F f = 1 → f ≠ n - 1 := fun hf e => by
      obtain ⟨⟨v1, v2, v3⟩, _⟩ := hF.1.2.2 f f0 f1 hf
      unfold neigh at v3
      omega
    rcases hF.1.2.1 f f0 f1 with hf | hf
    · rw [hf]
      refine if_neg ?_
      rintro ⟨e1, e2⟩
      rcases a2.1 e1 with ⟨e3, _⟩ | ⟨_, e3⟩
      · omega
      · omega
    · rw [hf]
      obtain ⟨⟨v1, v2, v3⟩, _⟩ := hF.1.2.2 f f0 f1 hf
      exact if_pos ⟨a2.2 (Or.inl ⟨hf, by omega, by omega⟩), hno hf⟩
  have := nodup_le l _ hn key
  rw [List.length_map, Tl_len] at this
  have := Cn_le ⟨(n - 1).toNat, by omega⟩
  simp only at this
  omega
