/-! isCrossed, otherFence of the class -/
def crs (n : Int) (F : Int → Int) (lo hi : Int) : Prop := ∃ c d : Int, (lo < c ∧ c < hi) ∧ (0 ≤ d ∧ d < n ∧ (d < lo ∨ hi < d)) ∧ hsP F c d
theorem crs_iff {n : Int} {F : Int → Int} (hS : rgS n F) {lo hi : Int} (l0 : 0 ≤ lo) (h1 : hi < n) : crs n F lo hi ↔ ∃ f : Int, 0 ≤ f ∧ f < 100 ∧ F f = 1 ∧ crossd lo hi (f / 10) (f % 10) := by
  have hn := hS.1
  constructor
  · rintro ⟨c, d, ⟨c0, c1⟩, ⟨d0, d1, d2⟩, _, hf⟩
    refine ⟨fcd c d, by unfold fcd; omega, by unfold fcd; omega, hf, ?_⟩
    have e1 : fcd c d / 10 = min c d := by unfold fcd; omega
    have e2 : fcd c d % 10 = max c d := by unfold fcd; omega
    rw [e1, e2]
    unfold crossd
    omega
  · rintro ⟨f, f0, f1, hf, hc⟩
    obtain ⟨⟨v1, v2, v3⟩, _⟩ := hS.2.2 f f0 f1 hf
    unfold crossd at hc
    rcases hc with hc | hc
    · refine ⟨f / 10, f % 10, by omega, by omega, by omega, ?_⟩
      rw [show fcd (f / 10) (f % 10) = f by unfold fcd; omega]; exact hf
    · refine ⟨f % 10, f / 10, by omega, by omega, by omega, ?_⟩
      rw [show fcd (f % 10) (f / 10) = f by unfold fcd; omega]; exact hf
theorem srt_Xcrossed : pm_srt o_X6_isCrossed = true := by decide +kernel
theorem xcr_12 {A : pm_A} {r n lo hi c : Int} {F : Int → Int} (r0 : 0 ≤ r) (rk : wX.2 r = 9) (h : rgX A r n F) (hS : rgS n F) (l0 : 0 ≤ lo) (h1 : hi < n) (c0 : lo < c) (c1 : c < hi) (H : (∀ d : Int, 0 ≤ d → d < n → (d < lo ∨ hi < d) → ¬ hsP F c d) → ∀ w4, Tm pmt (an_sh wX) o_X6_isCrossed 51 ([(2, r), (0, lo), (0, hi), (0, c), w4], [], A) (bp A (crs n F lo hi))) : ∀ (m : Nat) (d : Int), (10 - d).toNat < m → 0 ≤ d → d ≤ 10 → (∀ k : Int, 0 ≤ k → k < d → (k < lo ∨ hi < k) → ¬ hsP F c k) → Tm pmt (an_sh wX) o_X6_isCrossed 12 ([(2, r), (0, lo), (0, hi), (0, c), (0, d)], [], A) (bp A (crs n F lo hi)) := by
  have e0 := h.1
  have hn := hS.1
  intro m
  induction m with
  | zero => intro d h; omega
  | succ m ih =>
    intro d hm d0 d1 hd
    have go : d < n → (¬ (d < lo ∨ hi < d) ∨ ¬ hsP F c d) → Tm pmt (an_sh wX) o_X6_isCrossed 12 ([(2, r), (0, lo), (0, hi), (0, c), (0, d + 1)], [], A) (bp A (crs n F lo hi)) := fun hdn hno => by
      refine ih (d + 1) (by omega) (by omega) (by omega) (fun k k0 k1 k2 => ?_)
      by_cases e : k = d
      · rw [e] at k2 ⊢; exact hno.resolve_left (fun x => x k2)
      · exact hd k k0 (by omega) k2
    refine wq_ok srt_Xcrossed (fr := []) (cuts := [12, 40, 51]) (J := fun pc st => (pc = 51 ∧ ((A r 0) ≤ d) ∧ st = ([(2, r), (0, lo), (0, hi), (0, c), (0, d)], [], A)) ∨ (pc = 40 ∧ (d < (A r 0)) ∧ (d < lo) ∧ ∃ x : Int, ((x = 1 ∧ hsP F c d) ∨ (x = 0 ∧ ¬ hsP F c d)) ∧ st = ([(2, r), (0, lo), (0, hi), (0, c), (0, d)], [(0, x)], A)) ∨ (pc = 12 ∧ (d < (A r 0)) ∧ (lo ≤ d) ∧ (d ≤ hi) ∧ st = ([(2, r), (0, lo), (0, hi), (0, c), (0, d + 1)], [], A)) ∨ (pc = 40 ∧ (d < (A r 0)) ∧ (lo ≤ d) ∧ (hi < d) ∧ ∃ x : Int, ((x = 1 ∧ hsP F c d) ∨ (x = 0 ∧ ¬ hsP F c d)) ∧ st = ([(2, r), (0, lo), (0, hi), (0, c), (0, d)], [(0, x)], A))) ?_ 18 12 _ ?_
    · rintro pc st (⟨rfl, h0, rfl⟩ | ⟨rfl, h0, h1, x, hx, rfl⟩ | ⟨rfl, h0, h1, h2, rfl⟩ | ⟨rfl, h0, h1, h2, x, hx, rfl⟩)
      · rw [e0] at h0
        exact H (fun d d0 d1 d2 => hd d d0 (by omega) d2) _
      · rw [e0] at h0
        have hdn := h0
        have hdo : d < lo ∨ hi < d := by omega
        refine wq_ok srt_Xcrossed (fr := []) (cuts := [12]) (J := fun pc st => (pc = 12 ∧ (x = 0) ∧ st = ([(2, r), (0, lo), (0, hi), (0, c), (0, d + 1)], [], A))) ?_ 8 40 _ ?_
        · rintro pc st (⟨rfl, h0, rfl⟩)
          exact go (by omega) (Or.inr (by rcases hx with ⟨e, _⟩ | ⟨_, e⟩; omega; exact e))
        · refine ⟨fun h0 => ?_, fun h0 => ?_⟩
          · refine ⟨⟨by omega, by omega⟩, ?_⟩
            exact ⟨rfl, h0, rfl⟩
          · exact ⟨rfl, rfl, 1, rfl, Or.inl ⟨rfl, c, d, ⟨c0, c1⟩, ⟨d0, hdn, hdo⟩, (by rcases hx with ⟨_, e⟩ | ⟨e, _⟩; exact e; omega)⟩⟩
      · rw [e0] at h0
        exact go h0 (Or.inl (by omega))
      · rw [e0] at h0
        have hdn := h0
        have hdo : d < lo ∨ hi < d := by omega
        refine wq_ok srt_Xcrossed (fr := []) (cuts := [12]) (J := fun pc st => (pc = 12 ∧ (x = 0) ∧ st = ([(2, r), (0, lo), (0, hi), (0, c), (0, d + 1)], [], A))) ?_ 8 40 _ ?_
        · rintro pc st (⟨rfl, h0, rfl⟩)
          exact go (by omega) (Or.inr (by rcases hx with ⟨e, _⟩ | ⟨_, e⟩; omega; exact e))
        · refine ⟨fun h0 => ?_, fun h0 => ?_⟩
          · refine ⟨⟨by omega, by omega⟩, ?_⟩
            exact ⟨rfl, h0, rfl⟩
          · exact ⟨rfl, rfl, 1, rfl, Or.inl ⟨rfl, c, d, ⟨c0, c1⟩, ⟨d0, hdn, hdo⟩, (by rcases hx with ⟨_, e⟩ | ⟨e, _⟩; exact e; omega)⟩⟩
    · refine ⟨oX_9 r0 rk 0 rfl, ?_⟩
      refine ⟨fun h0 => ?_, fun h0 => ?_⟩
      · exact Or.inl (⟨rfl, h0, rfl⟩)
      · refine ⟨fun h1 => ?_, fun h1 => ?_⟩
        · refine ⟨rX_9 r0 rk, ?_⟩
          have g0 : d < n := by rw [← e0]; assumption
          refine (xhas_ex r0 rk h (a := c) (b := d) (by omega) (by omega) (by omega) (by omega)).imp ?_
          rintro ⟨r1, C⟩ ⟨q1, x, q2, hx⟩
          simp only at q1 q2
          subst q1
          subst q2
          exact Or.inr (Or.inl (⟨rfl, h0, h1, x, hx, rfl⟩))
        · refine ⟨fun h2 => ?_, fun h2 => ?_⟩
          · refine ⟨⟨by omega, by omega⟩, ?_⟩
            exact Or.inr (Or.inr (Or.inl (⟨rfl, h0, h1, h2, rfl⟩)))
          · refine ⟨rX_9 r0 rk, ?_⟩
            have g0 : d < n := by rw [← e0]; assumption
            refine (xhas_ex r0 rk h (a := c) (b := d) (by omega) (by omega) (by omega) (by omega)).imp ?_
            rintro ⟨r1, C⟩ ⟨q1, x, q2, hx⟩
            simp only at q1 q2
            subst q1
            subst q2
            exact Or.inr (Or.inr (Or.inr (⟨rfl, h0, h1, h2, x, hx, rfl⟩)))
theorem xcr_4 {A : pm_A} {r n lo hi : Int} {F : Int → Int} (r0 : 0 ≤ r) (rk : wX.2 r = 9) (h : rgX A r n F) (hS : rgS n F) (l0 : 0 ≤ lo) (h1 : hi < n) : ∀ (m : Nat) (c : Int) (w4 : pm_V), (10 - c).toNat < m → lo < c → c ≤ 10 → (∀ k d : Int, lo < k → k < c → k < hi → 0 ≤ d → d < n → (d < lo ∨ hi < d) → ¬ hsP F k d) → Tm pmt (an_sh wX) o_X6_isCrossed 4 ([(2, r), (0, lo), (0, hi), (0, c), w4], [], A) (bp A (crs n F lo hi)) := by
  have hn := hS.1
  intro m
  induction m with
  | zero => intro c w4 h; omega
  | succ m ih =>
    intro c w4 hm c0 c1 hc
    have h51 : c < hi → (∀ d : Int, 0 ≤ d → d < n → (d < lo ∨ hi < d) → ¬ hsP F c d) → ∀ w4, Tm pmt (an_sh wX) o_X6_isCrossed 51 ([(2, r), (0, lo), (0, hi), (0, c), w4], [], A) (bp A (crs n F lo hi)) := fun hch hd w4 => by
      refine wq_ok srt_Xcrossed (fr := []) (cuts := [4]) (J := fun pc st => (pc = 4 ∧ st = ([(2, r), (0, lo), (0, hi), (0, c + 1), w4], [], A))) ?_ 7 51 _ ?_
      · rintro pc st (⟨rfl, rfl⟩)
        refine ih (c + 1) _ (by omega) (by omega) (by omega) (fun k d k0 k1 k2 d0 d1 d2 => ?_)
        by_cases e : k = c
        · rw [e]; exact hd d d0 d1 d2
        · exact hc k d k0 (by omega) k2 d0 d1 d2
      · refine ⟨⟨by omega, by omega⟩, ?_⟩
        exact ⟨rfl, rfl⟩
    refine wq_ok srt_Xcrossed (fr := []) (cuts := [12]) (J := fun pc st => (pc = 12 ∧ (c < hi) ∧ st = ([(2, r), (0, lo), (0, hi), (0, c), (0, 0)], [], A))) ?_ 10 4 _ ?_
    · rintro pc st (⟨rfl, h0, rfl⟩)
      exact xcr_12 r0 rk h hS l0 h1 c0 (by omega) (h51 (by omega)) _ 0 (Nat.lt_succ_self _) (by omega) (by omega) (fun k k0 k1 => by omega)
    · refine ⟨fun h0 => ?_, fun h0 => ?_⟩
      · exact ⟨rfl, rfl, 0, rfl, Or.inr ⟨rfl, fun ⟨k, d, ⟨k0, k1⟩, ⟨d0, d1, d2⟩, hh⟩ => hc k d k0 (by omega) k1 d0 d1 d2 hh⟩⟩
      · exact ⟨rfl, h0, rfl⟩
theorem xcrossed_ex {A : pm_A} {r n lo hi : Int} {F : Int → Int} (r0 : 0 ≤ r) (rk : wX.2 r = 9) (h : rgX A r n F) (hS : rgS n F) (l0 : 0 ≤ lo) (l1 : lo ≤ 9) (h1 : hi < n) : Cl pmt (an_sh wX) 58 [(2, r), (0, lo), (0, hi)] A (bp A (crs n F lo hi)) := by
  refine Cl.of (Nat.le_of_ble_eq_true rfl) ?_
  refine wq_ok (full := o_X6_isCrossed) srt_Xcrossed (fr := []) (cuts := [4]) (J := fun pc st => (pc = 4 ∧ st = ([(2, r), (0, lo), (0, hi), (0, lo + 1), (9, 0)], [], A))) ?_ 9 0 _ ?_
  · rintro pc st (⟨rfl, rfl⟩)
    exact xcr_4 r0 rk h hS l0 h1 _ (lo + 1) _ (Nat.lt_succ_self _) (by omega) (by omega) (fun k d k0 k1 => by omega)
  · refine ⟨⟨by omega, by omega⟩, ?_⟩
    exact ⟨rfl, rfl⟩
theorem srt_Xother : pm_srt o_X6_otherFence = true := by decide +kernel
def xot_post (A : pm_A) (n : Int) (F : Int → Int) (f : Int) (q : pm_R) : Prop := q.2 = A ∧ ∃ i o, oth n F f i o ∧ q.1 = some (0, 100 * min i o + max i o)
theorem xot_77 {A : pm_A} {r n f x y c : Int} {F : Int → Int} (hC : cutS n F) (f0 : 0 ≤ f) (f1 : f < 100) (hf : F f = 1) (hc : n ≤ c) (hx : inI n F (f / 10) (f % 10) c x) (hy : ouI n F (f / 10) (f % 10) c y) : Tm pmt (an_sh wX) o_X6_otherFence 77 ([(2, r), (0, f / 10), (0, f % 10), (0, x), (0, y), (0, c)], [], A) (xot_post A n F f) := by
  obtain ⟨⟨v1, v2, v3⟩, _⟩ := hC.1.2.2 f f0 f1 hf
  obtain ⟨i, o, ho⟩ := cut_oth hC f0 f1 hf
  have h1 := hC.1.1
  have hxy : oth n F f x y := by
    obtain ⟨a1, ⟨a2, a3, a4⟩, a5, a6, a7, a8⟩ := ho
    rcases hx with ⟨_, hx⟩ | ⟨x1, x2, x3⟩
    · exact absurd ⟨a5, a6⟩ (hx i a1.1 a1.2 (by omega))
    · rcases hy with ⟨_, hy⟩ | ⟨y1, y2, y3⟩
      · exact absurd ⟨a7, a8⟩ (hy o a2 a4 (by omega))
      · exact ⟨x1, y1, x2, x3, y2, y3⟩
  have hxy2 := hxy
  obtain ⟨x1, ⟨y1, y2, y3⟩, _⟩ := hxy2
  refine wq_ok srt_Xother (fr := []) (cuts := []) (J := fun _ _ => False) ?_ 20 77 _ ?_
  · intro pc st h; exact h.elim
  · refine ⟨fun h0 => ?_, fun h0 => ?_⟩
    · exact absurd (show False by omega) (fun q => q)
    · refine ⟨fun h1 => ?_, fun h1 => ?_⟩
      · refine ⟨(show r32 (100 * (min x y) : Int) from ⟨by omega, by omega⟩), ?_⟩
        refine ⟨(show r32 ((100 * (min x y)) + (max x y) : Int) from ⟨by omega, by omega⟩), ?_⟩
        exact ⟨rfl, rfl, x, y, hxy, rfl⟩
      · exact absurd (show False by omega) (fun q => q)
theorem xot_8 {A : pm_A} {r n f : Int} {F : Int → Int} (r0 : 0 ≤ r) (rk : wX.2 r = 9) (h : rgX A r n F) (hC : cutS n F) (f0 : 0 ≤ f) (f1 : f < 100) (hf : F f = 1) : ∀ (m : Nat) (x y c : Int), (10 - c).toNat < m → 0 ≤ c → c ≤ 10 → inI n F (f / 10) (f % 10) c x → ouI n F (f / 10) (f % 10) c y → Tm pmt (an_sh wX) o_X6_otherFence 8 ([(2, r), (0, f / 10), (0, f % 10), (0, x), (0, y), (0, c)], [], A) (xot_post A n F f) := by
  have e0 := h.1
  have hn := hC.1.1
  obtain ⟨⟨v1, v2, v3⟩, _⟩ := hC.1.2.2 f f0 f1 hf
  intro m
  induction m with
  | zero => intro x y c h; omega
  | succ m ih =>
    intro x y c hm c0 c1 hx hy
    have h71 : c < n → ∀ x y, inI n F (f / 10) (f % 10) (c + 1) x → ouI n F (f / 10) (f % 10) (c + 1) y → Tm pmt (an_sh wX) o_X6_otherFence 71 ([(2, r), (0, f / 10), (0, f % 10), (0, x), (0, y), (0, c)], [], A) (xot_post A n F f) := fun hc x y hx hy => by
      refine wq_ok srt_Xother (fr := []) (cuts := [8]) (J := fun pc st => (pc = 8 ∧ st = ([(2, r), (0, f / 10), (0, f % 10), (0, x), (0, y), (0, c + 1)], [], A))) ?_ 7 71 _ ?_
      · rintro pc st (⟨rfl, rfl⟩)
        exact ih x y (c + 1) (by omega) (by omega) (by omega) hx hy
      · refine ⟨⟨by omega, by omega⟩, ?_⟩
        exact ⟨rfl, rfl⟩
    refine wq_ok srt_Xother (fr := []) (cuts := [36, 71, 77]) (J := fun pc st => (pc = 77 ∧ ((A r 0) ≤ c) ∧ st = ([(2, r), (0, f / 10), (0, f % 10), (0, x), (0, y), (0, c)], [], A)) ∨ (pc = 71 ∧ (c < (A r 0)) ∧ (c = (f / 10)) ∧ st = ([(2, r), (0, f / 10), (0, f % 10), (0, x), (0, y), (0, c)], [], A)) ∨ (pc = 71 ∧ (c < (A r 0)) ∧ (¬ c = (f / 10)) ∧ (c = (f % 10)) ∧ st = ([(2, r), (0, f / 10), (0, f % 10), (0, x), (0, y), (0, c)], [], A)) ∨ (pc = 36 ∧ (c < (A r 0)) ∧ (¬ c = (f / 10)) ∧ (¬ c = (f % 10)) ∧ ∃ z1 : Int, ((z1 = 1 ∧ side n F c (f / 10)) ∨ (z1 = 0 ∧ ¬ side n F c (f / 10))) ∧ st = ([(2, r), (0, f / 10), (0, f % 10), (0, x), (0, y), (0, c)], [(0, z1)], A))) ?_ 18 8 _ ?_
    · rintro pc st (⟨rfl, h0, rfl⟩ | ⟨rfl, h0, h1, rfl⟩ | ⟨rfl, h0, h1, h2, rfl⟩ | ⟨rfl, h0, h1, h2, z1, hz1, rfl⟩)
      · rw [e0] at h0
        exact xot_77 hC f0 f1 hf h0 hx hy
      · rw [e0] at h0
        exact h71 h0 _ _ (hx.skip (Or.inl (by omega))) (hy.skip (Or.inl (by omega)))
      · rw [e0] at h0
        exact h71 h0 _ _ (hx.skip (Or.inl (by omega))) (hy.skip (Or.inl (by omega)))
      · rw [e0] at h0
        have hcn := h0
        clear h0
        have k1 : ¬ c = f / 10 := by assumption
        have k2 : ¬ c = f % 10 := by assumption
        refine wq_ok srt_Xother (fr := []) (cuts := [46, 71]) (J := fun pc st => (pc = 71 ∧ (z1 = 0) ∧ st = ([(2, r), (0, f / 10), (0, f % 10), (0, x), (0, y), (0, c)], [], A)) ∨ (pc = 46 ∧ (¬ z1 = 0) ∧ ∃ z2 : Int, ((z2 = 1 ∧ side n F c (f % 10)) ∨ (z2 = 0 ∧ ¬ side n F c (f % 10))) ∧ st = ([(2, r), (0, f / 10), (0, f % 10), (0, x), (0, y), (0, c)], [(0, z2)], A))) ?_ 9 36 _ ?_
        · rintro pc st (⟨rfl, h0, rfl⟩ | ⟨rfl, h0, z2, hz2, rfl⟩)
          · have e1 : ¬ side n F (f / 10) c := fun k => absurd (side_sym k) (by rcases hz1 with ⟨e, _⟩ | ⟨_, e⟩; omega; exact e)
            exact h71 hcn _ _ (hx.skip (Or.inr (fun k => e1 k.1))) (hy.skip (Or.inr (fun k => e1 k.1)))
          · have e1 : side n F (f / 10) c := side_sym (by rcases hz1 with ⟨_, e⟩ | ⟨e, _⟩; exact e; omega)
            refine wq_ok srt_Xother (fr := []) (cuts := [71]) (J := fun pc st => (pc = 71 ∧ (z2 = 0) ∧ st = ([(2, r), (0, f / 10), (0, f % 10), (0, x), (0, y), (0, c)], [], A)) ∨ (pc = 71 ∧ (¬ z2 = 0) ∧ (c ≤ (f / 10)) ∧ st = ([(2, r), (0, f / 10), (0, f % 10), (0, x), (0, c), (0, c)], [], A)) ∨ (pc = 71 ∧ (¬ z2 = 0) ∧ ((f / 10) < c) ∧ ((f % 10) ≤ c) ∧ st = ([(2, r), (0, f / 10), (0, f % 10), (0, x), (0, c), (0, c)], [], A)) ∨ (pc = 71 ∧ (¬ z2 = 0) ∧ ((f / 10) < c) ∧ (c < (f % 10)) ∧ st = ([(2, r), (0, f / 10), (0, f % 10), (0, c), (0, y), (0, c)], [], A))) ?_ 15 46 _ ?_
            · rintro pc st (⟨rfl, h0, rfl⟩ | ⟨rfl, h0, h1, rfl⟩ | ⟨rfl, h0, h1, h2, rfl⟩ | ⟨rfl, h0, h1, h2, rfl⟩)
              · have e2 : ¬ side n F (f % 10) c := fun k => absurd (side_sym k) (by rcases hz2 with ⟨e, _⟩ | ⟨_, e⟩; omega; exact e)
                exact h71 hcn _ _ (hx.skip (Or.inr (fun k => e2 k.2))) (hy.skip (Or.inr (fun k => e2 k.2)))
              · have e2 : side n F (f % 10) c := side_sym (by rcases hz2 with ⟨_, e⟩ | ⟨e, _⟩; exact e; omega)
                exact h71 hcn _ _ (hx.skip (Or.inl (by omega))) (Or.inr ⟨⟨by omega, by omega, by omega⟩, e1, e2⟩)
              · have e2 : side n F (f % 10) c := side_sym (by rcases hz2 with ⟨_, e⟩ | ⟨e, _⟩; exact e; omega)
                exact h71 hcn _ _ (hx.skip (Or.inl (by omega))) (Or.inr ⟨⟨by omega, by omega, by omega⟩, e1, e2⟩)
              · have e2 : side n F (f % 10) c := side_sym (by rcases hz2 with ⟨_, e⟩ | ⟨e, _⟩; exact e; omega)
                exact h71 hcn _ _ (Or.inr ⟨⟨by omega, by omega⟩, e1, e2⟩) (hy.skip (Or.inl (by omega)))
            · refine ⟨fun h0 => ?_, fun h0 => ?_⟩
              · exact Or.inl (⟨rfl, h0, rfl⟩)
              · refine ⟨fun h1 => ?_, fun h1 => ?_⟩
                · exact Or.inr (Or.inl (⟨rfl, h0, h1, rfl⟩))
                · refine ⟨fun h2 => ?_, fun h2 => ?_⟩
                  · exact Or.inr (Or.inr (Or.inl (⟨rfl, h0, h1, h2, rfl⟩)))
                  · exact Or.inr (Or.inr (Or.inr (⟨rfl, h0, h1, h2, rfl⟩)))
        · refine ⟨fun h0 => ?_, fun h0 => ?_⟩
          · exact Or.inl (⟨rfl, h0, rfl⟩)
          · refine ⟨rX_9 r0 rk, ?_⟩
            refine (xlinked_ex r0 rk h hC.1 (a := c) (b := f % 10) c0 hcn (by omega) v2).imp ?_
            rintro ⟨r1, C⟩ ⟨q1, z2, q2, hz2⟩
            simp only at q1 q2
            subst q1
            subst q2
            exact Or.inr (⟨rfl, h0, z2, hz2, rfl⟩)
    · refine ⟨oX_9 r0 rk 0 rfl, ?_⟩
      refine ⟨fun h0 => ?_, fun h0 => ?_⟩
      · exact Or.inl (⟨rfl, h0, rfl⟩)
      · refine ⟨fun h1 => ?_, fun h1 => ?_⟩
        · exact Or.inr (Or.inl (⟨rfl, h0, h1, rfl⟩))
        · refine ⟨fun h2 => ?_, fun h2 => ?_⟩
          · exact Or.inr (Or.inr (Or.inl (⟨rfl, h0, h1, h2, rfl⟩)))
          · refine ⟨rX_9 r0 rk, ?_⟩
            refine (xlinked_ex r0 rk h hC.1 (a := c) (b := f / 10) c0 (by rw [← e0]; assumption) (by omega) (by omega)).imp ?_
            rintro ⟨r1, C⟩ ⟨q1, z1, q2, hz1⟩
            simp only at q1 q2
            subst q1
            subst q2
            exact Or.inr (Or.inr (Or.inr (⟨rfl, h0, h1, h2, z1, hz1, rfl⟩)))
theorem xother_ex {A : pm_A} {r n f : Int} {F : Int → Int} (r0 : 0 ≤ r) (rk : wX.2 r = 9) (h : rgX A r n F) (hC : cutS n F) (f0 : 0 ≤ f) (f1 : f < 100) (hf : F f = 1) : Cl pmt (an_sh wX) 60 [(2, r), (0, f / 10), (0, f % 10)] A (xot_post A n F f) := by
  refine Cl.of (Nat.le_of_ble_eq_true rfl) ?_
  refine wq_ok (full := o_X6_otherFence) srt_Xother (fr := []) (cuts := [8]) (J := fun pc st => (pc = 8 ∧ st = ([(2, r), (0, f / 10), (0, f % 10), (0, (-1)), (0, (-1)), (0, 0)], [], A))) ?_ 11 0 _ ?_
  · rintro pc st (⟨rfl, rfl⟩)
    exact xot_8 r0 rk h hC f0 f1 hf _ _ _ 0 (Nat.lt_succ_self _) (by omega) (by omega) (Or.inl ⟨rfl, fun d d0 d1 d2 => by omega⟩) (Or.inl ⟨rfl, fun d d0 d1 d2 => by omega⟩)
  · exact ⟨rfl, rfl⟩
