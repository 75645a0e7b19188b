/-! less, turnRound -/
theorem less_snoc {a : cr_Xp 12} {c : Int} (z : Int × cr_Xp 12) : ∀ l : cr_Pl_ 12, (∃ y ∈ l, y.2 = a) → cr_less (l ++ [z]) a c = cr_less l a c ++ [z]
  | [], h => by obtain ⟨y, hy, _⟩ := h; simp at hy
  | y :: l, h => by
    classical
    show cr_less (y :: (l ++ [z])) a c = cr_less (y :: l) a c ++ [z]
    unfold cr_less
    by_cases e : y.2 = a
    · rw [if_pos e, if_pos e]
      by_cases e1 : y.1 = c
      · rw [if_pos e1, if_pos e1]
      · rw [if_neg e1, if_neg e1]; rfl
    · rw [if_neg e, if_neg e, less_snoc z l (by
        obtain ⟨w, hw, ew⟩ := h
        rcases List.mem_cons.1 hw with rfl | hw
        · exact absurd ew e
        · exact ⟨w, hw, ew⟩)]; rfl
theorem less_none {a : cr_Xp 12} {c : Int} (r : cr_Pl_ 12) : ∀ l : cr_Pl_ 12, (∀ y ∈ l, y.2 ≠ a) → cr_less (l ++ r) a c = l ++ cr_less r a c
  | [], _ => rfl
  | y :: l, h => by
    classical
    show cr_less (y :: (l ++ r)) a c = y :: (l ++ cr_less r a c)
    rw [cr_less, if_neg (h y (by simp)), less_none r l (fun z hz => h z (by simp [hz]))]
theorem less_mod {f : Nat → Int × cr_Xp 12} {t : Nat} {a : cr_Xp 12} {c : Int} (h1 : ∀ q, q < t → (f q).2 ≠ a) (h2 : (f t).2 = a) (h3 : (f t).1 ≠ c) : ∀ m, t < m → cr_less (lsf m f) a c = lsf m (fun q => if q = t then ((f t).1 - c, a) else f q)
  | 0, h => by omega
  | m + 1, h => by
    classical
    rw [lsf_succ, lsf_succ]
    by_cases e : t = m
    · subst e
      rw [less_none [f t] (lsf t f) (fun y hy => by
        obtain ⟨q, hq, rfl⟩ := List.mem_map.1 hy
        exact h1 q (List.mem_range.1 hq))]
      rw [lsf_congr (f := fun q => if q = t then ((f t).1 - c, a) else f q) (g := f) (fun q hq => if_neg (by omega)), if_pos rfl, cr_less, if_pos h2, if_neg h3]
    · rw [less_snoc (f m) (lsf m f) ⟨f t, List.mem_map.2 ⟨t, List.mem_range.2 (by omega), rfl⟩, h2⟩, less_mod h1 h2 h3 m (by omega), if_neg (fun e2 => e e2.symm)]
theorem less_del {f : Nat → Int × cr_Xp 12} {t : Nat} {a : cr_Xp 12} {c : Int} (h1 : ∀ q, q < t → (f q).2 ≠ a) (h2 : (f t).2 = a) (h3 : (f t).1 = c) : ∀ m, t ≤ m → cr_less (lsf (m + 1) f) a c = lsf m (fun q => if q < t then f q else f (q + 1))
  | m, h => by
    classical
    rw [lsf_succ]
    by_cases e : t = m
    · subst e
      rw [less_none [f t] (lsf t f) (fun y hy => by
        obtain ⟨q, hq, rfl⟩ := List.mem_map.1 hy
        exact h1 q (List.mem_range.1 hq))]
      rw [lsf_congr (f := fun q => if q < t then f q else f (q + 1)) (g := f) (fun q hq => if_pos hq), cr_less, if_pos h2, if_pos h3, List.append_nil]
    · cases m with
      | zero => omega
      | succ m =>
        rw [less_snoc (f (m + 1)) (lsf (m + 1) f) ⟨f t, List.mem_map.2 ⟨t, List.mem_range.2 (by omega), rfl⟩, h2⟩, less_del h1 h2 h3 m (by omega), lsf_succ m, if_neg (by omega)]
theorem srt_less : pm_srt o_X10_less = true := by decide +kernel
def le_post (A : pm_A) (s t n : Int) (r : pm_R) : Prop := r.1 = none ∧ gH wM r.2 ∧ (∀ q j, ¬ inS s q j → r.2 q j = A q j) ∧ LSm r.2 s = cr_less (LSm A s) (xe A s t) n
def leI (A B : pm_A) (s t k : Int) : Prop := gH wM B ∧ (∀ r j, ¬ inS s r j → B r j = A r j) ∧ B 1 s = A 1 s - 1 ∧ (∀ q v : Int, 0 ≤ q → q < t → 0 ≤ v → v < 12 → B 2 (200 * s + q) = A 2 (200 * s + q) ∧ B 3 (12 * (200 * s + q) + v) = A 3 (12 * (200 * s + q) + v)) ∧ (∀ q v : Int, t ≤ q → q < k → 0 ≤ v → v < 12 → B 2 (200 * s + q) = A 2 (200 * s + q + 1) ∧ B 3 (12 * (200 * s + q) + v) = A 3 (12 * (200 * s + q + 1) + v)) ∧ ∀ q v : Int, k < q → q < A 1 s → 0 ≤ v → v < 12 → B 2 (200 * s + q) = A 2 (200 * s + q) ∧ B 3 (12 * (200 * s + q) + v) = A 3 (12 * (200 * s + q) + v)
def leJ (A B : pm_A) (s t k u : Int) : Prop := leI A B s t k ∧ B 2 (200 * s + k) = A 2 (200 * s + k + 1) ∧ ∀ v : Int, 0 ≤ v → v < u → B 3 (12 * (200 * s + k) + v) = A 3 (12 * (200 * s + k + 1) + v)
theorem le_89 {A : pm_A} {s t k n : Int} (hs : 0 ≤ s ∧ s ≤ 151) (t0 : 0 ≤ t) (k0 : t ≤ k) (k1 : k + 1 < A 1 s) (m2 : A 1 s ≤ 200) {z : pm_R → Prop} (H : ∀ C v6, leI A C s t (k + 1) → Tm pmt (an_sh wM) o_X10_less 47 ([(2, 0), (0, s), (0, t), (1, n), (9, 0), (0, k + 1), v6], [], C) z) : ∀ (m : Nat) (u : Int) (B : pm_A), (12 - u).toNat < m → 0 ≤ u → u ≤ 12 → leJ A B s t k u → Tm pmt (an_sh wM) o_X10_less 89 ([(2, 0), (0, s), (0, t), (1, n), (9, 0), (0, k), (0, u)], [], B) z := by
  intro m
  induction m with
  | zero => intro u B h; omega
  | succ m ih =>
    intro u B hn u0 u1 hJ
    obtain ⟨⟨g1, g2, g3, g4, g5, g6⟩, g7, g8⟩ := hJ
    have c3 := pM_3 g1
    refine wq_ok srt_less (fr := []) (cuts := [47, 89]) (J := fun pc st => (pc = 47 ∧ (12 ≤ u) ∧ st = ([(2, 0), (0, s), (0, t), (1, n), (9, 0), (0, k + 1), (0, u)], [], B)) ∨ (pc = 89 ∧ (u < 12) ∧ st = ([(2, 0), (0, s), (0, t), (1, n), (9, 0), (0, k), (0, u + 1)], [], pm_upd B (B 0 3) ((12 * ((200 * s) + k)) + u) (B (B 0 3) ((12 * (((200 * s) + k) + 1)) + u))))) ?_ 36 89 _ ?_
    · rintro pc st (⟨rfl, h0, rfl⟩ | ⟨rfl, h0, rfl⟩)
      · refine H B _ ⟨g1, g2, g3, g4, fun q v q0 q1 v0 v1 => ?_, fun q v q0 q1 v0 v1 => g6 q v (by omega) q1 v0 v1⟩
        by_cases hq : q = k
        · rw [hq]; exact ⟨g7, g8 v v0 (by omega)⟩
        · exact g5 q v q0 (by omega) v0 v1
      · rw [c3]
        have b3 := eM_3 g1 (r := 3) (by omega) kn3 (j := 12 * (200 * s + k + 1) + u) (by omega) (by omega)
        refine ih (u + 1) _ (by omega) (by omega) (by omega) ⟨⟨uM_3 g1 kn3 b3.1 b3.2, fun r j hr => ?_, ?_, fun q v q0 q1 v0 v1 => ?_, fun q v q0 q1 v0 v1 => ?_, fun q v q0 q1 v0 v1 => ?_⟩, ?_, fun v v0 v1 => ?_⟩
        · rw [upd_o (fun e => hr (by unfold inS; omega))]; exact g2 r j hr
        · rw [upd_o (by omega)]; exact g3
        · rw [upd_o (by omega), upd_o (by omega)]; exact g4 q v q0 q1 v0 v1
        · rw [upd_o (by omega), upd_o (by omega)]; exact g5 q v q0 q1 v0 v1
        · rw [upd_o (by omega), upd_o (by omega)]; exact g6 q v q0 q1 v0 v1
        · rw [upd_o (by omega)]; exact g7
        · by_cases hv : v = u
          · rw [hv, upd_at]; have := (g6 (k + 1) u (by omega) (by omega) u0 (by omega)).2; rw [show 12 * (200 * s + (k + 1)) + u = 12 * (200 * s + k + 1) + u by omega] at this; exact this
          · rw [upd_o (by omega)]; exact g8 v v0 (by omega)
    · refine ⟨fun h0 => ?_, fun h0 => ?_⟩
      · refine ⟨⟨by omega, by omega⟩, ?_⟩
        exact Or.inl (⟨rfl, h0, rfl⟩)
      · refine ⟨oM_0 (by omega) km0 3 rfl, ?_⟩
        refine ⟨⟨by omega, by omega⟩, ?_⟩
        refine ⟨⟨by omega, by omega⟩, ?_⟩
        refine ⟨⟨by omega, by omega⟩, ?_⟩
        refine ⟨⟨by omega, by omega⟩, ?_⟩
        refine ⟨oM_0 (by omega) km0 3 rfl, ?_⟩
        refine ⟨⟨by omega, by omega⟩, ?_⟩
        refine ⟨⟨by omega, by omega⟩, ?_⟩
        refine ⟨⟨by omega, by omega⟩, ?_⟩
        refine ⟨⟨by omega, by omega⟩, ?_⟩
        refine ⟨⟨by omega, by omega⟩, ?_⟩
        refine ⟨aM_3 (r := B 0 3) (by rw [c3]; omega) (by rw [c3]; exact kn3) (by omega) (by omega), ?_⟩
        have e1 : B (B 0 3) ((12 * (((200 * s) + k) + 1)) + u) = B 3 ((12 * (((200 * s) + k) + 1)) + u) := by rw [c3]
        refine ⟨tM_3 (r := B 0 3) (by rw [c3]; omega) (by rw [c3]; exact kn3) (by omega) (by omega) rfl, ?_⟩
        refine ⟨⟨by omega, by omega⟩, ?_⟩
        exact Or.inr (⟨rfl, h0, rfl⟩)
theorem le_47 {A : pm_A} {s t n : Int} (hs : 0 ≤ s ∧ s ≤ 151) (t0 : 0 ≤ t) (t1 : t < A 1 s) (m2 : A 1 s ≤ 200) {z : pm_R → Prop} (H : ∀ C, leI A C s t (A 1 s - 1) → z (none, C)) : ∀ (m : Nat) (k : Int) (v6 : pm_V) (B : pm_A), (A 1 s - k).toNat < m → t ≤ k → k ≤ A 1 s - 1 → leI A B s t k → Tm pmt (an_sh wM) o_X10_less 47 ([(2, 0), (0, s), (0, t), (1, n), (9, 0), (0, k), v6], [], B) z := by
  intro m
  induction m with
  | zero => intro k v6 B h; omega
  | succ m ih =>
    intro k v6 B hn k0 k1 hI
    have hI0 := hI
    obtain ⟨g1, g2, g3, g4, g5, g6⟩ := hI
    have c1 := pM_1 g1
    have c2 := pM_2 g1
    have hk : A 1 s - 1 ≤ k → leI A B s t (A 1 s - 1) := fun h => by rw [show A 1 s - 1 = k by omega]; exact hI0
    refine wq_ok srt_less (fr := []) (cuts := [89]) (J := fun pc st => (pc = 89 ∧ (k < (B (B 0 1) s)) ∧ st = ([(2, 0), (0, s), (0, t), (1, n), (9, 0), (0, k), (0, 0)], [], pm_upd B (B 0 2) ((200 * s) + k) (B (B 0 2) (((200 * s) + k) + 1))))) ?_ 31 47 _ ?_
    · rintro pc st (⟨rfl, h0, rfl⟩)
      rw [c2]
      rw [c1, g3] at h0
      have b2 := eM_2 g1 (r := 2) (by omega) kn2 (j := 200 * s + k + 1) (by omega) (by omega)
      refine le_89 hs t0 k0 (by omega) m2 (fun C v6 hC => ih (k + 1) v6 C (by omega) (by omega) (by omega) hC) _ 0 _ (Nat.lt_succ_self _) (by omega) (by omega) ⟨⟨uM_2 g1 kn2 b2.1 b2.2, fun r j hr => ?_, ?_, fun q v q0 q1 v0 v1 => ?_, fun q v q0 q1 v0 v1 => ?_, fun q v q0 q1 v0 v1 => ?_⟩, ?_, fun v v0 v1 => by omega⟩
      · rw [upd_o (fun e => hr (by unfold inS; omega))]; exact g2 r j hr
      · rw [upd_o (by omega)]; exact g3
      · rw [upd_o (by omega), upd_o (by omega)]; exact g4 q v q0 q1 v0 v1
      · rw [upd_o (by omega), upd_o (by omega)]; exact g5 q v q0 q1 v0 v1
      · rw [upd_o (by omega), upd_o (by omega)]; exact g6 q v q0 q1 v0 v1
      · rw [upd_at]; have := (g6 (k + 1) 0 (by omega) (by omega) (by omega) (by omega)).1; rw [show 200 * s + (k + 1) = 200 * s + k + 1 by omega] at this; exact this
    · refine ⟨oM_0 (by omega) km0 1 rfl, ?_⟩
      refine ⟨aM_1 (r := B 0 1) (by rw [c1]; omega) (by rw [c1]; exact kn1) (by omega) (by omega), ?_⟩
      have e1 : B (B 0 1) s = B 1 s := by rw [c1]
      refine ⟨fun h0 => ?_, fun h0 => ?_⟩
      · exact H B (hk (by rw [c1, g3] at h0; exact h0))
      · refine ⟨oM_0 (by omega) km0 2 rfl, ?_⟩
        refine ⟨⟨by omega, by omega⟩, ?_⟩
        refine ⟨⟨by omega, by omega⟩, ?_⟩
        refine ⟨oM_0 (by omega) km0 2 rfl, ?_⟩
        refine ⟨⟨by omega, by omega⟩, ?_⟩
        refine ⟨⟨by omega, by omega⟩, ?_⟩
        refine ⟨⟨by omega, by omega⟩, ?_⟩
        refine ⟨aM_2 (r := B 0 2) (by rw [c2]; omega) (by rw [c2]; exact kn2) (by omega) (by omega), ?_⟩
        have e2 : B (B 0 2) (((200 * s) + k) + 1) = B 2 (((200 * s) + k) + 1) := by rw [c2]
        refine ⟨tM_2 (r := B 0 2) (by rw [c2]; omega) (by rw [c2]; exact kn2) (by omega) (by omega) rfl, ?_⟩
        exact ⟨rfl, h0, rfl⟩
theorem le_16 {A : pm_A} {s t n : Int} (hA : gH wM A) (hs : 0 ≤ s ∧ s ≤ 151) (t0 : 0 ≤ t) (t1 : t < A 1 s) (hsr : srtd A s) (hr : r64 (A 2 (200 * s + t) - n)) : Tm pmt (an_sh wM) o_X10_less 16 ([(2, 0), (0, s), (0, t), (1, n), (9, 0), (9, 0), (9, 0)], [], pm_upd A 2 (200 * s + t) (A 2 (200 * s + t) - n)) (le_post A s t n) := by
  have m1 := eM_1 hA (r := 1) (by omega) kn1 hs.1 (show s < 152 by omega)
  have hne : ∀ q : Nat, q < t.toNat → (fa A s q).2 ≠ xe A s t := fun q hq e => cr_Gt.irrefl _ (e ▸ hsr q t (by omega) (by omega) t1)
  have het : (fa A s t.toNat).2 = xe A s t := by show xe A s ((t.toNat : Nat) : Int) = _; rw [Int.toNat_of_nonneg t0]
  have hft : (fa A s t.toNat).1 = A 2 (200 * s + t) := by show A 2 (200 * s + ((t.toNat : Nat) : Int)) = _; rw [Int.toNat_of_nonneg t0]
  have hB : gH wM (pm_upd A 2 (200 * s + t) (A 2 (200 * s + t) - n)) := uM_2 hA kn2 hr.1 hr.2
  have hB2 : ∀ r j, ¬ inS s r j → pm_upd A 2 (200 * s + t) (A 2 (200 * s + t) - n) r j = A r j := fun r j h => upd_o (fun e => h (by unfold inS; omega))
  have hBt : pm_upd A 2 (200 * s + t) (A 2 (200 * s + t) - n) 2 (200 * s + t) = A 2 (200 * s + t) - n := upd_at
  have hBq : ∀ q : Int, q ≠ t → pm_upd A 2 (200 * s + t) (A 2 (200 * s + t) - n) 2 (200 * s + q) = A 2 (200 * s + q) := fun q h => upd_o (by omega)
  have hBx : ∀ j : Int, pm_upd A 2 (200 * s + t) (A 2 (200 * s + t) - n) 3 j = A 3 j := fun j => upd_o (by omega)
  have hBm : pm_upd A 2 (200 * s + t) (A 2 (200 * s + t) - n) 1 s = A 1 s := upd_o (by omega)
  revert hB hB2 hBt hBq hBx hBm
  generalize pm_upd A 2 (200 * s + t) (A 2 (200 * s + t) - n) = B
  intro hB hB2 hBt hBq hBx hBm
  have c1 := pM_1 hB
  have c2 := pM_2 hB
  have hmod : A 2 (200 * s + t) - n ≠ 0 → le_post A s t n (none, B) := fun h => ⟨rfl, hB, hB2, by
    show LSm B s = _
    rw [LSm_fa, LSm_fa, less_mod hne het (by rw [hft]; omega) _ (by omega), hBm]
    refine lsf_congr (fun q hq => ?_)
    by_cases e : q = t.toNat
    · rw [if_pos e, hft]
      refine Prod.ext ?_ (funext fun v => ?_)
      · show B 2 (200 * s + (q : Int)) = A 2 (200 * s + t) - n
        rw [show (q : Int) = t by omega]; exact hBt
      · show B 3 (12 * (200 * s + (q : Int)) + (v.1 : Int)) = A 3 (12 * (200 * s + t) + (v.1 : Int))
        rw [show (q : Int) = t by omega]; exact hBx _
    · rw [if_neg e]
      exact Prod.ext (hBq q (by omega)) (funext fun v => hBx _)⟩
  have hdel : A 2 (200 * s + t) - n = 0 → ∀ C, leI B C s t (B 1 s - 1) → le_post A s t n (none, C) := fun h C hC => by
    obtain ⟨d1, d2, d3, d4, d5, d6⟩ := hC
    refine ⟨rfl, d1, fun q j hq => (d2 q j hq).trans (hB2 q j hq), ?_⟩
    show LSm C s = _
    rw [LSm_fa, LSm_fa, show (A 1 s).toNat = (A 1 s - 1).toNat + 1 by omega, less_del hne het (by rw [hft]; omega) _ (by omega), d3, hBm]
    refine lsf_congr (fun q hq => ?_)
    by_cases e : q < t.toNat
    · rw [if_pos e]
      have hq2 := fun v : Int => d4 q v (by omega) (by omega)
      refine Prod.ext ?_ (funext fun v => ?_)
      · exact ((hq2 0 (by omega) (by omega)).1).trans (hBq q (by omega))
      · exact ((hq2 v.1 (by omega) (by have := v.2; omega)).2).trans (hBx _)
    · rw [if_neg e]
      have hq2 := fun v : Int => d5 q v (by omega) (by omega)
      refine Prod.ext ?_ (funext fun v => ?_)
      · show C 2 (200 * s + (q : Int)) = A 2 (200 * s + ((q + 1 : Nat) : Int))
        rw [(hq2 0 (by omega) (by omega)).1, show 200 * s + (q : Int) + 1 = 200 * s + ((q : Int) + 1) by omega, hBq _ (by omega)]
        congr 1
      · show C 3 (12 * (200 * s + (q : Int)) + (v.1 : Int)) = A 3 (12 * (200 * s + ((q + 1 : Nat) : Int)) + (v.1 : Int))
        rw [(hq2 v.1 (by omega) (by have := v.2; omega)).2, hBx]
        congr 1
        omega
  refine wq_ok srt_less (fr := []) (cuts := [47]) (J := fun pc st => (pc = 47 ∧ ((B (B 0 2) ((200 * s) + t)) = 0) ∧ st = ([(2, 0), (0, s), (0, t), (1, n), (9, 0), (0, t), (9, 0)], [], pm_upd B (B 0 1) s ((B (B 0 1) s) - 1)))) ?_ 26 16 _ ?_
  · rintro pc st (⟨rfl, h0, rfl⟩)
    rw [c1]
    rw [c2] at h0
    refine le_47 (A := B) hs t0 (by omega) (by omega) (hdel (by omega)) _ _ _ _ (Nat.lt_succ_self _) (by omega) (by omega) ⟨uM_1 hB kn1 (by omega) (by omega), fun r j hr => upd_o (fun e => hr (by unfold inS; omega)), upd_at, fun q v q0 q1 v0 v1 => ⟨upd_o (by omega), upd_o (by omega)⟩, fun q v q0 q1 v0 v1 => by omega, fun q v q0 q1 v0 v1 => ⟨upd_o (by omega), upd_o (by omega)⟩⟩
  · refine ⟨oM_0 (by omega) km0 2 rfl, ?_⟩
    refine ⟨⟨by omega, by omega⟩, ?_⟩
    refine ⟨⟨by omega, by omega⟩, ?_⟩
    refine ⟨aM_2 (r := B 0 2) (by rw [c2]; omega) (by rw [c2]; exact kn2) (by omega) (by omega), ?_⟩
    have e1 : B (B 0 2) ((200 * s) + t) = B 2 ((200 * s) + t) := by rw [c2]
    refine ⟨fun h0 => ?_, fun h0 => ?_, fun h0 => ?_⟩
    · refine ⟨fun hh => absurd hh (by decide), fun _ => ?_⟩
      exact hmod (by omega)
    · refine ⟨fun _ => ?_, fun hh => absurd hh (by decide)⟩
      refine ⟨oM_0 (by omega) km0 1 rfl, ?_⟩
      refine ⟨aM_1 (r := B 0 1) (by rw [c1]; omega) (by rw [c1]; exact kn1) (by omega) (by omega), ?_⟩
      have e2 : B (B 0 1) s = B 1 s := by rw [c1]
      refine ⟨⟨by omega, by omega⟩, ?_⟩
      refine ⟨tM_1 (r := B 0 1) (by rw [c1]; omega) (by rw [c1]; exact kn1) (by omega) (by omega) rfl, ?_⟩
      exact ⟨rfl, h0, rfl⟩
    · refine ⟨fun hh => absurd hh (by decide), fun _ => ?_⟩
      exact hmod (by omega)
theorem less_ex {A : pm_A} {s t n : Int} (hA : gH wM A) (hs : 0 ≤ s ∧ s ≤ 151) (t0 : 0 ≤ t) (t1 : t < A 1 s) (hsr : srtd A s) (hr : r64 (A 2 (200 * s + t) - n)) : Cl pmt (an_sh wM) 164 [(2, 0), (0, s), (0, t), (1, n)] A (le_post A s t n) := by
  have m1 := eM_1 hA (r := 1) (by omega) kn1 hs.1 (show s < 152 by omega)
  have c2 := pM_2 hA
  refine Cl.of (Nat.le_of_ble_eq_true rfl) ?_
  refine wq_ok (full := o_X10_less) srt_less (fr := []) (cuts := [16]) (J := fun pc st => (pc = 16 ∧ st = ([(2, 0), (0, s), (0, t), (1, n), (9, 0), (9, 0), (9, 0)], [], pm_upd A (A 0 2) ((200 * s) + t) ((A (A 0 2) ((200 * s) + t)) - n)))) ?_ 17 0 _ ?_
  · rintro pc st (⟨rfl, rfl⟩)
    rw [c2]
    exact le_16 hA hs t0 t1 hsr hr
  · refine ⟨oM_0 (by omega) km0 2 rfl, ?_⟩
    refine ⟨⟨by omega, by omega⟩, ?_⟩
    refine ⟨⟨by omega, by omega⟩, ?_⟩
    refine ⟨aM_2 (r := A 0 2) (by rw [c2]; omega) (by rw [c2]; exact kn2) (by omega) (by omega), ?_⟩
    have e1 : A (A 0 2) ((200 * s) + t) = A 2 ((200 * s) + t) := by rw [c2]
    refine ⟨(by rw [e1]; exact hr), ?_⟩
    refine ⟨tM_2 (r := A 0 2) (by rw [c2]; omega) (by rw [c2]; exact kn2) (by omega) (by omega) rfl, ?_⟩
    exact ⟨rfl, rfl⟩
theorem lsf_cons (m : Nat) (f : Nat → Int × cr_Xp 12) : lsf (m + 1) f = f 0 :: lsf m (fun q => f (q + 1)) := by
  unfold lsf
  rw [List.range_succ_eq_map, List.map_cons, List.map_map]
  rfl
theorem lsf_rev : ∀ (m : Nat) (f : Nat → Int × cr_Xp 12), lsf m (fun q => f (m - 1 - q)) = (lsf m f).reverse
  | 0, f => rfl
  | m + 1, f => by
    rw [lsf_cons, lsf_succ, List.reverse_append, ← lsf_rev m f]
    show f (m + 1 - 1 - 0) :: _ = [f m] ++ _
    rw [show m + 1 - 1 - 0 = m by omega]
    show _ :: _ = f m :: _
    congr 1
    refine lsf_congr (fun q hq => ?_)
    show f (m + 1 - 1 - (q + 1)) = f (m - 1 - q)
    congr 1
    omega
theorem srt_turnRound : pm_srt o_X10_turnRound = true := by decide +kernel
def tr_post (A : pm_A) (s : Int) (r : pm_R) : Prop := r.1 = none ∧ gH wM r.2 ∧ (∀ q j, ¬ inS s q j → r.2 q j = A q j) ∧ LSm r.2 s = (LSm A s).reverse
def trI (A B : pm_A) (s t : Int) : Prop := gH wM B ∧ (∀ r j, ¬ inS s r j → B r j = A r j) ∧ B 1 s = A 1 s ∧ (∀ q v : Int, 0 ≤ q → q < A 1 s → (q < t ∨ A 1 s - 1 - t < q) → 0 ≤ v → v < 12 → B 2 (200 * s + q) = A 2 (200 * s + (A 1 s - 1 - q)) ∧ B 3 (12 * (200 * s + q) + v) = A 3 (12 * (200 * s + (A 1 s - 1 - q)) + v)) ∧ ∀ q v : Int, t ≤ q → q ≤ A 1 s - 1 - t → 0 ≤ v → v < 12 → B 2 (200 * s + q) = A 2 (200 * s + q) ∧ B 3 (12 * (200 * s + q) + v) = A 3 (12 * (200 * s + q) + v)
def trJ (A B : pm_A) (s t w : Int) : Prop := gH wM B ∧ (∀ r j, ¬ inS s r j → B r j = A r j) ∧ B 1 s = A 1 s ∧ (∀ q v : Int, 0 ≤ q → q < A 1 s → (q < t ∨ A 1 s - 1 - t < q) → 0 ≤ v → v < 12 → B 2 (200 * s + q) = A 2 (200 * s + (A 1 s - 1 - q)) ∧ B 3 (12 * (200 * s + q) + v) = A 3 (12 * (200 * s + (A 1 s - 1 - q)) + v)) ∧ (∀ q v : Int, t < q → q < A 1 s - 1 - t → 0 ≤ v → v < 12 → B 2 (200 * s + q) = A 2 (200 * s + q) ∧ B 3 (12 * (200 * s + q) + v) = A 3 (12 * (200 * s + q) + v)) ∧ (B 2 (200 * s + t) = A 2 (200 * s + (A 1 s - 1 - t)) ∧ B 2 (200 * s + (A 1 s - 1 - t)) = A 2 (200 * s + t)) ∧ (∀ v : Int, 0 ≤ v → v < w → B 3 (12 * (200 * s + t) + v) = A 3 (12 * (200 * s + (A 1 s - 1 - t)) + v) ∧ B 3 (12 * (200 * s + (A 1 s - 1 - t)) + v) = A 3 (12 * (200 * s + t) + v)) ∧ ∀ v : Int, w ≤ v → v < 12 → B 3 (12 * (200 * s + t) + v) = A 3 (12 * (200 * s + t) + v) ∧ B 3 (12 * (200 * s + (A 1 s - 1 - t)) + v) = A 3 (12 * (200 * s + (A 1 s - 1 - t)) + v)
theorem tr_82 {A : pm_A} {s t n : Int} (hs : 0 ≤ s ∧ s ≤ 151) (t0 : 0 ≤ t) (t1 : 2 * t < A 1 s - 1) (m2 : A 1 s ≤ 200) {z : pm_R → Prop} (H : ∀ C v3 v6 v7, trI A C s (t + 1) → Tm pmt (an_sh wM) o_X10_turnRound 2 ([(2, 0), (0, s), (0, t + 1), v3, (1, n), (9, 0), v6, v7], [], C) z) : ∀ (m : Nat) (w : Int) (v7 : pm_V) (B : pm_A), (12 - w).toNat < m → 0 ≤ w → w ≤ 12 → trJ A B s t w → Tm pmt (an_sh wM) o_X10_turnRound 82 ([(2, 0), (0, s), (0, t), (0, A 1 s - 1 - t), (1, n), (9, 0), (0, w), v7], [], B) z := by
  intro m
  induction m with
  | zero => intro w v7 B h; omega
  | succ m ih =>
    intro w v7 B hn w0 w1 hJ
    obtain ⟨g1, g2, g3, g4, g5, g6, g7, g8⟩ := hJ
    have c3 := pM_3 g1
    have c3p : ∀ x : Int, pm_upd B (B 0 3) (12 * (200 * s + t) + w) x 0 3 = 3 := fun x => by rw [c3, upd_o (by omega)]; exact c3
    refine wq_ok srt_turnRound (fr := []) (cuts := [2, 82]) (J := fun pc st => (pc = 2 ∧ (12 ≤ w) ∧ st = ([(2, 0), (0, s), (0, t + 1), (0, A 1 s - 1 - t), (1, n), (9, 0), (0, w), v7], [], B)) ∨ (pc = 82 ∧ (w < 12) ∧ st = ([(2, 0), (0, s), (0, t), (0, A 1 s - 1 - t), (1, n), (9, 0), (0, w + 1), (0, B (B 0 3) ((12 * ((200 * s) + t)) + w))], [], pm_upd (pm_upd B (B 0 3) ((12 * ((200 * s) + t)) + w) (B (B 0 3) ((12 * ((200 * s) + (A 1 s - 1 - t))) + w))) ((pm_upd B (B 0 3) ((12 * ((200 * s) + t)) + w) (B (B 0 3) ((12 * ((200 * s) + (A 1 s - 1 - t))) + w))) 0 3) ((12 * ((200 * s) + (A 1 s - 1 - t))) + w) (B (B 0 3) ((12 * ((200 * s) + t)) + w))))) ?_ 60 82 _ ?_
    · rintro pc st (⟨rfl, h0, rfl⟩ | ⟨rfl, h0, rfl⟩)
      · refine H B _ _ _ ⟨g1, g2, g3, fun q v q0 q1 hq v0 v1 => ?_, fun q v q0 q1 v0 v1 => g5 q v (by omega) (by omega) v0 v1⟩
        by_cases e1 : q = t
        · rw [e1]; exact ⟨g6.1, (g7 v v0 (by omega)).1⟩
        · by_cases e2 : q = A 1 s - 1 - t
          · rw [e2, show A 1 s - 1 - (A 1 s - 1 - t) = t by omega]; exact ⟨g6.2, (g7 v v0 (by omega)).2⟩
          · exact g4 q v q0 q1 (by omega) v0 v1
      · rw [c3p, c3]
        have b3 := eM_3 g1 (r := 3) (by omega) kn3 (j := 12 * (200 * s + (A 1 s - 1 - t)) + w) (by omega) (by omega)
        have b4 := eM_3 g1 (r := 3) (by omega) kn3 (j := 12 * (200 * s + t) + w) (by omega) (by omega)
        have hw := g8 w (by omega) h0
        refine ih (w + 1) _ _ (by omega) (by omega) (by omega) ⟨uM_3 (uM_3 g1 kn3 b3.1 b3.2) kn3 b4.1 b4.2, fun r j hr => ?_, ?_, fun q v q0 q1 hq v0 v1 => ?_, fun q v q0 q1 v0 v1 => ?_, ?_, fun v v0 v1 => ?_, fun v v0 v1 => ?_⟩
        · rw [upd_o (fun e => hr (by unfold inS; omega)), upd_o (fun e => hr (by unfold inS; omega))]; exact g2 r j hr
        · rw [upd_o (by omega), upd_o (by omega)]; exact g3
        · rw [upd_o (by omega), upd_o (by omega), upd_o (by omega), upd_o (by omega)]; exact g4 q v q0 q1 hq v0 v1
        · rw [upd_o (by omega), upd_o (by omega), upd_o (by omega), upd_o (by omega)]; exact g5 q v q0 q1 v0 v1
        · rw [upd_o (by omega), upd_o (by omega), upd_o (by omega), upd_o (by omega)]; exact g6
        · by_cases hv : v = w
          · rw [hv, upd_at, upd_o (by omega), upd_at, hw.1, hw.2]; exact ⟨rfl, rfl⟩
          · rw [upd_o (by omega), upd_o (by omega), upd_o (by omega), upd_o (by omega)]; exact g7 v v0 (by omega)
        · rw [upd_o (by omega), upd_o (by omega), upd_o (by omega), upd_o (by omega)]; exact g8 v (by omega) v1
    · refine ⟨fun h0 => ?_, fun h0 => ?_⟩
      · refine ⟨⟨by omega, by omega⟩, ?_⟩
        exact Or.inl (⟨rfl, h0, rfl⟩)
      · refine ⟨oM_0 (by omega) km0 3 rfl, ?_⟩
        refine ⟨⟨by omega, by omega⟩, ?_⟩
        refine ⟨⟨by omega, by omega⟩, ?_⟩
        refine ⟨⟨by omega, by omega⟩, ?_⟩
        refine ⟨⟨by omega, by omega⟩, ?_⟩
        refine ⟨aM_3 (r := B 0 3) (by first | rw [c3]; omega | rw [c3p]; omega) (by first | rw [c3]; exact kn3 | rw [c3p]; exact kn3) (by omega) (by omega), ?_⟩
        have e1 : B (B 0 3) ((12 * ((200 * s) + t)) + w) = B 3 ((12 * ((200 * s) + t)) + w) := by rw [c3]
        refine ⟨oM_0 (by omega) km0 3 rfl, ?_⟩
        refine ⟨⟨by omega, by omega⟩, ?_⟩
        refine ⟨⟨by omega, by omega⟩, ?_⟩
        refine ⟨⟨by omega, by omega⟩, ?_⟩
        refine ⟨⟨by omega, by omega⟩, ?_⟩
        refine ⟨oM_0 (by omega) km0 3 rfl, ?_⟩
        refine ⟨⟨by omega, by omega⟩, ?_⟩
        refine ⟨⟨by omega, by omega⟩, ?_⟩
        refine ⟨⟨by omega, by omega⟩, ?_⟩
        refine ⟨⟨by omega, by omega⟩, ?_⟩
        refine ⟨aM_3 (r := B 0 3) (by first | rw [c3]; omega | rw [c3p]; omega) (by first | rw [c3]; exact kn3 | rw [c3p]; exact kn3) (by omega) (by omega), ?_⟩
        have e2 : B (B 0 3) ((12 * ((200 * s) + (A 1 s - 1 - t))) + w) = B 3 ((12 * ((200 * s) + (A 1 s - 1 - t))) + w) := by rw [c3]
        refine ⟨tM_3 (r := B 0 3) (by first | rw [c3]; omega | rw [c3p]; omega) (by first | rw [c3]; exact kn3 | rw [c3p]; exact kn3) (by omega) (by omega) rfl, ?_⟩
        refine ⟨oM_0 (by omega) km0 3 rfl, ?_⟩
        refine ⟨⟨by omega, by omega⟩, ?_⟩
        refine ⟨⟨by omega, by omega⟩, ?_⟩
        refine ⟨⟨by omega, by omega⟩, ?_⟩
        refine ⟨⟨by omega, by omega⟩, ?_⟩
        refine ⟨tM_3 (r := (pm_upd B (B 0 3) ((12 * ((200 * s) + t)) + w) (B (B 0 3) ((12 * ((200 * s) + (A 1 s - 1 - t))) + w))) 0 3) (by first | rw [c3]; omega | rw [c3p]; omega) (by first | rw [c3]; exact kn3 | rw [c3p]; exact kn3) (by omega) (by omega) rfl, ?_⟩
        refine ⟨⟨by omega, by omega⟩, ?_⟩
        exact Or.inr (⟨rfl, h0, rfl⟩)
theorem tr_2 {A : pm_A} {s : Int} (hA : gH wM A) (hs : 0 ≤ s ∧ s ≤ 151) : ∀ (m : Nat) (t : Int) (v3 v4 v5 v6 v7 : pm_V) (B : pm_A), (A 1 s - t).toNat < m → 0 ≤ t → t ≤ A 1 s → trI A B s t → Tm pmt (an_sh wM) o_X10_turnRound 2 ([(2, 0), (0, s), (0, t), v3, v4, v5, v6, v7], [], B) (tr_post A s) := by
  have m1 := eM_1 hA (r := 1) (by omega) kn1 hs.1 (show s < 152 by omega)
  intro m
  induction m with
  | zero => intro t v3 v4 v5 v6 v7 B h; omega
  | succ m ih =>
    intro t v3 v4 v5 v6 v7 B hn t0 t1 hI
    obtain ⟨g1, g2, g3, g4, g5⟩ := hI
    have c1 := pM_1 g1
    have c2 := pM_2 g1
    have c2p : ∀ x y : Int, pm_upd B (B 0 2) x y 0 2 = 2 := fun x y => by rw [c2, upd_o (by omega)]; exact c2
    have hfin : A 1 s - 1 ≤ 2 * t → LSm B s = (LSm A s).reverse := fun h => by
      rw [LSm_fa, LSm_fa, ← lsf_rev, g3]
      refine lsf_congr (fun q hq => ?_)
      have hall : ∀ v : Int, 0 ≤ v → v < 12 → B 2 (200 * s + (q : Int)) = A 2 (200 * s + (A 1 s - 1 - (q : Int))) ∧ B 3 (12 * (200 * s + (q : Int)) + v) = A 3 (12 * (200 * s + (A 1 s - 1 - (q : Int))) + v) := fun v v0 v1 => by
        by_cases hq2 : (q : Int) < t ∨ A 1 s - 1 - t < (q : Int)
        · exact g4 q v (by omega) (by omega) hq2 v0 v1
        · have := g5 q v (by omega) (by omega) v0 v1
          rw [show A 1 s - 1 - (q : Int) = (q : Int) by omega]
          exact this
      have hc : (((A 1 s).toNat - 1 - q : Nat) : Int) = A 1 s - 1 - (q : Int) := by omega
      refine Prod.ext ?_ (funext fun v => ?_)
      · show B 2 (200 * s + (q : Int)) = A 2 (200 * s + (((A 1 s).toNat - 1 - q : Nat) : Int))
        rw [hc]; exact (hall 0 (by omega) (by omega)).1
      · show B 3 (12 * (200 * s + (q : Int)) + (v.1 : Int)) = A 3 (12 * (200 * s + (((A 1 s).toNat - 1 - q : Nat) : Int)) + (v.1 : Int))
        rw [hc]; exact (hall v.1 (by omega) (by have := v.2; omega)).2
    refine wq_ok srt_turnRound (fr := []) (cuts := [82]) (J := fun pc st => (pc = 82 ∧ ((2 * t) < ((B (B 0 1) s) - 1)) ∧ st = ([(2, 0), (0, s), (0, t), (0, ((B (B 0 1) s) - 1) - t), (1, B (B 0 2) ((200 * s) + t)), (9, 0), (0, 0), v7], [], pm_upd (pm_upd B (B 0 2) ((200 * s) + t) (B (B 0 2) ((200 * s) + (((B (B 0 1) s) - 1) - t)))) ((pm_upd B (B 0 2) ((200 * s) + t) (B (B 0 2) ((200 * s) + (((B (B 0 1) s) - 1) - t)))) 0 2) ((200 * s) + (((B (B 0 1) s) - 1) - t)) (B (B 0 2) ((200 * s) + t))))) ?_ 60 2 _ ?_
    · rintro pc st (⟨rfl, h0, rfl⟩)
      rw [c1, g3] at h0
      rw [c2p, c1, g3, c2]
      have b2 := eM_2 g1 (r := 2) (by omega) kn2 (j := 200 * s + (A 1 s - 1 - t)) (by omega) (by omega)
      have b3 := eM_2 g1 (r := 2) (by omega) kn2 (j := 200 * s + t) (by omega) (by omega)
      have r1 := g5 t 0 (by omega) (by omega) (by omega) (by omega)
      have r2 := g5 (A 1 s - 1 - t) 0 (by omega) (by omega) (by omega) (by omega)
      refine tr_82 hs t0 (by omega) m1.2 (fun C v3 v6 v7 hC => ih (t + 1) _ _ _ _ _ C (by omega) (by omega) (by omega) hC) _ 0 _ _ (Nat.lt_succ_self _) (by omega) (by omega) ⟨uM_2 (uM_2 g1 kn2 b2.1 b2.2) kn2 b3.1 b3.2, fun r j hr => ?_, ?_, fun q v q0 q1 hq v0 v1 => ?_, fun q v q0 q1 v0 v1 => ?_, ?_, fun v v0 v1 => by omega, fun v v0 v1 => ?_⟩
      · rw [upd_o (fun e => hr (by unfold inS; omega)), upd_o (fun e => hr (by unfold inS; omega))]; exact g2 r j hr
      · rw [upd_o (by omega), upd_o (by omega)]; exact g3
      · rw [upd_o (by omega), upd_o (by omega), upd_o (by omega), upd_o (by omega)]; exact g4 q v q0 q1 hq v0 v1
      · rw [upd_o (by omega), upd_o (by omega), upd_o (by omega), upd_o (by omega)]; exact g5 q v (by omega) (by omega) v0 v1
      · rw [upd_at, upd_o (by omega), upd_at, r1.1, r2.1]; exact ⟨rfl, rfl⟩
      · rw [upd_o (by omega), upd_o (by omega), upd_o (by omega), upd_o (by omega)]; exact ⟨(g5 t v (by omega) (by omega) (by omega) v1).2, (g5 (A 1 s - 1 - t) v (by omega) (by omega) (by omega) v1).2⟩
    · refine ⟨⟨by omega, by omega⟩, ?_⟩
      refine ⟨oM_0 (by omega) km0 1 rfl, ?_⟩
      refine ⟨aM_1 (r := B 0 1) (by rw [c1]; omega) (by rw [c1]; exact kn1) (by omega) (by omega), ?_⟩
      have e1 : B (B 0 1) s = B 1 s := by rw [c1]
      refine ⟨⟨by omega, by omega⟩, ?_⟩
      refine ⟨fun h0 => ?_, fun h0 => ?_⟩
      · exact ⟨rfl, g1, g2, hfin (by rw [c1, g3] at h0; omega)⟩
      · refine ⟨oM_0 (by omega) km0 1 rfl, ?_⟩
        refine ⟨aM_1 (r := B 0 1) (by rw [c1]; omega) (by rw [c1]; exact kn1) (by omega) (by omega), ?_⟩
        have e2 : B (B 0 1) s = B 1 s := by rw [c1]
        refine ⟨⟨by omega, by omega⟩, ?_⟩
        refine ⟨⟨by omega, by omega⟩, ?_⟩
        refine ⟨oM_0 (by omega) km0 2 rfl, ?_⟩
        refine ⟨⟨by omega, by omega⟩, ?_⟩
        refine ⟨⟨by omega, by omega⟩, ?_⟩
        refine ⟨aM_2 (r := B 0 2) (by first | rw [c2]; omega | rw [c2p]; omega) (by first | rw [c2]; exact kn2 | rw [c2p]; exact kn2) (by omega) (by omega), ?_⟩
        have e3 : B (B 0 2) ((200 * s) + t) = B 2 ((200 * s) + t) := by rw [c2]
        refine ⟨oM_0 (by omega) km0 2 rfl, ?_⟩
        refine ⟨⟨by omega, by omega⟩, ?_⟩
        refine ⟨⟨by omega, by omega⟩, ?_⟩
        refine ⟨oM_0 (by omega) km0 2 rfl, ?_⟩
        refine ⟨⟨by omega, by omega⟩, ?_⟩
        refine ⟨⟨by omega, by omega⟩, ?_⟩
        refine ⟨aM_2 (r := B 0 2) (by first | rw [c2]; omega | rw [c2p]; omega) (by first | rw [c2]; exact kn2 | rw [c2p]; exact kn2) (by omega) (by omega), ?_⟩
        have e4 : B (B 0 2) ((200 * s) + (((B (B 0 1) s) - 1) - t)) = B 2 ((200 * s) + (((B (B 0 1) s) - 1) - t)) := by rw [c2]
        refine ⟨tM_2 (r := B 0 2) (by first | rw [c2]; omega | rw [c2p]; omega) (by first | rw [c2]; exact kn2 | rw [c2p]; exact kn2) (by omega) (by omega) rfl, ?_⟩
        refine ⟨oM_0 (by omega) km0 2 rfl, ?_⟩
        refine ⟨⟨by omega, by omega⟩, ?_⟩
        refine ⟨⟨by omega, by omega⟩, ?_⟩
        refine ⟨tM_2 (r := (pm_upd B (B 0 2) ((200 * s) + t) (B (B 0 2) ((200 * s) + (((B (B 0 1) s) - 1) - t)))) 0 2) (by first | rw [c2]; omega | rw [c2p]; omega) (by first | rw [c2]; exact kn2 | rw [c2p]; exact kn2) (by omega) (by omega) rfl, ?_⟩
        exact ⟨rfl, h0, rfl⟩
theorem turnRound_ex {A : pm_A} {s : Int} (hA : gH wM A) (hs : 0 ≤ s ∧ s ≤ 151) : Cl pmt (an_sh wM) 199 [(2, 0), (0, s)] A (tr_post A s) := by
  have m1 := eM_1 hA (r := 1) (by omega) kn1 hs.1 (show s < 152 by omega)
  refine Cl.of (Nat.le_of_ble_eq_true rfl) ?_
  refine wq_ok (full := o_X10_turnRound) srt_turnRound (fr := []) (cuts := [2]) (J := fun pc st => (pc = 2 ∧ st = ([(2, 0), (0, s), (0, 0), (9, 0), (9, 0), (9, 0), (9, 0), (9, 0)], [], A))) ?_ 7 0 _ ?_
  · rintro pc st (⟨rfl, rfl⟩)
    exact tr_2 hA hs _ 0 _ _ _ _ _ A (Nat.lt_succ_self _) (by omega) (by omega) ⟨hA, fun _ _ _ => rfl, rfl, fun q v q0 q1 hq v0 v1 => by omega, fun q v q0 q1 v0 v1 => ⟨rfl, rfl⟩⟩
  · exact ⟨rfl, rfl⟩
