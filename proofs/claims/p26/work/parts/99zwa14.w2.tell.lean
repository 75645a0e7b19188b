/-! the i-th fence; what is told of a ring -/
def nthF (F : Int → Int) (i f : Int) : Prop := 0 ≤ f ∧ f < 100 ∧ F f = 1 ∧ cntF F f.toNat = i
theorem nthF_uniq {F : Int → Int} {i f g : Int} (hf : nthF F i f) (hg : nthF F i g) : f = g := by
  obtain ⟨f0, f1, f2, f3⟩ := hf
  obtain ⟨g0, g1, g2, g3⟩ := hg
  rcases Int.lt_trichotomy f g with e | e | e
  · have := cntF_lt F (n := f.toNat) (m := g.toNat) (by omega) (by rw [show ((f.toNat : Nat) : Int) = f by omega, f2]; omega)
    omega
  · exact e
  · have := cntF_lt F (n := g.toNat) (m := f.toNat) (by omega) (by rw [show ((g.toNat : Nat) : Int) = g by omega, g2]; omega)
    omega
theorem nthF_b {F : Int → Int} {i f : Int} (hf : nthF F i f) : 0 ≤ i ∧ i < cntF F 100 := by
  obtain ⟨f0, f1, f2, f3⟩ := hf
  have := cntF_lt F (n := f.toNat) (m := 100) (by omega) (by rw [show ((f.toNat : Nat) : Int) = f by omega, f2]; omega)
  have := cntF_b F f.toNat
  omega
theorem cnt_most {n : Int} {F : Int → Int} (h : rgS n F) : cntF F 100 ≤ n - 3 := by
  have h1 := h.1
  have z : F (10 * 0 + (n - 1)) = 0 := by
    refine (h.2.1 _ (by omega) (by omega)).resolve_right (fun e => ?_)
    obtain ⟨⟨v1, v2, v3⟩, _⟩ := h.2.2 _ (by omega) (by omega) e
    exact v3 (Or.inr (Or.inr (Or.inl ⟨by omega, by omega⟩)))
  have e : eI F 0 (n - 1) = cntF F 100 := by
    refine cntF_congr 100 (fun f f0 f1 => ?_)
    unfold gIn
    rcases h.2.1 f f0 (by omega) with e | e
    · rw [e]; simp
    · obtain ⟨⟨v1, v2, v3⟩, _⟩ := h.2.2 f f0 (by omega) e
      rw [e, if_pos ⟨by omega, by omega, by omega⟩]
  have e2 : iz F (10 * 0 + (n - 1)) = 0 := by unfold iz; rw [if_pos z]
  have e3 := (eI_le h _ 0 (n - 1) (Nat.lt_succ_self _) (by omega) (by omega) (by omega)).2 (by omega)
  omega
theorem srt_MfenceAt : pm_srt o_X10_fenceAt = true := by decide +kernel
theorem mfa_5 {A : pm_A} {sl i : Int} (hA : gH wM A) (s0 : 0 ≤ sl) (s1 : sl ≤ 1) (hi : i < cntF (fcs A sl) 100) : ∀ (m : Nat) (k : Nat), 100 - k < m → k ≤ 100 → cntF (fcs A sl) k ≤ i → Tm pmt (an_sh wM) o_X10_fenceAt 5 ([(2, 0), (0, sl), (0, i), (0, i - cntF (fcs A sl) k), (0, (k : Int))], [], A) (fun q => q.2 = A ∧ ∃ f, nthF (fcs A sl) i f ∧ q.1 = some (0, f)) := by
  have c49 := pM_49 hA
  have hb100 := cntF_b (fcs A sl) 100
  intro m
  induction m with
  | zero => intro k h; omega
  | succ m ih =>
    intro k hm k1 hk
    have hb := cntF_b (fcs A sl) k
    have st : cntF (fcs A sl) (k + 1) = cntF (fcs A sl) k + (if fcs A sl k = 0 then 0 else 1) := rfl
    have b32 : (k : Int) < 100 → 0 ≤ A 32 (100 * sl + k) ∧ A 32 (100 * sl + k) ≤ 1 := fun h => eM_32 hA (r := 32) (by omega) kn32 (by omega) (by omega)
    have hend : ¬ (100 : Int) ≤ k := fun h => by
      have e : k = 100 := by omega
      rw [e] at hk
      omega
    refine wq_ok srt_MfenceAt (fr := []) (cuts := [5]) (J := fun pc st => (pc = 5 ∧ (((k : Int)) < 100) ∧ (¬ (A (A 0 49) ((100 * sl) + ((k : Int)))) = 0) ∧ (¬ (i - cntF (fcs A sl) k) = 0) ∧ st = ([(2, 0), (0, sl), (0, i), (0, (i - cntF (fcs A sl) k) + (-1)), (0, ((k : Int)) + 1)], [], A)) ∨ (pc = 5 ∧ (((k : Int)) < 100) ∧ ((A (A 0 49) ((100 * sl) + ((k : Int)))) = 0) ∧ st = ([(2, 0), (0, sl), (0, i), (0, i - cntF (fcs A sl) k), (0, ((k : Int)) + 1)], [], A))) ?_ 22 5 _ ?_
    · rintro pc st (⟨rfl, h0, h1, h2, rfl⟩ | ⟨rfl, h0, h1, rfl⟩)
      · rw [c49] at h1
        rw [if_neg (show ¬ fcs A sl k = 0 from h1)] at st
        rw [show i - cntF (fcs A sl) k + (-1) = i - cntF (fcs A sl) (k + 1) by omega, show (k : Int) + 1 = ((k + 1 : Nat) : Int) by omega]
        exact ih (k + 1) (by omega) (by omega) (by omega)
      · rw [c49] at h1
        rw [if_pos (show fcs A sl k = 0 from h1), Int.add_zero] at st
        rw [← st, show (k : Int) + 1 = ((k + 1 : Nat) : Int) by omega]
        exact ih (k + 1) (by omega) (by omega) (by omega)
    · refine ⟨fun h0 => ?_, fun h0 => ?_⟩
      · exact absurd h0 hend
      · refine ⟨oM_0 (by omega) km0 49 rfl, ?_⟩
        refine ⟨⟨by omega, by omega⟩, ?_⟩
        refine ⟨⟨by omega, by omega⟩, ?_⟩
        refine ⟨aM_32 (r := A 0 49) (by rw [c49]; omega) (by rw [c49]; exact kn32) (by omega) (by omega), ?_⟩
        have e1 : A (A 0 49) ((100 * sl) + ((k : Int))) = A 32 ((100 * sl) + ((k : Int))) := by rw [c49]
        refine ⟨fun h1 => ?_, fun h1 => ?_⟩
        · refine ⟨fun h2 => ?_, fun h2 => ?_⟩
          · refine ⟨⟨by omega, by omega⟩, ?_⟩
            refine ⟨⟨by omega, by omega⟩, ?_⟩
            exact Or.inl (⟨rfl, h0, h1, h2, rfl⟩)
          · exact ⟨rfl, rfl, (k : Int), ⟨by omega, by omega, (by rw [c49] at h1; have := b32 h0; unfold fcs; omega), (by rw [Int.toNat_natCast]; omega)⟩, rfl⟩
        · refine ⟨⟨by omega, by omega⟩, ?_⟩
          exact Or.inr (⟨rfl, h0, h1, rfl⟩)
theorem mfenceAt_ex {A : pm_A} {sl i : Int} (hA : gH wM A) (s0 : 0 ≤ sl) (s1 : sl ≤ 1) (i0 : 0 ≤ i) (hi : i < cntF (fcs A sl) 100) : Cl pmt (an_sh wM) 139 [(2, 0), (0, sl), (0, i)] A (fun q => q.2 = A ∧ ∃ f, nthF (fcs A sl) i f ∧ q.1 = some (0, f)) := by
  refine Cl.of (Nat.le_of_ble_eq_true rfl) ?_
  refine wq_ok (full := o_X10_fenceAt) srt_MfenceAt (fr := []) (cuts := [5]) (J := fun pc st => (pc = 5 ∧ st = ([(2, 0), (0, sl), (0, i), (0, i), (0, 0)], [], A))) ?_ 9 0 _ ?_
  · rintro pc st (⟨rfl, rfl⟩)
    have := mfa_5 hA s0 s1 hi _ 0 (Nat.lt_succ_self _) (by omega) i0
    rw [show i - cntF (fcs A sl) 0 = i from Int.sub_zero i] at this
    exact this
  · exact ⟨rfl, rfl⟩
theorem srt_XfenceAt : pm_srt o_X6_fenceAt = true := by decide +kernel
def fatP (A : pm_A) (F : Int → Int) (i : Int) (q : pm_R) : Prop := q.2 = A ∧ ∃ z, q.1 = some (0, z) ∧ ((∃ f, nthF F i f ∧ z = 100 * (f / 10) + f % 10) ∨ ((∀ f, ¬ nthF F i f) ∧ z = -1))
theorem xfa_17 {A : pm_A} {r n a i : Int} {F : Int → Int} (r0 : 0 ≤ r) (rk : wX.2 r = 9) (h : rgX A r n F) (hS : rgS n F) (a0 : 0 ≤ a) (a1 : a < n) (H : (∀ f : Int, 0 ≤ f → f < 10 * a + 10 → ¬ nthF F i f) → ∀ w4, Tm pmt (an_sh wX) o_X6_fenceAt 58 ([(2, r), (0, i), (0, cntF F (10 * a + 10).toNat), (0, a), w4], [], A) (fatP A F i)) : ∀ (m : Nat) (b : Int), (10 - b).toNat < m → a < b → b ≤ n → (∀ f : Int, 0 ≤ f → f < 10 * a + b → ¬ nthF F i f) → Tm pmt (an_sh wX) o_X6_fenceAt 17 ([(2, r), (0, i), (0, cntF F (10 * a + b).toNat), (0, a), (0, b)], [], A) (fatP A F i) := by
  have e0 := h.1
  have hn := hS.1
  intro m
  induction m with
  | zero => intro b h; omega
  | succ m ih =>
    intro b hm b0 b1 hb
    have hc := cntF_b F (10 * a + b).toNat
    have st : b < n → cntF F (10 * a + (b + 1)).toNat = cntF F (10 * a + b).toNat + (if F (10 * a + b) = 0 then 0 else 1) := fun _ => by
      rw [show (10 * a + (b + 1)).toNat = (10 * a + b).toNat + 1 by omega, cntF, show (((10 * a + b).toNat : Nat) : Int) = 10 * a + b by omega]
    have fe : fcd a b = 10 * a + b := by unfold fcd; omega
    have nx : b < n → ¬ nthF F i (10 * a + b) → ∀ f : Int, 0 ≤ f → f < 10 * a + (b + 1) → ¬ nthF F i f := fun _ k f f0 f1 => by
      by_cases e : f = 10 * a + b
      · rw [e]; exact k
      · exact hb f f0 (by omega)
    have fin : n ≤ b → ∀ w4, Tm pmt (an_sh wX) o_X6_fenceAt 58 ([(2, r), (0, i), (0, cntF F (10 * a + b).toNat), (0, a), w4], [], A) (fatP A F i) := fun k w4 => by
      have hz : ∀ f : Int, 10 * a + b ≤ f → f < 10 * a + 10 → F f = 0 := fun f f0 f1 => by
        have z := nofence hS (p := a) (q := f - 10 * a) (by omega) (by omega) (by omega) (by omega) (Or.inr (by omega))
        rw [show 10 * a + (f - 10 * a) = f by omega] at z
        exact z
      rw [cnt_skip (G := F) (x := (10 * a + b).toNat) (y := (10 * a + 10).toNat) (by omega) (fun f f0 f1 => hz f (by omega) (by omega))]
      refine H (fun f f0 f1 => ?_) w4
      by_cases e : f < 10 * a + b
      · exact hb f f0 e
      · intro k2
        have := hz f (by omega) f1
        have := k2.2.2.1
        omega
    refine wq_ok srt_XfenceAt (fr := []) (cuts := [33, 58]) (J := fun pc st => (pc = 58 ∧ ((A r 0) ≤ b) ∧ st = ([(2, r), (0, i), (0, cntF F (10 * a + b).toNat), (0, a), (0, b)], [], A)) ∨ (pc = 33 ∧ (b < (A r 0)) ∧ ∃ x : Int, ((x = 1 ∧ hsP F a b) ∨ (x = 0 ∧ ¬ hsP F a b)) ∧ st = ([(2, r), (0, i), (0, cntF F (10 * a + b).toNat), (0, a), (0, b)], [(0, x)], A))) ?_ 12 17 _ ?_
    · rintro pc st (⟨rfl, h0, rfl⟩ | ⟨rfl, h0, x, hx, rfl⟩)
      · rw [e0] at h0
        exact fin h0 _
      · have g0 : b < n := by rw [← e0]; assumption
        refine wq_ok srt_XfenceAt (fr := []) (cuts := [17]) (J := fun pc st => (pc = 17 ∧ (x = 0) ∧ st = ([(2, r), (0, i), (0, cntF F (10 * a + b).toNat), (0, a), (0, b + 1)], [], A)) ∨ (pc = 17 ∧ (¬ x = 0) ∧ (¬ (cntF F (10 * a + b).toNat) = i) ∧ st = ([(2, r), (0, i), (0, (cntF F (10 * a + b).toNat) + 1), (0, a), (0, b + 1)], [], A))) ?_ 14 33 _ ?_
        · rintro pc st (⟨rfl, h0, rfl⟩ | ⟨rfl, h0, h1, rfl⟩)
          · have k : ¬ hsP F a b := (by rcases hx with ⟨e, _⟩ | ⟨_, e⟩; omega; exact e)
            have z : F (10 * a + b) = 0 := (hS.2.1 _ (by omega) (by omega)).resolve_right (fun q => k ⟨by omega, by rw [fe]; exact q⟩)
            have s2 := st g0
            rw [if_pos z, Int.add_zero] at s2
            rw [← s2]
            exact ih (b + 1) (by omega) (by omega) (by omega) (nx g0 (fun q => by have := q.2.2.1; omega))
          · have k : hsP F a b := (by rcases hx with ⟨_, e⟩ | ⟨e, _⟩; exact e; omega)
            have z : F (10 * a + b) = 1 := by rw [← fe]; exact k.2
            have s2 := st g0
            rw [if_neg (by omega)] at s2
            rw [← s2]
            exact ih (b + 1) (by omega) (by omega) (by omega) (nx g0 (fun q => by have := q.2.2.2; omega))
        · refine ⟨fun h0 => ?_, fun h0 => ?_⟩
          · refine ⟨⟨by omega, by omega⟩, ?_⟩
            exact Or.inl (⟨rfl, h0, rfl⟩)
          · refine ⟨fun h1 => ?_, fun h1 => ?_⟩
            · refine ⟨⟨by omega, by omega⟩, ?_⟩
              refine ⟨⟨by omega, by omega⟩, ?_⟩
              exact Or.inr (⟨rfl, h0, h1, rfl⟩)
            · refine ⟨⟨by omega, by omega⟩, ?_⟩
              refine ⟨⟨by omega, by omega⟩, ?_⟩
              exact ⟨rfl, rfl, 100 * a + b, rfl, Or.inl ⟨10 * a + b, ⟨by omega, by omega, (by have k : hsP F a b := (by rcases hx with ⟨_, e⟩ | ⟨e, _⟩; exact e; omega); rw [← fe]; exact k.2), by omega⟩, by omega⟩⟩
    · refine ⟨oX_9 r0 rk 0 rfl, ?_⟩
      refine ⟨fun h0 => ?_, fun h0 => ?_⟩
      · exact Or.inl (⟨rfl, h0, rfl⟩)
      · refine ⟨rX_9 r0 rk, ?_⟩
        have g0 : b < n := by rw [← e0]; assumption
        refine (xhas_ex r0 rk h (a := a) (b := b) (by omega) (by omega) (by omega) (by omega)).imp ?_
        rintro ⟨r1, C⟩ ⟨q1, x, q2, hx⟩
        simp only at q1 q2
        subst q1
        subst q2
        exact Or.inr (⟨rfl, h0, x, hx, rfl⟩)
theorem xfa_4 {A : pm_A} {r n i : Int} {F : Int → Int} (r0 : 0 ≤ r) (rk : wX.2 r = 9) (h : rgX A r n F) (hS : rgS n F) : ∀ (m : Nat) (a : Int) (w4 : pm_V), (10 - a).toNat < m → 0 ≤ a → a ≤ n → (∀ f : Int, 0 ≤ f → f < 10 * a → ¬ nthF F i f) → Tm pmt (an_sh wX) o_X6_fenceAt 4 ([(2, r), (0, i), (0, cntF F (10 * a).toNat), (0, a), w4], [], A) (fatP A F i) := by
  have e0 := h.1
  have hn := hS.1
  intro m
  induction m with
  | zero => intro a w4 h; omega
  | succ m ih =>
    intro a w4 hm a0 a1 ha
    have hz : a < n → ∀ f : Int, 10 * a ≤ f → f ≤ 10 * a + a → F f = 0 := fun _ f f0 f1 => by
      have z := nofence hS (p := a) (q := f - 10 * a) (by omega) (by omega) (by omega) (by omega) (Or.inl (by omega))
      rw [show 10 * a + (f - 10 * a) = f by omega] at z
      exact z
    have none : n ≤ a → ∀ f, ¬ nthF F i f := fun k f hf => by
      by_cases e : f < 10 * a
      · exact ha f hf.1 e hf
      · have := (hS.2.2 f hf.1 hf.2.1 hf.2.2.1).1
        have := hf.2.1
        omega
    have h58 : a < n → (∀ f : Int, 0 ≤ f → f < 10 * a + 10 → ¬ nthF F i f) → ∀ w4, Tm pmt (an_sh wX) o_X6_fenceAt 58 ([(2, r), (0, i), (0, cntF F (10 * a + 10).toNat), (0, a), w4], [], A) (fatP A F i) := fun hc hd w4 => by
      refine wq_ok srt_XfenceAt (fr := []) (cuts := [4]) (J := fun pc st => (pc = 4 ∧ st = ([(2, r), (0, i), (0, cntF F (10 * a + 10).toNat), (0, a + 1), w4], [], A))) ?_ 7 58 _ ?_
      · rintro pc st (⟨rfl, rfl⟩)
        rw [show 10 * a + 10 = 10 * (a + 1) by omega] at hd ⊢
        exact ih (a + 1) _ (by omega) (by omega) (by omega) hd
      · refine ⟨⟨by omega, by omega⟩, ?_⟩
        exact ⟨rfl, rfl⟩
    refine wq_ok srt_XfenceAt (fr := []) (cuts := [17]) (J := fun pc st => (pc = 17 ∧ (a < (A r 0)) ∧ st = ([(2, r), (0, i), (0, cntF F (10 * a).toNat), (0, a), (0, a + 1)], [], A))) ?_ 13 4 _ ?_
    · rintro pc st (⟨rfl, h0, rfl⟩)
      have g0 : a < n := by rw [← e0]; assumption
      rw [cnt_skip (G := F) (x := (10 * a).toNat) (y := (10 * a + (a + 1)).toNat) (by omega) (fun f f0 f1 => hz g0 f (by omega) (by omega))]
      refine xfa_17 r0 rk h hS a0 g0 (h58 g0) _ (a + 1) (Nat.lt_succ_self _) (by omega) (by omega) (fun f f0 f1 => ?_)
      by_cases e : f < 10 * a
      · exact ha f f0 e
      · intro k2
        have := hz g0 f (by omega) (by omega)
        have := k2.2.2.1
        omega
    · refine ⟨oX_9 r0 rk 0 rfl, ?_⟩
      refine ⟨fun h0 => ?_, fun h0 => ?_⟩
      · exact ⟨rfl, rfl, -1, rfl, Or.inr ⟨none (by rw [e0] at h0; exact h0), rfl⟩⟩
      · refine ⟨⟨by omega, by omega⟩, ?_⟩
        exact ⟨rfl, h0, rfl⟩
theorem xfenceAt_ex {A : pm_A} {r n i : Int} {F : Int → Int} (r0 : 0 ≤ r) (rk : wX.2 r = 9) (h : rgX A r n F) (hS : rgS n F) : Cl pmt (an_sh wX) 52 [(2, r), (0, i)] A (fatP A F i) := by
  refine Cl.of (Nat.le_of_ble_eq_true rfl) ?_
  refine wq_ok (full := o_X6_fenceAt) srt_XfenceAt (fr := []) (cuts := [4]) (J := fun pc st => (pc = 4 ∧ st = ([(2, r), (0, i), (0, 0), (0, 0), (9, 0)], [], A))) ?_ 9 0 _ ?_
  · rintro pc st (⟨rfl, rfl⟩)
    exact xfa_4 r0 rk h hS _ 0 _ (Nat.lt_succ_self _) (by omega) (by have := hS.1; omega) (fun f f0 f1 => by omega)
  · exact ⟨rfl, rfl⟩
def rOf (n : Int) (F : Int → Int) (w z : Int) : Prop := (w = 0 ∧ z = n) ∨ (w = 1 ∧ z = cntF F 100) ∨ (w = 2 ∧ cntF F 100 = n - 3 ∧ z = 1) ∨ (w = 2 ∧ ¬ cntF F 100 = n - 3 ∧ z = 0) ∨ (10 ≤ w ∧ w < 10 + n ∧ z = 1 + cntF (tG F (w - 10)) 100) ∨ (¬ (0 ≤ w ∧ w ≤ 2) ∧ ¬ (10 ≤ w ∧ w < 10 + n) ∧ ((∃ f, nthF F (w - 100) f ∧ z = 100 * (f / 10) + f % 10) ∨ ((∀ f, ¬ nthF F (w - 100) f) ∧ z = -1)))
theorem rOf_uniq {n : Int} {F : Int → Int} {w z y : Int} (hz : rOf n F w z) (hy : rOf n F w y) : z = y := by
  rcases hz with h | h | h | h | h | ⟨h1, h2, h⟩
  · rcases hy with k | k | k | k | k | ⟨k1, k2, k⟩
    · omega
    · omega
    · omega
    · omega
    · omega
    · clear k; omega
  · rcases hy with k | k | k | k | k | ⟨k1, k2, k⟩
    · omega
    · omega
    · omega
    · omega
    · omega
    · clear k; omega
  · rcases hy with k | k | k | k | k | ⟨k1, k2, k⟩
    · omega
    · omega
    · omega
    · omega
    · omega
    · clear k; omega
  · rcases hy with k | k | k | k | k | ⟨k1, k2, k⟩
    · omega
    · omega
    · omega
    · omega
    · omega
    · clear k; omega
  · rcases hy with k | k | k | k | k | ⟨k1, k2, k⟩
    · omega
    · omega
    · omega
    · omega
    · omega
    · clear k; omega
  · rcases hy with k | k | k | k | k | ⟨k1, k2, k⟩
    · clear h; omega
    · clear h; omega
    · clear h; omega
    · clear h; omega
    · clear h; omega
    · rcases h with ⟨f, hf, e⟩ | ⟨hf, e⟩
      · rcases k with ⟨g, hg, d⟩ | ⟨hg, d⟩
        · have := nthF_uniq hf hg
          rw [e, d, this]
        · exact absurd hf (hg f)
      · rcases k with ⟨g, hg, d⟩ | ⟨hg, d⟩
        · exact absurd hg (hf g)
        · rw [e, d]
theorem srt_Xtell : pm_srt o_X6_tell = true := by decide +kernel
def tlP (A : pm_A) (n : Int) (F : Int → Int) (w : Int) (q : pm_R) : Prop := q.2 = A ∧ ∃ z, q.1 = some (0, z) ∧ rOf n F w z
theorem xtell_ex {A : pm_A} {r n w : Int} {F : Int → Int} (r0 : 0 ≤ r) (rk : wX.2 r = 9) (h : rgX A r n F) (hS : rgS n F) (w0 : r32 w) : Cl pmt (an_sh wX) 62 [(2, r), (0, w)] A (tlP A n F w) := by
  have e0 := h.1
  have hn := hS.1
  unfold r32 at w0
  refine Cl.of (Nat.le_of_ble_eq_true rfl) ?_
  refine wq_ok (full := o_X6_tell) srt_Xtell (fr := []) (cuts := [18, 28, 62, 88]) (J := fun pc st => (pc = 88 ∧ (¬ w = 0) ∧ (¬ w = 1) ∧ (¬ w = 2) ∧ (w < 10) ∧ (100 ≤ w) ∧ (w < (100 + (A r 0))) ∧ ∃ z : Int, ((∃ f, nthF F (w - 100) f ∧ z = 100 * (f / 10) + f % 10) ∨ ((∀ f, ¬ nthF F (w - 100) f) ∧ z = -1)) ∧ st = ([(2, r), (0, w)], [(0, z)], A)) ∨ (pc = 88 ∧ (¬ w = 0) ∧ (¬ w = 1) ∧ (¬ w = 2) ∧ (10 ≤ w) ∧ ((10 + (A r 0)) ≤ w) ∧ (100 ≤ w) ∧ (w < (100 + (A r 0))) ∧ ∃ z : Int, ((∃ f, nthF F (w - 100) f ∧ z = 100 * (f / 10) + f % 10) ∨ ((∀ f, ¬ nthF F (w - 100) f) ∧ z = -1)) ∧ st = ([(2, r), (0, w)], [(0, z)], A)) ∨ (pc = 62 ∧ (¬ w = 0) ∧ (¬ w = 1) ∧ (¬ w = 2) ∧ (10 ≤ w) ∧ (w < (10 + (A r 0))) ∧ st = ([(2, r), (0, w)], [(0, 1 + cntF (tG F (w - 10)) 100)], A)) ∨ (pc = 28 ∧ (¬ w = 0) ∧ (¬ w = 1) ∧ (w = 2) ∧ ∃ x : Int, ((x = 1 ∧ cntF F 100 = n - 3) ∨ (x = 0 ∧ ¬ cntF F 100 = n - 3)) ∧ st = ([(2, r), (0, w)], [(0, x)], A)) ∨ (pc = 18 ∧ (¬ w = 0) ∧ (w = 1) ∧ st = ([(2, r), (0, w)], [(0, cntF F 100)], A))) ?_ 35 0 _ ?_
  · rintro pc st (⟨rfl, h0, h1, h2, h3, h4, h5, z, hz, rfl⟩ | ⟨rfl, h0, h1, h2, h3, h4, h5, h6, z, hz, rfl⟩ | ⟨rfl, h0, h1, h2, h3, h4, rfl⟩ | ⟨rfl, h0, h1, h2, x, hx, rfl⟩ | ⟨rfl, h0, h1, rfl⟩)
    · refine wq_ok srt_Xtell (fr := []) (cuts := []) (J := fun _ _ => False) ?_ 6 88 _ ?_
      · intro pc st h; exact h.elim
      · exact ⟨rfl, rfl, _, rfl, Or.inr (Or.inr (Or.inr (Or.inr (Or.inr ⟨by omega, by omega, hz⟩))))⟩
    · refine wq_ok srt_Xtell (fr := []) (cuts := []) (J := fun _ _ => False) ?_ 6 88 _ ?_
      · intro pc st h; exact h.elim
      · exact ⟨rfl, rfl, _, rfl, Or.inr (Or.inr (Or.inr (Or.inr (Or.inr ⟨by omega, by omega, hz⟩))))⟩
    · refine wq_ok srt_Xtell (fr := []) (cuts := []) (J := fun _ _ => False) ?_ 5 62 _ ?_
      · intro pc st h; exact h.elim
      · exact ⟨rfl, rfl, _, rfl, Or.inr (Or.inr (Or.inr (Or.inr (Or.inl ⟨by omega, by omega, rfl⟩))))⟩
    · refine wq_ok srt_Xtell (fr := []) (cuts := []) (J := fun _ _ => False) ?_ 8 28 _ ?_
      · intro pc st h; exact h.elim
      · refine ⟨fun h0 => ?_, fun h0 => ?_⟩
        · exact ⟨rfl, rfl, _, rfl, Or.inr (Or.inr (Or.inr (Or.inl ⟨by omega, (by rcases hx with ⟨e, _⟩ | ⟨_, e⟩; omega; exact e), rfl⟩)))⟩
        · exact ⟨rfl, rfl, _, rfl, Or.inr (Or.inr (Or.inl ⟨by omega, (by rcases hx with ⟨_, e⟩ | ⟨e, _⟩; exact e; omega), rfl⟩))⟩
    · refine wq_ok srt_Xtell (fr := []) (cuts := []) (J := fun _ _ => False) ?_ 5 18 _ ?_
      · intro pc st h; exact h.elim
      · exact ⟨rfl, rfl, _, rfl, Or.inr (Or.inl ⟨by omega, rfl⟩)⟩
  · refine ⟨fun h0 => ?_, fun h0 => ?_⟩
    · refine ⟨fun h1 => ?_, fun h1 => ?_⟩
      · refine ⟨fun h2 => ?_, fun h2 => ?_⟩
        · refine ⟨fun h3 => ?_, fun h3 => ?_⟩
          · refine ⟨fun h4 => ?_, fun h4 => ?_⟩
            · exact ⟨rfl, rfl, _, rfl, Or.inr (Or.inr (Or.inr (Or.inr (Or.inr ⟨by omega, by omega, Or.inr ⟨fun f k => (by have := nthF_b k; have := cnt_most hS; omega), rfl⟩⟩))))⟩
            · refine ⟨oX_9 r0 rk 0 rfl, ?_⟩
              refine ⟨⟨by omega, by omega⟩, ?_⟩
              refine ⟨fun h5 => ?_, fun h5 => ?_⟩
              · exact ⟨rfl, rfl, _, rfl, Or.inr (Or.inr (Or.inr (Or.inr (Or.inr ⟨by omega, by omega, Or.inr ⟨fun f k => (by have := nthF_b k; have := cnt_most hS; omega), rfl⟩⟩))))⟩
              · refine ⟨⟨by omega, by omega⟩, ?_⟩
                refine ⟨rX_9 r0 rk, ?_⟩
                refine (xfenceAt_ex r0 rk h hS (i := w - 100)).imp ?_
                rintro ⟨r1, C⟩ ⟨q1, z, q2, hz⟩
                simp only at q1 q2
                subst q1
                subst q2
                exact Or.inl (⟨rfl, h0, h1, h2, h3, h4, h5, z, hz, rfl⟩)
          · refine ⟨oX_9 r0 rk 0 rfl, ?_⟩
            refine ⟨⟨by omega, by omega⟩, ?_⟩
            refine ⟨fun h4 => ?_, fun h4 => ?_⟩
            · refine ⟨fun h5 => ?_, fun h5 => ?_⟩
              · exact ⟨rfl, rfl, _, rfl, Or.inr (Or.inr (Or.inr (Or.inr (Or.inr ⟨by omega, by omega, Or.inr ⟨fun f k => (by have := nthF_b k; have := cnt_most hS; omega), rfl⟩⟩))))⟩
              · refine ⟨oX_9 r0 rk 0 rfl, ?_⟩
                refine ⟨⟨by omega, by omega⟩, ?_⟩
                refine ⟨fun h6 => ?_, fun h6 => ?_⟩
                · exact ⟨rfl, rfl, _, rfl, Or.inr (Or.inr (Or.inr (Or.inr (Or.inr ⟨by omega, by omega, Or.inr ⟨fun f k => (by have := nthF_b k; have := cnt_most hS; omega), rfl⟩⟩))))⟩
                · refine ⟨⟨by omega, by omega⟩, ?_⟩
                  refine ⟨rX_9 r0 rk, ?_⟩
                  refine (xfenceAt_ex r0 rk h hS (i := w - 100)).imp ?_
                  rintro ⟨r1, C⟩ ⟨q1, z, q2, hz⟩
                  simp only at q1 q2
                  subst q1
                  subst q2
                  exact Or.inr (Or.inl (⟨rfl, h0, h1, h2, h3, h4, h5, h6, z, hz, rfl⟩))
            · refine ⟨⟨by omega, by omega⟩, ?_⟩
              refine ⟨rX_9 r0 rk, ?_⟩
              refine (xthirds_ex r0 rk h hS (c := w - 10) (by omega) (by omega)).imp ?_
              rintro r rfl
              exact Or.inr (Or.inr (Or.inl (⟨rfl, h0, h1, h2, h3, h4, rfl⟩)))
        · refine ⟨rX_9 r0 rk, ?_⟩
          refine (xcut_ex r0 rk h hS).imp ?_
          rintro ⟨r1, C⟩ ⟨q1, x, q2, hx⟩
          simp only at q1 q2
          subst q1
          subst q2
          exact Or.inr (Or.inr (Or.inr (Or.inl (⟨rfl, h0, h1, h2, x, hx, rfl⟩))))
      · refine ⟨rX_9 r0 rk, ?_⟩
        refine (xcount_ex r0 rk h hS).imp ?_
        rintro r rfl
        exact Or.inr (Or.inr (Or.inr (Or.inr (⟨rfl, h0, h1, rfl⟩))))
    · refine ⟨oX_9 r0 rk 0 rfl, ?_⟩
      exact ⟨rfl, rfl, _, rfl, Or.inl ⟨by omega, e0⟩⟩
