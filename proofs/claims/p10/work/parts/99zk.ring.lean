/-! ring, fence, table, arrows -/
theorem RI.ring {A B : pm_A} (h : RI A) (hB : gH wM B) (ho : ∀ r j : Int, r ≠ 31 → r ≠ 32 → r ≠ 33 → r ≠ 34 → r ≠ 35 → r ≠ 36 → r ≠ 37 → r ≠ 38 → ¬ (r = 0 ∧ (j = 54 ∨ j = 55)) → B r j = A r j) (hR : RG B) : RI B := by
  obtain ⟨⟨s, ks, hT⟩, ⟨b1, b2⟩, hRG⟩ := h
  have p7 := fM_0_7 hT.1 (r := 0) (by omega) km0
  have o : ∀ r j : Int, r ≤ 7 → ¬ (r = 0 ∧ (j = 54 ∨ j = 55)) → B r j = A r j := fun r j h1 h2 => ho r j (by omega) (by omega) (by omega) (by omega) (by omega) (by omega) (by omega) (by omega) h2
  refine ⟨⟨s, ks, hT.same hB (o 0 7 (by omega) (by omega)) (o 0 8 (by omega) (by omega)) (fun i _ _ => o 5 i (by omega) (by omega)) (fun p p0 p1 q i hq => o q i (by unfold inS at hq; omega) (by unfold inS at hq; omega))⟩, ⟨fun i i0 i1 => by rw [o 7 i (by omega) (by omega)]; exact b1 i i0 i1, fun d d0 d1 => ?_⟩, hR⟩
  rw [o 0 10 (by omega) (by omega)] at d1
  rw [o 6 d (by omega) (by omega), o 0 7 (by omega) (by omega)]
  exact b2 d d0 d1
theorem rgS_congr {n : Int} {F G : Int → Int} (h : rgS n F) (e : ∀ f : Int, 0 ≤ f → f < 100 → G f = F f) : rgS n G := by
  refine ⟨h.1, fun f f0 f1 => by rw [e f f0 f1]; exact h.2.1 f f0 f1, fun f f0 f1 hf => ?_⟩
  rw [e f f0 f1] at hf
  have a := h.2.2 f f0 f1 hf
  exact ⟨a.1, fun g g0 g1 hg => a.2 g g0 g1 (by rw [← e g g0 g1]; exact hg)⟩
theorem rgS_zero {n : Int} {F : Int → Int} (h0 : 4 ≤ n) (h1 : n ≤ 10) (e : ∀ f : Int, 0 ≤ f → f < 100 → F f = 0) : rgS n F :=
  ⟨⟨h0, h1⟩, fun f f0 f1 => Or.inl (e f f0 f1), fun f f0 f1 hf => by rw [e f f0 f1] at hf; omega⟩
theorem crossd_sym {a b c d : Int} (h : crossd a b c d) : crossd c d a b := by unfold crossd at *; omega
theorem rgS_put {n f0 : Int} {F G : Int → Int} (h : rgS n F) (a0 : 0 ≤ f0) (a1 : f0 < 100) (h1 : f0 / 10 < f0 % 10 ∧ f0 % 10 < n ∧ ¬ neigh n (f0 / 10) (f0 % 10)) (h2 : ∀ g : Int, 0 ≤ g → g < 100 → F g = 1 → ¬ crossd (f0 / 10) (f0 % 10) (g / 10) (g % 10)) (e0 : G f0 = 1) (e : ∀ f : Int, 0 ≤ f → f < 100 → f ≠ f0 → G f = F f) : rgS n G := by
  refine ⟨h.1, fun f x0 x1 => ?_, fun f x0 x1 hf => ?_⟩
  · by_cases ef : f = f0
    · rw [ef, e0]; omega
    · rw [e f x0 x1 ef]; exact h.2.1 f x0 x1
  · by_cases ef : f = f0
    · rw [ef]
      refine ⟨h1, fun g g0 g1 hg => ?_⟩
      by_cases eg : g = f0
      · rw [eg]; unfold crossd; omega
      · exact h2 g g0 g1 (by rw [← e g g0 g1 eg]; exact hg)
    · rw [e f x0 x1 ef] at hf
      have a := h.2.2 f x0 x1 hf
      refine ⟨a.1, fun g g0 g1 hg => ?_⟩
      by_cases eg : g = f0
      · rw [eg]; exact fun hc => h2 f x0 x1 hf (crossd_sym hc)
      · exact a.2 g g0 g1 (by rw [← e g g0 g1 eg]; exact hg)
theorem srt_Mring : pm_srt o_X10_ring = true := by decide +kernel
def rnF (A B : pm_A) (sl : Int) : Prop := gH wM B ∧ (∀ r j : Int, r ≠ 31 → r ≠ 32 → B r j = A r j) ∧ (∀ j, j ≠ sl → B 31 j = A 31 j) ∧ ∀ j, ¬ (100 * sl ≤ j ∧ j < 100 * sl + 100) → B 32 j = A 32 j
theorem rnF.ri {A B : pm_A} {sl : Int} (h : RI A) (hF : rnF A B sl) (hR : rgS (B 31 sl) (fun f => B 32 (100 * sl + f))) : RI B := by
  refine h.ring hF.1 (fun r j h1 h2 _ _ _ _ _ _ _ => hF.2.1 r j h1 h2) (fun s hs => ?_)
  by_cases e : s = sl
  · rw [e]; exact hR
  · rw [hF.2.2.1 s e]
    exact rgS_congr (h.2.2 s hs) (fun f f0 f1 => hF.2.2.2 _ (by omega))
theorem rn_30 {A : pm_A} {sl n : Int} (h : RI A) (hs : sl = 0 ∨ sl = 1) (n0 : 4 ≤ n) (n1 : n ≤ 10) {w2 : pm_V} : ∀ (m : Nat) (i : Int) (B : pm_A), (100 - i).toNat < m → 0 ≤ i → i ≤ 100 → rnF A B sl → B 31 sl = n → (∀ f : Int, 0 ≤ f → f < i → B 32 (100 * sl + f) = 0) → Tm pmt (an_sh wM) o_X10_ring 30 ([(2, 0), (0, sl), (0, n), (0, i)], [], B) ri_post := by
  intro m
  induction m with
  | zero => intro i B h; omega
  | succ m ih =>
    intro i B hm i0 i1 hF e31 hz
    have c49 := pM_49 hF.1
    have hfin : 100 ≤ i → RI B := fun hi => hF.ri h (by rw [e31]; exact rgS_zero n0 n1 (fun f f0 f1 => hz f f0 (by omega)))
    refine wq_ok srt_Mring (fr := []) (cuts := [30]) (J := fun pc st => (pc = 30 ∧ (i < 100) ∧ st = ([(2, 0), (0, sl), (0, n), (0, i + 1)], [], pm_upd B (B 0 49) ((100 * sl) + i) 0))) ?_ 19 30 _ ?_
    · rintro pc st (⟨rfl, h0, rfl⟩)
      rw [c49]
      refine ih (i + 1) _ (by omega) (by omega) (by omega) ⟨uM_32 hF.1 kn32 (by omega) (by omega), fun r j h1 h2 => by rw [upd_o (by omega)]; exact hF.2.1 r j h1 h2, fun j hj => by rw [upd_o (by omega)]; exact hF.2.2.1 j hj, fun j hj => by rw [upd_o (by omega)]; exact hF.2.2.2 j hj⟩ (by rw [upd_o (by omega)]; exact e31) (fun f f0 f1 => ?_)
      by_cases e : f = i
      · rw [e, upd_at]
      · rw [upd_o (by omega)]; exact hz f f0 (by omega)
    · refine ⟨fun h0 => ?_, fun h0 => ?_⟩
      · exact ⟨rfl, ⟨_, rfl⟩, hfin h0⟩
      · refine ⟨oM_0 (by omega) km0 49 rfl, ?_⟩
        refine ⟨⟨by omega, by omega⟩, ?_⟩
        refine ⟨⟨by omega, by omega⟩, ?_⟩
        refine ⟨tM_32 (r := B 0 49) (by rw [c49]; omega) (by rw [c49]; exact kn32) (by omega) (by omega) rfl, ?_⟩
        refine ⟨⟨by omega, by omega⟩, ?_⟩
        exact ⟨rfl, h0, rfl⟩
theorem mring_ct {A : pm_A} (h : RI A) (sl n : Int) : Cl pmt (an_sh wM) 177 [(2, 0), (0, sl), (0, n)] A ri_post := by
  have c48 := pM_48 h.g
  refine Cl.of (Nat.le_of_ble_eq_true rfl) ?_
  refine wq_ok (full := o_X10_ring) srt_Mring (fr := []) (cuts := [5]) (J := fun pc st => (pc = 5 ∧ ∃ x : Int, ((x = 1 ∧ (sl = 0 ∨ sl = 1)) ∨ (x = 0 ∧ ¬ (sl = 0 ∨ sl = 1))) ∧ st = ([(2, 0), (0, sl), (0, n), (9, 0)], [(0, x)], A))) ?_ 7 0 _ ?_
  · rintro pc st (⟨rfl, x, hx, rfl⟩)
    refine wq_ok srt_Mring (fr := []) (cuts := [30]) (J := fun pc st => (pc = 30 ∧ (¬ x = 0) ∧ (4 ≤ n) ∧ (n ≤ 10) ∧ st = ([(2, 0), (0, sl), (0, n), (0, 0)], [], pm_upd A (A 0 48) sl n))) ?_ 19 5 _ ?_
    · rintro pc st (⟨rfl, h0, h1, h2, rfl⟩)
      have hs : sl = 0 ∨ sl = 1 := by
        rcases hx with ⟨_, e⟩ | ⟨e, _⟩
        · exact e
        · omega
      rw [c48]
      exact rn_30 (w2 := (0, 0)) h hs (by omega) (by omega) _ 0 _ (Nat.lt_succ_self _) (by omega) (by omega) ⟨uM_31 h.g kn31 (by omega) (by omega), fun r j h1 h2 => upd_o (by omega), fun j hj => upd_o (by omega), fun j hj => upd_o (by omega)⟩ upd_at (fun f f0 f1 => by omega)
    · refine ⟨fun h0 => ?_, fun h0 => ?_⟩
      · exact ⟨rfl, ⟨_, rfl⟩, h⟩
      · refine ⟨fun h1 => ?_, fun h1 => ?_⟩
        · exact ⟨rfl, ⟨_, rfl⟩, h⟩
        · refine ⟨fun h2 => ?_, fun h2 => ?_⟩
          · refine ⟨oM_0 (by omega) km0 48 rfl, ?_⟩
            refine ⟨tM_31 (r := A 0 48) (by rw [c48]; omega) (by rw [c48]; exact kn31) (by rcases hx with ⟨_, e⟩ | ⟨e, _⟩ <;> omega) (by rcases hx with ⟨_, e⟩ | ⟨e, _⟩ <;> omega) rfl, ?_⟩
            exact ⟨rfl, h0, h1, h2, rfl⟩
          · exact ⟨rfl, ⟨_, rfl⟩, h⟩
  · refine ⟨rM_0 (by omega) km0, ?_⟩
    refine (MisSlot_ex).imp ?_
    rintro ⟨r1, C⟩ ⟨q1, x, q2, hx⟩
    simp only at q1 q2
    subst q1
    subst q2
    exact ⟨rfl, x, hx, rfl⟩
theorem srt_Mfence : pm_srt o_X10_fence = true := by decide +kernel
theorem mf_147 {A : pm_A} {sl lo hi : Int} {w2 w3 w6 : pm_V} (h : RI A) (hs : sl = 0 ∨ sl = 1) (l0 : 0 ≤ lo) (l1 : lo < hi) (h1 : hi < A 31 sl) (hn : ¬ neigh (A 31 sl) lo hi) (hc : ∀ f : Int, 0 ≤ f → f < 100 → A 32 (100 * sl + f) = 1 → ¬ crossd lo hi (f / 10) (f % 10)) : Tm pmt (an_sh wM) o_X10_fence 147 ([(2, 0), (0, sl), w2, w3, (0, lo), (0, hi), w6], [], A) ri_post := by
  have c49 := pM_49 h.g
  have b31 := eM_31 h.g (r := 31) (by omega) kn31 (j := sl) (by omega) (by omega)
  have hB : RI (pm_upd A 32 (100 * sl + 10 * lo + hi) 1) := by
    have hg : gH wM (pm_upd A 32 (100 * sl + 10 * lo + hi) 1) := uM_32 h.g kn32 (by omega) (by omega)
    have e31 : pm_upd A 32 (100 * sl + 10 * lo + hi) 1 31 sl = A 31 sl := upd_o (by omega)
    refine rnF.ri (sl := sl) h ⟨hg, fun r j h1 h2 => upd_o (by omega), fun j hj => upd_o (by omega), fun j hj => upd_o (by omega)⟩ ?_
    rw [e31]
    refine rgS_put (f0 := 10 * lo + hi) (h.2.2 sl hs) (by omega) (by omega) ?_ ?_ ?_ ?_
    · rw [show (10 * lo + hi) / 10 = lo by omega, show (10 * lo + hi) % 10 = hi by omega]; exact ⟨l1, h1, hn⟩
    · rw [show (10 * lo + hi) / 10 = lo by omega, show (10 * lo + hi) % 10 = hi by omega]; exact hc
    · show pm_upd A 32 (100 * sl + 10 * lo + hi) 1 32 (100 * sl + (10 * lo + hi)) = 1
      rw [show 100 * sl + (10 * lo + hi) = 100 * sl + 10 * lo + hi by omega, upd_at]
    · exact fun f f0 f1 hf => upd_o (by omega)
  refine wq_ok srt_Mfence (fr := []) (cuts := [166]) (J := fun pc st => (pc = 166 ∧ st = ([(2, 0), (0, sl), w2, w3, (0, lo), (0, hi), w6], [], pm_upd A (A 0 49) (((100 * sl) + (10 * lo)) + hi) 1))) ?_ 18 147 _ ?_
  · rintro pc st (⟨rfl, rfl⟩)
    rw [c49]
    revert hB
    generalize pm_upd A 32 (100 * sl + 10 * lo + hi) 1 = B
    intro hB
    refine wq_ok srt_Mfence (fr := []) (cuts := [171]) (J := fun pc st => (pc = 171 ∧ st = ([(2, 0), (0, sl), w2, w3, (0, lo), (0, hi), w6], [(0, cntF (fcs B sl) 100)], B))) ?_ 7 166 _ ?_
    · rintro pc st (⟨rfl, rfl⟩)
      refine wq_ok srt_Mfence (fr := []) (cuts := []) (J := fun _ _ => False) ?_ 5 171 _ ?_
      · intro pc st h; exact h.elim
      · exact ⟨rfl, ⟨_, rfl⟩, hB⟩
    · refine ⟨rM_0 (by omega) km0, ?_⟩
      refine (fences_ex hB.g (by omega) (by omega)).imp ?_
      rintro r rfl
      exact ⟨rfl, rfl⟩
  · refine ⟨oM_0 (by omega) km0 49 rfl, ?_⟩
    refine ⟨⟨by omega, by omega⟩, ?_⟩
    refine ⟨⟨by omega, by omega⟩, ?_⟩
    refine ⟨⟨by omega, by omega⟩, ?_⟩
    refine ⟨⟨by omega, by omega⟩, ?_⟩
    refine ⟨tM_32 (r := A 0 49) (by rw [c49]; omega) (by rw [c49]; exact kn32) (by omega) (by omega) rfl, ?_⟩
    exact ⟨rfl, rfl⟩
theorem mf_97 {A : pm_A} {sl lo hi : Int} {w2 w3 : pm_V} (h : RI A) (hs : sl = 0 ∨ sl = 1) (l0 : 0 ≤ lo) (l1 : lo < hi) (hh1 : hi < A 31 sl) (hn : ¬ neigh (A 31 sl) lo hi) : ∀ (m : Nat) (i : Int), (100 - i).toNat < m → 0 ≤ i → i ≤ 100 → (∀ f : Int, 0 ≤ f → f < i → A 32 (100 * sl + f) = 1 → ¬ crossd lo hi (f / 10) (f % 10)) → Tm pmt (an_sh wM) o_X10_fence 97 ([(2, 0), (0, sl), w2, w3, (0, lo), (0, hi), (0, i)], [], A) ri_post := by
  have c49 := pM_49 h.g
  have b31 := eM_31 h.g (r := 31) (by omega) kn31 (j := sl) (by omega) (by omega)
  intro m
  induction m with
  | zero => intro i h; omega
  | succ m ih =>
    intro i hm i0 i1 hc
    have go : i < 100 → (A 32 (100 * sl + i) = 1 → ¬ crossd lo hi (i / 10) (i % 10)) → Tm pmt (an_sh wM) o_X10_fence 97 ([(2, 0), (0, sl), w2, w3, (0, lo), (0, hi), (0, i + 1)], [], A) ri_post := fun hi1 hx => by
      refine ih (i + 1) (by omega) (by omega) (by omega) (fun f f0 f1 => ?_)
      by_cases e : f = i
      · rw [e]; exact hx
      · exact hc f f0 (by omega)
    refine wq_ok srt_Mfence (fr := []) (cuts := [97, 136, 147]) (J := fun pc st => (pc = 147 ∧ (100 ≤ i) ∧ st = ([(2, 0), (0, sl), w2, w3, (0, lo), (0, hi), (0, i)], [], A)) ∨ (pc = 97 ∧ (i < 100) ∧ ((A (A 0 49) ((100 * sl) + i)) = 0) ∧ st = ([(2, 0), (0, sl), w2, w3, (0, lo), (0, hi), (0, i + 1)], [], A)) ∨ (pc = 136 ∧ (i < 100) ∧ (¬ (A (A 0 49) ((100 * sl) + i)) = 0) ∧ ∃ x : Int, ((x = 1 ∧ crossd lo hi (i / 10) (i % 10)) ∨ (x = 0 ∧ ¬ crossd lo hi (i / 10) (i % 10))) ∧ st = ([(2, 0), (0, sl), w2, w3, (0, lo), (0, hi), (0, i)], [(0, x)], A))) ?_ 25 97 _ ?_
    · rintro pc st (⟨rfl, h0, rfl⟩ | ⟨rfl, h0, h1, rfl⟩ | ⟨rfl, h0, h1, x, hx, rfl⟩)
      · exact mf_147 h hs l0 l1 hh1 hn (fun f f0 f1 => hc f f0 (by omega))
      · rw [c49] at h1
        exact go (by omega) (fun e => by omega)
      · refine wq_ok srt_Mfence (fr := []) (cuts := [97]) (J := fun pc st => (pc = 97 ∧ (x = 0) ∧ st = ([(2, 0), (0, sl), w2, w3, (0, lo), (0, hi), (0, i + 1)], [], A))) ?_ 8 136 _ ?_
        · rintro pc st (⟨rfl, h0, rfl⟩)
          exact go (by omega) (fun _ => by rcases hx with ⟨e, _⟩ | ⟨_, e⟩; exact absurd e (by omega); exact e)
        · refine ⟨fun h0 => ?_, fun h0 => ?_⟩
          · refine ⟨⟨by omega, by omega⟩, ?_⟩
            exact ⟨rfl, h0, rfl⟩
          · exact ⟨rfl, ⟨_, rfl⟩, h⟩
    · refine ⟨fun h0 => ?_, fun h0 => ?_⟩
      · exact Or.inl (⟨rfl, h0, rfl⟩)
      · refine ⟨oM_0 (by omega) km0 49 rfl, ?_⟩
        refine ⟨⟨by omega, by omega⟩, ?_⟩
        refine ⟨⟨by omega, by omega⟩, ?_⟩
        refine ⟨aM_32 (r := A 0 49) (by rw [c49]; omega) (by rw [c49]; exact kn32) (by omega) (by omega), ?_⟩
        have e1 : A (A 0 49) ((100 * sl) + i) = A 32 ((100 * sl) + i) := by rw [c49]
        refine ⟨fun h1 => ?_, fun h1 => ?_⟩
        · refine ⟨⟨by omega, by omega⟩, ?_⟩
          exact Or.inr (Or.inl (⟨rfl, h0, h1, rfl⟩))
        · refine ⟨⟨by omega, by omega, by omega, by omega⟩, ?_⟩
          refine ⟨⟨by omega, by omega, by omega, by omega⟩, ?_⟩
          refine ⟨rfl, ?_⟩
          refine (Mcross_ex (a := lo) (b := hi) (c := i / 10) (d := i % 10)).imp ?_
          rintro ⟨r1, C⟩ ⟨q1, x, q2, hx⟩
          simp only at q1 q2
          subst q1
          subst q2
          exact Or.inr (Or.inr (⟨rfl, h0, h1, x, hx, rfl⟩))
theorem mfence_ct {A : pm_A} (h : RI A) (sl a b : Int) : Cl pmt (an_sh wM) 138 [(2, 0), (0, sl), (0, a), (0, b)] A ri_post := by
  have c48 := pM_48 h.g
  have c49 := pM_49 h.g
  refine Cl.of (Nat.le_of_ble_eq_true rfl) ?_
  refine wq_ok (full := o_X10_fence) srt_Mfence (fr := []) (cuts := [5]) (J := fun pc st => (pc = 5 ∧ ∃ x : Int, ((x = 1 ∧ (sl = 0 ∨ sl = 1)) ∨ (x = 0 ∧ ¬ (sl = 0 ∨ sl = 1))) ∧ st = ([(2, 0), (0, sl), (0, a), (0, b), (9, 0), (9, 0), (9, 0)], [(0, x)], A))) ?_ 7 0 _ ?_
  · rintro pc st (⟨rfl, x, hx, rfl⟩)
    by_cases hs : sl = 0 ∨ sl = 1
    · have b31 := eM_31 h.g (r := 31) (by omega) kn31 (j := sl) (by omega) (by omega)
      refine wq_ok srt_Mfence (fr := []) (cuts := [52]) (J := fun pc st => (pc = 52 ∧ (¬ x = 0) ∧ (0 ≤ a) ∧ (a < (A (A 0 48) sl)) ∧ (0 ≤ b) ∧ (b < (A (A 0 48) sl)) ∧ (¬ a = b) ∧ ∃ z : Int, ((z = 1 ∧ neigh (A (A 0 48) sl) a b) ∨ (z = 0 ∧ ¬ neigh (A (A 0 48) sl) a b)) ∧ st = ([(2, 0), (0, sl), (0, a), (0, b), (9, 0), (9, 0), (9, 0)], [(0, z)], A))) ?_ 31 5 _ ?_
      · rintro pc st (⟨rfl, h0, h1, h2, h3, h4, h5, z, hz, rfl⟩)
        rw [c48] at h2 h4 hz
        refine wq_ok srt_Mfence (fr := []) (cuts := [62]) (J := fun pc st => (pc = 62 ∧ (z = 0) ∧ st = ([(2, 0), (0, sl), (0, a), (0, b), (9, 0), (9, 0), (9, 0)], [(0, min a b)], A))) ?_ 8 52 _ ?_
        · rintro pc st (⟨rfl, h0, rfl⟩)
          have hn2 : ¬ neigh (A 31 sl) (min a b) (max a b) := by
            rcases hz with ⟨e, _⟩ | ⟨_, e⟩
            · omega
            · unfold neigh at *; omega
          refine wq_ok srt_Mfence (fr := []) (cuts := [69]) (J := fun pc st => (pc = 69 ∧ st = ([(2, 0), (0, sl), (0, a), (0, b), (0, min a b), (9, 0), (9, 0)], [(0, max a b)], A))) ?_ 8 62 _ ?_
          · rintro pc st (⟨rfl, rfl⟩)
            refine wq_ok srt_Mfence (fr := []) (cuts := [97]) (J := fun pc st => (pc = 97 ∧ ((A (A 0 49) (((100 * sl) + (10 * (min a b))) + (max a b))) = 0) ∧ st = ([(2, 0), (0, sl), (0, a), (0, b), (0, min a b), (0, max a b), (0, 0)], [], A))) ?_ 21 69 _ ?_
            · rintro pc st (⟨rfl, h0, rfl⟩)
              exact mf_97 h hs (by omega) (by omega) (by omega) hn2 _ 0 (Nat.lt_succ_self _) (by omega) (by omega) (fun f f0 f1 => by omega)
            · refine ⟨oM_0 (by omega) km0 49 rfl, ?_⟩
              refine ⟨⟨by omega, by omega⟩, ?_⟩
              refine ⟨⟨by omega, by omega⟩, ?_⟩
              refine ⟨⟨by omega, by omega⟩, ?_⟩
              refine ⟨⟨by omega, by omega⟩, ?_⟩
              refine ⟨aM_32 (r := A 0 49) (by rw [c49]; omega) (by rw [c49]; exact kn32) (by omega) (by omega), ?_⟩
              have e1 : A (A 0 49) (((100 * sl) + (10 * (min a b))) + (max a b)) = A 32 (((100 * sl) + (10 * (min a b))) + (max a b)) := by rw [c49]
              refine ⟨fun h0 => ?_, fun h0 => ?_⟩
              · exact ⟨rfl, h0, rfl⟩
              · exact ⟨rfl, ⟨_, rfl⟩, h⟩
          · refine ⟨rfl, ?_⟩
            refine (greater_ex).imp ?_
            rintro r rfl
            exact ⟨rfl, rfl⟩
        · refine ⟨fun h0 => ?_, fun h0 => ?_⟩
          · refine ⟨rfl, ?_⟩
            refine (lesser_ex).imp ?_
            rintro r rfl
            exact ⟨rfl, h0, rfl⟩
          · exact ⟨rfl, ⟨_, rfl⟩, h⟩
      · refine ⟨fun h0 => ?_, fun h0 => ?_⟩
        · exact ⟨rfl, ⟨_, rfl⟩, h⟩
        · refine ⟨fun h1 => ?_, fun h1 => ?_⟩
          · exact ⟨rfl, ⟨_, rfl⟩, h⟩
          · refine ⟨oM_0 (by omega) km0 48 rfl, ?_⟩
            refine ⟨aM_31 (r := A 0 48) (by rw [c48]; omega) (by rw [c48]; exact kn31) (by omega) (by omega), ?_⟩
            have e1 : A (A 0 48) sl = A 31 sl := by rw [c48]
            refine ⟨fun h2 => ?_, fun h2 => ?_⟩
            · exact ⟨rfl, ⟨_, rfl⟩, h⟩
            · refine ⟨fun h3 => ?_, fun h3 => ?_⟩
              · exact ⟨rfl, ⟨_, rfl⟩, h⟩
              · refine ⟨oM_0 (by omega) km0 48 rfl, ?_⟩
                refine ⟨aM_31 (r := A 0 48) (by rw [c48]; omega) (by rw [c48]; exact kn31) (by omega) (by omega), ?_⟩
                have e2 : A (A 0 48) sl = A 31 sl := by rw [c48]
                refine ⟨fun h4 => ?_, fun h4 => ?_⟩
                · exact ⟨rfl, ⟨_, rfl⟩, h⟩
                · refine ⟨fun h5 => ?_, fun h5 => ?_⟩
                  · exact ⟨rfl, ⟨_, rfl⟩, h⟩
                  · refine ⟨oM_0 (by omega) km0 48 rfl, ?_⟩
                    refine ⟨aM_31 (r := A 0 48) (by rw [c48]; omega) (by rw [c48]; exact kn31) (by omega) (by omega), ?_⟩
                    have e3 : A (A 0 48) sl = A 31 sl := by rw [c48]
                    refine ⟨rfl, ?_⟩
                    refine (MareNeighbours_ex (n := A (A 0 48) sl) (x := a) (y := b) (by rw [c48]; exact b31.1) (by rw [c48]; exact b31.2) (by omega) (by rw [c48] at h2; omega) (by omega) (by rw [c48] at h4; omega)).imp ?_
                    rintro ⟨r1, C⟩ ⟨q1, z, q2, hz⟩
                    simp only at q1 q2
                    subst q1
                    subst q2
                    exact ⟨rfl, h0, h1, h2, h3, h4, h5, z, hz, rfl⟩
    · have ex : x = 0 := by
        rcases hx with ⟨_, e⟩ | ⟨e, _⟩
        · exact absurd e hs
        · exact e
      refine wq_ok srt_Mfence (fr := []) (cuts := [8]) (J := fun pc st => (pc = 8 ∧ (¬ x = 0) ∧ st = ([(2, 0), (0, sl), (0, a), (0, b), (9, 0), (9, 0), (9, 0)], [], A))) ?_ 7 5 _ ?_
      · rintro pc st (⟨rfl, h0, rfl⟩)
        omega
      · refine ⟨fun h0 => ?_, fun h0 => ?_⟩
        · exact ⟨rfl, ⟨_, rfl⟩, h⟩
        · exact ⟨rfl, h0, rfl⟩
  · refine ⟨rM_0 (by omega) km0, ?_⟩
    refine (MisSlot_ex).imp ?_
    rintro ⟨r1, C⟩ ⟨q1, x, q2, hx⟩
    simp only at q1 q2
    subst q1
    subst q2
    exact ⟨rfl, x, hx, rfl⟩
def sdF (A B : pm_A) : Prop := gH wM B ∧ ∀ r j : Int, r ≠ 7 → ¬ (r = 0 ∧ (j = 12 ∨ j = 13)) → B r j = A r j
theorem sdF.ri {A B : pm_A} (h : RI A) (hF : sdF A B) (h9 : ∀ j : Int, 0 ≤ j → j < 72 → -9 ≤ B 7 j ∧ B 7 j ≤ 9) : RI B := by
  obtain ⟨⟨s, ks, hT⟩, ⟨b1, b2⟩, hRG⟩ := h
  have p7 := fM_0_7 hT.1 (r := 0) (by omega) km0
  refine ⟨⟨s, ks, hT.same hF.1 (hF.2 0 7 (by omega) (by omega)) (hF.2 0 8 (by omega) (by omega)) (fun i _ _ => hF.2 5 i (by omega) (by omega)) (fun p p0 p1 q i hq => hF.2 q i (by unfold inS at hq; omega) (by unfold inS at hq; omega))⟩, ⟨h9, fun d d0 d1 => ?_⟩, hRG.same (fun j => hF.2 31 j (by omega) (by omega)) (fun j => hF.2 32 j (by omega) (by omega))⟩
  rw [hF.2 0 10 (by omega) (by omega)] at d1
  rw [hF.2 6 d (by omega) (by omega), hF.2 0 7 (by omega) (by omega)]
  exact b2 d d0 d1
def okT (c hd : Int) : Prop := (1 ≤ c ∧ c ≤ 6) ∧ 0 ≤ hd ∧ hd ≤ 6
def tb_post (A : pm_A) (c hd : Int) (r : pm_R) : Prop := (r.1 = some (0, 0) ∧ r.2 = A ∧ ¬ okT c hd) ∨ (r.1 = some (0, 1) ∧ okT c hd ∧ sdF A r.2 ∧ r.2 0 12 = c ∧ r.2 0 13 = hd ∧ ∀ j : Int, 0 ≤ j → j < 72 → r.2 7 j = 0)
theorem srt_Mtable : pm_srt o_X10_table = true := by decide +kernel
theorem tb_35 {A : pm_A} {c hd : Int} (ho : okT c hd) : ∀ (m : Nat) (i : Int) (B : pm_A), (72 - i).toNat < m → 0 ≤ i → i ≤ 72 → sdF A B → B 0 12 = c → B 0 13 = hd → (∀ j : Int, 0 ≤ j → j < i → B 7 j = 0) → Tm pmt (an_sh wM) o_X10_table 35 ([(2, 0), (0, c), (0, hd), (0, i)], [], B) (tb_post A c hd) := by
  intro m
  induction m with
  | zero => intro i B h; omega
  | succ m ih =>
    intro i B hm i0 i1 hF e12 e13 hz
    have c14 := pM_14 hF.1
    refine wq_ok srt_Mtable (fr := []) (cuts := [35]) (J := fun pc st => (pc = 35 ∧ (i < 72) ∧ st = ([(2, 0), (0, c), (0, hd), (0, i + 1)], [], pm_upd B (B 0 14) i 0))) ?_ 15 35 _ ?_
    · rintro pc st (⟨rfl, h0, rfl⟩)
      rw [c14]
      refine ih (i + 1) _ (by omega) (by omega) (by omega) ⟨uM_7 hF.1 kn7 (by omega) (by omega), fun r j h1 h2 => by rw [upd_o (by omega)]; exact hF.2 r j h1 h2⟩ (by rw [upd_o (by omega)]; exact e12) (by rw [upd_o (by omega)]; exact e13) (fun j j0 j1 => ?_)
      by_cases e : j = i
      · rw [e, upd_at]
      · rw [upd_o (by omega)]; exact hz j j0 (by omega)
    · refine ⟨fun h0 => ?_, fun h0 => ?_⟩
      · exact ⟨rfl, Or.inr ⟨rfl, ho, hF, e12, e13, fun j j0 j1 => hz j j0 (by omega)⟩⟩
      · refine ⟨oM_0 (by omega) km0 14 rfl, ?_⟩
        refine ⟨tM_7 (r := B 0 14) (by rw [c14]; omega) (by rw [c14]; exact kn7) (by omega) (by omega) rfl, ?_⟩
        refine ⟨⟨by omega, by omega⟩, ?_⟩
        exact ⟨rfl, h0, rfl⟩
theorem table_ex {A : pm_A} (hA : gH wM A) (c hd : Int) : Cl pmt (an_sh wM) 187 [(2, 0), (0, c), (0, hd)] A (tb_post A c hd) := by
  refine Cl.of (Nat.le_of_ble_eq_true rfl) ?_
  refine wq_ok (full := o_X10_table) srt_Mtable (fr := []) (cuts := [35]) (J := fun pc st => (pc = 35 ∧ (1 ≤ c) ∧ (c ≤ 6) ∧ (0 ≤ hd) ∧ (hd ≤ 6) ∧ st = ([(2, 0), (0, c), (0, hd), (0, 0)], [], pm_upd (pm_upd A 0 12 c) 0 13 hd))) ?_ 24 0 _ ?_
  · rintro pc st (⟨rfl, h0, h1, h2, h3, rfl⟩)
    have ho : okT c hd := ⟨⟨by omega, by omega⟩, by omega, by omega⟩
    exact tb_35 ho _ 0 _ (Nat.lt_succ_self _) (by omega) (by omega) ⟨uM_0_13 (uM_0_12 hA (by omega) (by omega)) (by omega) (by omega), fun r j h1 h2 => by rw [upd_o (by omega), upd_o (by omega)]⟩ (by rw [upd_o (by omega), upd_at]) (by rw [upd_at]) (fun j j0 j1 => by omega)
  · refine ⟨fun h0 => ?_, fun h0 => ?_⟩
    · exact ⟨rfl, Or.inl ⟨rfl, rfl, fun ho => by unfold okT at ho; omega⟩⟩
    · refine ⟨fun h1 => ?_, fun h1 => ?_⟩
      · exact ⟨rfl, Or.inl ⟨rfl, rfl, fun ho => by unfold okT at ho; omega⟩⟩
      · refine ⟨fun h2 => ?_, fun h2 => ?_⟩
        · exact ⟨rfl, Or.inl ⟨rfl, rfl, fun ho => by unfold okT at ho; omega⟩⟩
        · refine ⟨fun h3 => ?_, fun h3 => ?_⟩
          · refine ⟨oM_0 (by omega) km0 12 rfl, ?_⟩
            refine ⟨oM_0 (by omega) km0 13 rfl, ?_⟩
            exact ⟨rfl, h0, h1, h2, h3, rfl⟩
          · exact ⟨rfl, Or.inl ⟨rfl, rfl, fun ho => by unfold okT at ho; omega⟩⟩
theorem mtable_ct {A : pm_A} (h : RI A) (c hd : Int) : Cl pmt (an_sh wM) 187 [(2, 0), (0, c), (0, hd)] A (fun r => ((r.1 = some (0, 0) ∧ ¬ okT c hd) ∨ (r.1 = some (0, 1) ∧ okT c hd)) ∧ RI r.2) := by
  refine (table_ex h.g c hd).imp ?_
  rintro r (⟨q1, q2, q3⟩ | ⟨q1, q2, q3, q4, q5, q6⟩)
  · exact ⟨Or.inl ⟨q1, q3⟩, by rw [q2]; exact h⟩
  · exact ⟨Or.inr ⟨q1, q2⟩, q3.ri h (fun j j0 j1 => by rw [q6 j j0 j1]; omega)⟩
theorem srt_Marrows : pm_srt o_X10_arrows = true := by decide +kernel
theorem marrows_ct {A : pm_A} (h : RI A) (i j b : Int) : Cl pmt (an_sh wM) 126 [(2, 0), (0, i), (0, j), (0, b)] A ri_post := by
  have c14 := pM_14 h.g
  have p12 := fM_0_12 h.g (r := 0) (by omega) km0
  have p13 := fM_0_13 h.g (r := 0) (by omega) km0
  have hend : ∀ x, -9 ≤ b → b ≤ 9 → RI (pm_upd A 7 x b) := fun x b0 b1 => sdF.ri h ⟨uM_7 h.g kn7 (by omega) (by omega), fun r j h1 h2 => upd_o (by omega)⟩ (fun k k0 k1 => by
    by_cases e : k = x
    · rw [e, upd_at]; omega
    · rw [upd_o (by omega)]; exact h.2.1.1 k k0 k1)
  refine Cl.of (Nat.le_of_ble_eq_true rfl) ?_
  refine wq_ok (full := o_X10_arrows) srt_Marrows (fr := []) (cuts := []) (J := fun _ _ => False) ?_ 39 0 _ ?_
  · intro pc st h; exact h.elim
  · refine ⟨oM_0 (by omega) km0 12 rfl, ?_⟩
    refine ⟨fun h0 => ?_, fun h0 => ?_⟩
    · exact ⟨rfl, ⟨_, rfl⟩, h⟩
    · refine ⟨fun h1 => ?_, fun h1 => ?_⟩
      · exact ⟨rfl, ⟨_, rfl⟩, h⟩
      · refine ⟨oM_0 (by omega) km0 12 rfl, ?_⟩
        refine ⟨oM_0 (by omega) km0 13 rfl, ?_⟩
        refine ⟨⟨by omega, by omega⟩, ?_⟩
        refine ⟨fun h2 => ?_, fun h2 => ?_⟩
        · exact ⟨rfl, ⟨_, rfl⟩, h⟩
        · refine ⟨fun h3 => ?_, fun h3 => ?_⟩
          · exact ⟨rfl, ⟨_, rfl⟩, h⟩
          · refine ⟨oM_0 (by omega) km0 12 rfl, ?_⟩
            refine ⟨fun h4 => ?_, fun h4 => ?_⟩
            · exact ⟨rfl, ⟨_, rfl⟩, h⟩
            · refine ⟨fun h5 => ?_, fun h5 => ?_⟩
              · exact ⟨rfl, ⟨_, rfl⟩, h⟩
              · refine ⟨fun h6 => ?_, fun h6 => ?_⟩
                · refine ⟨oM_0 (by omega) km0 14 rfl, ?_⟩
                  refine ⟨⟨by omega, by omega⟩, ?_⟩
                  refine ⟨⟨by omega, by omega⟩, ?_⟩
                  refine ⟨tM_7 (r := A 0 14) (by rw [c14]; omega) (by rw [c14]; exact kn7) (by omega) (by omega) rfl, ?_⟩
                  exact ⟨rfl, ⟨_, rfl⟩, (by rw [c14]; exact hend _ (by omega) (by omega))⟩
                · exact ⟨rfl, ⟨_, rfl⟩, h⟩
