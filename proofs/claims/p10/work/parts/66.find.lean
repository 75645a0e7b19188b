/-! Share.find -/
theorem srt_find : pm_srt o_X8_find = true := by decide +kernel
def find_post (A : pm_A) (s f : Int) (r : pm_R) : Prop := ∃ x, r = (some (0, x), A) ∧ (0 ≤ x → f ≤ x ∧ x < A s 1) ∧ (x < 0 → f ≤ -1 - x ∧ (f ≤ A s 1 → -1 - x ≤ A s 1) ∧ -201 ≤ x)
def find_I13 (A : pm_A) (s c f t : Int) (st : pm_S) : Prop := ∃ (l2 h2 : Int) (v6 v7 v8 : pm_V), st = ([(2, s), (2, c), (0, f), (0, l2), (0, h2), (0, t), v6, v7, v8], [], A) ∧ f ≤ l2 ∧ l2 ≤ 200 ∧ (f ≤ A s 1 → l2 ≤ A s 1) ∧ -1 ≤ h2 ∧ h2 < A s 1
def find_J (A : pm_A) (s c f low high t mi at_ : Int) (m : Nat) : pm_J := fun pc st => (pc = 47 ∧ ∃ v' : Int, st = ([(2, s), (2, c), (0, f), (0, low), (0, high), (0, t), (0, mi), (0, at_), (0, v')], [], A) ∧ 0 ≤ v' ∧ v' ≤ A s 0 ∧ (A s 0 - v').toNat < m) ∨ (pc = 13 ∧ find_I13 A s c f (t + 1) st)
theorem find_47 {A : pm_A} (hA : gH wX A) {s c f : Int} (hs0 : 0 ≤ s) (hsk : wX.2 s = 2) (hc0 : 0 ≤ c) (hck : wX.2 c = 18) {t low high mi at_ : Int}
    (H13 : ∀ st, find_I13 A s c f (t + 1) st → Tm pmt (an_sh wX) o_X8_find 13 st (find_post A s f))
    (hf0 : 0 ≤ f) (hf : f ≤ low) (hm1 : low ≤ mi) (hm2 : mi ≤ high) (hh : high < A s 1) (ht0 : 0 ≤ t) (ht : t < 200) (ha0 : 0 ≤ at_) (ha1 : at_ ≤ 2388) (hl1 : f ≤ A s 1 → low ≤ A s 1) (hl2 : low ≤ 200) : ∀ (m : Nat) (v : Int), 0 ≤ v → v ≤ A s 0 → (A s 0 - v).toNat < m → Tm pmt (an_sh wX) o_X8_find 47 ([(2, s), (2, c), (0, f), (0, low), (0, high), (0, t), (0, mi), (0, at_), (0, v)], [], A) (find_post A s f) := by
  intro m
  have w0 := fX_2_0 hA hs0 hsk
  have l0 := fX_2_1 hA hs0 hsk
  have p0 := fX_2_3 hA hs0 hsk
  have e1 := shX_2 hsk
  have e2 := shX_15 p0.2
  have e3 := shX_18 hck
  have g1 : 0 ≤ s ∧ (an_sh wX s).1 = 0 ∧ (an_sh wX s).2.1 = 8 ∧ ((0 : Nat) : Int) < (an_sh wX s).2.2 := by rw [e1]; exact ⟨hs0, rfl, rfl, by decide⟩
  have g2 : 0 ≤ s ∧ (an_sh wX s).1 = 0 ∧ (an_sh wX s).2.1 = 8 ∧ ((3 : Nat) : Int) < (an_sh wX s).2.2 := by rw [e1]; exact ⟨hs0, rfl, rfl, by decide⟩
  induction m with
  | zero => intro v _ _ h; omega
  | succ m ih =>
    intro v hv0 hv1 hm
    refine wq_ok srt_find (fr := []) (cuts := [13, 47]) (J := find_J A s c f low high t mi at_ m) ?_ 60 47 _ ?_
    · rintro pc st (⟨rfl, v', rfl, h1, h2, h3⟩ | ⟨rfl, h⟩)
      · exact ih v' h1 h2 h3
      · exact H13 st h
    · refine ⟨g1, ?_⟩
      refine ⟨fun h => ?_, fun h => ?_⟩
      · refine ⟨g1, ?_⟩
        refine ⟨fun h2 => by omega, fun h2 => ?_⟩
        exact ⟨rfl, mi, rfl, fun _ => ⟨by omega, by omega⟩, fun q => by omega⟩
      · have i1 : 0 ≤ A s 3 ∧ (an_sh wX (A s 3)).1 = 1 ∧ (an_sh wX (A s 3)).2.1 = 0 ∧ 0 ≤ at_ + v ∧ at_ + v < (an_sh wX (A s 3)).2.2 := by rw [e2]; exact ⟨p0.1, rfl, rfl, by omega, by simp only; omega⟩
        have i2 : 0 ≤ c ∧ (an_sh wX c).1 = 1 ∧ (an_sh wX c).2.1 = 0 ∧ 0 ≤ v ∧ v < (an_sh wX c).2.2 := by rw [e3]; exact ⟨hc0, rfl, rfl, by omega, by simp only; omega⟩
        refine ⟨g2, ?_⟩
        refine ⟨⟨by omega, by omega⟩, ?_⟩
        refine ⟨i1, ?_⟩
        refine ⟨i2, ?_⟩
        refine ⟨fun h2 => ?_, fun h2 => ?_⟩
        · refine ⟨g1, ?_⟩
          refine ⟨fun h3 => ?_, fun h3 => by omega⟩
          refine ⟨g2, ?_⟩
          refine ⟨⟨by omega, by omega⟩, ?_⟩
          refine ⟨i1, ?_⟩
          refine ⟨i2, ?_⟩
          refine ⟨fun h => ?_, fun h => ?_⟩
          · refine ⟨⟨by omega, by omega⟩, ?_⟩
            refine ⟨⟨by omega, by omega⟩, ?_⟩
            exact Or.inr ⟨rfl, low, mi - 1, _, _, _, rfl, hf, hl2, hl1, by omega, by omega⟩
          · refine ⟨⟨by omega, by omega⟩, ?_⟩
            refine ⟨⟨by omega, by omega⟩, ?_⟩
            exact Or.inr ⟨rfl, mi + 1, high, _, _, _, rfl, by omega, by omega, fun _ => by omega, by omega, by omega⟩
        · refine ⟨⟨by omega, by omega⟩, ?_⟩
          exact Or.inl ⟨rfl, v + 1, rfl, by omega, by omega, by omega⟩
theorem pp_shr1 {x : Int} (h0 : 0 ≤ x) (h1 : x ≤ 2147483647) : pp_bi 8 x 1 = x / 2 := by
  have ex : (Int32.ofInt x).toInt = x := by rw [Int32.toInt_ofInt]; show x.bmod (2 ^ 32) = _; rw [← w32_eq, w32_in (by omega) (by omega)]
  exact i32_shr1 (i := Int32.ofInt x) (j := Int32.ofInt 1) ex rfl h0
theorem find_13 {A : pm_A} (hA : gH wX A) {s c f : Int} (hs0 : 0 ≤ s) (hsk : wX.2 s = 2) (hc0 : 0 ≤ c) (hck : wX.2 c = 18) (hf0 : 0 ≤ f) : ∀ (m : Nat) (t : Int) (st : pm_S), 0 ≤ t → t ≤ 200 → (200 - t).toNat < m → find_I13 A s c f t st → Tm pmt (an_sh wX) o_X8_find 13 st (find_post A s f) := by
  intro m
  have w0 := fX_2_0 hA hs0 hsk
  have l0 := fX_2_1 hA hs0 hsk
  have e1 := shX_2 hsk
  have g1 : 0 ≤ s ∧ (an_sh wX s).1 = 0 ∧ (an_sh wX s).2.1 = 8 ∧ ((0 : Nat) : Int) < (an_sh wX s).2.2 := by rw [e1]; exact ⟨hs0, rfl, rfl, by decide⟩
  induction m with
  | zero => intro t st _ _ h; omega
  | succ m ih =>
    rintro t st ht0 ht1 hm ⟨low, high, v6, v7, v8, rfl, k1, k2, k3, k4, k5⟩
    refine wq_ok srt_find (fr := []) (cuts := [33]) (J := fun pc st => pc = 33 ∧ ∃ mi : Int, st = ([(2, s), (2, c), (0, f), (0, low), (0, high), (0, t), v6, v7, v8], [(0, mi)], A) ∧ low ≤ mi ∧ mi ≤ high ∧ t < 200) ?_ 40 13 _ ?_
    · rintro pc st ⟨rfl, mi, rfl, h1, h2, h5⟩
      have hm1 : 0 ≤ mi * A s 0 := Int.mul_nonneg (by omega) w0.1
      have hm2 : mi * A s 0 ≤ 199 * 12 := Int.mul_le_mul (by omega) w0.2 w0.1 (by omega)
      refine wq_ok srt_find (fr := []) (cuts := [47]) (J := fun pc st => pc = 47 ∧ st = ([(2, s), (2, c), (0, f), (0, low), (0, high), (0, t), (0, mi), (0, mi * A s 0), (0, 0)], [], A)) ?_ 20 33 _ ?_
      · rintro pc st ⟨rfl, rfl⟩
        exact find_47 hA hs0 hsk hc0 hck (fun st h => ih (t + 1) st (by omega) (by omega) (by omega) h) hf0 k1 h1 h2 k5 ht0 h5 hm1 (by omega) k3 k2 _ 0 (by omega) (by omega) (Nat.lt_succ_self _)
      · refine ⟨g1, ?_⟩
        refine ⟨⟨by omega, by omega⟩, ?_⟩
        exact ⟨rfl, rfl⟩
    · refine ⟨fun h => ?_, fun h => ?_⟩
      · refine ⟨⟨by omega, by omega⟩, ?_⟩
        refine ⟨rfl, -1 - low, rfl, fun q => by omega, fun q => ⟨by omega, fun q2 => ?_, by omega⟩⟩
        have := k3 q2
        omega
      · refine ⟨fun h2 => ?_, fun h2 => ?_⟩
        · refine ⟨⟨by omega, by omega⟩, ?_⟩
          refine ⟨rfl, -1 - low, rfl, fun q => by omega, fun q => ⟨by omega, fun q2 => ?_, by omega⟩⟩
          have := k3 q2
          omega
        · refine ⟨⟨by omega, by omega⟩, ?_⟩
          have e : pp_bi 8 (low + high) 1 = (low + high) / 2 := pp_shr1 (by omega) (by omega)
          refine ⟨rfl, (low + high) / 2, ?_, by omega, by omega, by omega⟩
          rw [← e]
theorem find_ct {A : pm_A} (hA : gH wX A) {s c f : Int} (hs0 : 0 ≤ s) (hsk : wX.2 s = 2) (hc0 : 0 ≤ c) (hck : wX.2 c = 18) (hf0 : 0 ≤ f) (hf1 : f ≤ 200) : Cl pmt (an_sh wX) 77 [(2, s), (2, c), (0, f)] A (find_post A s f) := by
  have l0 := fX_2_1 hA hs0 hsk
  have e1 := shX_2 hsk
  have g1 : 0 ≤ s ∧ (an_sh wX s).1 = 0 ∧ (an_sh wX s).2.1 = 8 ∧ ((1 : Nat) : Int) < (an_sh wX s).2.2 := by rw [e1]; exact ⟨hs0, rfl, rfl, by decide⟩
  refine Cl.of (Nat.le_of_ble_eq_true rfl) ?_
  refine wq_ok (full := o_X8_find) srt_find (fr := []) (cuts := [13]) (J := fun pc st => pc = 13 ∧ find_I13 A s c f 0 st) ?_ 20 0 _ ?_
  · rintro pc st ⟨rfl, h⟩
    exact find_13 hA hs0 hsk hc0 hck hf0 _ 0 st (by omega) (by omega) (Nat.lt_succ_self _) h
  · refine ⟨g1, ?_⟩
    refine ⟨⟨by omega, by omega⟩, ?_⟩
    exact ⟨rfl, f, A s 1 - 1, _, _, _, rfl, by omega, by omega, fun h => h, by omega, by omega⟩
theorem q_X8_find_0 : gCt wX pmt 77 Q_X8_find_0 := by
  rintro a A ⟨ha, hA⟩
  match a, ha with
  | [x, y, z], ⟨h1, h2, h3, _⟩ =>
    obtain ⟨s, rfl, hs0, hsk⟩ := gRf (a := (2, 2, 0)) rfl h1
    obtain ⟨c, rfl, hc0, hck⟩ := gRf (a := (2, 18, 0)) rfl h2
    obtain ⟨f, rfl⟩ := gI (a := (0, 0, 200)) rfl h3
    have hf := (gv0 (a := (0, 0, 200)) rfl).mp h3
    have l0 := fX_2_1 hA hs0 hsk
    refine (find_ct hA hs0 hsk hc0 hck hf.2.1 hf.2.2).imp ?_
    rintro r ⟨v, rfl, k1, k2⟩
    refine ⟨⟨⟨rfl, ?_, ?_⟩, Nat.lt_of_sub_eq_succ rfl⟩, hA, fun _ _ _ _ _ => rfl⟩
    · show -201 ≤ v
      by_cases hv : 0 ≤ v
      · omega
      · exact (k2 (by omega)).2.2
    · show v ≤ 199
      by_cases hv : 0 ≤ v
      · have := k1 hv; omega
      · omega
