/-! by hand: the first ones -/
theorem gcd_step {x y : Int} (hx : 0 ≤ x) (hy : 0 ≤ y) : Int.gcd y (x % y) = Int.gcd x y := by
  obtain ⟨a, rfl⟩ := Int.eq_ofNat_of_zero_le hx
  obtain ⟨b, rfl⟩ := Int.eq_ofNat_of_zero_le hy
  show Nat.gcd b (a % b) = Nat.gcd a b
  rw [Nat.gcd_comm b, ← Nat.gcd_rec, Nat.gcd_comm]
theorem srt_common : pm_srt o_X10_common = true := by decide +kernel
theorem common_loop (sh : pm_Sh) (A : pm_A) (a b : Int) : ∀ (m : Nat) (x y : Int) (v8 : pm_V), 0 ≤ x → 0 ≤ y → x ≤ 9223372036854775807 → y ≤ 9223372036854775807 → y.toNat < m → Tm pmt sh o_X10_common 6 ([(1, a), (9, 0), (1, b), (9, 0), (1, x), (9, 0), (1, y), (9, 0), v8, (9, 0)], [], A) (fun r => r = (some (1, (Int.gcd x y : Int)), A)) := by
  intro m
  induction m with
  | zero => intro x y v8 _ _ _ _ h; omega
  | succ m ih =>
    intro x y v8 hx hy hx2 hy2 hm
    refine wq_ok srt_common (fr := []) (cuts := [6]) (J := fun pc s => pc = 6 ∧ ∃ (x' y' : Int) (v : pm_V), s = ([(1, a), (9, 0), (1, b), (9, 0), (1, x'), (9, 0), (1, y'), (9, 0), v, (9, 0)], [], A) ∧ 0 ≤ x' ∧ 0 ≤ y' ∧ x' ≤ 9223372036854775807 ∧ y' ≤ 9223372036854775807 ∧ y'.toNat < m ∧ Int.gcd x' y' = Int.gcd x y) ?_ 20 6 _ ?_
    · rintro pc s ⟨rfl, x', y', v, rfl, h1, h2, h3, h4, h5, h6⟩
      rw [← h6]
      exact ih x' y' v h1 h2 h3 h4 h5
    · refine ⟨fun h => ?_, fun h => ?_, fun h => ?_⟩
      · refine ⟨fun h0 => by omega, fun h0 => ?_⟩
        refine ⟨⟨by omega, ⟨by omega, by omega⟩, ⟨by omega, by omega⟩, fun q => by omega⟩, ?_⟩
        have t1 : x.tmod y = x % y := Int.tmod_eq_emod_of_nonneg hx
        have t2 : 0 ≤ x % y := Int.emod_nonneg x (by omega)
        have t3 : x % y < y := Int.emod_lt_of_pos x (by omega)
        refine ⟨rfl, y, x.tmod y, _, rfl, hy, by omega, hy2, by omega, by omega, ?_⟩
        rw [t1]; exact gcd_step hx hy
      · refine ⟨fun h0 => ?_, fun h0 => by omega⟩
        refine ⟨rfl, ?_⟩
        subst h
        rw [Int.gcd_zero_right]
        have : ((x.natAbs : Nat) : Int) = x := by omega
        rw [this]
      · omega
theorem common_ct (sh : pm_Sh) (A : pm_A) {a b : Int} (ha : 0 ≤ a) (hb : 0 ≤ b) (ha2 : a ≤ 9223372036854775807) (hb2 : b ≤ 9223372036854775807) : Cl pmt sh 133 [(1, a), (1, b)] A (fun r => r = (some (1, (Int.gcd a b : Int)), A)) := by
  refine Cl.of (Nat.le_of_ble_eq_true rfl) ?_
  refine wq_ok (full := o_X10_common) srt_common (fr := []) (cuts := [6]) (J := fun pc s => pc = 6 ∧ s = ([(1, a), (9, 0), (1, b), (9, 0), (1, a), (9, 0), (1, b), (9, 0), (9, 0), (9, 0)], [], A)) ?_ 20 0 _ ?_
  · rintro pc s ⟨rfl, rfl⟩
    exact common_loop sh A a b _ a b (9, 0) ha hb ha2 hb2 (Nat.lt_succ_self _)
  · exact ⟨rfl, rfl⟩
theorem srt_multiplied : pm_srt o_X5_multiplied = true := by decide +kernel
theorem q_X5_multiplied_0 : gCt wX pmt 44 Q_X5_multiplied_0 := by
  rintro a A ⟨ha, hA⟩
  match a, ha with
  | [(ta, a), (tb, b)], ⟨⟨ea, a1, a2⟩, ⟨eb, b1, b2⟩, _⟩ =>
    simp only at ea a1 a2 eb b1 b2
    subst ea; subst eb
    refine Cl.of (Nat.le_of_ble_eq_true rfl) ?_
    refine wq_ok (full := o_X5_multiplied) srt_multiplied (fr := [24]) (cuts := []) (J := fun _ _ => False) (fun _ _ h => h.elim) 30 0 _ ?_
    have fin : ∀ x : Int, r64 x → gR wX (some (1, -9223372036854775808, 9223372036854775807)) (some (1, x)) ∧ gH wX A ∧ gFr wX [] A A := fun x hx => ⟨⟨⟨rfl, hx.1, hx.2⟩, Nat.lt_of_sub_eq_succ rfl⟩, hA, fun _ _ _ _ _ => rfl⟩
    have endm : r64 (w64 (a * b)) := w64_rng _
    refine ⟨fun h => ?_, fun h => ?_, fun h => ?_⟩
    · refine ⟨fun h0 => by omega, fun h0 => ?_⟩
      refine ⟨⟨by omega, ⟨by omega, by omega⟩, ⟨by omega, by omega⟩, fun q => by omega⟩, ?_⟩
      refine ⟨fun h => ?_, fun h => ?_, fun h => ?_⟩
      · refine ⟨fun h0 => by omega, fun h0 => ?_⟩
        exact ⟨rfl, fin (-1) ⟨by omega, by omega⟩⟩
      · refine ⟨fun h0 => ?_, fun h0 => by omega⟩
        exact ⟨rfl, fin _ endm⟩
      · refine ⟨fun h0 => ?_, fun h0 => by omega⟩
        exact ⟨rfl, fin _ endm⟩
    · refine ⟨fun h0 => ?_, fun h0 => by omega⟩
      exact ⟨rfl, fin _ endm⟩
    · refine ⟨fun h0 => ?_, fun h0 => by omega⟩
      exact ⟨rfl, fin _ endm⟩
