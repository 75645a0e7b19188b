/-! Draft.greatestDivisor -/
theorem srt_gd : pm_srt o_X2_greatestDivisor = true := by decide +kernel
theorem mod_half {x y : Int} (h0 : 0 < y) (h1 : y < x) : 2 * (x % y) < x := by
  have a1 : 0 ≤ x % y := Int.emod_nonneg x (by omega)
  have a2 : x % y < y := Int.emod_lt_of_pos x h0
  have a3 := Int.mul_ediv_add_emod x y
  have a4 : 1 ≤ x / y := by
    have := Int.ediv_le_ediv h0 (show y ≤ x by omega)
    rw [Int.ediv_self (by omega)] at this
    exact this
  have a5 : y * 1 ≤ y * (x / y) := Int.mul_le_mul_of_nonneg_left a4 (by omega)
  omega
def gd_L (a b x y t : Int) (v9 v10 : pm_V) : List pm_V := [(1, a), (9, 0), (1, b), (9, 0), (1, x), (9, 0), (1, y), (9, 0), (0, t), v9, v10]
theorem gd_step {A : pm_A} {sh : pm_Sh} {a b x y t : Int} {v9 v10 : pm_V} (hx0 : 0 ≤ x) (hx1 : x ≤ 9223372036854775807) (hy0 : 0 ≤ y) (hy1 : y ≤ 9223372036854775807) (ht0 : 0 ≤ t) (ht : t < 200) (H : ¬ y = 0 → ∀ v9 v10, Tm pmt sh o_X2_greatestDivisor 9 (gd_L a b y (x % y) (t + 1) v9 v10, [], A) (fun r => r = (some (1, (Int.gcd y (x % y) : Int)), A))) : Tm pmt sh o_X2_greatestDivisor 9 (gd_L a b x y t v9 v10, [], A) (fun r => r = (some (1, (Int.gcd x y : Int)), A)) := by
  refine wq_ok srt_gd (fr := []) (cuts := [9]) (J := fun pc st => pc = 9 ∧ ¬ y = 0 ∧ ∃ v9 v10, st = (gd_L a b y (x.tmod y) (t + 1) v9 v10, [], A)) ?_ 30 9 _ ?_
  · rintro pc st ⟨rfl, hy, w9, w10, rfl⟩
    have := H hy w9 w10
    rw [gcd_step hx0 hy0] at this
    rw [Int.tmod_eq_emod_of_nonneg hx0]
    exact this
  · refine ⟨fun h => by omega, fun h => ?_⟩
    refine ⟨fun h2 => ?_, fun h2 => ?_, fun h2 => by omega⟩
    · refine ⟨fun h0 => by omega, fun h0 => ?_⟩
      refine ⟨⟨by omega, ⟨by omega, by omega⟩, ⟨by omega, by omega⟩, fun q => by omega⟩, ?_⟩
      refine ⟨⟨by omega, by omega⟩, ?_⟩
      exact ⟨rfl, by omega, _, _, rfl⟩
    · refine ⟨fun h0 => ?_, fun h0 => by omega⟩
      refine ⟨rfl, ?_⟩
      subst h2
      rw [Int.gcd_zero_right]
      have : ((x.natAbs : Nat) : Int) = x := by omega
      rw [this]
theorem gd_9 {A : pm_A} {sh : pm_Sh} {a b : Int} : ∀ (k : Nat) (x y t : Int) (v9 v10 : pm_V), 0 ≤ y → y < x → x < 2 ^ k → x ≤ 9223372036854775807 → 0 ≤ t → t + 2 * k ≤ 200 → Tm pmt sh o_X2_greatestDivisor 9 (gd_L a b x y t v9 v10, [], A) (fun r => r = (some (1, (Int.gcd x y : Int)), A)) := by
  intro k
  induction k with
  | zero => intro x y t v9 v10 h1 h2 h3; simp at h3; omega
  | succ k ih =>
    intro x y t v9 v10 hy0 hyx hx hx1 ht0 ht
    have hx2 : x < 2 * 2 ^ k := by rw [Int.pow_succ] at hx; omega
    refine gd_step (by omega) hx1 hy0 (by omega) ht0 (by omega) (fun hy w9 w10 => ?_)
    have a1 : 0 ≤ x % y := Int.emod_nonneg x (by omega)
    have a2 : x % y < y := Int.emod_lt_of_pos x (by omega)
    have a3 := mod_half (show 0 < y by omega) hyx
    refine gd_step hy0 (by omega) a1 (by omega) (by omega) (by omega) (fun hz u9 u10 => ?_)
    have b1 : 0 ≤ y % (x % y) := Int.emod_nonneg y (by omega)
    have b2 : y % (x % y) < x % y := Int.emod_lt_of_pos y (by omega)
    exact ih (x % y) (y % (x % y)) (t + 1 + 1) u9 u10 b1 b2 (by omega) (by omega) (by omega) (by omega)
theorem gd_ct {A : pm_A} (sh : pm_Sh) {a b : Int} (ha0 : 0 ≤ a) (ha1 : a ≤ 9223372036854775807) (hb0 : 0 ≤ b) (hb1 : b ≤ 2999) : Cl pmt sh 23 [(1, a), (1, b)] A (fun r => r = (some (1, (Int.gcd a b : Int)), A)) := by
  refine Cl.of (Nat.le_of_ble_eq_true rfl) ?_
  refine wq_ok (full := o_X2_greatestDivisor) srt_gd (fr := []) (cuts := [9]) (J := fun pc st => pc = 9 ∧ ∃ v9 v10, st = (gd_L a b a b 0 v9 v10, [], A)) ?_ 20 0 _ ?_
  · rintro pc st ⟨rfl, v9, v10, rfl⟩
    refine gd_step ha0 ha1 hb0 (by omega) (by omega) (by omega) (fun hb w9 w10 => ?_)
    have a1 : 0 ≤ a % b := Int.emod_nonneg a (by omega)
    have a2 : a % b < b := Int.emod_lt_of_pos a (by omega)
    exact gd_9 12 b (a % b) (0 + 1) w9 w10 a1 a2 (by omega) (by omega) (by omega) (by omega)
  · exact ⟨rfl, _, _, rfl⟩
