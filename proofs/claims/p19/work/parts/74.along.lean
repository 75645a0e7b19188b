/-! Draft.sizeAlong -/
theorem srt_along : pm_srt o_X2_sizeAlong = true := by decide +kernel
theorem gcd_quo {a b : Int} (ha : 1 ≤ a) (hb : 1 ≤ b) : 1 ≤ (Int.gcd a b : Int) ∧ 1 ≤ a.tdiv (Int.gcd a b : Int) ∧ a.tdiv (Int.gcd a b : Int) ≤ a ∧ 1 ≤ b.tdiv (Int.gcd a b : Int) ∧ b.tdiv (Int.gcd a b : Int) ≤ b := by
  have g1 : (Int.gcd a b : Int) ∣ a := Int.gcd_dvd_left a b
  have g2 : (Int.gcd a b : Int) ∣ b := Int.gcd_dvd_right a b
  have g0 : 1 ≤ (Int.gcd a b : Int) := by
    have : Int.gcd a b ≠ 0 := fun h => by
      have := Int.eq_zero_of_gcd_eq_zero_left h
      omega
    omega
  have l1 : (Int.gcd a b : Int) ≤ a := Int.le_of_dvd (by omega) g1
  have l2 : (Int.gcd a b : Int) ≤ b := Int.le_of_dvd (by omega) g2
  have key : ∀ x : Int, (Int.gcd a b : Int) ≤ x → 1 ≤ x.tdiv (Int.gcd a b : Int) ∧ x.tdiv (Int.gcd a b : Int) ≤ x := by
    intro x hx
    rw [Int.tdiv_eq_ediv_of_nonneg (by omega)]
    have h1 := Int.ediv_le_ediv (show 0 < (Int.gcd a b : Int) by omega) hx
    rw [Int.ediv_self (by omega)] at h1
    exact ⟨h1, Int.ediv_le_self _ (by omega)⟩
  exact ⟨g0, (key a l1).1, (key a l1).2, (key b l2).1, (key b l2).2⟩
/-- a group in the making: m members, sizes at most P -/
def grp (A : pm_A) (d m P : Int) : Prop := (∀ p, 0 ≤ p → p < m → 1 ≤ A (A d 3) (A (A d 4) p) ∧ A (A d 3) (A (A d 4) p) ≤ P) ∧ ∀ p q, 0 ≤ p → p < q → q < m → ¬ A (A d 4) p = A (A d 4) q
/-- the sizes of the first a members are f times what they were, all else is as it was -/
def scaled (A B : pm_A) (d m f a : Int) : Prop := gH wX B ∧ (∀ r j : Int, ¬ r = A d 3 → B r j = A r j) ∧ (∀ p, 0 ≤ p → p < m → B (A d 3) (A (A d 4) p) = A (A d 3) (A (A d 4) p) * (if p < a then f else 1)) ∧ ∀ j, (∀ p, 0 ≤ p → p < m → ¬ A (A d 4) p = j) → B (A d 3) j = A (A d 3) j
def al_post (A : pm_A) (d m P : Int) (r : pm_R) : Prop := ∃ x f, r.1 = some (1, x) ∧ 1 ≤ x ∧ x ≤ P * 2999 ∧ 1 ≤ f ∧ f ≤ 2999 ∧ scaled A r.2 d m f m
def al_H (A : pm_A) (d i j m P : Int) : Prop := gH wX A ∧ (0 ≤ d ∧ wX.2 d = 3) ∧ (0 ≤ i ∧ i ≤ 5) ∧ (0 ≤ j ∧ j ≤ 5) ∧ (1 ≤ m ∧ m ≤ 5) ∧ grp A d m P ∧ (0 ≤ P ∧ P ≤ 80892053988001) ∧ (∃ p, 0 ≤ p ∧ p < m ∧ A (A d 4) p = i) ∧ ¬ A (A d 2) (i * 6 + j) = 0 ∧ ¬ A (A d 2) (j * 6 + i) = 0
theorem al_63 {A : pm_A} {d i j m P u v : Int} (hh : al_H A d i j m P) (hu : 1 ≤ u) (hu1 : u ≤ P * 2999) (hv : 1 ≤ v) (hv1 : v ≤ 2999) : ∀ (n : Nat) (a : Int) (B : pm_A), (m - a).toNat < n → 0 ≤ a → a ≤ m → scaled A B d m (v.tdiv (Int.gcd u v : Int)) a → Tm pmt (an_sh wX) o_X2_sizeAlong 63 ([(2, d), (0, i), (0, j), (0, m), (1, u), (9, 0), (1, v), (9, 0), (1, (Int.gcd u v : Int)), (9, 0), (0, a)], [], B) (al_post A d m P) := by
  obtain ⟨hA, ⟨hd0, hdk⟩, hi, hj, hm, hg, hP, hmem, ht1, ht2⟩ := hh
  obtain ⟨q0, q1, q2, q3, q4⟩ := gcd_quo hu hv
  have qle : (Int.gcd u v : Int) ≤ v := Int.le_of_dvd (by omega) (Int.gcd_dvd_right u v)
  have s0 := fX_3_3 hA hd0 hdk
  have g0 := fX_3_4 hA hd0 hdk
  have es := shX_11 s0.2
  have eg := shX_17 g0.2
  have ed := shX_3 hdk
  have nd : ¬ d = A d 3 := fun q => by rw [← q, ed] at es; cases es
  have ng : ¬ A d 4 = A d 3 := fun q => by rw [q, es] at eg; cases eg
  intro n
  induction n with
  | zero => intro a B h; omega
  | succ n ih =>
    intro a B hn ha0 ha1 hB
    have hB0 := hB
    obtain ⟨hB1, hB2, hB3, hB4⟩ := hB
    have d3 : B d 3 = A d 3 := hB2 d 3 nd
    have d4 : B d 4 = A d 4 := hB2 d 4 nd
    refine wq_ok srt_along (fr := []) (cuts := [63]) (J := fun pc st => pc = 63 ∧ a < m ∧ st = ([(2, d), (0, i), (0, j), (0, m), (1, u), (9, 0), (1, v), (9, 0), (1, (Int.gcd u v : Int)), (9, 0), (0, a + 1)], [], pm_upd B (B d 3) (B (B d 4) a) (B (B d 3) (B (B d 4) a) * v.tdiv (Int.gcd u v : Int)))) ?_ 40 63 _ ?_
    · rintro pc st ⟨rfl, ha, rfl⟩
      rw [d3, d4, hB2 (A d 4) a ng]
      have gp := eX_17 hA g0.1 g0.2 ha0 (show a < 6 by omega)
      have hv2 := hB3 a ha0 ha
      rw [if_neg (show ¬ a < a by omega), Int.mul_one] at hv2
      have hv3 := hg.1 a ha0 ha
      have m1 : 0 ≤ A (A d 3) (A (A d 4) a) * v.tdiv (Int.gcd u v : Int) := Int.mul_nonneg (by omega) (by omega)
      have m2 : A (A d 3) (A (A d 4) a) * v.tdiv (Int.gcd u v : Int) ≤ P * 2999 := Int.mul_le_mul hv3.2 (by omega) (by omega) (by omega)
      refine ih (a + 1) _ (by omega) (by omega) (by omega) ⟨uX_11 hB1 s0.2 (by rw [hv2]; omega) (by rw [hv2]; omega), fun r k hr => by rw [upd_ne hr]; exact hB2 r k hr, fun p p0 p1 => ?_, fun k hk => ?_⟩
      · by_cases e : p = a
        · rw [e, upd_at, hv2, if_pos (by omega)]
        · have hne : ¬ A (A d 4) p = A (A d 4) a := by
            by_cases hlt : p < a
            · exact hg.2 p a p0 hlt ha
            · exact fun q => hg.2 a p ha0 (by omega) p1 q.symm
          rw [upd_n2 hne, hB3 p p0 p1]
          by_cases hlt : p < a
          · rw [if_pos hlt, if_pos (by omega)]
          · rw [if_neg hlt, if_neg (by omega)]
      · rw [upd_n2 (fun q => hk a ha0 ha q.symm)]; exact hB4 k hk
    · refine ⟨fun h => ?_, fun h => ?_⟩
      · refine ⟨⟨by omega, ⟨by omega, by omega⟩, ⟨by omega, by omega⟩, fun q => by omega⟩, ?_⟩
        refine ⟨rfl, _, v.tdiv (Int.gcd u v : Int), rfl, q1, by show u.tdiv (Int.gcd u v : Int) ≤ P * 2999; omega, q3, by omega, ?_⟩
        have : a = m := by omega
        rw [this] at hB0
        exact hB0
      · have gp := eX_17 hA g0.1 g0.2 ha0 (show a < 6 by omega)
        have e4 : B (B d 4) a = A (A d 4) a := by rw [d4]; exact hB2 _ _ ng
        have hv2 := hB3 a ha0 h
        rw [if_neg (show ¬ a < a by omega), Int.mul_one] at hv2
        have hv3 := hg.1 a ha0 h
        have m1 : 0 ≤ A (A d 3) (A (A d 4) a) * v.tdiv (Int.gcd u v : Int) := Int.mul_nonneg (by omega) (by omega)
        have m2 : A (A d 3) (A (A d 4) a) * v.tdiv (Int.gcd u v : Int) ≤ P * 2999 := Int.mul_le_mul hv3.2 (by omega) (by omega) (by omega)
        refine ⟨oX_3 hd0 hdk 3 rfl, ?_⟩
        refine ⟨oX_3 hd0 hdk 4 rfl, ?_⟩
        refine ⟨aX_17 (by rw [d4]; exact g0.1) (by rw [d4]; exact g0.2) ha0 (by omega), ?_⟩
        refine ⟨aX_11 (by rw [d3]; exact s0.1) (by rw [d3]; exact s0.2) (by rw [e4]; omega) (by rw [e4]; omega), ?_⟩
        refine ⟨⟨by omega, ⟨by omega, by omega⟩, ⟨by omega, by omega⟩, fun q => by omega⟩, ?_⟩
        refine ⟨?_, ?_⟩
        · show r64 (B (B d 3) (B (B d 4) a) * v.tdiv (Int.gcd u v : Int))
          rw [e4, d3, hv2]
          exact ⟨by omega, by omega⟩
        · refine ⟨tX_11 (by rw [d3]; exact s0.1) (by rw [d3]; exact s0.2) (by rw [e4]; omega) (by rw [e4]; omega) rfl, ?_⟩
          refine ⟨⟨by omega, by omega⟩, ?_⟩
          exact ⟨rfl, h, rfl⟩
theorem al_50 {A : pm_A} {d i j m P u v : Int} (hh : al_H A d i j m P) (hu : 1 ≤ u) (hu1 : u ≤ P * 2999) (hv : 1 ≤ v) (hv1 : v ≤ 2999) (w : pm_V) : Tm pmt (an_sh wX) o_X2_sizeAlong 50 ([(2, d), (0, i), (0, j), (0, m), (1, u), (9, 0), (1, v), (9, 0), (1, (Int.gcd u v : Int)), (9, 0), w], [], A) (al_post A d m P) := by
  have gq := (gcd_quo hu hv).1
  have hm := hh.2.2.2.2.1
  refine wq_ok srt_along (fr := []) (cuts := [63]) (J := fun pc st => pc = 63 ∧ st = ([(2, d), (0, i), (0, j), (0, m), (1, u), (9, 0), (1, v), (9, 0), (1, (Int.gcd u v : Int)), (9, 0), (0, 0)], [], A)) ?_ 40 50 _ ?_
  · rintro pc st ⟨rfl, rfl⟩
    exact al_63 hh hu hu1 hv hv1 _ 0 A (Nat.lt_succ_self _) (by omega) (by omega) ⟨hh.1, fun _ _ _ => rfl, fun p p0 p1 => by rw [if_neg (by omega), Int.mul_one], fun _ _ => rfl⟩
  · refine ⟨fun h => ?_, fun h => ?_, fun h => ?_⟩
    · refine ⟨fun _ => ?_, fun h0 => ?_⟩
      · exact ⟨rfl, rfl⟩
      · exact absurd h0 (by decide)
    · exact absurd h (by omega)
    · exact absurd h (by omega)
theorem along_ct {A : pm_A} {d i j m P : Int} (hh : al_H A d i j m P) : Cl pmt (an_sh wX) 26 [(2, d), (0, i), (0, j), (0, m)] A (al_post A d m P) := by
  have hh0 := hh
  obtain ⟨hA, ⟨hd0, hdk⟩, hi, hj, hm, hg, hP, ⟨p, p0, p1, hp⟩, ht1, ht2⟩ := hh
  have s0 := fX_3_3 hA hd0 hdk
  have g0 := fX_3_4 hA hd0 hdk
  have t0 := fX_3_2 hA hd0 hdk
  have hsi := hg.1 p p0 p1
  rw [hp] at hsi
  have b1 := eX_16 hA t0.1 t0.2 (j := i * 6 + j) (by omega) (by omega)
  have b2 := eX_16 hA t0.1 t0.2 (j := j * 6 + i) (by omega) (by omega)
  have m1 : 1 * 1 ≤ A (A d 3) i * ((A (A d 2) (i * 6 + j)).natAbs : Int) := Int.mul_le_mul hsi.1 (by omega) (by omega) (by omega)
  have m2 : A (A d 3) i * ((A (A d 2) (i * 6 + j)).natAbs : Int) ≤ P * 2999 := Int.mul_le_mul hsi.2 (by omega) (by omega) (by omega)
  have hv0 : 1 ≤ ((A (A d 2) (j * 6 + i)).natAbs : Int) ∧ ((A (A d 2) (j * 6 + i)).natAbs : Int) ≤ 2999 := by omega
  refine Cl.of (Nat.le_of_ble_eq_true rfl) ?_
  show Tm pmt (an_sh wX) o_X2_sizeAlong 0 ([(2, d), (0, i), (0, j), (0, m), (9, 0), (9, 0), (9, 0), (9, 0), (9, 0), (9, 0), (9, 0)], [], A) _
  refine wq_ok (full := o_X2_sizeAlong) srt_along (fr := []) (cuts := [50]) (J := fun pc st => pc = 50 ∧ ∃ w, st = ([(2, d), (0, i), (0, j), (0, m), (1, A (A d 3) i * ((A (A d 2) (i * 6 + j)).natAbs : Int)), (9, 0), (1, ((A (A d 2) (j * 6 + i)).natAbs : Int)), (9, 0), (1, (Int.gcd (A (A d 3) i * ((A (A d 2) (i * 6 + j)).natAbs : Int)) ((A (A d 2) (j * 6 + i)).natAbs : Int) : Int)), (9, 0), w], [], A)) ?_ 60 0 _ ?_
  · rintro pc st ⟨rfl, w, rfl⟩
    exact al_50 hh0 (by omega) m2 hv0.1 hv0.2 w
  · refine ⟨oX_3 hd0 hdk 3 rfl, ?_⟩
    refine ⟨aX_11 s0.1 s0.2 (by omega) (by omega), ?_⟩
    refine ⟨oX_3 hd0 hdk 2 rfl, ?_⟩
    refine ⟨⟨by omega, by omega⟩, ?_⟩
    refine ⟨⟨by omega, by omega⟩, ?_⟩
    refine ⟨aX_16 t0.1 t0.2 (by omega) (by omega), ?_⟩
    refine ⟨⟨by omega, by omega⟩, ?_⟩
    refine ⟨⟨by omega, by omega⟩, ?_⟩
    refine ⟨oX_3 hd0 hdk 2 rfl, ?_⟩
    refine ⟨⟨by omega, by omega⟩, ?_⟩
    refine ⟨⟨by omega, by omega⟩, ?_⟩
    refine ⟨aX_16 t0.1 t0.2 (by omega) (by omega), ?_⟩
    refine ⟨⟨by omega, by omega⟩, ?_⟩
    refine ⟨rfl, ?_⟩
    refine (gd_ct (an_sh wX) (a := A (A d 3) i * ((A (A d 2) (i * 6 + j)).natAbs : Int)) (b := ((A (A d 2) (j * 6 + i)).natAbs : Int)) (by omega) (by omega) (by omega) (by omega)).imp ?_
    rintro r rfl
    exact ⟨rfl, _, rfl⟩
