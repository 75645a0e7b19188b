section
/-! Draft.sizeGroup -/
theorem srt_group : pm_srt o_X2_sizeGroup = true := by decide +kernel
theorem pigeon : ∀ (k n : Nat) (f : Nat → Nat), (∀ i, i < n → f i < k) → (∀ i j, i < j → j < n → ¬ f i = f j) → n ≤ k
  | 0, 0, f, h, _ => Nat.le_refl _
  | 0, n + 1, f, h, _ => absurd (h 0 (Nat.succ_pos _)) (Nat.not_lt_zero _)
  | k + 1, 0, f, _, _ => Nat.zero_le _
  | k + 1, n + 1, f, h, hi => by
    have := pigeon k n (fun i => if f i = k then f n else f i) (fun i hin => by
      have h1 := h i (by omega)
      have h2 := h n (by omega)
      have h3 := hi i n hin (by omega)
      show (if f i = k then f n else f i) < k
      by_cases e : f i = k
      · rw [if_pos e]; omega
      · rw [if_neg e]; omega) (fun i j hij hj => by
      have h1 := hi i j hij (by omega)
      have h2 := hi i n (by omega) (by omega)
      have h3 := hi j n (by omega) (by omega)
      show ¬ (if f i = k then f n else f i) = (if f j = k then f n else f j)
      by_cases e : f i = k
      · by_cases e2 : f j = k
        · omega
        · rw [if_pos e, if_neg e2]; omega
      · by_cases e2 : f j = k
        · rw [if_neg e, if_pos e2]; omega
        · rw [if_neg e, if_neg e2]; omega)
    omega
def pq (m : Int) : Int := 2999 ^ (m.toNat - 1)
theorem pq_le {m : Int} (h1 : 1 ≤ m) (h2 : m ≤ 5) : 0 ≤ pq m ∧ pq m ≤ 80892053988001 ∧ pq (m + 1) = pq m * 2999 := by
  have : m = 1 ∨ m = 2 ∨ m = 3 ∨ m = 4 ∨ m = 5 := by omega
  rcases this with rfl | rfl | rfl | rfl | rfl <;> decide
def sg_H (A : pm_A) (d : Int) : Prop := gH wX A ∧ (0 ≤ d ∧ wX.2 d = 3) ∧ ∀ i j, 0 ≤ i → i < A d 0 → 0 ≤ j → j < A d 0 → ¬ A (A d 2) (i * 6 + j) = 0 → ¬ A (A d 2) (j * 6 + i) = 0
def sg_fr (A B : pm_A) (d : Int) : Prop := ∀ r j : Int, ¬ r = A d 3 → ¬ r = A d 4 → B r j = A r j
def sg (A B : pm_A) (d m : Int) : Prop := gH wX B ∧ sg_fr A B d ∧ (1 ≤ m ∧ m ≤ 6) ∧ grp B d m (pq m) ∧ ∀ p, 0 ≤ p → p < m → B (A d 4) p < A d 0
def sg_post (A : pm_A) (d : Int) (r : pm_R) : Prop := r.1 = none ∧ gH wX r.2 ∧ sg_fr A r.2 d
theorem sg_ne {A : pm_A} {d : Int} (hA : gH wX A) (hd0 : 0 ≤ d) (hdk : wX.2 d = 3) : (¬ d = A d 3 ∧ ¬ d = A d 4) ∧ (¬ A d 4 = A d 3 ∧ ¬ A d 3 = A d 4) ∧ ¬ A d 2 = A d 3 ∧ ¬ A d 2 = A d 4 := by
  have s0 := fX_3_3 hA hd0 hdk
  have g0 := fX_3_4 hA hd0 hdk
  have t0 := fX_3_2 hA hd0 hdk
  refine ⟨⟨fun q => ?_, fun q => ?_⟩, ⟨fun q => ?_, fun q => ?_⟩, fun q => ?_, fun q => ?_⟩
  · rw [← q, hdk] at s0; exact absurd s0.2 (by decide)
  · rw [← q, hdk] at g0; exact absurd g0.2 (by decide)
  · rw [q, s0.2] at g0; exact absurd g0.2 (by decide)
  · rw [← q, s0.2] at g0; exact absurd g0.2 (by decide)
  · rw [q, s0.2] at t0; exact absurd t0.2 (by decide)
  · rw [q, g0.2] at t0; exact absurd t0.2 (by decide)
theorem sg_few {A B : pm_A} {d m j : Int} (hh : sg_H A d) (hB : sg A B d m) (hj0 : 0 ≤ j) (hj : j < A d 0) (hz : B (A d 3) j = 0) : m ≤ 5 := by
  obtain ⟨hA, ⟨hd0, hdk⟩, _⟩ := hh
  obtain ⟨b1, b2, b3, b4, b5⟩ := hB
  obtain ⟨⟨n1, n2⟩, ⟨n3, n3'⟩, n4, n5⟩ := sg_ne hA hd0 hdk
  have g0 := fX_3_4 hA hd0 hdk
  have p6 := fX_3_0 hA hd0 hdk
  have d3 : B d 3 = A d 3 := b2 d 3 n1 n2
  have d4 : B d 4 = A d 4 := b2 d 4 n1 n2
  unfold grp at b4
  rw [d3, d4] at b4
  have hb : ∀ p : Nat, p < m.toNat → 0 ≤ B (A d 4) p ∧ B (A d 4) p ≤ 5 ∧ ¬ B (A d 4) p = j := fun p hp => by
    have h1 := eX_17 b1 g0.1 g0.2 (j := (p : Int)) (by omega) (by omega)
    have h2 := b4.1 p (by omega) (by omega)
    refine ⟨h1.1, h1.2, fun q => ?_⟩
    rw [q, hz] at h2
    omega
  have := pigeon 6 (m.toNat + 1) (fun p => if p < m.toNat then (B (A d 4) p).toNat else j.toNat) (fun i hi => by
    show (if i < m.toNat then (B (A d 4) i).toNat else j.toNat) < 6
    by_cases e : i < m.toNat
    · have := hb i e
      rw [if_pos e]; omega
    · rw [if_neg e]; omega) (fun i k hik hk => by
    show ¬ (if i < m.toNat then (B (A d 4) i).toNat else j.toNat) = (if k < m.toNat then (B (A d 4) k).toNat else j.toNat)
    have hi := hb i (by omega)
    rw [if_pos (show i < m.toNat by omega)]
    by_cases e : k < m.toNat
    · have hk2 := hb k e
      have := b4.2 i k (by omega) (by omega) (by omega)
      rw [if_pos e]; omega
    · rw [if_neg e]; omega)
  omega
theorem sg_next {A B C : pm_A} {d m j x f : Int} (hh : sg_H A d) (hB : sg A B d m) (hm : m ≤ 5) (hj0 : 0 ≤ j) (hj : j < A d 0) (hz : B (A d 3) j = 0) (hx : 1 ≤ x) (hx1 : x ≤ pq m * 2999) (hf : 1 ≤ f) (hf1 : f ≤ 2999) (hC : scaled B C d m f m) : sg A (pm_upd (pm_upd C (A d 3) j x) (A d 4) m j) d (m + 1) := by
  obtain ⟨hA, ⟨hd0, hdk⟩, _⟩ := hh
  obtain ⟨b1, b2, b3, b4, b5⟩ := hB
  obtain ⟨⟨n1, n2⟩, ⟨n3, n3'⟩, n4, n5⟩ := sg_ne hA hd0 hdk
  have s0 := fX_3_3 hA hd0 hdk
  have g0 := fX_3_4 hA hd0 hdk
  have p6 := fX_3_0 hA hd0 hdk
  have d3 : B d 3 = A d 3 := b2 d 3 n1 n2
  have d4 : B d 4 = A d 4 := b2 d 4 n1 n2
  unfold grp at b4
  unfold scaled at hC
  rw [d3, d4] at b4 hC
  obtain ⟨c1, c2, c3, c4⟩ := hC
  obtain ⟨w1, w2, w3⟩ := pq_le b3.1 hm
  have fr : ∀ r k : Int, ¬ r = A d 3 → ¬ r = A d 4 → (pm_upd (pm_upd C (A d 3) j x) (A d 4) m j) r k = A r k := fun r k h1 h2 => by
    rw [upd_ne h2, upd_ne h1, c2 r k h1, b2 r k h1 h2]
  have gr : ∀ p, 0 ≤ p → p < m → (pm_upd (pm_upd C (A d 3) j x) (A d 4) m j) (A d 4) p = B (A d 4) p := fun p p0 p1 => by
    rw [upd_n2 (show ¬ p = m by omega), upd_ne n3, c2 _ _ n3]
  have gm : (pm_upd (pm_upd C (A d 3) j x) (A d 4) m j) (A d 4) m = j := upd_at
  have nj : ∀ p, 0 ≤ p → p < m → ¬ B (A d 4) p = j := fun p p0 p1 q => by
    have h2 := b4.1 p p0 p1
    rw [q, hz] at h2
    omega
  have sz : ∀ p, 0 ≤ p → p < m → (pm_upd (pm_upd C (A d 3) j x) (A d 4) m j) (A d 3) (B (A d 4) p) = B (A d 3) (B (A d 4) p) * f := fun p p0 p1 => by
    rw [upd_ne n3', upd_n2 (nj p p0 p1), c3 p p0 p1, if_pos p1]
  have sj : (pm_upd (pm_upd C (A d 3) j x) (A d 4) m j) (A d 3) j = x := by rw [upd_ne n3', upd_at]
  refine ⟨uX_17 (uX_11 c1 s0.2 (by omega) (by omega)) g0.2 (by omega) (by omega), fr, ⟨by omega, by omega⟩, ?_, fun p p0 p1 => ?_⟩
  · unfold grp
    rw [fr d 3 n1 n2, fr d 4 n1 n2]
    refine ⟨fun p p0 p1 => ?_, fun p q p0 pq q1 => ?_⟩
    · by_cases e : p = m
      · rw [e, gm, sj, w3]; exact ⟨hx, hx1⟩
      · have hp := b4.1 p p0 (by omega)
        rw [gr p p0 (by omega), sz p p0 (by omega), w3]
        have m1 : 1 * 1 ≤ B (A d 3) (B (A d 4) p) * f := Int.mul_le_mul hp.1 hf (by omega) (by omega)
        exact ⟨by omega, Int.mul_le_mul hp.2 hf1 (by omega) (by omega)⟩
    · rw [gr p p0 (by omega)]
      by_cases e : q = m
      · rw [e, gm]; exact nj p p0 (by omega)
      · rw [gr q (by omega) (by omega)]; exact b4.2 p q p0 pq (by omega)
  · by_cases e : p = m
    · rw [e, gm]; exact hj
    · rw [gr p p0 (by omega)]; exact b5 p p0 (by omega)
theorem sg_92 {A B C : pm_A} {d m j x f i a fi : Int} (hh : sg_H A d) (hB : sg A B d m) (hm : m ≤ 5) (hj0 : 0 ≤ j) (hj : j < A d 0) (hz : B (A d 3) j = 0) (hx : 1 ≤ x) (hx1 : x ≤ pq m * 2999) (hf : 1 ≤ f) (hf1 : f ≤ 2999) (hC : scaled B C d m f m)
    (H : ∀ D, sg A D d (m + 1) → (∀ p, 0 ≤ p → p < m → D (A d 4) p = B (A d 4) p) → Tm pmt (an_sh wX) o_X2_sizeGroup 40 ([(2, d), (0, fi), (0, m + 1), (0, a), (0, i), (0, j + 1)], [], D) (sg_post A d)) :
    Tm pmt (an_sh wX) o_X2_sizeGroup 92 ([(2, d), (0, fi), (0, m), (0, a), (0, i), (0, j)], [(1, x), (0, j), (2, A d 3)], C) (sg_post A d) := by
  have hn := sg_next hh hB hm hj0 hj hz hx hx1 hf hf1 hC
  obtain ⟨hA, ⟨hd0, hdk⟩, _⟩ := hh
  obtain ⟨b1, b2, b3, b4, b5⟩ := hB
  obtain ⟨⟨n1, n2⟩, ⟨n3, n3'⟩, n4, n5⟩ := sg_ne hA hd0 hdk
  have s0 := fX_3_3 hA hd0 hdk
  have g0 := fX_3_4 hA hd0 hdk
  have p6 := fX_3_0 hA hd0 hdk
  have d3 : B d 3 = A d 3 := b2 d 3 n1 n2
  have hC2 := hC.2.1
  rw [d3] at hC2
  have e4 : pm_upd C (A d 3) j x d 4 = A d 4 := by rw [upd_ne n1, hC2 d 4 n1, b2 d 4 n1 n2]
  refine wq_ok srt_group (fr := []) (cuts := [40]) (J := fun pc st => pc = 40 ∧ st = ([(2, d), (0, fi), (0, m + 1), (0, a), (0, i), (0, j + 1)], [], pm_upd (pm_upd C (A d 3) j x) (pm_upd C (A d 3) j x d 4) m j)) ?_ 40 92 _ ?_
  · rintro pc st ⟨rfl, rfl⟩
    rw [e4]
    refine H _ hn (fun p p0 p1 => ?_)
    rw [upd_n2 (show ¬ p = m by omega), upd_ne n3, hC2 _ _ n3]
  · refine ⟨tX_11 s0.1 s0.2 hj0 (by omega) rfl, ?_⟩
    refine ⟨oX_3 hd0 hdk 4 rfl, ?_⟩
    refine ⟨tX_17 (by rw [e4]; exact g0.1) (by rw [e4]; exact g0.2) (by omega) (by omega) rfl, ?_⟩
    refine ⟨⟨by omega, by omega⟩, ?_⟩
    refine ⟨⟨by omega, by omega⟩, ?_⟩
    exact ⟨rfl, rfl⟩
theorem sg_40 {A : pm_A} {d i a fi : Int} (hh : sg_H A d) (H : ∀ B m w4 w5, sg A B d m → a < m → Tm pmt (an_sh wX) o_X2_sizeGroup 110 ([(2, d), (0, fi), (0, m), (0, a), w4, w5], [], B) (sg_post A d)) : ∀ (n : Nat) (j : Int) (B : pm_A) (m : Int), (A d 0 - j).toNat < n → 0 ≤ j → j ≤ A d 0 → a < m → sg A B d m → (∃ p, 0 ≤ p ∧ p < m ∧ B (A d 4) p = i) → Tm pmt (an_sh wX) o_X2_sizeGroup 40 ([(2, d), (0, fi), (0, m), (0, a), (0, i), (0, j)], [], B) (sg_post A d) := by
  intro n
  induction n with
  | zero => intro j B m h; omega
  | succ n ih =>
    intro j B m hn hj0 hj1 ham hB hmem
    have hh0 := hh
    have hB0 := hB
    obtain ⟨hA, ⟨hd0, hdk⟩, hsy⟩ := hh
    obtain ⟨b1, b2, b3, b4, b5⟩ := hB
    obtain ⟨⟨n1, n2⟩, ⟨n3, n3'⟩, n4, n5⟩ := sg_ne hA hd0 hdk
    have s0 := fX_3_3 hA hd0 hdk
    have g0 := fX_3_4 hA hd0 hdk
    have t0 := fX_3_2 hA hd0 hdk
    have p6 := fX_3_0 hA hd0 hdk
    have d3 : B d 3 = A d 3 := b2 d 3 n1 n2
    have d4 : B d 4 = A d 4 := b2 d 4 n1 n2
    have d0 : B d 0 = A d 0 := b2 d 0 n1 n2
    have d2 : B d 2 = A d 2 := b2 d 2 n1 n2
    obtain ⟨p, p0, p1, hp⟩ := hmem
    have hi5 := eX_17 b1 g0.1 g0.2 p0 (show p < 6 by omega)
    have hil := b5 p p0 p1
    rw [hp] at hi5 hil
    refine wq_ok srt_group (fr := []) (cuts := [40, 92, 110]) (J := fun pc st => (pc = 40 ∧ j < A d 0 ∧ st = ([(2, d), (0, fi), (0, m), (0, a), (0, i), (0, j + 1)], [], B)) ∨ (pc = 110 ∧ st = ([(2, d), (0, fi), (0, m), (0, a), (0, i), (0, j)], [], B)) ∨ (pc = 92 ∧ j < A d 0 ∧ B (A d 3) j = 0 ∧ ∃ x f C, 1 ≤ x ∧ x ≤ pq m * 2999 ∧ 1 ≤ f ∧ f ≤ 2999 ∧ scaled B C d m f m ∧ st = ([(2, d), (0, fi), (0, m), (0, a), (0, i), (0, j)], [(1, x), (0, j), (2, B d 3)], C))) ?_ 80 40 _ ?_
    · rintro pc st (⟨rfl, hj, rfl⟩ | ⟨rfl, rfl⟩ | ⟨rfl, hj, hz, x, f, C, h1, h2, h3, h4, h5, rfl⟩)
      · exact ih (j + 1) B m (by omega) (by omega) (by omega) ham hB0 ⟨p, p0, p1, hp⟩
      · exact H B m _ _ hB0 ham
      · rw [d3]
        refine sg_92 hh0 hB0 (sg_few hh0 hB0 hj0 hj hz) hj0 hj hz h1 h2 h3 h4 h5 (fun D hD hDg => ?_)
        exact ih (j + 1) D (m + 1) (by omega) (by omega) (by omega) (by omega) hD ⟨p, p0, by omega, by rw [hDg p p0 p1]; exact hp⟩
    · refine ⟨oX_3 hd0 hdk 0 rfl, ?_⟩
      refine ⟨fun h => ?_, fun h => ?_⟩
      · exact Or.inr (Or.inl ⟨rfl, rfl⟩)
      · have hj : j < A d 0 := by rw [← d0]; exact h
        refine ⟨oX_3 hd0 hdk 3 rfl, ?_⟩
        refine ⟨aX_11 (by rw [d3]; exact s0.1) (by rw [d3]; exact s0.2) hj0 (by omega), ?_⟩
        refine ⟨fun q => ?_, fun q => ?_, fun q => ?_⟩
        · refine ⟨fun _ => ?_, fun q2 => absurd q2 (by decide)⟩
          refine ⟨⟨by omega, by omega⟩, ?_⟩
          exact Or.inl ⟨rfl, hj, rfl⟩
        · have hz : B (A d 3) j = 0 := by rw [← d3]; exact q
          refine ⟨fun q2 => absurd rfl q2, fun _ => ?_⟩
          refine ⟨oX_3 hd0 hdk 2 rfl, ?_⟩
          refine ⟨⟨by omega, by omega⟩, ?_⟩
          refine ⟨⟨by omega, by omega⟩, ?_⟩
          refine ⟨aX_16 (by rw [d2]; exact t0.1) (by rw [d2]; exact t0.2) (by omega) (by omega), ?_⟩
          refine ⟨fun q2 => ?_, fun q2 => ?_⟩
          · refine ⟨⟨by omega, by omega⟩, ?_⟩
            exact Or.inl ⟨rfl, hj, rfl⟩
          · refine ⟨oX_3 hd0 hdk 3 rfl, ?_⟩
            refine ⟨rX_3 hd0 hdk, ?_⟩
            have hm5 := sg_few hh0 hB0 hj0 hj hz
            obtain ⟨w1, w2, w3⟩ := pq_le b3.1 hm5
            have tq : ∀ k, B (B d 2) k = A (A d 2) k := fun k => by rw [d2]; exact b2 _ _ n4 n5
            have q3 : ¬ B (B d 2) (i * 6 + j) = 0 := q2
            have q4 : ¬ B (B d 2) (j * 6 + i) = 0 := by
              rw [tq] at q3 ⊢
              exact hsy i j (by omega) hil hj0 hj q3
            refine (along_ct (A := B) (d := d) (i := i) (j := j) (m := m) (P := pq m) ⟨b1, ⟨hd0, hdk⟩, ⟨by omega, by omega⟩, ⟨hj0, by omega⟩, ⟨b3.1, hm5⟩, b4, ⟨w1, w2⟩, ⟨p, p0, p1, by rw [d4]; exact hp⟩, q3, q4⟩).imp ?_
            rintro ⟨r1, C⟩ ⟨x, f, e, k1, k2, k3, k4, k5⟩
            simp only at e k5
            subst e
            exact Or.inr (Or.inr ⟨rfl, hj, hz, x, f, C, k1, k2, k3, k4, k5, rfl⟩)
        · refine ⟨fun _ => ?_, fun q2 => absurd q2 (by decide)⟩
          refine ⟨⟨by omega, by omega⟩, ?_⟩
          exact Or.inl ⟨rfl, hj, rfl⟩
theorem sg_18 {A : pm_A} {d fi : Int} (hh : sg_H A d) : ∀ (n : Nat) (a : Int) (B : pm_A) (m : Int) (w4 w5 : pm_V), (6 - a).toNat < n → 0 ≤ a → a ≤ 6 → sg A B d m → Tm pmt (an_sh wX) o_X2_sizeGroup 18 ([(2, d), (0, fi), (0, m), (0, a), w4, w5], [], B) (sg_post A d) := by
  intro n
  induction n with
  | zero => intro a B m w4 w5 h; omega
  | succ n ih =>
    intro a B m w4 w5 hn ha0 ha1 hB
    have hh0 := hh
    have hB0 := hB
    obtain ⟨hA, ⟨hd0, hdk⟩, hsy⟩ := hh
    obtain ⟨b1, b2, b3, b4, b5⟩ := hB
    obtain ⟨⟨n1, n2⟩, ⟨n3, n3'⟩, n4, n5⟩ := sg_ne hA hd0 hdk
    have g0 := fX_3_4 hA hd0 hdk
    have p6 := fX_3_0 hA hd0 hdk
    have d4 : B d 4 = A d 4 := b2 d 4 n1 n2
    refine wq_ok srt_group (fr := []) (cuts := [40]) (J := fun pc st => pc = 40 ∧ a < m ∧ a < 6 ∧ st = ([(2, d), (0, fi), (0, m), (0, a), (0, B (B d 4) a), (0, 0)], [], B)) ?_ 40 18 _ ?_
    · rintro pc st ⟨rfl, ham, ha6, rfl⟩
      refine sg_40 hh0 (fun C k w4 w5 hC hk => ?_) _ 0 B m (Nat.lt_succ_self _) (by omega) p6.1 ham hB0 ⟨a, ha0, ham, by rw [d4]⟩
      refine wq_ok srt_group (fr := []) (cuts := [18]) (J := fun pc st => pc = 18 ∧ st = ([(2, d), (0, fi), (0, k), (0, a + 1), w4, w5], [], C)) ?_ 40 110 _ ?_
      · rintro pc st ⟨rfl, rfl⟩
        exact ih (a + 1) C k w4 w5 (by omega) (by omega) (by omega) hC
      · refine ⟨⟨by omega, by omega⟩, ?_⟩
        exact ⟨rfl, rfl⟩
    · refine ⟨fun h => ?_, fun h => ?_⟩
      · exact ⟨rfl, b1, b2⟩
      · refine ⟨fun h2 => ?_, fun h2 => ?_⟩
        · exact ⟨rfl, b1, b2⟩
        · refine ⟨oX_3 hd0 hdk 4 rfl, ?_⟩
          refine ⟨aX_17 (by rw [d4]; exact g0.1) (by rw [d4]; exact g0.2) ha0 (by omega), ?_⟩
          exact ⟨rfl, h, h2, rfl⟩
theorem sg_start {A : pm_A} {d fi : Int} (hh : sg_H A d) (h0 : 0 ≤ fi) (h1 : fi < A d 0) : sg A (pm_upd (pm_upd A (A d 4) 0 fi) (A d 3) fi 1) d 1 := by
  obtain ⟨hA, ⟨hd0, hdk⟩, hsy⟩ := hh
  obtain ⟨⟨n1, n2⟩, ⟨n3, n3'⟩, n4, n5⟩ := sg_ne hA hd0 hdk
  have s0 := fX_3_3 hA hd0 hdk
  have g0 := fX_3_4 hA hd0 hdk
  have p6 := fX_3_0 hA hd0 hdk
  have fr : ∀ r k : Int, ¬ r = A d 3 → ¬ r = A d 4 → (pm_upd (pm_upd A (A d 4) 0 fi) (A d 3) fi 1) r k = A r k := fun r k h1 h2 => by rw [upd_ne h1, upd_ne h2]
  have gz : (pm_upd (pm_upd A (A d 4) 0 fi) (A d 3) fi 1) (A d 4) 0 = fi := by rw [upd_ne n3, upd_at]
  have sj : (pm_upd (pm_upd A (A d 4) 0 fi) (A d 3) fi 1) (A d 3) fi = 1 := upd_at
  refine ⟨uX_11 (uX_17 hA g0.2 (by omega) (by omega)) s0.2 (by omega) (by omega), fr, ⟨by omega, by omega⟩, ?_, fun p p0 p1 => ?_⟩
  · unfold grp
    rw [fr d 3 n1 n2, fr d 4 n1 n2]
    refine ⟨fun p p0 p1 => ?_, fun p q p0 pq q1 => by omega⟩
    have e : p = 0 := by omega
    rw [e, gz, sj]
    exact ⟨by omega, by decide⟩
  · have e : p = 0 := by omega
    rw [e, gz]; exact h1
theorem group_ct {A : pm_A} {d fi : Int} (hh : sg_H A d) (h0 : 0 ≤ fi) (h1 : fi < A d 0) : Cl pmt (an_sh wX) 27 [(2, d), (0, fi)] A (sg_post A d) := by
  have hs := sg_start hh h0 h1
  have hh0 := hh
  obtain ⟨hA, ⟨hd0, hdk⟩, hsy⟩ := hh
  obtain ⟨⟨n1, n2⟩, ⟨n3, n3'⟩, n4, n5⟩ := sg_ne hA hd0 hdk
  have s0 := fX_3_3 hA hd0 hdk
  have g0 := fX_3_4 hA hd0 hdk
  have p6 := fX_3_0 hA hd0 hdk
  have e3 : pm_upd A (A d 4) 0 fi d 3 = A d 3 := by rw [upd_ne n2]
  refine Cl.of (Nat.le_of_ble_eq_true rfl) ?_
  refine wq_ok (full := o_X2_sizeGroup) srt_group (fr := []) (cuts := [18]) (J := fun pc st => pc = 18 ∧ ∃ w4 w5, st = ([(2, d), (0, fi), (0, 1), (0, 0), w4, w5], [], pm_upd (pm_upd A (A d 4) 0 fi) (pm_upd A (A d 4) 0 fi d 3) fi 1)) ?_ 40 0 _ ?_
  · rintro pc st ⟨rfl, w4, w5, rfl⟩
    rw [e3]
    exact sg_18 hh0 _ 0 _ 1 w4 w5 (Nat.lt_succ_self _) (by omega) (by omega) hs
  · refine ⟨oX_3 hd0 hdk 4 rfl, ?_⟩
    refine ⟨tX_17 g0.1 g0.2 (by omega) (by omega) rfl, ?_⟩
    refine ⟨oX_3 hd0 hdk 3 rfl, ?_⟩
    refine ⟨tX_11 (by rw [e3]; exact s0.1) (by rw [e3]; exact s0.2) h0 (by omega) rfl, ?_⟩
    exact ⟨rfl, _, _, rfl⟩
end

section
/-! Draft.findSizes, Draft.fault -/
theorem srt_findSizes : pm_srt o_X2_findSizes = true := by decide +kernel
theorem srt_fault : pm_srt o_X2_fault = true := by decide +kernel
theorem srt_signum : pm_srt o_J6_signum_0f7a4 = true := by decide +kernel
def sgn (x : Int) : Int := pp_bi 4 (pp_bi 7 x 31) (pp_bi 8 (-x) 31)
theorem sgn_all : (List.range 5999).all (fun k => decide (sgn ((k : Int) - 2999) = Int.sign ((k : Int) - 2999))) = true := by decide +kernel
theorem sgn_val {x : Int} (h1 : -2999 ≤ x) (h2 : x ≤ 2999) : sgn x = Int.sign x := by
  have := List.all_eq_true.mp sgn_all (x + 2999).toNat (List.mem_range.mpr (by omega))
  have h := of_decide_eq_true this
  have e : (((x + 2999).toNat : Nat) : Int) - 2999 = x := by omega
  rw [e] at h
  exact h
theorem signum_ct {A : pm_A} (sh : pm_Sh) {x : Int} (h1 : -2999 ≤ x) (h2 : x ≤ 2999) : Cl pmt sh 0 [(0, x)] A (fun r => r = (some (0, Int.sign x), A)) := by
  rw [← sgn_val h1 h2]
  refine Cl.of (Nat.le_of_ble_eq_true rfl) ?_
  refine wq_ok (full := o_J6_signum_0f7a4) srt_signum (fr := []) (cuts := []) (J := fun pc st => False) (fun _ _ h => h.elim) 20 0 _ ?_
  refine ⟨⟨by omega, by omega⟩, ?_⟩
  exact ⟨rfl, rfl⟩
theorem fs_same {A B : pm_A} {d : Int} (hA : gH wX A) (hd0 : 0 ≤ d) (hdk : wX.2 d = 3) (hF : gFr wX [10011, 10017] A B) : B d 0 = A d 0 ∧ B d 2 = A d 2 ∧ B d 3 = A d 3 ∧ B d 4 = A d 4 ∧ ∀ k, 0 ≤ k → B (A d 2) k = A (A d 2) k := by
  have t0 := fX_3_2 hA hd0 hdk
  refine ⟨hF d 0 hd0 (by omega) ?_, hF d 2 hd0 (by omega) ?_, hF d 3 hd0 (by omega) ?_, hF d 4 hd0 (by omega) ?_, fun k k0 => hF _ k t0.1 k0 ?_⟩
  · unfold mcode; rw [shX_3 hdk]; show ¬ (200 : Nat) ∈ [10011, 10017]; decide
  · unfold mcode; rw [shX_3 hdk]; show ¬ (202 : Nat) ∈ [10011, 10017]; decide
  · unfold mcode; rw [shX_3 hdk]; show ¬ (203 : Nat) ∈ [10011, 10017]; decide
  · unfold mcode; rw [shX_3 hdk]; show ¬ (204 : Nat) ∈ [10011, 10017]; decide
  · unfold mcode; rw [shX_16 t0.2]; show ¬ (10000 + wX.2 (A d 2) : Nat) ∈ [10011, 10017]; rw [t0.2]; decide
theorem fs_H {A B : pm_A} {d : Int} (hh : sg_H A d) (hB : gH wX B) (hF : gFr wX [10011, 10017] A B) : sg_H B d := by
  obtain ⟨hA, ⟨hd0, hdk⟩, hsy⟩ := hh
  obtain ⟨e0, e2, e3, e4, et⟩ := fs_same hA hd0 hdk hF
  refine ⟨hB, ⟨hd0, hdk⟩, fun i j i0 i1 j0 j1 => ?_⟩
  rw [e0] at i1 j1
  rw [e2, et _ (by omega), et _ (by omega)]
  exact hsy i j i0 i1 j0 j1
theorem fs_fr {A B : pm_A} {d : Int} (hA : gH wX A) (hd0 : 0 ≤ d) (hdk : wX.2 d = 3) (hF : sg_fr A B d) : gFr wX [10011, 10017] A B := by
  have s0 := fX_3_3 hA hd0 hdk
  have g0 := fX_3_4 hA hd0 hdk
  exact fun r j r0 j0 hm => hF r j (fun q => hm (by rw [q]; exact mX_11 s0.2 rfl)) (fun q => hm (by rw [q]; exact mX_17 g0.2 rfl))
def fs_post (A : pm_A) (N : Int) (r : pm_R) : Prop := ∃ x, r.1 = some (0, x) ∧ 0 ≤ x ∧ x ≤ N ∧ gH wX r.2 ∧ gFr wX [10011, 10017] A r.2
def fs_L (d i j : Int) (v3 v4 v5 v6 : pm_V) : List pm_V := [(2, d), (0, i), (0, j), v3, v4, v5, v6]
theorem fs_52 {A B : pm_A} {d i : Int} (hB : gH wX B) (hF : gFr wX [10011, 10017] A B) (hd0 : 0 ≤ d) (hdk : wX.2 d = 3) (hi0 : 0 ≤ i) (hi1 : i ≤ 5) (H : ∀ j v3 v4 v5 v6, Tm pmt (an_sh wX) o_X2_findSizes 114 ([(2, d), (0, i), (0, j), v3, v4, v5, v6], [], B) (fs_post A 1)) : ∀ (n : Nat) (j : Int) (v3 v4 v5 v6 : pm_V), (i - j).toNat < n → 0 ≤ j → j ≤ i → Tm pmt (an_sh wX) o_X2_findSizes 52 ([(2, d), (0, i), (0, j), v3, v4, v5, v6], [], B) (fs_post A 1) := by
  have s0 := fX_3_3 hB hd0 hdk
  have t0 := fX_3_2 hB hd0 hdk
  intro n
  induction n with
  | zero => intro j v3 v4 v5 v6 h; omega
  | succ n ih =>
    intro j v3 v4 v5 v6 hn hj0 hj1
    refine wq_ok srt_findSizes (fr := [75, 95, 101]) (cuts := [52, 114]) (J := fun pc st => (pc = 52 ∧ j < i ∧ ∃ v3 v4 v5 v6, st = ([(2, d), (0, i), (0, j + 1), v3, v4, v5, v6], [], B)) ∨ (pc = 114 ∧ st = ([(2, d), (0, i), (0, j), v3, v4, v5, v6], [], B))) ?_ 60 52 _ ?_
    · rintro pc st (⟨rfl, hj, w3, w4, w5, w6, rfl⟩ | ⟨rfl, rfl⟩)
      · exact ih (j + 1) w3 w4 w5 w6 (by omega) (by omega) (by omega)
      · exact H j v3 v4 v5 v6
    · refine ⟨fun h => Or.inr ⟨rfl, rfl⟩, fun h => ?_⟩
      refine ⟨oX_3 hd0 hdk 3 rfl, ?_⟩
      refine ⟨aX_11 s0.1 s0.2 (by omega) (by omega), ?_⟩
      refine ⟨oX_3 hd0 hdk 2 rfl, ?_⟩
      refine ⟨⟨by omega, by omega⟩, ?_⟩
      refine ⟨⟨by omega, by omega⟩, ?_⟩
      refine ⟨aX_16 t0.1 t0.2 (by omega) (by omega), ?_⟩
      refine ⟨oX_3 hd0 hdk 3 rfl, ?_⟩
      refine ⟨aX_11 s0.1 s0.2 (by omega) (by omega), ?_⟩
      refine ⟨oX_3 hd0 hdk 2 rfl, ?_⟩
      refine ⟨⟨by omega, by omega⟩, ?_⟩
      refine ⟨⟨by omega, by omega⟩, ?_⟩
      refine ⟨aX_16 t0.1 t0.2 (by omega) (by omega), ?_⟩
      refine ⟨fun _ => ?_, fun _ => ?_, fun _ => ?_⟩
      · refine ⟨fun q => absurd q (by decide), fun _ => ?_⟩
        exact ⟨rfl, 0, rfl, by omega, by omega, hB, hF⟩
      · refine ⟨fun _ => ?_, fun q => absurd rfl q⟩
        refine ⟨⟨by omega, by omega⟩, ?_⟩
        exact Or.inl ⟨rfl, h, _, _, _, _, rfl⟩
      · refine ⟨fun q => absurd q (by decide), fun _ => ?_⟩
        exact ⟨rfl, 0, rfl, by omega, by omega, hB, hF⟩
theorem fs_42 {A B : pm_A} {d : Int} (hB : gH wX B) (hF : gFr wX [10011, 10017] A B) (hd0 : 0 ≤ d) (hdk : wX.2 d = 3) : ∀ (n : Nat) (i : Int) (v2 v3 v4 v5 v6 : pm_V), (B d 0 - i).toNat < n → 0 ≤ i → i ≤ B d 0 → Tm pmt (an_sh wX) o_X2_findSizes 42 ([(2, d), (0, i), v2, v3, v4, v5, v6], [], B) (fs_post A 1) := by
  have p6 := fX_3_0 hB hd0 hdk
  intro n
  induction n with
  | zero => intro i v2 v3 v4 v5 v6 h; omega
  | succ n ih =>
    intro i v2 v3 v4 v5 v6 hn hi0 hi1
    refine wq_ok srt_findSizes (fr := []) (cuts := [52]) (J := fun pc st => pc = 52 ∧ i < B d 0 ∧ st = ([(2, d), (0, i), (0, 0), v3, v4, v5, v6], [], B)) ?_ 60 42 _ ?_
    · rintro pc st ⟨rfl, hi, rfl⟩
      refine fs_52 hB hF hd0 hdk hi0 (by omega) (fun j w3 w4 w5 w6 => ?_) _ 0 v3 v4 v5 v6 (Nat.lt_succ_self _) (by omega) hi0
      refine wq_ok srt_findSizes (fr := []) (cuts := [42]) (J := fun pc st => pc = 42 ∧ st = ([(2, d), (0, i + 1), (0, j), w3, w4, w5, w6], [], B)) ?_ 60 114 _ ?_
      · rintro pc st ⟨rfl, rfl⟩
        exact ih (i + 1) _ w3 w4 w5 w6 (by omega) (by omega) (by omega)
      · refine ⟨⟨by omega, by omega⟩, ?_⟩
        exact ⟨rfl, rfl⟩
    · refine ⟨oX_3 hd0 hdk 0 rfl, ?_⟩
      refine ⟨fun h => ?_, fun h => ?_⟩
      · exact ⟨rfl, 1, rfl, by omega, by omega, hB, hF⟩
      · exact ⟨rfl, h, rfl⟩
theorem fs_10 {A : pm_A} {d : Int} (hh : sg_H A d) : ∀ (n : Nat) (i : Int) (B : pm_A) (v2 v3 v4 v5 v6 : pm_V), (A d 0 - i).toNat < n → 0 ≤ i → i ≤ A d 0 → gH wX B → gFr wX [10011, 10017] A B → Tm pmt (an_sh wX) o_X2_findSizes 10 ([(2, d), (0, i), v2, v3, v4, v5, v6], [], B) (fs_post A 1) := by
  intro n
  induction n with
  | zero => intro i B v2 v3 v4 v5 v6 h; omega
  | succ n ih =>
    intro i B v2 v3 v4 v5 v6 hn hi0 hi1 hB hF
    have hh0 := hh
    obtain ⟨hA, ⟨hd0, hdk⟩, hsy⟩ := hh
    have hHB := fs_H hh0 hB hF
    obtain ⟨e0, e2, e3, e4, et⟩ := fs_same hA hd0 hdk hF
    have p6 := fX_3_0 hA hd0 hdk
    have s0 := fX_3_3 hB hd0 hdk
    refine wq_ok srt_findSizes (fr := []) (cuts := [10, 42]) (J := fun pc st => (pc = 10 ∧ i < A d 0 ∧ ∃ C, gH wX C ∧ gFr wX [10011, 10017] A C ∧ st = ([(2, d), (0, i + 1), v2, v3, v4, v5, v6], [], C)) ∨ (pc = 42 ∧ st = ([(2, d), (0, 0), v2, v3, v4, v5, v6], [], B))) ?_ 60 10 _ ?_
    · rintro pc st (⟨rfl, hi, C, hC, hC2, rfl⟩ | ⟨rfl, rfl⟩)
      · exact ih (i + 1) C v2 v3 v4 v5 v6 (by omega) (by omega) (by omega) hC hC2
      · exact fs_42 hB hF hd0 hdk _ 0 v2 v3 v4 v5 v6 (Nat.lt_succ_self _) (by omega) (by rw [e0]; omega)
    · refine ⟨oX_3 hd0 hdk 0 rfl, ?_⟩
      refine ⟨fun h => Or.inr ⟨rfl, rfl⟩, fun h => ?_⟩
      have hi : i < A d 0 := by rw [← e0]; exact h
      refine ⟨oX_3 hd0 hdk 3 rfl, ?_⟩
      refine ⟨aX_11 s0.1 s0.2 (by omega) (by omega), ?_⟩
      refine ⟨fun _ => ?_, fun _ => ?_, fun _ => ?_⟩
      · refine ⟨fun _ => ?_, fun q => absurd q (by decide)⟩
        refine ⟨⟨by omega, by omega⟩, ?_⟩
        exact Or.inl ⟨rfl, hi, B, hB, hF, rfl⟩
      · refine ⟨fun q => absurd rfl q, fun _ => ?_⟩
        refine ⟨rX_3 hd0 hdk, ?_⟩
        refine (group_ct hHB hi0 h).imp ?_
        rintro ⟨r1, C⟩ ⟨q1, q2, q3⟩
        simp only at q1 q2 q3
        subst q1
        refine ⟨⟨by omega, by omega⟩, ?_⟩
        exact Or.inl ⟨rfl, hi, C, q2, gFr_tr hF (fs_fr hB hd0 hdk q3) (fun _ hx => hx), rfl⟩
      · refine ⟨fun _ => ?_, fun q => absurd q (by decide)⟩
        refine ⟨⟨by omega, by omega⟩, ?_⟩
        exact Or.inl ⟨rfl, hi, B, hB, hF, rfl⟩
theorem findSizes_ct {A : pm_A} {d : Int} (hh : sg_H A d) : Cl pmt (an_sh wX) 22 [(2, d)] A (fs_post A 1) := by
  have hh0 := hh
  obtain ⟨hA, ⟨hd0, hdk⟩, hsy⟩ := hh
  have p6 := fX_3_0 hA hd0 hdk
  have s0 := fX_3_3 hA hd0 hdk
  refine Cl.of (Nat.le_of_ble_eq_true rfl) ?_
  refine wq_ok (full := o_X2_findSizes) srt_findSizes (fr := []) (cuts := [10]) (J := fun pc st => pc = 10 ∧ ∃ B v2 v3 v4 v5 v6, gH wX B ∧ gFr wX [10011, 10017] A B ∧ st = ([(2, d), (0, 0), v2, v3, v4, v5, v6], [], B)) ?_ 30 0 _ ?_
  · rintro pc st ⟨rfl, B, v2, v3, v4, v5, v6, hB, hF, rfl⟩
    exact fs_10 hh0 _ 0 B v2 v3 v4 v5 v6 (Nat.lt_succ_self _) (by omega) p6.1 hB hF
  · refine ⟨oX_3 hd0 hdk 3 rfl, ?_⟩
    refine ⟨rfl, ?_⟩
    refine Cl.gct q_J7_fill_d0a16_0 (A := A) (a := [(2, A d 3), (1, 0)]) ⟨gv_ref s0.1 s0.2, ⟨rfl, by decide, by decide⟩, trivial⟩ hA ?_
    rintro ⟨r1, C⟩ g1 g2 g3
    simp only at g1 g2 g3
    cases r1 with
    | some v => exact absurd g1 (by intro q; cases q)
    | none =>
      exact ⟨rfl, C, _, _, _, _, _, g2, gFr_tr (fun _ _ _ _ _ => rfl) g3 (fun x hx => by
        cases hx with
        | head => exact List.Mem.head _
        | tail _ q => cases q), rfl⟩
def zs (A : pm_A) (d i j : Int) : Prop := A (A d 2) (i * 6 + j) = 0 ↔ A (A d 2) (j * 6 + i) = 0
theorem fa_44 {A : pm_A} {d i : Int} (hA : gH wX A) (hd0 : 0 ≤ d) (hdk : wX.2 d = 3) (hi0 : 0 ≤ i) (hi1 : i ≤ 5) (H : (∀ j, 0 ≤ j → j < i → zs A d i j) → ∀ j v3 v4, Tm pmt (an_sh wX) o_X2_fault 95 ([(2, d), (0, i), (0, j), v3, v4], [], A) (fs_post A 3)) : ∀ (n : Nat) (j : Int) (v3 v4 : pm_V), (i - j).toNat < n → 0 ≤ j → j ≤ i → (∀ k, 0 ≤ k → k < j → zs A d i k) → Tm pmt (an_sh wX) o_X2_fault 44 ([(2, d), (0, i), (0, j), v3, v4], [], A) (fs_post A 3) := by
  have t0 := fX_3_2 hA hd0 hdk
  intro n
  induction n with
  | zero => intro j v3 v4 h; omega
  | succ n ih =>
    intro j v3 v4 hn hj0 hj1 hz
    have b1 : j < i → _ := fun h => eX_16 hA t0.1 t0.2 (j := i * 6 + j) (by omega) (by omega)
    have b2 : j < i → _ := fun h => eX_16 hA t0.1 t0.2 (j := j * 6 + i) (by omega) (by omega)
    refine wq_ok srt_fault (fr := []) (cuts := [44, 95]) (J := fun pc st => (pc = 44 ∧ j < i ∧ zs A d i j ∧ ∃ v3 v4, st = ([(2, d), (0, i), (0, j + 1), v3, v4], [], A)) ∨ (pc = 95 ∧ i ≤ j ∧ st = ([(2, d), (0, i), (0, j), v3, v4], [], A))) ?_ 60 44 _ ?_
    · rintro pc st (⟨rfl, hj, hq, w3, w4, rfl⟩ | ⟨rfl, hj, rfl⟩)
      · refine ih (j + 1) w3 w4 (by omega) (by omega) (by omega) (fun k k0 k1 => ?_)
        by_cases e : k = j
        · rw [e]; exact hq
        · exact hz k k0 (by omega)
      · exact H (fun k k0 k1 => hz k k0 (by omega)) j v3 v4
    · refine ⟨fun h => Or.inr ⟨rfl, h, rfl⟩, fun h => ?_⟩
      have c1 := b1 h
      have c2 := b2 h
      refine ⟨oX_3 hd0 hdk 2 rfl, ?_⟩
      refine ⟨⟨by omega, by omega⟩, ?_⟩
      refine ⟨⟨by omega, by omega⟩, ?_⟩
      refine ⟨aX_16 t0.1 t0.2 (by omega) (by omega), ?_⟩
      refine ⟨oX_3 hd0 hdk 2 rfl, ?_⟩
      refine ⟨⟨by omega, by omega⟩, ?_⟩
      refine ⟨⟨by omega, by omega⟩, ?_⟩
      refine ⟨aX_16 t0.1 t0.2 (by omega) (by omega), ?_⟩
      refine ⟨rfl, ?_⟩
      refine (signum_ct (an_sh wX) c1.1 c1.2).imp ?_
      rintro r rfl
      refine ⟨rfl, ?_⟩
      refine (signum_ct (an_sh wX) c2.1 c2.2).imp ?_
      rintro r rfl
      have s2 : -1 ≤ Int.sign (A (A d 2) (j * 6 + i)) ∧ Int.sign (A (A d 2) (j * 6 + i)) ≤ 1 := by
        rcases Int.lt_trichotomy (A (A d 2) (j * 6 + i)) 0 with q | q | q
        · rw [Int.sign_eq_neg_one_of_neg q]; decide
        · rw [q]; decide
        · rw [Int.sign_eq_one_of_pos q]; decide
      refine ⟨⟨by omega, by omega⟩, ?_⟩
      refine ⟨fun q => ?_, fun _ => ?_⟩
      · refine ⟨⟨by omega, by omega⟩, ?_⟩
        refine Or.inl ⟨rfl, h, ?_, _, _, rfl⟩
        have q2 : Int.sign (A (A d 2) (i * 6 + j)) = - Int.sign (A (A d 2) (j * 6 + i)) := q
        constructor
        · intro z
          rw [z] at q2
          exact Int.sign_eq_zero_iff_zero.mp (by have : Int.sign 0 = 0 := rfl; omega)
        · intro z
          rw [z] at q2
          exact Int.sign_eq_zero_iff_zero.mp (by have : Int.sign 0 = 0 := rfl; omega)
      · exact ⟨rfl, 2, rfl, by omega, by omega, hA, fun _ _ _ _ _ => rfl⟩
theorem fa_34 {A : pm_A} {d : Int} (hA : gH wX A) (hd0 : 0 ≤ d) (hdk : wX.2 d = 3) : ∀ (n : Nat) (i : Int) (v2 v3 v4 : pm_V), (A d 0 - i).toNat < n → 0 ≤ i → i ≤ A d 0 → (∀ k j, k < i → 0 ≤ j → j < k → zs A d k j) → Tm pmt (an_sh wX) o_X2_fault 34 ([(2, d), (0, i), v2, v3, v4], [], A) (fs_post A 3) := by
  have p6 := fX_3_0 hA hd0 hdk
  intro n
  induction n with
  | zero => intro i v2 v3 v4 h; omega
  | succ n ih =>
    intro i v2 v3 v4 hn hi0 hi1 hz
    refine wq_ok srt_fault (fr := []) (cuts := [44, 102]) (J := fun pc st => (pc = 44 ∧ i < A d 0 ∧ st = ([(2, d), (0, i), (0, 0), v3, v4], [], A)) ∨ (pc = 102 ∧ A d 0 ≤ i ∧ st = ([(2, d), (0, i), v2, v3, v4], [(2, d)], A))) ?_ 60 34 _ ?_
    · rintro pc st (⟨rfl, hi, rfl⟩ | ⟨rfl, hi, rfl⟩)
      · refine fa_44 hA hd0 hdk hi0 (by omega) (fun hr j w3 w4 => ?_) _ 0 v3 v4 (Nat.lt_succ_self _) (by omega) hi0 (fun k k0 k1 => by omega)
        refine wq_ok srt_fault (fr := []) (cuts := [34]) (J := fun pc st => pc = 34 ∧ st = ([(2, d), (0, i + 1), (0, j), w3, w4], [], A)) ?_ 60 95 _ ?_
        · rintro pc st ⟨rfl, rfl⟩
          refine ih (i + 1) _ w3 w4 (by omega) (by omega) (by omega) (fun k j k1 j0 j1 => ?_)
          by_cases e : k = i
          · rw [e]; exact hr j j0 (by omega)
          · exact hz k j (by omega) j0 j1
        · refine ⟨⟨by omega, by omega⟩, ?_⟩
          exact ⟨rfl, rfl⟩
      · have hh : sg_H A d := ⟨hA, ⟨hd0, hdk⟩, fun a b a0 a1 b0 b1 q => by
          rcases Int.lt_trichotomy a b with c | c | c
          · exact fun z => q ((hz b a (by omega) a0 c).mp z)
          · rw [c] at q ⊢; exact q
          · exact fun z => q ((hz a b (by omega) b0 c).mpr z)⟩
        refine wq_ok srt_fault (fr := []) (cuts := []) (J := fun pc st => False) (fun _ _ h => h.elim) 60 102 _ ?_
        refine ⟨rX_3 hd0 hdk, ?_⟩
        refine (findSizes_ct hh).imp ?_
        rintro ⟨r1, C⟩ ⟨x, e, x0, x1, g1, g2⟩
        simp only at e g1 g2
        subst e
        refine ⟨fun q => ?_, fun q => ?_⟩
        · exact ⟨rfl, 3, rfl, by omega, by omega, g1, g2⟩
        · exact ⟨rfl, 0, rfl, by omega, by omega, g1, g2⟩
    · refine ⟨oX_3 hd0 hdk 0 rfl, ?_⟩
      refine ⟨fun h => Or.inr ⟨rfl, h, rfl⟩, fun h => Or.inl ⟨rfl, h, rfl⟩⟩
theorem fa_2 {A : pm_A} {d : Int} (hA : gH wX A) (hd0 : 0 ≤ d) (hdk : wX.2 d = 3) : ∀ (n : Nat) (i : Int) (v2 v3 v4 : pm_V), (A d 0 - i).toNat < n → 0 ≤ i → i ≤ A d 0 → Tm pmt (an_sh wX) o_X2_fault 2 ([(2, d), (0, i), v2, v3, v4], [], A) (fs_post A 3) := by
  have p6 := fX_3_0 hA hd0 hdk
  have t0 := fX_3_2 hA hd0 hdk
  intro n
  induction n with
  | zero => intro i v2 v3 v4 h; omega
  | succ n ih =>
    intro i v2 v3 v4 hn hi0 hi1
    refine wq_ok srt_fault (fr := []) (cuts := [2, 34]) (J := fun pc st => (pc = 2 ∧ i < A d 0 ∧ st = ([(2, d), (0, i + 1), v2, v3, v4], [], A)) ∨ (pc = 34 ∧ st = ([(2, d), (0, 0), v2, v3, v4], [], A))) ?_ 60 2 _ ?_
    · rintro pc st (⟨rfl, hi, rfl⟩ | ⟨rfl, rfl⟩)
      · exact ih (i + 1) v2 v3 v4 (by omega) (by omega) (by omega)
      · exact fa_34 hA hd0 hdk _ 0 v2 v3 v4 (Nat.lt_succ_self _) (by omega) p6.1 (fun k j k1 j0 j1 => by omega)
    · refine ⟨oX_3 hd0 hdk 0 rfl, ?_⟩
      refine ⟨fun h => Or.inr ⟨rfl, rfl⟩, fun h => ?_⟩
      refine ⟨oX_3 hd0 hdk 2 rfl, ?_⟩
      refine ⟨⟨by omega, by omega⟩, ?_⟩
      refine ⟨⟨by omega, by omega⟩, ?_⟩
      refine ⟨aX_16 t0.1 t0.2 (by omega) (by omega), ?_⟩
      refine ⟨fun _ => ?_, fun _ => ?_⟩
      · refine ⟨⟨by omega, by omega⟩, ?_⟩
        exact Or.inl ⟨rfl, h, rfl⟩
      · exact ⟨rfl, 1, rfl, by omega, by omega, hA, fun _ _ _ _ _ => rfl⟩
theorem fault_ct {A : pm_A} {d : Int} (hA : gH wX A) (hd0 : 0 ≤ d) (hdk : wX.2 d = 3) : Cl pmt (an_sh wX) 21 [(2, d)] A (fs_post A 3) := by
  have p6 := fX_3_0 hA hd0 hdk
  refine Cl.of (Nat.le_of_ble_eq_true rfl) ?_
  refine wq_ok (full := o_X2_fault) srt_fault (fr := []) (cuts := [2]) (J := fun pc st => pc = 2 ∧ ∃ v2 v3 v4, st = ([(2, d), (0, 0), v2, v3, v4], [], A)) ?_ 10 0 _ ?_
  · rintro pc st ⟨rfl, v2, v3, v4, rfl⟩
    exact fa_2 hA hd0 hdk _ 0 v2 v3 v4 (Nat.lt_succ_self _) (by omega) p6.1
  · exact ⟨rfl, _, _, _, rfl⟩
theorem q_X2_fault_0 : gCt wX pmt 21 Q_X2_fault_0 := by
  rintro l A ⟨hl, hA⟩
  match l, hl with
  | [x], ⟨h1, _⟩ =>
    obtain ⟨d, rfl, hd0, hdk⟩ := gRf (a := (2, 3, 0)) rfl h1
    refine Cl.imp (Q := fs_post A 3) (fault_ct hA hd0 hdk) ?_
    rintro ⟨r, B⟩ ⟨x, e, k1, k2, k3, k4⟩
    simp only at e k3 k4
    subst e
    exact ⟨⟨⟨rfl, k1, k2⟩, Nat.lt_of_sub_eq_succ rfl⟩, k3, k4⟩
end

section
theorem q_X9_begin_0 : gCt wX pmt 87 Q_X9_begin_0 := an_by [(21, Q_X2_fault_0), (109, Q_X9_startSeed_0)] [] [(0, [(2, 0, 0), (3, 0, 0)], [], [], [(0, 15)]), (28, [(2, 0, 0), (0, 0, 3)], [], [], [(0, 1)])] 21 (ct_c q_X2_fault_0 (ct_c q_X9_startSeed_0 ct_n)) (by decide +kernel)
theorem q_X9_same_0 : gCt wX pmt 106 Q_X9_same_0 := an_by [(70, Q_X7_isSameAs_0)] [] [(0, [(2, 0, 0), (0, (-2147483648), 2147483647)], [], [], [(0, 24)]), (21, [(2, 0, 0), (0, (-2147483648), 2147483647)], [], [], [(0, 1)]), (44, [(2, 0, 0), (0, 0, 3)], [(0, 0, 1)], [], [(0, 2)])] 30 (ct_c q_X7_isSameAs_0 ct_n) (by decide +kernel)
theorem q_X4_judge_0 : gCt wX pmt 35 Q_X4_judge_0 := an_by [(16, Q_X1_clear_0), (17, Q_X1_enter_0), (18, Q_X1_find_0), (34, Q_X4_isWild_0), (36, Q_X4_pack_0), (37, Q_X4_tracePath_0), (38, Q_X4_unpack_0), (116, Q_X9_turnTable_0)] [] [(0, [(2, 7, 0), (2, 10, 0), (0, 0, 6), (2, 6, 0), (3, 0, 0), (3, 0, 0)], [], [], [(0, 60), (0, 0), (0, 0), (0, 0), (0, 0)]), (59, [(2, 7, 0), (2, 10, 0), (0, 0, 6), (2, 6, 0), (0, 0, 3000), (3, 0, 0)], [], [(0, 401, 1, 1), (0, 400, 0, 0)], [(0, 25), (1, 4), (0, 11), (0, 0), (0, 0)]), (79, [(2, 7, 0), (2, 10, 0), (0, 0, 6), (2, 6, 0), (0, 0, 2999), (0, 0, 6)], [], [(0, 401, 1, 1), (0, 400, 0, 0)], [(0, 25), (1, 4), (0, 2), (1, 5), (0, 39)]), (184, [(2, 7, 0), (2, 10, 0), (0, 1, 6), (2, 6, 0), (0, 0, 2999), (0, 0, 5)], [], [(0, 401, 1, 1), (0, 400, 0, 0)], [(0, 25), (1, 4), (0, 2), (1, 5), (0, 1)]), (196, [(2, 7, 0), (2, 10, 0), (0, 0, 6), (2, 6, 0), (0, 0, 3000), (3, 0, 0)], [], [(3, 105, 0, 3000), (0, 401, 1, 1), (0, 400, 0, 0)], [(0, 5), (0, 0), (0, 0), (0, 0), (0, 0)])] 116 (ct_c q_X1_clear_0 (ct_c q_X1_enter_0 (ct_c q_X1_find_0 (ct_c q_X4_isWild_0 (ct_c q_X4_pack_0 (ct_c q_X4_tracePath_0 (ct_c q_X4_unpack_0 (ct_c q_X9_turnTable_0 ct_n)))))))) (by decide +kernel)
theorem q_X9_finite_0 : gCt wX pmt 90 Q_X9_finite_0 := an_by [(35, Q_X4_judge_0)] [] [(0, [(2, 0, 0)], [], [], [(0, 11)])] 17 (ct_c q_X4_judge_0 ct_n) (by decide +kernel)
end

section
/-! Draft.restart to an empty table; the bench's seed -/
theorem srt_restart : pm_srt o_X2_restart = true := by decide +kernel
theorem srt_seed : pm_srt o_X9_seed = true := by decide +kernel
def rs_M : List Nat := [200, 201, 10016]
def rs_post (A : pm_A) (t : Int) (r : pm_R) : Prop := r.1 = none ∧ gH wX r.2 ∧ gFr wX rs_M A r.2 ∧ bnd r.2 t 0
theorem rs_put {A : pm_A} {d n : Int} (hA : gH wX A) (hdk : wX.2 d = 3) (h0 : 0 ≤ n) (h1 : n ≤ 6) : gH wX (pm_upd A d 0 n) ∧ gH wX (pm_upd A d 1 n) := by
  refine ⟨gH_upd hA (k := (0, 2, 5, [(0, 0, 6), (0, 0, 6), (2, 16, 0), (2, 11, 0), (2, 17, 0)])) (by rw [hdk]; rfl) (fun _ j a hj ej => ?_) (fun q => by cases q), gH_upd hA (k := (0, 2, 5, [(0, 0, 6), (0, 0, 6), (2, 16, 0), (2, 11, 0), (2, 17, 0)])) (by rw [hdk]; rfl) (fun _ j a hj ej => ?_) (fun q => by cases q)⟩
  · have : j = 0 := by omega
    subst this
    cases hj
    exact ⟨rfl, by simp only; omega, by simp only; omega⟩
  · have : j = 1 := by omega
    subst this
    cases hj
    exact ⟨rfl, by simp only; omega, by simp only; omega⟩
theorem restart_ct {A : pm_A} {d n m : Int} (hA : gH wX A) (hd0 : 0 ≤ d) (hdk : wX.2 d = 3) (h0 : 0 ≤ n) (h1 : n ≤ 6) (h2 : 0 ≤ m) (h3 : m ≤ 6) : Cl pmt (an_sh wX) 25 [(2, d), (0, n), (0, m)] A (rs_post A (A d 2)) := by
  have t0 := fX_3_2 hA hd0 hdk
  have hB := (rs_put (rs_put hA hdk h0 h1).1 hdk h2 h3).2
  have hF : gFr wX rs_M A (pm_upd (pm_upd A d 0 n) d 1 m) := by
    refine gFr_upd (gFr_upd (fun _ _ _ _ _ => rfl) ?_) ?_
    · unfold mcode; rw [shX_3 hdk]; show 200 ∈ rs_M; decide
    · unfold mcode; rw [shX_3 hdk]; show 201 ∈ rs_M; decide
  have e2 : pm_upd (pm_upd A d 0 n) d 1 m d 2 = A d 2 := by rw [upd_n2 (by decide), upd_n2 (by decide)]
  refine Cl.of (Nat.le_of_ble_eq_true rfl) ?_
  refine wq_ok (full := o_X2_restart) srt_restart (fr := []) (cuts := []) (J := fun pc st => False) (fun _ _ h => h.elim) 20 0 _ ?_
  refine ⟨oX_3 hd0 hdk 0 rfl, ?_⟩
  refine ⟨oX_3 hd0 hdk 1 rfl, ?_⟩
  refine ⟨oX_3 hd0 hdk 2 rfl, ?_⟩
  refine ⟨rfl, ?_⟩
  refine (fill_ct (r := pm_upd (pm_upd A d 0 n) d 1 m d 2) hB (by rw [e2]; exact t0.1) (by rw [e2]; exact t0.2)).imp ?_
  rintro ⟨r1, C⟩ ⟨q1, q2, q3, q4⟩
  simp only at q1 q2 q3 q4
  subst q1
  rw [e2] at q4
  exact ⟨rfl, q2, gFr_tr hF q3 (fun x hx => by
    cases hx with
    | head => exact List.Mem.tail _ (List.Mem.tail _ (List.Mem.head _))
    | tail _ q => cases q), q4⟩
def sd_M : List Nat := [200, 201, 700, 701, 800, 801, 904, 10010, 10011, 10014, 10015, 10016, 10017]
def sd_post (A : pm_A) (r : pm_R) : Prop := ∃ x, r.1 = some (0, x) ∧ 0 ≤ x ∧ x ≤ 1 ∧ gH wX r.2 ∧ gFr wX sd_M A r.2
theorem sd_sub {ms : List Nat} (h : ms.all (fun x => sd_M.contains x) = true) : ∀ x ∈ ms, x ∈ sd_M := fun x hx => List.contains_iff_mem.mp (List.all_eq_true.mp h x hx)
theorem sd_72 {A B : pm_A} {s k : Int} (hs0 : 0 ≤ s) (hsk : wX.2 s = 0) (hB : gH wX B) (hF : gFr wX sd_M A B) : Tm pmt (an_sh wX) o_X9_seed 72 ([(2, s), (0, k)], [], B) (sd_post A) := by
  have d0 := fX_0_1 hB hs0 hsk
  refine wq_ok srt_seed (fr := []) (cuts := []) (J := fun pc st => False) (fun _ _ h => h.elim) 20 72 _ ?_
  refine ⟨oX_0 hs0 hsk 1 rfl, ?_⟩
  refine ⟨rX_3 d0.1 d0.2, ?_⟩
  refine (fault_ct hB d0.1 d0.2).imp ?_
  rintro ⟨r1, C⟩ ⟨x, e, x0, x1, c1, c2⟩
  simp only at e c1 c2
  subst e
  have hFC := gFr_tr hF c2 (sd_sub rfl)
  refine ⟨fun h => ?_, fun h => ?_⟩
  · refine ⟨rX_0 hs0 hsk, ?_⟩
    refine Cl.gct q_X9_startSeed_0 (A := C) (a := [(2, s)]) ⟨gv_ref hs0 hsk, trivial⟩ c1 ?_
    rintro ⟨r1, D⟩ g1 g2 g3
    simp only at g1 g2 g3
    cases r1 with
    | some v => exact absurd g1 (by intro q; cases q)
    | none => exact ⟨rfl, 1, rfl, by omega, by omega, g2, gFr_tr hFC g3 (sd_sub rfl)⟩
  · exact ⟨rfl, 0, rfl, by omega, by omega, c1, hFC⟩
theorem sd_56 {A B : pm_A} {s k : Int} (hs0 : 0 ≤ s) (hsk : wX.2 s = 0) (hk0 : 0 ≤ k) (hk1 : k ≤ 1) (hB : gH wX B) (hF : gFr wX sd_M A B) (hz : bnd B (B (B s 1) 2) 0) : Tm pmt (an_sh wX) o_X9_seed 56 ([(2, s), (0, k)], [], B) (sd_post A) := by
  have d0 := fX_0_1 hB hs0 hsk
  have t0 := fX_3_2 hB d0.1 d0.2
  have r0 := fX_0_13 hB hs0 hsk
  have g0 := eX_34 hB r0.1 r0.2 hk0 (show k < 2 by omega)
  refine wq_ok srt_seed (fr := []) (cuts := [72]) (J := fun pc st => pc = 72 ∧ ∃ C, gH wX C ∧ gFr wX sd_M A C ∧ st = ([(2, s), (0, k)], [], C)) ?_ 20 56 _ ?_
  · rintro pc st ⟨rfl, C, hC, hC2, rfl⟩
    exact sd_72 hs0 hsk hC hC2
  · refine ⟨oX_0 hs0 hsk 13 rfl, ?_⟩
    refine ⟨aX_34 r0.1 r0.2 hk0 (by omega), ?_⟩
    refine ⟨oX_0 hs0 hsk 1 rfl, ?_⟩
    refine ⟨oX_3 d0.1 d0.2 2 rfl, ?_⟩
    refine ⟨rX_9 g0.1 g0.2, ?_⟩
    refine (tellArrows_ct hB ⟨⟨g0.1, g0.2⟩, ⟨t0.1, t0.2⟩⟩ hz).imp ?_
    rintro ⟨r1, C⟩ ⟨q1, q2, q3⟩
    simp only at q1 q2 q3
    subst q1
    exact ⟨rfl, C, q2, gFr_tr hF q3 (sd_sub rfl), rfl⟩
theorem sd_37 {A B : pm_A} {s k : Int} (hs0 : 0 ≤ s) (hsk : wX.2 s = 0) (hk0 : 0 ≤ k) (hk1 : k ≤ 1) (hB : gH wX B) (hF : gFr wX sd_M A B) (hc : B (B (B s 13) k) 0 ≤ 9) : Tm pmt (an_sh wX) o_X9_seed 37 ([(2, s), (0, k)], [], B) (sd_post A) := by
  have d0 := fX_0_1 hB hs0 hsk
  have r0 := fX_0_13 hB hs0 hsk
  have g0 := eX_34 hB r0.1 r0.2 hk0 (show k < 2 by omega)
  have c0 := fX_9_0 hB g0.1 g0.2
  refine wq_ok srt_seed (fr := []) (cuts := [56]) (J := fun pc st => pc = 56 ∧ ∃ C, gH wX C ∧ gFr wX sd_M A C ∧ bnd C (C (C s 1) 2) 0 ∧ st = ([(2, s), (0, k)], [], C)) ?_ 30 37 _ ?_
  · rintro pc st ⟨rfl, C, hC, hC2, hC3, rfl⟩
    exact sd_56 hs0 hsk hk0 hk1 hC hC2 hC3
  · refine ⟨oX_0 hs0 hsk 1 rfl, ?_⟩
    refine ⟨oX_0 hs0 hsk 13 rfl, ?_⟩
    refine ⟨aX_34 r0.1 r0.2 hk0 (by omega), ?_⟩
    refine ⟨oX_9 g0.1 g0.2 0 rfl, ?_⟩
    refine ⟨⟨by omega, by omega⟩, ?_⟩
    refine ⟨rX_3 d0.1 d0.2, ?_⟩
    refine (restart_ct hB d0.1 d0.2 (n := B (B (B s 13) k) 0 - 3) (m := 0) (by omega) (by omega) (by omega) (by omega)).imp ?_
    rintro ⟨r1, C⟩ ⟨q1, q2, q3, q4⟩
    simp only at q1 q2 q3 q4
    subst q1
    have e1 : C s 1 = B s 1 := q3 s 1 hs0 (by omega) (by unfold mcode; rw [shX_0 hsk]; show ¬ 901 ∈ rs_M; decide)
    have e2 : C (B s 1) 2 = B (B s 1) 2 := q3 _ 2 d0.1 (by omega) (by unfold mcode; rw [shX_3 d0.2]; show ¬ 202 ∈ rs_M; decide)
    exact ⟨rfl, C, q2, gFr_tr hF q3 (sd_sub rfl), by rw [e1, e2]; exact q4, rfl⟩
theorem sd_7 {A B : pm_A} {s k : Int} (hs0 : 0 ≤ s) (hsk : wX.2 s = 0) (hk0 : 0 ≤ k) (hk1 : k ≤ 1) (hB : gH wX B) (hF : gFr wX sd_M A B) : Tm pmt (an_sh wX) o_X9_seed 7 ([(2, s), (0, k)], [], B) (sd_post A) := by
  have r0 := fX_0_13 hB hs0 hsk
  have g0 := eX_34 hB r0.1 r0.2 hk0 (show k < 2 by omega)
  refine wq_ok srt_seed (fr := []) (cuts := [19]) (J := fun pc st => pc = 19 ∧ ∃ C, gH wX C ∧ gFr wX sd_M A C ∧ st = ([(2, s), (0, k)], [], C)) ?_ 30 7 _ ?_
  · rintro pc st ⟨rfl, C, hC, hC2, rfl⟩
    have r1 := fX_0_13 hC hs0 hsk
    have g1 := eX_34 hC r1.1 r1.2 hk0 (show k < 2 by omega)
    have c1 := fX_9_0 hC g1.1 g1.2
    refine wq_ok srt_seed (fr := []) (cuts := [37]) (J := fun pc st => pc = 37 ∧ C (C (C s 13) k) 0 ≤ 9 ∧ st = ([(2, s), (0, k)], [], C)) ?_ 30 19 _ ?_
    · rintro pc st ⟨rfl, hc, rfl⟩
      exact sd_37 hs0 hsk hk0 hk1 hC hC2 hc
    · refine ⟨oX_0 hs0 hsk 13 rfl, ?_⟩
      refine ⟨aX_34 r1.1 r1.2 hk0 (by omega), ?_⟩
      refine ⟨oX_9 g1.1 g1.2 0 rfl, ?_⟩
      refine ⟨⟨by omega, by omega⟩, ?_⟩
      refine ⟨fun h => ?_, fun h => ?_⟩
      · exact ⟨rfl, by omega, rfl⟩
      · exact ⟨rfl, 0, rfl, by omega, by omega, hC, hC2⟩
  · refine ⟨oX_0 hs0 hsk 13 rfl, ?_⟩
    refine ⟨aX_34 r0.1 r0.2 hk0 (by omega), ?_⟩
    refine ⟨rX_9 g0.1 g0.2, ?_⟩
    refine Cl.gct q_X6_isCut_0 (A := B) (a := [(2, B (B s 13) k)]) ⟨gv_ref g0.1 g0.2, trivial⟩ hB ?_
    rintro ⟨r1, C⟩ g1 g2 g3
    simp only at g1 g2 g3
    have hFC := gFr_tr hF g3 (sd_sub rfl)
    match r1, g1 with
    | some (0, x), _ =>
      refine ⟨fun h => ?_, fun h => ?_⟩
      · exact ⟨rfl, 0, rfl, by omega, by omega, g2, hFC⟩
      · exact ⟨rfl, C, g2, hFC, rfl⟩
    | some (n + 1, x), ⟨⟨q, _⟩, _⟩ => exact absurd q (by intro q; cases q)
    | none, q => exact absurd q (by intro q; cases q)
theorem slot_ct {A : pm_A} {k : Int} (hA : gH wX A) (hk : r32 k) : Cl pmt (an_sh wX) 97 [(0, k)] A (fun r => ∃ x, r.1 = some (0, x) ∧ gH wX r.2 ∧ gFr wX [] A r.2 ∧ (¬ x = 0 → 0 ≤ k ∧ k ≤ 1)) := by
  have key : ∀ (lo hi c : Int), c = 0 ∨ (0 ≤ lo ∧ hi ≤ 1) → gCt wX pmt 97 ([(0, lo, hi)], some (0, c, c), []) → lo ≤ k → k ≤ hi → Cl pmt (an_sh wX) 97 [(0, k)] A (fun r => ∃ x, r.1 = some (0, x) ∧ gH wX r.2 ∧ gFr wX [] A r.2 ∧ (¬ x = 0 → 0 ≤ k ∧ k ≤ 1)) := by
    intro lo hi c hc hq h1 h2
    refine Cl.gct hq (A := A) (a := [(0, k)]) ⟨⟨rfl, h1, h2⟩, trivial⟩ hA ?_
    rintro ⟨r1, C⟩ g1 g2 g3
    simp only at g1 g2 g3
    match r1, g1 with
    | some (0, x), ⟨⟨_, q1, q2⟩, _⟩ =>
      simp only at q1 q2
      exact ⟨x, rfl, g2, g3, fun q => by omega⟩
    | some (n + 1, x), ⟨⟨q, _⟩, _⟩ => exact absurd q (by intro q; cases q)
    | none, q => exact absurd q (by intro q; cases q)
  unfold r32 at hk
  by_cases h1 : k < 0
  · exact key _ _ _ (Or.inl rfl) q_X9_isSlot_0 hk.1 (by omega)
  · by_cases h2 : k ≤ 1
    · exact key _ _ _ (Or.inr ⟨by omega, by omega⟩) q_X9_isSlot_1 (by omega) h2
    · exact key _ _ _ (Or.inl rfl) q_X9_isSlot_2 (by omega) hk.2
theorem seed_ct {A : pm_A} {s k : Int} (hA : gH wX A) (hs0 : 0 ≤ s) (hsk : wX.2 s = 0) (hk : r32 k) : Cl pmt (an_sh wX) 107 [(2, s), (0, k)] A (sd_post A) := by
  refine Cl.of (Nat.le_of_ble_eq_true rfl) ?_
  refine wq_ok (full := o_X9_seed) srt_seed (fr := []) (cuts := [7]) (J := fun pc st => pc = 7 ∧ (0 ≤ k ∧ k ≤ 1) ∧ ∃ C, gH wX C ∧ gFr wX sd_M A C ∧ st = ([(2, s), (0, k)], [], C)) ?_ 30 0 _ ?_
  · rintro pc st ⟨rfl, hk, C, hC, hC2, rfl⟩
    exact sd_7 hs0 hsk hk.1 hk.2 hC hC2
  · refine ⟨rfl, ?_⟩
    refine (slot_ct hA hk).imp ?_
    rintro ⟨r1, C⟩ ⟨x, e, c1, c2, c3⟩
    simp only at e c1 c2
    subst e
    have hFC : gFr wX sd_M A C := gFr_tr (fun _ _ _ _ _ => rfl) c2 (fun x hx => by cases hx)
    refine ⟨fun h => ?_, fun h => ?_⟩
    · exact ⟨rfl, 0, rfl, by omega, by omega, c1, hFC⟩
    · exact ⟨rfl, c3 h, C, c1, hFC, rfl⟩
theorem q_X9_seed_0 : gCt wX pmt 107 Q_X9_seed_0 := by
  rintro l A ⟨hl, hA⟩
  match l, hl with
  | [x, (0, k)], ⟨h1, ⟨_, k1, k2⟩, _⟩ =>
    obtain ⟨s, rfl, hs0, hsk⟩ := gRf (a := (2, 0, 0)) rfl h1
    refine Cl.imp (Q := sd_post A) (seed_ct hA hs0 hsk ⟨k1, k2⟩) ?_
    rintro ⟨r, B⟩ ⟨x, e, k1, k2, k3, k4⟩
    simp only at e k3 k4
    subst e
    exact ⟨⟨⟨rfl, k1, k2⟩, Nat.lt_of_sub_eq_succ rfl⟩, k3, k4⟩
  | [x, (n + 1, k)], ⟨_, ⟨q, _⟩, _⟩ => exact absurd q (by intro q; cases q)
end

section
theorem q_X7_hasTable_1 : gCt wX pmt 68 Q_X7_hasTable_1 := an_by [] [] [(0, [(2, 1, 0), (2, 25, 0), (0, 0, 10728), (2, 17, 0), (3, 0, 0), (3, 0, 0), (3, 0, 0)], [], [], [(0, 6), (0, 0), (0, 0), (0, 0), (0, 0)]), (3, [(2, 1, 0), (2, 25, 0), (0, 0, 10728), (2, 17, 0), (0, 0, 12), (3, 0, 0), (3, 0, 0)], [], [], [(0, 4), (1, 4), (0, 21), (0, 0), (0, 0)]), (35, [(2, 1, 0), (2, 25, 0), (0, 0, 10728), (2, 17, 0), (0, 0, 11), (3, 0, 0), (3, 0, 0)], [(0, 0, 11)], [(0, 700, 0, 6)], [(0, 4), (1, 4), (0, 5), (0, 0), (0, 0)]), (40, [(2, 1, 0), (2, 25, 0), (0, 0, 10728), (2, 17, 0), (0, 0, 11), (0, 0, 11), (0, 0, 6)], [], [(0, 700, 0, 6)], [(0, 4), (1, 4), (0, 2), (1, 6), (0, 25)])] 58 (ct_n) (by decide +kernel)
theorem q_X0_rowOf_0 : gCt wX pmt 13 Q_X0_rowOf_0 := an_by [(14, Q_X0_seatsMap_0), (68, Q_X7_hasTable_1)] [] [(0, [(2, 5, 0), (3, 0, 0)], [], [], [(0, 6), (0, 0), (0, 0)]), (2, [(2, 5, 0), (0, 0, 150)], [], [], [(0, 4), (1, 1), (0, 35)]), (67, [(2, 5, 0), (0, 0, 149)], [], [(0, 7, 1, 150)], [(0, 4), (1, 1), (0, 1)])] 47 (ct_c q_X0_seatsMap_0 (ct_c q_X7_hasTable_1 ct_n)) (by decide +kernel)
end

section
/-! Atlas: enter, arrive -/
theorem srt_enter : pm_srt o_X0_enter = true := by decide +kernel
theorem srt_arrive : pm_srt o_X0_arrive = true := by decide +kernel
def en_M : List Nat := [10017, 10023, 10024, 10025, 10026]
def en_N : List Nat := [7, 10017, 10023, 10024, 10025, 10026]
/-- the seats of the seed at hand are numbers of letters -/
def sat (A : pm_A) (a : Int) : Prop := ∀ i, 0 ≤ i → i < A (A a 8) 0 → 0 ≤ A (A a 9) i
def en_I (A B : pm_A) (a : Int) : Prop := gH wX B ∧ gFr wX en_M A B ∧ (0 ≤ a ∧ wX.2 a = 5) ∧ sat B a ∧ B a 7 < 150
theorem en_mc {a j : Int} (hk : wX.2 a = 5) (hj : j.toNat < 100) : ¬ mcode wX a j ∈ en_M := by
  unfold mcode; rw [shX_5 hk]
  show ¬ (100 * 0 + j.toNat) ∈ en_M
  intro q
  have h : ∀ x ∈ en_M, 10000 ≤ x := by decide
  have := h _ q
  omega
theorem en_keep {B C : pm_A} {a : Int} (hB : gH wX B) (ha0 : 0 ≤ a) (hak : wX.2 a = 5) (hF : gFr wX en_M B C) (hs : sat B a) : sat C a ∧ C a 7 = B a 7 := by
  have t0 := fX_5_8 hB ha0 hak
  have s0 := fX_5_9 hB ha0 hak
  have e8 : C a 8 = B a 8 := hF a 8 ha0 (by omega) (en_mc hak (by omega))
  have e9 : C a 9 = B a 9 := hF a 9 ha0 (by omega) (en_mc hak (by omega))
  have e7 : C a 7 = B a 7 := hF a 7 ha0 (by omega) (en_mc hak (by omega))
  have ep : C (B a 8) 0 = B (B a 8) 0 := hF _ 0 t0.1 (by omega) (by unfold mcode; rw [shX_1 t0.2]; show ¬ 700 ∈ en_M; decide)
  refine ⟨fun i i0 i1 => ?_, e7⟩
  rw [e8, ep] at i1
  have es : C (B a 9) i = B (B a 9) i := hF _ i s0.1 i0 (by unfold mcode; rw [shX_27 s0.2]; show ¬ (10000 + wX.2 (B a 9) : Nat) ∈ en_M; rw [s0.2]; decide)
  rw [e9, es]
  exact hs i i0 i1
theorem en_step {A B C : pm_A} {a : Int} (h : en_I A B a) (hC : gH wX C) (hF : gFr wX en_M B C) : en_I A C a := by
  obtain ⟨h1, h2, ⟨h3, h4⟩, h5, h6⟩ := h
  have k := en_keep h1 h3 h4 hF h5
  exact ⟨hC, gFr_tr h2 hF (fun _ hx => hx), ⟨h3, h4⟩, k.1, by rw [k.2]; exact h6⟩
theorem en_rfl {A : pm_A} : gFr wX en_M A A := fun _ _ _ _ _ => rfl
def en_post (A : pm_A) (a : Int) (r : pm_R) : Prop := ∃ x, r.1 = some (0, x) ∧ 0 ≤ x ∧ x ≤ 1 ∧ gH wX r.2 ∧ gFr wX en_N A r.2 ∧ (¬ x = 0 → A a 7 < 150)
theorem en_sub : ∀ x ∈ en_M, x ∈ en_N := fun x hx => List.Mem.tail _ hx
theorem en_123 {A B : pm_A} {a i : Int} (hI : en_I A B a) (hA : A a 7 < 150) : Tm pmt (an_sh wX) o_X0_enter 123 ([(2, a), (0, i)], [], B) (en_post A a) := by
  obtain ⟨h1, h2, ⟨h3, h4⟩, h5, h6⟩ := hI
  have r0 := fX_5_7 h1 h3 h4
  refine wq_ok srt_enter (fr := []) (cuts := []) (J := fun pc st => False) (fun _ _ h => h.elim) 20 123 _ ?_
  refine ⟨oX_5 h3 h4 7 rfl, ?_⟩
  refine ⟨⟨by omega, by omega⟩, ?_⟩
  refine ⟨oX_5 h3 h4 7 rfl, ?_⟩
  refine ⟨rfl, 1, rfl, by omega, by omega, ?_, ?_, fun _ => hA⟩
  · refine gH_upd h1 (k := (0, 0, 18, [(2, 22, 0), (0, 0, 100), (2, 23, 0), (2, 24, 0), (2, 25, 0), (2, 26, 0), (2, 26, 0), (0, 0, 150), (2, 1, 0), (2, 27, 0), (1, (-9223372036854775808), 9223372036854775807), (1, (-9223372036854775808), 9223372036854775807), (2, 17, 0), (0, (-1), 100), (0, 0, 12), (2, 19, 0), (2, 28, 0), (2, 29, 0)])) (by rw [h4]; rfl) (fun _ j v hj ej => ?_) (fun q => by cases q)
    have : j = 7 := by omega
    subst this
    cases hj
    exact ⟨rfl, by simp only; omega, by simp only; omega⟩
  · refine gFr_upd (gFr_tr (fun _ _ _ _ _ => rfl) h2 en_sub) ?_
    unfold mcode; rw [shX_5 h4]; show 7 ∈ en_N; decide
theorem en_110 {A B : pm_A} {a i : Int} (hI : en_I A B a) (hA : A a 7 < 150) : Tm pmt (an_sh wX) o_X0_enter 110 ([(2, a), (0, i)], [], B) (en_post A a) := by
  have hI0 := hI
  obtain ⟨h1, h2, ⟨h3, h4⟩, h5, h6⟩ := hI
  have r0 := fX_5_7 h1 h3 h4
  have l0 := fX_5_6 h1 h3 h4
  have v0 := fX_5_11 h1 h3 h4
  refine wq_ok srt_enter (fr := []) (cuts := [123]) (J := fun pc st => pc = 123 ∧ st = ([(2, a), (0, i)], [], pm_upd B (B a 6) (B a 7) (B a 11))) ?_ 20 110 _ ?_
  · rintro pc st ⟨rfl, rfl⟩
    exact en_123 (en_step hI0 (uX_26 h1 l0.2 v0.1 v0.2) (gFr_upd en_rfl (mX_26 l0.2 rfl))) hA
  · refine ⟨oX_5 h3 h4 6 rfl, ?_⟩
    refine ⟨oX_5 h3 h4 7 rfl, ?_⟩
    refine ⟨oX_5 h3 h4 11 rfl, ?_⟩
    refine ⟨tX_26 l0.1 l0.2 r0.1 h6 rfl, ?_⟩
    exact ⟨rfl, rfl⟩
theorem en_97 {A B : pm_A} {a i : Int} (hI : en_I A B a) (hA : A a 7 < 150) : Tm pmt (an_sh wX) o_X0_enter 97 ([(2, a), (0, i)], [], B) (en_post A a) := by
  have hI0 := hI
  obtain ⟨h1, h2, ⟨h3, h4⟩, h5, h6⟩ := hI
  have r0 := fX_5_7 h1 h3 h4
  have l0 := fX_5_5 h1 h3 h4
  have v0 := fX_5_10 h1 h3 h4
  refine wq_ok srt_enter (fr := []) (cuts := [110]) (J := fun pc st => pc = 110 ∧ st = ([(2, a), (0, i)], [], pm_upd B (B a 5) (B a 7) (B a 10))) ?_ 20 97 _ ?_
  · rintro pc st ⟨rfl, rfl⟩
    exact en_110 (en_step hI0 (uX_26 h1 l0.2 v0.1 v0.2) (gFr_upd en_rfl (mX_26 l0.2 rfl))) hA
  · refine ⟨oX_5 h3 h4 5 rfl, ?_⟩
    refine ⟨oX_5 h3 h4 7 rfl, ?_⟩
    refine ⟨oX_5 h3 h4 10 rfl, ?_⟩
    refine ⟨tX_26 l0.1 l0.2 r0.1 h6 rfl, ?_⟩
    exact ⟨rfl, rfl⟩
theorem en_73 {A B : pm_A} {a i : Int} (hI : en_I A B a) (hA : A a 7 < 150) : Tm pmt (an_sh wX) o_X0_enter 73 ([(2, a), (0, i)], [], B) (en_post A a) := by
  have hI0 := hI
  obtain ⟨h1, h2, ⟨h3, h4⟩, h5, h6⟩ := hI
  have r0 := fX_5_7 h1 h3 h4
  have s0 := fX_5_8 h1 h3 h4
  have t0 := fX_1_2 h1 s0.1 s0.2
  have o0 := fX_5_4 h1 h3 h4
  have e1 := shX_10 t0.2
  have e2 := shX_25 o0.2
  refine wq_ok srt_enter (fr := []) (cuts := [97]) (J := fun pc st => pc = 97 ∧ st = ([(2, a), (0, i)], [], pm_cpy B (B (B a 8) 2) 0 (B a 4) (B a 7 * 72) 72)) ?_ 20 73 _ ?_
  · rintro pc st ⟨rfl, rfl⟩
    exact en_97 (en_step hI0 (gH_cpy h1 (ka := (1, 0, 72, [(0, -2147483648, 2147483647)])) (kb := (1, 0, 10800, [(0, -2147483648, 2147483647)])) t0.1 (by rw [t0.2]; rfl) (by rw [o0.2]; rfl) rfl rfl rfl rfl rfl rfl (by omega) (by omega) (by simp only; omega)) (gFr_cpy en_rfl (fun j => mX_25 o0.2 rfl))) hA
  · refine ⟨oX_5 h3 h4 8 rfl, ?_⟩
    refine ⟨oX_1 s0.1 s0.2 2 rfl, ?_⟩
    refine ⟨oX_5 h3 h4 4 rfl, ?_⟩
    refine ⟨oX_5 h3 h4 7 rfl, ?_⟩
    refine ⟨⟨by omega, by omega⟩, ?_⟩
    refine ⟨⟨t0.1, o0.1, by rw [e1], by rw [e1], by rw [e2], by rw [e2], by omega, by omega, by omega, by rw [e1]; simp only; omega, by rw [e2]; simp only; omega⟩, ?_⟩
    exact ⟨rfl, rfl⟩
theorem en_52 {A B : pm_A} {a i : Int} (hI : en_I A B a) (hi0 : 0 ≤ i) (hi1 : i ≤ 5) (H : ∀ C, en_I A C a → Tm pmt (an_sh wX) o_X0_enter 14 ([(2, a), (0, i + 1)], [], C) (en_post A a)) : Tm pmt (an_sh wX) o_X0_enter 52 ([(2, a), (0, i)], [], B) (en_post A a) := by
  have hI0 := hI
  obtain ⟨h1, h2, ⟨h3, h4⟩, h5, h6⟩ := hI
  have r0 := fX_5_7 h1 h3 h4
  have l0 := fX_5_3 h1 h3 h4
  refine wq_ok srt_enter (fr := []) (cuts := [14]) (J := fun pc st => pc = 14 ∧ st = ([(2, a), (0, i + 1)], [], pm_upd B (B a 3) (B a 7 * 6 + i) 0)) ?_ 20 52 _ ?_
  · rintro pc st ⟨rfl, rfl⟩
    exact H _ (en_step hI0 (uX_24 h1 l0.2 (by omega) (by omega)) (gFr_upd en_rfl (mX_24 l0.2 rfl)))
  · refine ⟨oX_5 h3 h4 3 rfl, ?_⟩
    refine ⟨oX_5 h3 h4 7 rfl, ?_⟩
    refine ⟨⟨by omega, by omega⟩, ?_⟩
    refine ⟨⟨by omega, by omega⟩, ?_⟩
    refine ⟨tX_24 l0.1 l0.2 (by omega) (by omega) rfl, ?_⟩
    refine ⟨⟨by omega, by omega⟩, ?_⟩
    exact ⟨rfl, rfl⟩
theorem en_32 {A B : pm_A} {a i : Int} (hI : en_I A B a) (hi0 : 0 ≤ i) (hi : i < B (B a 8) 0) (H : ∀ C, en_I A C a → Tm pmt (an_sh wX) o_X0_enter 14 ([(2, a), (0, i + 1)], [], C) (en_post A a)) : Tm pmt (an_sh wX) o_X0_enter 32 ([(2, a), (0, i)], [], B) (en_post A a) := by
  have hI0 := hI
  obtain ⟨h1, h2, ⟨h3, h4⟩, h5, h6⟩ := hI
  have r0 := fX_5_7 h1 h3 h4
  have l0 := fX_5_2 h1 h3 h4
  have s0 := fX_5_9 h1 h3 h4
  have p0 := fX_5_8 h1 h3 h4
  have p6 := fX_1_0 h1 p0.1 p0.2
  have v0 := eX_27 h1 s0.1 s0.2 hi0 (by omega)
  have v1 := h5 i hi0 hi
  refine wq_ok srt_enter (fr := []) (cuts := [52]) (J := fun pc st => pc = 52 ∧ st = ([(2, a), (0, i)], [], pm_upd B (B a 2) (B a 7 * 6 + i) (B (B a 9) i))) ?_ 20 32 _ ?_
  · rintro pc st ⟨rfl, rfl⟩
    exact en_52 (en_step hI0 (uX_23 h1 l0.2 v1 v0.2) (gFr_upd en_rfl (mX_23 l0.2 rfl))) hi0 (by omega) H
  · refine ⟨oX_5 h3 h4 2 rfl, ?_⟩
    refine ⟨oX_5 h3 h4 7 rfl, ?_⟩
    refine ⟨⟨by omega, by omega⟩, ?_⟩
    refine ⟨⟨by omega, by omega⟩, ?_⟩
    refine ⟨oX_5 h3 h4 9 rfl, ?_⟩
    refine ⟨aX_27 s0.1 s0.2 hi0 (by omega), ?_⟩
    refine ⟨tX_23 l0.1 l0.2 (by omega) (by omega) rfl, ?_⟩
    exact ⟨rfl, rfl⟩
theorem en_14 {A : pm_A} {a : Int} (hA : A a 7 < 150) : ∀ (n : Nat) (i : Int) (B : pm_A), (7 - i).toNat < n → 0 ≤ i → i ≤ 6 → en_I A B a → Tm pmt (an_sh wX) o_X0_enter 14 ([(2, a), (0, i)], [], B) (en_post A a) := by
  intro n
  induction n with
  | zero => intro i B h; omega
  | succ n ih =>
    intro i B hn hi0 hi1 hI
    have hI0 := hI
    obtain ⟨h1, h2, ⟨h3, h4⟩, h5, h6⟩ := hI
    have l0 := fX_5_12 h1 h3 h4
    have p0 := fX_5_8 h1 h3 h4
    have p6 := fX_1_0 h1 p0.1 p0.2
    have nt : ¬ a = B a 12 := fun q => by rw [← q, h4] at l0; exact absurd l0.2 (by decide)
    have n8 : ¬ B a 8 = B a 12 := fun q => by rw [← q, p0.2] at l0; exact absurd l0.2 (by decide)
    refine wq_ok srt_enter (fr := []) (cuts := [32, 73]) (J := fun pc st => (pc = 73 ∧ st = ([(2, a), (0, i)], [], B)) ∨ (pc = 32 ∧ i < B (B a 8) 0 ∧ st = ([(2, a), (0, i)], [], pm_upd B (B a 12) i i))) ?_ 20 14 _ ?_
    · rintro pc st (⟨rfl, rfl⟩ | ⟨rfl, hi, rfl⟩)
      · exact en_73 hI0 hA
      · refine en_32 (en_step hI0 (uX_17 h1 l0.2 (by omega) (by omega)) (gFr_upd en_rfl (mX_17 l0.2 rfl))) hi0 (by rw [upd_ne nt, upd_ne n8]; exact hi) (fun C hC => ?_)
        exact ih (i + 1) C (by omega) (by omega) (by omega) hC
    · refine ⟨oX_5 h3 h4 8 rfl, ?_⟩
      refine ⟨oX_1 p0.1 p0.2 0 rfl, ?_⟩
      refine ⟨fun h => Or.inl ⟨rfl, rfl⟩, fun h => ?_⟩
      have hi : i < B (B a 8) 0 := h
      refine ⟨oX_5 h3 h4 12 rfl, ?_⟩
      refine ⟨tX_17 l0.1 l0.2 hi0 (by omega) rfl, ?_⟩
      exact Or.inr ⟨rfl, hi, rfl⟩
theorem enter_ct {A : pm_A} {a : Int} (hA : gH wX A) (ha0 : 0 ≤ a) (hak : wX.2 a = 5) (hs : sat A a) : Cl pmt (an_sh wX) 5 [(2, a)] A (en_post A a) := by
  refine Cl.of (Nat.le_of_ble_eq_true rfl) ?_
  refine wq_ok (full := o_X0_enter) srt_enter (fr := []) (cuts := [14]) (J := fun pc st => pc = 14 ∧ A a 7 < 150 ∧ st = ([(2, a), (0, 0)], [], A)) ?_ 20 0 _ ?_
  · rintro pc st ⟨rfl, h, rfl⟩
    exact en_14 h _ 0 A (Nat.lt_succ_self _) (by omega) (by omega) ⟨hA, en_rfl, ⟨ha0, hak⟩, hs, h⟩
  · refine ⟨oX_5 ha0 hak 7 rfl, ?_⟩
    refine ⟨fun h => ?_, fun h => ?_⟩
    · exact ⟨rfl, h, rfl⟩
    · exact ⟨rfl, 0, rfl, by omega, by omega, hA, fun _ _ _ _ _ => rfl, fun q => absurd rfl q⟩
def ar_M : List Nat := [7, 10, 11, 10017, 10023, 10024, 10025, 10026]
def ar_post (A : pm_A) (r : pm_R) : Prop := ∃ x, r.1 = some (0, x) ∧ 0 ≤ x ∧ x ≤ 1 ∧ gH wX r.2 ∧ gFr wX ar_M A r.2
theorem ar_sub {ms : List Nat} (h : ms.all (fun x => ar_M.contains x) = true) : ∀ x ∈ ms, x ∈ ar_M := fun x hx => List.contains_iff_mem.mp (List.all_eq_true.mp h x hx)
theorem ar_28 {A B : pm_A} {a k r : Int} (hB : gH wX B) (hF : gFr wX ar_M A B) (ha0 : 0 ≤ a) (hak : wX.2 a = 5) (hk0 : 0 ≤ k) (hk1 : k ≤ 5) (hr0 : 0 ≤ r) (hr1 : r ≤ 149) : Tm pmt (an_sh wX) o_X0_arrive 28 ([(2, a), (0, k), (0, r)], [], B) (ar_post A) := by
  have x0 := fX_5_3 hB ha0 hak
  have t0 := fX_5_12 hB ha0 hak
  have v0 := eX_17 hB t0.1 t0.2 hk0 (show k < 6 by omega)
  refine wq_ok srt_arrive (fr := []) (cuts := []) (J := fun pc st => False) (fun _ _ h => h.elim) 20 28 _ ?_
  refine ⟨oX_5 ha0 hak 3 rfl, ?_⟩
  refine ⟨⟨by omega, by omega⟩, ?_⟩
  refine ⟨oX_5 ha0 hak 12 rfl, ?_⟩
  refine ⟨aX_17 t0.1 t0.2 hk0 (by omega), ?_⟩
  refine ⟨⟨by omega, by omega⟩, ?_⟩
  refine ⟨tX_24 x0.1 x0.2 (by omega) (by omega) rfl, ?_⟩
  exact ⟨rfl, 1, rfl, by omega, by omega, uX_24 hB x0.2 (by omega) (by omega), gFr_upd hF (mX_24 x0.2 rfl)⟩
theorem ar_keep {B C : pm_A} {a : Int} {ms : List Nat} (hB : gH wX B) (ha0 : 0 ≤ a) (hak : wX.2 a = 5) (hF : gFr wX ms B C) (hm : (ms.contains 8 || ms.contains 9 || ms.contains 700 || ms.contains 10027) = false) (hs : sat B a) : sat C a := by
  have t0 := fX_5_8 hB ha0 hak
  have s0 := fX_5_9 hB ha0 hak
  simp only [Bool.or_eq_false_iff] at hm
  obtain ⟨⟨⟨m1, m2⟩, m3⟩, m4⟩ := hm
  have nm : ∀ {x : Nat}, ms.contains x = false → ¬ x ∈ ms := fun h q => by rw [List.contains_iff_mem.mpr q] at h; cases h
  have e8 : C a 8 = B a 8 := hF a 8 ha0 (by omega) (by unfold mcode; rw [shX_5 hak]; exact nm m1)
  have e9 : C a 9 = B a 9 := hF a 9 ha0 (by omega) (by unfold mcode; rw [shX_5 hak]; exact nm m2)
  have ep : C (B a 8) 0 = B (B a 8) 0 := hF _ 0 t0.1 (by omega) (by unfold mcode; rw [shX_1 t0.2]; exact nm m3)
  intro i i0 i1
  rw [e8, ep] at i1
  have es : C (B a 9) i = B (B a 9) i := hF _ i s0.1 i0 (by unfold mcode; rw [shX_27 s0.2]; show ¬ (10000 + wX.2 (B a 9) : Nat) ∈ ms; rw [s0.2]; exact nm m4)
  rw [e9, es]
  exact hs i i0 i1
theorem ar_4 {A B : pm_A} {a k : Int} {v2 : pm_V} (hB : gH wX B) (hF : gFr wX ar_M A B) (ha0 : 0 ≤ a) (hak : wX.2 a = 5) (hk0 : 0 ≤ k) (hk1 : k ≤ 5) (hs : sat B a) : Tm pmt (an_sh wX) o_X0_arrive 4 ([(2, a), (0, k), v2], [], B) (ar_post A) := by
  refine wq_ok srt_arrive (fr := []) (cuts := [14, 28]) (J := fun pc st => ∃ C, gH wX C ∧ gFr wX ar_M A C ∧ sat C a ∧ ((pc = 14 ∧ ∃ v2, st = ([(2, a), (0, k), v2], [], C)) ∨ (pc = 28 ∧ ∃ r : Int, (0 ≤ r ∧ r ≤ 149) ∧ st = ([(2, a), (0, k), (0, r)], [], C)))) ?_ 30 4 _ ?_
  · rintro pc st ⟨C, hC, hC2, hC3, ⟨rfl, v2, rfl⟩ | ⟨rfl, r, hr, rfl⟩⟩
    · have r0 := fX_5_7 hC ha0 hak
      refine wq_ok srt_arrive (fr := []) (cuts := [28]) (J := fun pc st => pc = 28 ∧ C a 7 < 150 ∧ ∃ D, gH wX D ∧ gFr wX ar_M A D ∧ st = ([(2, a), (0, k), (0, C a 7)], [], D)) ?_ 30 14 _ ?_
      · rintro pc st ⟨rfl, h, D, hD, hD2, rfl⟩
        exact ar_28 hD hD2 ha0 hak hk0 hk1 r0.1 (by omega)
      · refine ⟨oX_5 ha0 hak 7 rfl, ?_⟩
        refine ⟨rX_5 ha0 hak, ?_⟩
        refine (enter_ct hC ha0 hak hC3).imp ?_
        rintro ⟨r1, D⟩ ⟨x, e, x0, x1, d1, d2, d3⟩
        simp only at e d1 d2
        subst e
        have hD2 := gFr_tr hC2 d2 (ar_sub rfl)
        refine ⟨fun h => ?_, fun h => ?_⟩
        · exact ⟨rfl, d3 h, D, d1, hD2, rfl⟩
        · exact ⟨rfl, 0, rfl, by omega, by omega, d1, hD2⟩
    · exact ar_28 hC hC2 ha0 hak hk0 hk1 hr.1 hr.2
  · refine ⟨rX_5 ha0 hak, ?_⟩
    refine Cl.gct q_X0_rowOf_0 (A := B) (a := [(2, a)]) ⟨gv_ref ha0 hak, trivial⟩ hB ?_
    rintro ⟨r1, C⟩ g1 g2 g3
    simp only at g1 g2 g3
    have hC2 := gFr_tr hF g3 (ar_sub rfl)
    have hC3 := ar_keep hB ha0 hak g3 rfl hs
    match r1, g1 with
    | some (0, x), ⟨⟨_, q1, q2⟩, _⟩ =>
      simp only at q1 q2
      refine ⟨fun h => ?_, fun h => ?_⟩
      · exact ⟨C, g2, hC2, hC3, Or.inr ⟨rfl, x, ⟨by omega, q2⟩, rfl⟩⟩
      · exact ⟨C, g2, hC2, hC3, Or.inl ⟨rfl, _, rfl⟩⟩
    | some (n + 1, x), ⟨⟨q, _⟩, _⟩ => exact absurd q (by intro q; cases q)
    | none, q => exact absurd q (by intro q; cases q)
theorem arrive_ct {A : pm_A} {a k : Int} (hA : gH wX A) (ha0 : 0 ≤ a) (hak : wX.2 a = 5) (hk0 : 0 ≤ k) (hk1 : k ≤ 5) (hs : sat A a) : Cl pmt (an_sh wX) 4 [(2, a), (0, k)] A (ar_post A) := by
  refine Cl.of (Nat.le_of_ble_eq_true rfl) ?_
  refine wq_ok (full := o_X0_arrive) srt_arrive (fr := []) (cuts := [4]) (J := fun pc st => pc = 4 ∧ ∃ C v2, gH wX C ∧ gFr wX ar_M A C ∧ sat C a ∧ st = ([(2, a), (0, k), v2], [], C)) ?_ 20 0 _ ?_
  · rintro pc st ⟨rfl, C, v2, hC, hC2, hC3, rfl⟩
    exact ar_4 hC hC2 ha0 hak hk0 hk1 hC3
  · refine ⟨rX_5 ha0 hak, ?_⟩
    refine Cl.gct q_X0_gatherLetters_0 (A := A) (a := [(2, a)]) ⟨gv_ref ha0 hak, trivial⟩ hA ?_
    rintro ⟨r1, C⟩ g1 g2 g3
    simp only at g1 g2 g3
    cases r1 with
    | some v => exact absurd g1 (by intro q; cases q)
    | none => exact ⟨rfl, C, _, g2, gFr_tr (fun _ _ _ _ _ => rfl) g3 (ar_sub rfl), ar_keep hA ha0 hak g3 rfl hs, rfl⟩
end
