/-! Draft.sizeGroup -/
theorem srt_group : pm_srt o_X2_sizeGroup = true := by decide +kernel
theorem pigeon : ∀ (k n : Nat) (f : Nat → Nat), (∀ i, i < n → f i < k) → (∀ i j, i < j → j < n → ¬ f i = f j) → n ≤ k
  | 0, 0, f, h, _ => Nat.le_refl _
  | 0, n + 1, f, h, _ => absurd (h 0 (Nat.succ_pos _)) (Nat.not_lt_zero _)
  | k + 1, 0, f, _, _ => Nat.zero_le _
  | k + 1, n + 1, f, h, hi => by
    have := pigeon k n (fun i => if f i = k then f n else f i) (fun i hin => by
      have h1 := h i (by omega)
      have h2 := h n (by omega)
      have h3 := hi i n hin (by omega)
      show (if f i = k then f n else f i) < k
      by_cases e : f i = k
      · rw [if_pos e]; omega
      · rw [if_neg e]; omega) (fun i j hij hj => by
      have h1 := hi i j hij (by omega)
      have h2 := hi i n (by omega) (by omega)
      have h3 := hi j n (by omega) (by omega)
      show ¬ (if f i = k then f n else f i) = (if f j = k then f n else f j)
      by_cases e : f i = k
      · by_cases e2 : f j = k
        · omega
        · rw [if_pos e, if_neg e2]; omega
      · by_cases e2 : f j = k
        · rw [if_neg e, if_pos e2]; omega
        · rw [if_neg e, if_neg e2]; omega)
    omega
def pq (m : Int) : Int := 2999 ^ (m.toNat - 1)
theorem pq_le {m : Int} (h1 : 1 ≤ m) (h2 : m ≤ 5) : 0 ≤ pq m ∧ pq m ≤ 80892053988001 ∧ pq (m + 1) = pq m * 2999 := by
  have : m = 1 ∨ m = 2 ∨ m = 3 ∨ m = 4 ∨ m = 5 := by omega
  rcases this with rfl | rfl | rfl | rfl | rfl <;> decide
def sg_H (A : pm_A) (d : Int) : Prop := gH wX A ∧ (0 ≤ d ∧ wX.2 d = 3) ∧ ∀ i j, 0 ≤ i → i < A d 0 → 0 ≤ j → j < A d 0 → ¬ A (A d 2) (i * 6 + j) = 0 → ¬ A (A d 2) (j * 6 + i) = 0
def sg_fr (A B : pm_A) (d : Int) : Prop := ∀ r j : Int, ¬ r = A d 3 → ¬ r = A d 4 → B r j = A r j
def sg (A B : pm_A) (d m : Int) : Prop := gH wX B ∧ sg_fr A B d ∧ (1 ≤ m ∧ m ≤ 6) ∧ grp B d m (pq m) ∧ ∀ p, 0 ≤ p → p < m → B (A d 4) p < A d 0
def sg_post (A : pm_A) (d : Int) (r : pm_R) : Prop := r.1 = none ∧ gH wX r.2 ∧ sg_fr A r.2 d
theorem sg_ne {A : pm_A} {d : Int} (hA : gH wX A) (hd0 : 0 ≤ d) (hdk : wX.2 d = 3) : (¬ d = A d 3 ∧ ¬ d = A d 4) ∧ (¬ A d 4 = A d 3 ∧ ¬ A d 3 = A d 4) ∧ ¬ A d 2 = A d 3 ∧ ¬ A d 2 = A d 4 := by
  have s0 := fX_3_3 hA hd0 hdk
  have g0 := fX_3_4 hA hd0 hdk
  have t0 := fX_3_2 hA hd0 hdk
  refine ⟨⟨fun q => ?_, fun q => ?_⟩, ⟨fun q => ?_, fun q => ?_⟩, fun q => ?_, fun q => ?_⟩
  · rw [← q, hdk] at s0; exact absurd s0.2 (by decide)
  · rw [← q, hdk] at g0; exact absurd g0.2 (by decide)
  · rw [q, s0.2] at g0; exact absurd g0.2 (by decide)
  · rw [← q, s0.2] at g0; exact absurd g0.2 (by decide)
  · rw [q, s0.2] at t0; exact absurd t0.2 (by decide)
  · rw [q, g0.2] at t0; exact absurd t0.2 (by decide)
theorem sg_few {A B : pm_A} {d m j : Int} (hh : sg_H A d) (hB : sg A B d m) (hj0 : 0 ≤ j) (hj : j < A d 0) (hz : B (A d 3) j = 0) : m ≤ 5 := by
  obtain ⟨hA, ⟨hd0, hdk⟩, _⟩ := hh
  obtain ⟨b1, b2, b3, b4, b5⟩ := hB
  obtain ⟨⟨n1, n2⟩, ⟨n3, n3'⟩, n4, n5⟩ := sg_ne hA hd0 hdk
  have g0 := fX_3_4 hA hd0 hdk
  have p6 := fX_3_0 hA hd0 hdk
  have d3 : B d 3 = A d 3 := b2 d 3 n1 n2
  have d4 : B d 4 = A d 4 := b2 d 4 n1 n2
  unfold grp at b4
  rw [d3, d4] at b4
  have hb : ∀ p : Nat, p < m.toNat → 0 ≤ B (A d 4) p ∧ B (A d 4) p ≤ 5 ∧ ¬ B (A d 4) p = j := fun p hp => by
    have h1 := eX_17 b1 g0.1 g0.2 (j := (p : Int)) (by omega) (by omega)
    have h2 := b4.1 p (by omega) (by omega)
    refine ⟨h1.1, h1.2, fun q => ?_⟩
    rw [q, hz] at h2
    omega
  have := pigeon 6 (m.toNat + 1) (fun p => if p < m.toNat then (B (A d 4) p).toNat else j.toNat) (fun i hi => by
    show (if i < m.toNat then (B (A d 4) i).toNat else j.toNat) < 6
    by_cases e : i < m.toNat
    · have := hb i e
      rw [if_pos e]; omega
    · rw [if_neg e]; omega) (fun i k hik hk => by
    show ¬ (if i < m.toNat then (B (A d 4) i).toNat else j.toNat) = (if k < m.toNat then (B (A d 4) k).toNat else j.toNat)
    have hi := hb i (by omega)
    rw [if_pos (show i < m.toNat by omega)]
    by_cases e : k < m.toNat
    · have hk2 := hb k e
      have := b4.2 i k (by omega) (by omega) (by omega)
      rw [if_pos e]; omega
    · rw [if_neg e]; omega)
  omega
theorem sg_next {A B C : pm_A} {d m j x f : Int} (hh : sg_H A d) (hB : sg A B d m) (hm : m ≤ 5) (hj0 : 0 ≤ j) (hj : j < A d 0) (hz : B (A d 3) j = 0) (hx : 1 ≤ x) (hx1 : x ≤ pq m * 2999) (hf : 1 ≤ f) (hf1 : f ≤ 2999) (hC : scaled B C d m f m) : sg A (pm_upd (pm_upd C (A d 3) j x) (A d 4) m j) d (m + 1) := by
  obtain ⟨hA, ⟨hd0, hdk⟩, _⟩ := hh
  obtain ⟨b1, b2, b3, b4, b5⟩ := hB
  obtain ⟨⟨n1, n2⟩, ⟨n3, n3'⟩, n4, n5⟩ := sg_ne hA hd0 hdk
  have s0 := fX_3_3 hA hd0 hdk
  have g0 := fX_3_4 hA hd0 hdk
  have p6 := fX_3_0 hA hd0 hdk
  have d3 : B d 3 = A d 3 := b2 d 3 n1 n2
  have d4 : B d 4 = A d 4 := b2 d 4 n1 n2
  unfold grp at b4
  unfold scaled at hC
  rw [d3, d4] at b4 hC
  obtain ⟨c1, c2, c3, c4⟩ := hC
  obtain ⟨w1, w2, w3⟩ := pq_le b3.1 hm
  have fr : ∀ r k : Int, ¬ r = A d 3 → ¬ r = A d 4 → (pm_upd (pm_upd C (A d 3) j x) (A d 4) m j) r k = A r k := fun r k h1 h2 => by
    rw [upd_ne h2, upd_ne h1, c2 r k h1, b2 r k h1 h2]
  have gr : ∀ p, 0 ≤ p → p < m → (pm_upd (pm_upd C (A d 3) j x) (A d 4) m j) (A d 4) p = B (A d 4) p := fun p p0 p1 => by
    rw [upd_n2 (show ¬ p = m by omega), upd_ne n3, c2 _ _ n3]
  have gm : (pm_upd (pm_upd C (A d 3) j x) (A d 4) m j) (A d 4) m = j := upd_at
  have nj : ∀ p, 0 ≤ p → p < m → ¬ B (A d 4) p = j := fun p p0 p1 q => by
    have h2 := b4.1 p p0 p1
    rw [q, hz] at h2
    omega
  have sz : ∀ p, 0 ≤ p → p < m → (pm_upd (pm_upd C (A d 3) j x) (A d 4) m j) (A d 3) (B (A d 4) p) = B (A d 3) (B (A d 4) p) * f := fun p p0 p1 => by
    rw [upd_ne n3', upd_n2 (nj p p0 p1), c3 p p0 p1, if_pos p1]
  have sj : (pm_upd (pm_upd C (A d 3) j x) (A d 4) m j) (A d 3) j = x := by rw [upd_ne n3', upd_at]
  refine ⟨uX_17 (uX_11 c1 s0.2 (by omega) (by omega)) g0.2 (by omega) (by omega), fr, ⟨by omega, by omega⟩, ?_, fun p p0 p1 => ?_⟩
  · unfold grp
    rw [fr d 3 n1 n2, fr d 4 n1 n2]
    refine ⟨fun p p0 p1 => ?_, fun p q p0 pq q1 => ?_⟩
    · by_cases e : p = m
      · rw [e, gm, sj, w3]; exact ⟨hx, hx1⟩
      · have hp := b4.1 p p0 (by omega)
        rw [gr p p0 (by omega), sz p p0 (by omega), w3]
        have m1 : 1 * 1 ≤ B (A d 3) (B (A d 4) p) * f := Int.mul_le_mul hp.1 hf (by omega) (by omega)
        exact ⟨by omega, Int.mul_le_mul hp.2 hf1 (by omega) (by omega)⟩
    · rw [gr p p0 (by omega)]
      by_cases e : q = m
      · rw [e, gm]; exact nj p p0 (by omega)
      · rw [gr q (by omega) (by omega)]; exact b4.2 p q p0 pq (by omega)
  · by_cases e : p = m
    · rw [e, gm]; exact hj
    · rw [gr p p0 (by omega)]; exact b5 p p0 (by omega)
theorem sg_92 {A B C : pm_A} {d m j x f i a fi : Int} (hh : sg_H A d) (hB : sg A B d m) (hm : m ≤ 5) (hj0 : 0 ≤ j) (hj : j < A d 0) (hz : B (A d 3) j = 0) (hx : 1 ≤ x) (hx1 : x ≤ pq m * 2999) (hf : 1 ≤ f) (hf1 : f ≤ 2999) (hC : scaled B C d m f m)
    (H : ∀ D, sg A D d (m + 1) → (∀ p, 0 ≤ p → p < m → D (A d 4) p = B (A d 4) p) → Tm pmt (an_sh wX) o_X2_sizeGroup 40 ([(2, d), (0, fi), (0, m + 1), (0, a), (0, i), (0, j + 1)], [], D) (sg_post A d)) :
    Tm pmt (an_sh wX) o_X2_sizeGroup 92 ([(2, d), (0, fi), (0, m), (0, a), (0, i), (0, j)], [(1, x), (0, j), (2, A d 3)], C) (sg_post A d) := by
  have hn := sg_next hh hB hm hj0 hj hz hx hx1 hf hf1 hC
  obtain ⟨hA, ⟨hd0, hdk⟩, _⟩ := hh
  obtain ⟨b1, b2, b3, b4, b5⟩ := hB
  obtain ⟨⟨n1, n2⟩, ⟨n3, n3'⟩, n4, n5⟩ := sg_ne hA hd0 hdk
  have s0 := fX_3_3 hA hd0 hdk
  have g0 := fX_3_4 hA hd0 hdk
  have p6 := fX_3_0 hA hd0 hdk
  have d3 : B d 3 = A d 3 := b2 d 3 n1 n2
  have hC2 := hC.2.1
  rw [d3] at hC2
  have e4 : pm_upd C (A d 3) j x d 4 = A d 4 := by rw [upd_ne n1, hC2 d 4 n1, b2 d 4 n1 n2]
  refine wq_ok srt_group (fr := []) (cuts := [40]) (J := fun pc st => pc = 40 ∧ st = ([(2, d), (0, fi), (0, m + 1), (0, a), (0, i), (0, j + 1)], [], pm_upd (pm_upd C (A d 3) j x) (pm_upd C (A d 3) j x d 4) m j)) ?_ 40 92 _ ?_
  · rintro pc st ⟨rfl, rfl⟩
    rw [e4]
    refine H _ hn (fun p p0 p1 => ?_)
    rw [upd_n2 (show ¬ p = m by omega), upd_ne n3, hC2 _ _ n3]
  · refine ⟨tX_11 s0.1 s0.2 hj0 (by omega) rfl, ?_⟩
    refine ⟨oX_3 hd0 hdk 4 rfl, ?_⟩
    refine ⟨tX_17 (by rw [e4]; exact g0.1) (by rw [e4]; exact g0.2) (by omega) (by omega) rfl, ?_⟩
    refine ⟨⟨by omega, by omega⟩, ?_⟩
    refine ⟨⟨by omega, by omega⟩, ?_⟩
    exact ⟨rfl, rfl⟩
theorem sg_40 {A : pm_A} {d i a fi : Int} (hh : sg_H A d) (H : ∀ B m w4 w5, sg A B d m → a < m → Tm pmt (an_sh wX) o_X2_sizeGroup 110 ([(2, d), (0, fi), (0, m), (0, a), w4, w5], [], B) (sg_post A d)) : ∀ (n : Nat) (j : Int) (B : pm_A) (m : Int), (A d 0 - j).toNat < n → 0 ≤ j → j ≤ A d 0 → a < m → sg A B d m → (∃ p, 0 ≤ p ∧ p < m ∧ B (A d 4) p = i) → Tm pmt (an_sh wX) o_X2_sizeGroup 40 ([(2, d), (0, fi), (0, m), (0, a), (0, i), (0, j)], [], B) (sg_post A d) := by
  intro n
  induction n with
  | zero => intro j B m h; omega
  | succ n ih =>
    intro j B m hn hj0 hj1 ham hB hmem
    have hh0 := hh
    have hB0 := hB
    obtain ⟨hA, ⟨hd0, hdk⟩, hsy⟩ := hh
    obtain ⟨b1, b2, b3, b4, b5⟩ := hB
    obtain ⟨⟨n1, n2⟩, ⟨n3, n3'⟩, n4, n5⟩ := sg_ne hA hd0 hdk
    have s0 := fX_3_3 hA hd0 hdk
    have g0 := fX_3_4 hA hd0 hdk
    have t0 := fX_3_2 hA hd0 hdk
    have p6 := fX_3_0 hA hd0 hdk
    have d3 : B d 3 = A d 3 := b2 d 3 n1 n2
    have d4 : B d 4 = A d 4 := b2 d 4 n1 n2
    have d0 : B d 0 = A d 0 := b2 d 0 n1 n2
    have d2 : B d 2 = A d 2 := b2 d 2 n1 n2
    obtain ⟨p, p0, p1, hp⟩ := hmem
    have hi5 := eX_17 b1 g0.1 g0.2 p0 (show p < 6 by omega)
    have hil := b5 p p0 p1
    rw [hp] at hi5 hil
    refine wq_ok srt_group (fr := []) (cuts := [40, 92, 110]) (J := fun pc st => (pc = 40 ∧ j < A d 0 ∧ st = ([(2, d), (0, fi), (0, m), (0, a), (0, i), (0, j + 1)], [], B)) ∨ (pc = 110 ∧ st = ([(2, d), (0, fi), (0, m), (0, a), (0, i), (0, j)], [], B)) ∨ (pc = 92 ∧ j < A d 0 ∧ B (A d 3) j = 0 ∧ ∃ x f C, 1 ≤ x ∧ x ≤ pq m * 2999 ∧ 1 ≤ f ∧ f ≤ 2999 ∧ scaled B C d m f m ∧ st = ([(2, d), (0, fi), (0, m), (0, a), (0, i), (0, j)], [(1, x), (0, j), (2, B d 3)], C))) ?_ 80 40 _ ?_
    · rintro pc st (⟨rfl, hj, rfl⟩ | ⟨rfl, rfl⟩ | ⟨rfl, hj, hz, x, f, C, h1, h2, h3, h4, h5, rfl⟩)
      · exact ih (j + 1) B m (by omega) (by omega) (by omega) ham hB0 ⟨p, p0, p1, hp⟩
      · exact H B m _ _ hB0 ham
      · rw [d3]
        refine sg_92 hh0 hB0 (sg_few hh0 hB0 hj0 hj hz) hj0 hj hz h1 h2 h3 h4 h5 (fun D hD hDg => ?_)
        exact ih (j + 1) D (m + 1) (by omega) (by omega) (by omega) (by omega) hD ⟨p, p0, by omega, by rw [hDg p p0 p1]; exact hp⟩
    · refine ⟨oX_3 hd0 hdk 0 rfl, ?_⟩
      refine ⟨fun h => ?_, fun h => ?_⟩
      · exact Or.inr (Or.inl ⟨rfl, rfl⟩)
      · have hj : j < A d 0 := by rw [← d0]; exact h
        refine ⟨oX_3 hd0 hdk 3 rfl, ?_⟩
        refine ⟨aX_11 (by rw [d3]; exact s0.1) (by rw [d3]; exact s0.2) hj0 (by omega), ?_⟩
        refine ⟨fun q => ?_, fun q => ?_, fun q => ?_⟩
        · refine ⟨fun _ => ?_, fun q2 => absurd q2 (by decide)⟩
          refine ⟨⟨by omega, by omega⟩, ?_⟩
          exact Or.inl ⟨rfl, hj, rfl⟩
        · have hz : B (A d 3) j = 0 := by rw [← d3]; exact q
          refine ⟨fun q2 => absurd rfl q2, fun _ => ?_⟩
          refine ⟨oX_3 hd0 hdk 2 rfl, ?_⟩
          refine ⟨⟨by omega, by omega⟩, ?_⟩
          refine ⟨⟨by omega, by omega⟩, ?_⟩
          refine ⟨aX_16 (by rw [d2]; exact t0.1) (by rw [d2]; exact t0.2) (by omega) (by omega), ?_⟩
          refine ⟨fun q2 => ?_, fun q2 => ?_⟩
          · refine ⟨⟨by omega, by omega⟩, ?_⟩
            exact Or.inl ⟨rfl, hj, rfl⟩
          · refine ⟨oX_3 hd0 hdk 3 rfl, ?_⟩
            refine ⟨rX_3 hd0 hdk, ?_⟩
            have hm5 := sg_few hh0 hB0 hj0 hj hz
            obtain ⟨w1, w2, w3⟩ := pq_le b3.1 hm5
            have tq : ∀ k, B (B d 2) k = A (A d 2) k := fun k => by rw [d2]; exact b2 _ _ n4 n5
            have q3 : ¬ B (B d 2) (i * 6 + j) = 0 := q2
            have q4 : ¬ B (B d 2) (j * 6 + i) = 0 := by
              rw [tq] at q3 ⊢
              exact hsy i j (by omega) hil hj0 hj q3
            refine (along_ct (A := B) (d := d) (i := i) (j := j) (m := m) (P := pq m) ⟨b1, ⟨hd0, hdk⟩, ⟨by omega, by omega⟩, ⟨hj0, by omega⟩, ⟨b3.1, hm5⟩, b4, ⟨w1, w2⟩, ⟨p, p0, p1, by rw [d4]; exact hp⟩, q3, q4⟩).imp ?_
            rintro ⟨r1, C⟩ ⟨x, f, e, k1, k2, k3, k4, k5⟩
            simp only at e k5
            subst e
            exact Or.inr (Or.inr ⟨rfl, hj, hz, x, f, C, k1, k2, k3, k4, k5, rfl⟩)
        · refine ⟨fun _ => ?_, fun q2 => absurd q2 (by decide)⟩
          refine ⟨⟨by omega, by omega⟩, ?_⟩
          exact Or.inl ⟨rfl, hj, rfl⟩
theorem sg_18 {A : pm_A} {d fi : Int} (hh : sg_H A d) : ∀ (n : Nat) (a : Int) (B : pm_A) (m : Int) (w4 w5 : pm_V), (6 - a).toNat < n → 0 ≤ a → a ≤ 6 → sg A B d m → Tm pmt (an_sh wX) o_X2_sizeGroup 18 ([(2, d), (0, fi), (0, m), (0, a), w4, w5], [], B) (sg_post A d) := by
  intro n
  induction n with
  | zero => intro a B m w4 w5 h; omega
  | succ n ih =>
    intro a B m w4 w5 hn ha0 ha1 hB
    have hh0 := hh
    have hB0 := hB
    obtain ⟨hA, ⟨hd0, hdk⟩, hsy⟩ := hh
    obtain ⟨b1, b2, b3, b4, b5⟩ := hB
    obtain ⟨⟨n1, n2⟩, ⟨n3, n3'⟩, n4, n5⟩ := sg_ne hA hd0 hdk
    have g0 := fX_3_4 hA hd0 hdk
    have p6 := fX_3_0 hA hd0 hdk
    have d4 : B d 4 = A d 4 := b2 d 4 n1 n2
    refine wq_ok srt_group (fr := []) (cuts := [40]) (J := fun pc st => pc = 40 ∧ a < m ∧ a < 6 ∧ st = ([(2, d), (0, fi), (0, m), (0, a), (0, B (B d 4) a), (0, 0)], [], B)) ?_ 40 18 _ ?_
    · rintro pc st ⟨rfl, ham, ha6, rfl⟩
      refine sg_40 hh0 (fun C k w4 w5 hC hk => ?_) _ 0 B m (Nat.lt_succ_self _) (by omega) p6.1 ham hB0 ⟨a, ha0, ham, by rw [d4]⟩
      refine wq_ok srt_group (fr := []) (cuts := [18]) (J := fun pc st => pc = 18 ∧ st = ([(2, d), (0, fi), (0, k), (0, a + 1), w4, w5], [], C)) ?_ 40 110 _ ?_
      · rintro pc st ⟨rfl, rfl⟩
        exact ih (a + 1) C k w4 w5 (by omega) (by omega) (by omega) hC
      · refine ⟨⟨by omega, by omega⟩, ?_⟩
        exact ⟨rfl, rfl⟩
    · refine ⟨fun h => ?_, fun h => ?_⟩
      · exact ⟨rfl, b1, b2⟩
      · refine ⟨fun h2 => ?_, fun h2 => ?_⟩
        · exact ⟨rfl, b1, b2⟩
        · refine ⟨oX_3 hd0 hdk 4 rfl, ?_⟩
          refine ⟨aX_17 (by rw [d4]; exact g0.1) (by rw [d4]; exact g0.2) ha0 (by omega), ?_⟩
          exact ⟨rfl, h, h2, rfl⟩
theorem sg_start {A : pm_A} {d fi : Int} (hh : sg_H A d) (h0 : 0 ≤ fi) (h1 : fi < A d 0) : sg A (pm_upd (pm_upd A (A d 4) 0 fi) (A d 3) fi 1) d 1 := by
  obtain ⟨hA, ⟨hd0, hdk⟩, hsy⟩ := hh
  obtain ⟨⟨n1, n2⟩, ⟨n3, n3'⟩, n4, n5⟩ := sg_ne hA hd0 hdk
  have s0 := fX_3_3 hA hd0 hdk
  have g0 := fX_3_4 hA hd0 hdk
  have p6 := fX_3_0 hA hd0 hdk
  have fr : ∀ r k : Int, ¬ r = A d 3 → ¬ r = A d 4 → (pm_upd (pm_upd A (A d 4) 0 fi) (A d 3) fi 1) r k = A r k := fun r k h1 h2 => by rw [upd_ne h1, upd_ne h2]
  have gz : (pm_upd (pm_upd A (A d 4) 0 fi) (A d 3) fi 1) (A d 4) 0 = fi := by rw [upd_ne n3, upd_at]
  have sj : (pm_upd (pm_upd A (A d 4) 0 fi) (A d 3) fi 1) (A d 3) fi = 1 := upd_at
  refine ⟨uX_11 (uX_17 hA g0.2 (by omega) (by omega)) s0.2 (by omega) (by omega), fr, ⟨by omega, by omega⟩, ?_, fun p p0 p1 => ?_⟩
  · unfold grp
    rw [fr d 3 n1 n2, fr d 4 n1 n2]
    refine ⟨fun p p0 p1 => ?_, fun p q p0 pq q1 => by omega⟩
    have e : p = 0 := by omega
    rw [e, gz, sj]
    exact ⟨by omega, by decide⟩
  · have e : p = 0 := by omega
    rw [e, gz]; exact h1
theorem group_ct {A : pm_A} {d fi : Int} (hh : sg_H A d) (h0 : 0 ≤ fi) (h1 : fi < A d 0) : Cl pmt (an_sh wX) 27 [(2, d), (0, fi)] A (sg_post A d) := by
  have hs := sg_start hh h0 h1
  have hh0 := hh
  obtain ⟨hA, ⟨hd0, hdk⟩, hsy⟩ := hh
  obtain ⟨⟨n1, n2⟩, ⟨n3, n3'⟩, n4, n5⟩ := sg_ne hA hd0 hdk
  have s0 := fX_3_3 hA hd0 hdk
  have g0 := fX_3_4 hA hd0 hdk
  have p6 := fX_3_0 hA hd0 hdk
  have e3 : pm_upd A (A d 4) 0 fi d 3 = A d 3 := by rw [upd_ne n2]
  refine Cl.of (Nat.le_of_ble_eq_true rfl) ?_
  refine wq_ok (full := o_X2_sizeGroup) srt_group (fr := []) (cuts := [18]) (J := fun pc st => pc = 18 ∧ ∃ w4 w5, st = ([(2, d), (0, fi), (0, 1), (0, 0), w4, w5], [], pm_upd (pm_upd A (A d 4) 0 fi) (pm_upd A (A d 4) 0 fi d 3) fi 1)) ?_ 40 0 _ ?_
  · rintro pc st ⟨rfl, w4, w5, rfl⟩
    rw [e3]
    exact sg_18 hh0 _ 0 _ 1 w4 w5 (Nat.lt_succ_self _) (by omega) (by omega) hs
  · refine ⟨oX_3 hd0 hdk 4 rfl, ?_⟩
    refine ⟨tX_17 g0.1 g0.2 (by omega) (by omega) rfl, ?_⟩
    refine ⟨oX_3 hd0 hdk 3 rfl, ?_⟩
    refine ⟨tX_11 (by rw [e3]; exact s0.1) (by rw [e3]; exact s0.2) h0 (by omega) rfl, ?_⟩
    exact ⟨rfl, _, _, rfl⟩
