/-! Kinds.tracePath -/
theorem srt_tracePath : pm_srt o_X4_tracePath = true := by decide +kernel
/-- the n-th place on the way back -/
def itr (A : pm_A) (f x : Int) : Nat → Int
  | 0 => x
  | n + 1 => A f (itr A f x n)
abbrev TPm : List Nat := [400, 10032]
def tp_post (A0 : pm_A) (r : pm_R) : Prop := r.1 = none ∧ gH wX r.2 ∧ gFr wX TPm A0 r.2
def tp_H (A0 : pm_A) (s b last : Int) : Prop := (0 ≤ s ∧ wX.2 s = 7) ∧ (0 ≤ b ∧ wX.2 b = 6) ∧ gH wX A0 ∧ 0 ≤ last ∧ last ≤ 2999
def tp_B (A0 B : pm_A) (s b last t : Int) : Prop := gH wX B ∧ gFr wX TPm A0 B ∧ B s 0 = t ∧ 1 ≤ t ∧ t ≤ 3000 ∧ ∀ n : Nat, n ≤ (t - 1).toNat → 0 ≤ itr A0 (A0 b 2) last n ∧ itr A0 (A0 b 2) last n ≤ 2999
theorem tp_from {A0 B : pm_A} {s b last t : Int} (hh : tp_H A0 s b last) (hB : tp_B A0 B s b last t) {x : Int} (hx : 0 ≤ x) : B b 2 = A0 b 2 ∧ B (A0 b 2) x = A0 (A0 b 2) x := by
  obtain ⟨⟨hs0, hsk⟩, ⟨hb0, hbk⟩, hA, _⟩ := hh
  have f0 := fX_6_2 hA hb0 hbk
  refine ⟨hB.2.1 b 2 hb0 (by omega) ?_, hB.2.1 _ x f0.1 hx ?_⟩
  · unfold mcode; rw [shX_6 hbk]; show ¬ 102 ∈ TPm; decide
  · unfold mcode; rw [shX_31 f0.2]; show ¬ 10000 + wX.2 (A0 b 2) ∈ TPm; rw [f0.2]; decide
theorem tp_74 {A0 : pm_A} {s b last k t : Int} (hh : tp_H A0 s b last) : ∀ (m : Nat) (i : Int) (B : pm_A), (i + 1).toNat < m → -1 ≤ i → i ≤ t - 2 → tp_B A0 B s b last t → Tm pmt (an_sh wX) o_X4_tracePath 74 ([(2, s), (2, b), (0, last), (0, k), (0, itr A0 (A0 b 2) last (t - 2 - i).toNat), (0, i)], [], B) (tp_post A0) := by
  have hh0 := hh
  obtain ⟨⟨hs0, hsk⟩, ⟨hb0, hbk⟩, hA, hl0, hl1⟩ := hh
  intro m
  induction m with
  | zero => intro i B h; omega
  | succ m ih =>
    intro i B hm hi0 hi1 hB
    obtain ⟨hB1, hB2, hB3, ht0, ht1, hit⟩ := hB
    have n0 := fX_6_3 hB1 hb0 hbk
    have p0 := fX_7_2 hB1 hs0 hsk
    have f0 := fX_6_2 hB1 hb0 hbk
    refine wq_ok srt_tracePath (fr := []) (cuts := [74, 93]) (J := fun pc st => pc = 93 ∧ 0 ≤ i ∧ ∃ y, r32 y ∧ st = ([(2, s), (2, b), (0, last), (0, k), (0, itr A0 (A0 b 2) last (t - 2 - i).toNat), (0, i)], [], pm_upd B (B s 2) i y)) ?_ 40 74 _ ?_
    · rintro pc st ⟨rfl, hi, y, hy, rfl⟩
      have hx := hit (t - 2 - i).toNat (by omega)
      have es := shX_7 hsk
      have ep := shX_32 p0.2
      have ne : ¬ s = B s 2 := fun q => by rw [← q, es] at ep; cases ep
      have hC : tp_B A0 (pm_upd B (B s 2) i y) s b last t := ⟨uX_32 hB1 p0.2 hy.1 hy.2, gFr_upd hB2 (mX_32 p0.2 rfl), by rw [upd_ne ne]; exact hB3, ht0, ht1, hit⟩
      generalize pm_upd B (B s 2) i y = C at hC
      have g1 := tp_from hh0 hC hx.1
      have f1 := fX_6_2 hC.1 hb0 hbk
      have e : itr A0 (A0 b 2) last (t - 2 - (i - 1)).toNat = A0 (A0 b 2) (itr A0 (A0 b 2) last (t - 2 - i).toNat) := by
        have : (t - 2 - (i - 1)).toNat = (t - 2 - i).toNat + 1 := by omega
        rw [this]; rfl
      refine wq_ok srt_tracePath (fr := []) (cuts := [74]) (J := fun pc st => pc = 74 ∧ st = ([(2, s), (2, b), (0, last), (0, k), (0, itr A0 (A0 b 2) last (t - 2 - (i + -1)).toNat), (0, i + -1)], [], C)) ?_ 20 93 _ ?_
      · rintro pc st ⟨rfl, rfl⟩
        exact ih (i + -1) C (by omega) (by omega) (by omega) hC
      · refine ⟨oX_6 hb0 hbk 2 rfl, ?_⟩
        refine ⟨aX_31 f1.1 f1.2 hx.1 (by omega), ?_⟩
        refine ⟨⟨by omega, by omega⟩, ?_⟩
        refine ⟨rfl, ?_⟩
        rw [show i + -1 = i - 1 by omega, e, ← g1.2, ← g1.1]
        rfl
    · refine ⟨fun h => ?_, fun h => ?_⟩
      · exact ⟨rfl, hB1, hB2⟩
      · have hx := hit (t - 2 - i).toNat (by omega)
        have y1 := eX_32 hB1 n0.1 n0.2 hx.1 (show itr A0 (A0 b 2) last (t - 2 - i).toNat < 3000 by omega)
        refine ⟨oX_7 hs0 hsk 2 rfl, ?_⟩
        refine ⟨oX_6 hb0 hbk 3 rfl, ?_⟩
        refine ⟨aX_32 n0.1 n0.2 hx.1 (by omega), ?_⟩
        refine ⟨tX_32 p0.1 p0.2 h (by omega) rfl, ?_⟩
        exact ⟨rfl, h, _, y1, rfl⟩
theorem tp_51 {A0 B : pm_A} {s b last k t at_ : Int} {v5 : pm_V} (hh : tp_H A0 s b last) (hk : r32 k) (hB : tp_B A0 B s b last t) : Tm pmt (an_sh wX) o_X4_tracePath 51 ([(2, s), (2, b), (0, last), (0, k), (0, at_), v5], [], B) (tp_post A0) := by
  have hh0 := hh
  obtain ⟨⟨hs0, hsk⟩, ⟨hb0, hbk⟩, hA, hl0, hl1⟩ := hh
  obtain ⟨hB1, hB2, hB3, ht0, ht1, hit⟩ := hB
  have p0 := fX_7_2 hB1 hs0 hsk
  refine wq_ok srt_tracePath (fr := []) (cuts := [63]) (J := fun pc st => pc = 63 ∧ st = ([(2, s), (2, b), (0, last), (0, k), (0, at_), v5], [], pm_upd B (B s 2) (B s 0 - 1) k)) ?_ 30 51 _ ?_
  · rintro pc st ⟨rfl, rfl⟩
    have es := shX_7 hsk
    have ep := shX_32 p0.2
    have ne : ¬ s = B s 2 := fun q => by rw [← q, es] at ep; cases ep
    have hC : tp_B A0 (pm_upd B (B s 2) (B s 0 - 1) k) s b last t := ⟨uX_32 hB1 p0.2 hk.1 hk.2, gFr_upd hB2 (mX_32 p0.2 rfl), by rw [upd_ne ne]; exact hB3, ht0, ht1, hit⟩
    generalize pm_upd B (B s 2) (B s 0 - 1) k = C at hC
    have hC3 := hC.2.2.1
    refine wq_ok srt_tracePath (fr := []) (cuts := [74]) (J := fun pc st => pc = 74 ∧ st = ([(2, s), (2, b), (0, last), (0, k), (0, last), (0, C s 0 - 2)], [], C)) ?_ 20 63 _ ?_
    · rintro pc st ⟨rfl, rfl⟩
      have := tp_74 (k := k) (t := t) hh0 _ (t - 2) C (Nat.lt_succ_self _) (by omega) (by omega) hC
      rw [show (t - 2 - (t - 2)).toNat = 0 by omega] at this
      rw [hC3]
      exact this
    · refine ⟨oX_7 hs0 hsk 0 rfl, ?_⟩
      refine ⟨⟨by omega, by omega⟩, ?_⟩
      exact ⟨rfl, rfl⟩
  · refine ⟨oX_7 hs0 hsk 2 rfl, ?_⟩
    refine ⟨oX_7 hs0 hsk 0 rfl, ?_⟩
    refine ⟨⟨by omega, by omega⟩, ?_⟩
    refine ⟨tX_32 p0.1 p0.2 (by omega) (by omega) rfl, ?_⟩
    exact ⟨rfl, rfl⟩
theorem mc400 {r : Int} (hk : wX.2 r = 7) : mcode wX r 0 ∈ TPm := by
  unfold mcode; rw [shX_7 hk]; show 400 ∈ TPm; decide
theorem tp_put {A0 B : pm_A} {s b last t t2 : Int} (hh : tp_H A0 s b last) (hB : gH wX B) (hF : gFr wX TPm A0 B) (h1 : 1 ≤ t) (h2 : t ≤ 3000) (hit : ∀ n : Nat, n ≤ (t - 1).toNat → 0 ≤ itr A0 (A0 b 2) last n ∧ itr A0 (A0 b 2) last n ≤ 2999) : tp_B A0 (pm_upd B s 0 t) s b last t := by
  obtain ⟨⟨hs0, hsk⟩, _⟩ := hh
  refine ⟨gH_upd hB (k := (0, 4, 6, [(0, 0, 3000), (0, -2147483648, 2147483647), (2, 32, 0), (2, 10, 0), (1, -9223372036854775808, 9223372036854775807), (1, -9223372036854775808, 9223372036854775807)])) (by rw [hsk]; rfl) (fun _ j a hj ej => ?_) (fun q => by cases q), gFr_upd hF (mc400 hsk), upd_at, h1, h2, hit⟩
  have : j = 0 := by omega
  subst this
  cases hj
  exact ⟨rfl, by simp only; omega, by simp only; omega⟩
theorem tp_8 {A0 : pm_A} {s b last k : Int} {v5 : pm_V} (hh : tp_H A0 s b last) (hk : r32 k) : ∀ (m : Nat) (t : Int) (B : pm_A), (3000 - t).toNat < m → tp_B A0 B s b last t → Tm pmt (an_sh wX) o_X4_tracePath 8 ([(2, s), (2, b), (0, last), (0, k), (0, itr A0 (A0 b 2) last (t - 1).toNat), v5], [], B) (tp_post A0) := by
  have hh0 := hh
  obtain ⟨⟨hs0, hsk⟩, ⟨hb0, hbk⟩, hA, hl0, hl1⟩ := hh
  intro m
  induction m with
  | zero => intro t B h; omega
  | succ m ih =>
    intro t B hm hB
    have hB0 := hB
    obtain ⟨hB1, hB2, hB3, ht0, ht1, hit⟩ := hB
    have f0 := fX_6_2 hB1 hb0 hbk
    have hx := hit (t - 1).toNat (by omega)
    have g1 := tp_from hh0 hB0 hx.1
    have y1 := eX_31 hB1 f0.1 f0.2 hx.1 (show itr A0 (A0 b 2) last (t - 1).toNat < 3000 by omega)
    refine wq_ok srt_tracePath (fr := []) (cuts := [39, 51]) (J := fun pc st => (pc = 51 ∧ st = ([(2, s), (2, b), (0, last), (0, k), (0, itr A0 (A0 b 2) last (t - 1).toNat), v5], [], B)) ∨ (pc = 39 ∧ t < 3000 ∧ ¬ B (B b 2) (itr A0 (A0 b 2) last (t - 1).toNat) = -1 ∧ st = ([(2, s), (2, b), (0, last), (0, k), (0, itr A0 (A0 b 2) last (t - 1).toNat), v5], [], pm_upd B s 0 (B s 0 + 1)))) ?_ 40 8 _ ?_
    · rintro pc st (⟨rfl, rfl⟩ | ⟨rfl, ht, hne, rfl⟩)
      · exact tp_51 hh0 hk hB0
      · have e : itr A0 (A0 b 2) last (t + 1 - 1).toNat = A0 (A0 b 2) (itr A0 (A0 b 2) last (t - 1).toNat) := by
          have : (t + 1 - 1).toNat = (t - 1).toNat + 1 := by omega
          rw [this]; rfl
        have hC : tp_B A0 (pm_upd B s 0 (B s 0 + 1)) s b last (t + 1) := by
          rw [hB3]
          refine tp_put (t2 := 0) hh0 hB1 hB2 (by omega) (by omega) (fun n hn => ?_)
          by_cases hn2 : n ≤ (t - 1).toNat
          · exact hit n hn2
          · have : n = (t + 1 - 1).toNat := by omega
            have key : A0 (A0 b 2) (itr A0 (A0 b 2) last (t - 1).toNat) = B (B b 2) (itr A0 (A0 b 2) last (t - 1).toNat) := by rw [g1.1, g1.2]
            rw [this, e, key]
            omega
        generalize pm_upd B s 0 (B s 0 + 1) = C at hC
        have g2 := tp_from hh0 hC hx.1
        have f1 := fX_6_2 hC.1 hb0 hbk
        refine wq_ok srt_tracePath (fr := []) (cuts := [8]) (J := fun pc st => pc = 8 ∧ st = ([(2, s), (2, b), (0, last), (0, k), (0, itr A0 (A0 b 2) last (t + 1 - 1).toNat), v5], [], C)) ?_ 20 39 _ ?_
        · rintro pc st ⟨rfl, rfl⟩
          exact ih (t + 1) C (by omega) hC
        · refine ⟨oX_6 hb0 hbk 2 rfl, ?_⟩
          refine ⟨aX_31 f1.1 f1.2 hx.1 (by omega), ?_⟩
          refine ⟨rfl, ?_⟩
          rw [e, ← g2.2, ← g2.1]
          rfl
    · refine ⟨oX_6 hb0 hbk 2 rfl, ?_⟩
      refine ⟨aX_31 f0.1 f0.2 hx.1 (by omega), ?_⟩
      refine ⟨fun h => ?_, fun h => ?_⟩
      · exact Or.inl ⟨rfl, rfl⟩
      · refine ⟨oX_7 hs0 hsk 0 rfl, ?_⟩
        refine ⟨fun h2 => ?_, fun h2 => ?_⟩
        · exact Or.inl ⟨rfl, rfl⟩
        · refine ⟨oX_7 hs0 hsk 0 rfl, ?_⟩
          refine ⟨⟨by omega, by omega⟩, ?_⟩
          refine ⟨oX_7 hs0 hsk 0 rfl, ?_⟩
          exact Or.inr ⟨rfl, by omega, h, rfl⟩
theorem q_X4_tracePath_0 : gCt wX pmt 37 Q_X4_tracePath_0 := by
  rintro l A ⟨hl, hA⟩
  match l, hl with
  | [x, y, z, u], ⟨h1, h2, h3, h4, _⟩ =>
    obtain ⟨s, rfl, hs0, hsk⟩ := gRf (a := (2, 7, 0)) rfl h1
    obtain ⟨b, rfl, hb0, hbk⟩ := gRf (a := (2, 6, 0)) rfl h2
    obtain ⟨last, rfl⟩ := gI (a := (0, 0, 2999)) rfl h3
    obtain ⟨k, rfl⟩ := gI (a := (0, -2147483648, 2147483647)) rfl h4
    have hl := (gv0 (a := (0, 0, 2999)) rfl).mp h3
    have hk := (gv0 (a := (0, -2147483648, 2147483647)) rfl).mp h4
    have hh : tp_H A s b last := ⟨⟨hs0, hsk⟩, ⟨hb0, hbk⟩, hA, hl.2.1, hl.2.2⟩
    refine Cl.imp (Q := tp_post A) ?_ ?_
    · refine Cl.of (Nat.le_of_ble_eq_true rfl) ?_
      refine wq_ok (full := o_X4_tracePath) srt_tracePath (fr := []) (cuts := [8]) (J := fun pc st => pc = 8 ∧ st = ([(2, s), (2, b), (0, last), (0, k), (0, last), (9, 0)], [], pm_upd A s 0 1)) ?_ 20 0 _ ?_
      · rintro pc st ⟨rfl, rfl⟩
        have hB : tp_B A (pm_upd A s 0 1) s b last 1 := tp_put (t2 := 0) hh hA (fun _ _ _ _ _ => rfl) (by omega) (by omega) (fun n hn => by
          have : n = 0 := by omega
          rw [this]; exact hl.2)
        exact tp_8 (v5 := (9, 0)) hh ⟨hk.2.1, hk.2.2⟩ _ 1 _ (Nat.lt_succ_self _) hB
      · refine ⟨oX_7 hs0 hsk 0 rfl, ?_⟩
        exact ⟨rfl, rfl⟩
    · rintro ⟨r, B⟩ ⟨e, k1, k2⟩
      simp only at e k1 k2
      subst e
      exact ⟨trivial, k1, k2⟩
