/-! turns, the end -/
theorem tv_turn {s : cx_Sd 12} {ks : List (Fin 12)} {A : pm_A} (h : Tru s ks A) {k i j : Fin 12} (hk : (k.1 : Int) < A 0 7) (hj : (j.1 : Int) < A 0 7) (hi : (i.1 : Int) < A 0 7 + A 0 8) : cr_turnB (cr_bs s.b ks) k i j = tv A k.1 i.1 j.1 := by
  have p8 := fM_0_8 h.1 (r := 0) (by omega) km0
  have b1 := (h.2.2.1 i j hj).1 hi
  have b2 := (h.2.2.1 i k hk).1 hi
  have b3 := (h.2.2.1 k j hj).1 (by omega)
  unfold cr_turnB tv
  by_cases e : i = k ∨ j = k
  · rw [if_pos e, if_pos (by rcases e with e | e; exact Or.inl (by rw [e]); exact Or.inr (by rw [e])), b1]
  · rw [if_neg e, if_neg (fun e2 => e (by rcases e2 with e2 | e2; exact Or.inl (Fin.ext (by omega)); exact Or.inr (Fin.ext (by omega)))), b1, b2, b3]
    generalize A 5 (6 * (i.1 : Int) + (k.1 : Int)) = a
    generalize A 5 (6 * (k.1 : Int) + (j.1 : Int)) = b
    generalize A 5 (6 * (i.1 : Int) + (j.1 : Int)) = c
    unfold cx_pos
    by_cases h1 : 0 < a
    · rw [Int.toNat_of_nonneg (by omega)]
      by_cases h2 : 0 < b
      · rw [if_pos (Or.inl ⟨h1, h2⟩), if_neg (by omega), show (-b).toNat = 0 by omega]; show c + (a * b + a * 0) = c + a * b; omega
      · rw [if_neg (by omega), Int.toNat_of_nonneg (by omega), Int.mul_neg]; omega
    · rw [show a.toNat = 0 by omega]
      by_cases h2 : a < 0 ∧ b < 0
      · rw [if_pos (Or.inr h2), if_pos h2.1, Int.toNat_of_nonneg (by omega), Int.neg_mul, Int.mul_neg]; show c + (0 * b + _) = _; omega
      · rw [if_neg (by omega)]
        by_cases h3 : a = 0
        · rw [h3]; show c + (0 * b + 0 * _) = c; omega
        · rw [show (-b).toNat = 0 by omega]; show c + (0 * b + a * 0) = c; omega
theorem tru_next {s : cx_Sd 12} {ks : List (Fin 12)} {A W : pm_A} (h : Tru s ks A) {k : Fin 12} (hk : (k.1 : Int) < A 0 7) {Q : cr_Pl_ 12} (hQ : cr_Shr Q) (hQv : ∀ x, (cr_gp s.b (ks ++ [k]) x).1 k = cr_vl x.1 Q) (hQc : ∀ y ∈ Q, y.1 ≤ 1000000000000) (hW : gH wM W) (e7 : W 0 7 = A 0 7) (e8 : W 0 8 = A 0 8) (hs : ∀ p : Int, 0 ≤ p → p < 6 → p ≠ k.1 → ∀ r j, inS p r j → W r j = A r j) (hQl : LSm W k.1 = Q) (hgood : ∀ i j : Int, 0 ≤ i → i < A 0 7 + A 0 8 → 0 ≤ j → j < A 0 7 → -9999 ≤ tv A k.1 i j ∧ tv A k.1 i j ≤ 9999) (harr : ∀ i j : Int, 0 ≤ i → i < A 0 7 + A 0 8 → 0 ≤ j → j < A 0 7 → W 5 (6 * i + j) = tv A k.1 i j) : Tru s (ks ++ [k]) W := by
  have h0 := h
  obtain ⟨hg, h1, hb, hks, h9, ha, hl⟩ := h
  have p7 := fM_0_7 hg (r := 0) (by omega) km0
  have p8 := fM_0_8 hg (r := 0) (by omega) km0
  refine ⟨hW, by omega, fun i j hj => ⟨fun hi => ?_, fun hi => ?_⟩, fun q hq => ?_, fun v q hq => h9 v q (by omega), fun i j i0 i1 j0 j1 => ?_, fun i hi => ?_⟩
  · rw [cr_bs_snoc, harr i.1 j.1 (by omega) (by omega) (by omega) (by omega)]
    exact tv_turn h0 hk (by omega) (by omega)
  · rw [cr_bs_snoc]
    have z1 := (hb i j (by omega)).2 (by omega)
    have z2 := (hb i k hk).2 (by omega)
    unfold cr_turnB
    rw [z1, z2]
    by_cases e : i = k ∨ j = k
    · rw [if_pos e]; rfl
    · rw [if_neg e]; show (0 : Int) + (((0 : Nat) : Int) * _ + 0 * _) = 0; rw [show ((0 : Nat) : Int) = 0 from rfl, Int.zero_mul, Int.zero_mul]; rfl
  · rw [e7]
    rcases List.mem_append.1 hq with h | h
    · exact hks q h
    · simp at h; rw [h]; exact hk
  · rw [harr i j i0 (by omega) j0 (by omega)]
    exact hgood i j i0 (by omega) j0 (by omega)
  · rw [e7] at hi
    by_cases e : i = k
    · subst e
      have hm := eM_1 hW (r := 1) (by omega) kn1 (j := i.1) (by omega) (by have := i.2; omega)
      refine ⟨srtd_of (by rw [hQl]; exact hQ), fun q q0 q1 => ?_, fun x => by rw [hQv x]; unfold VS; rw [hQl]⟩
      have hin := in_LSm (A := W) (p := i.1) q0 q1
      rw [hQl] at hin
      have h2 := hQ.2 _ hin
      have h3 := hQc _ hin
      have h2 : 0 < W 2 (200 * (i.1 : Int) + q) := h2
      exact ⟨by omega, h3⟩
    · have m := eM_1 hg (r := 1) (by omega) kn1 (j := i.1) (by omega) (by have := i.2; omega)
      have hsi := hs i.1 (by omega) (by omega) (fun e2 => e (Fin.ext (by omega)))
      obtain ⟨l1, l2, l3⟩ := hl i hi
      refine ⟨srtd_same m.2 hsi l1, cfs_same m.2 hsi l2, fun x => ?_⟩
      rw [cr_gp_snoc]
      show cr_stepv (cr_bs s.b ks) k (cr_gp s.b ks x).1 i = _
      rw [cr_step_ne _ _ e, l3 x]
      exact (congrFun (VS_of (LSm_same m.2 hsi)) x).symm
def tu_C (s : cx_Sd 12) (ks : List (Fin 12)) (A C0 : pm_A) (k : Fin 12) : Prop := tuG A C0 ∧ srtd C0 44 ∧ cfs C0 44 ∧ xb C0 44 217178280 ∧ cfs C0 43 ∧ xb C0 43 217178280 ∧ (∀ x, VS C0 44 x = cr_mo (cr_gp s.b ks x).1 (fun i => (cx_pos (cr_bs s.b ks i k) : Int))) ∧ ∀ x, VS C0 43 x = cr_mo (cr_gp s.b ks x).1 (fun i => (cx_pos (- cr_bs s.b ks i k) : Int))
theorem tm_tuG {A B : pm_A} {to : Int} (h : tmF A B to) (h0 : 42 ≤ to) (h1 : to ≤ 47) : tuG A B := ⟨h.1, fun r j a1 a2 a3 a4 => h.2 r j (a1 to h0 h1) a2 a4⟩
theorem tu_N {s : cx_Sd 12} {ks : List (Fin 12)} {A C0 B : pm_A} {k : Fin 12} (hC : tu_C s ks A C0 k) (hB : gH wM B) (hcf : cfs B 44) (hco : ∀ c, cr_co (LSm B 44) c = cr_co (LSm C0 44) c + cr_co (lsf (C0 1 43).toNat (fa C0 43)) c) : (∀ x : cr_Pv 12, cr_vl x.1 (LSm B 44) = cr_P (cr_bs s.b ks) k (cr_gp s.b ks x).1) ∧ xb B 44 217178280 := by
  obtain ⟨c1, c2, c3, c4, c5, c6, c7, c8⟩ := hC
  constructor
  · intro x
    rw [cr_vl_co x.1 (l' := LSm C0 44 ++ LSm C0 43) (fun c => by rw [hco c, cr_co_app, ← LSm_fa]), cr_vl_app]
    have e1 := c7 x
    have e2 := c8 x
    unfold VS at e1 e2
    rw [e1, e2]
    rfl
  · intro q v q0 q1 v0 v1
    have hm := in_LSm (A := B) (p := 44) q0 q1
    have hp := cr_co_pos (pos_LSm hcf) hm
    have hp2 : 0 < cr_co (LSm B 44) (xe B 44 q) := hp
    rw [hco, ← LSm_fa] at hp2
    have hsrc : ∃ p i : Int, (p = 44 ∨ p = 43) ∧ 0 ≤ i ∧ i < C0 1 p ∧ xe C0 p i = xe B 44 q := by
      by_cases h4 : cr_co (LSm C0 44) (xe B 44 q) = 0
      · obtain ⟨y, hy, ey⟩ := cr_co_mem (l := LSm C0 43) (a := xe B 44 q) (by omega)
        obtain ⟨i, i0, i1, rfl⟩ := mem_LSm hy
        exact ⟨43, i, Or.inr rfl, i0, i1, ey⟩
      · obtain ⟨y, hy, ey⟩ := cr_co_mem (l := LSm C0 44) (a := xe B 44 q) h4
        obtain ⟨i, i0, i1, rfl⟩ := mem_LSm hy
        exact ⟨44, i, Or.inl rfl, i0, i1, ey⟩
    obtain ⟨p, i, hp3, i0, i1, e⟩ := hsrc
    have hx : -217178280 ≤ C0 3 (12 * (200 * p + i) + v) ∧ C0 3 (12 * (200 * p + i) + v) ≤ 217178280 := by
      rcases hp3 with rfl | rfl
      · exact c4 i v i0 i1 v0 v1
      · exact c6 i v i0 i1 v0 v1
    have e2 := congrFun e ⟨v.toNat, by omega⟩
    have e3 : C0 3 (12 * (200 * p + i) + ((v.toNat : Nat) : Int)) = B 3 (12 * (200 * 44 + q) + ((v.toNat : Nat) : Int)) := e2
    rw [Int.toNat_of_nonneg v0] at e3
    omega
theorem tu_143 {s : cx_Sd 12} {ks : List (Fin 12)} {A D : pm_A} {k : Fin 12} (hT : Tru s ks A) (hk : (k.1 : Int) < A 0 7) (hD : tuG A D) (hs44 : srtd D 44) (hc44 : cfs D 44) (hx44 : xb D 44 217178280) (hN : ∀ x : cr_Pv 12, cr_vl x.1 (LSm D 44) = cr_P (cr_bs s.b ks) k (cr_gp s.b ks x).1) (hgood : ∀ i j : Int, 0 ≤ i → i < A 0 7 + A 0 8 → 0 ≤ j → j < A 0 7 → -9999 ≤ tv A k.1 i j ∧ tv A k.1 i j ≤ 9999) (hnext : ∀ i j : Int, 0 ≤ i → i < A 0 7 + A 0 8 → 0 ≤ j → j < A 0 7 → D 12 (6 * i + j) = tv A k.1 i j) (w2 w3 : pm_V) : Tm pmt (an_sh wM) o_X10_turns 143 ([(2, 0), (0, (k.1 : Int)), w2, w3], [], D) (tu_post s ks A k) := by
  have p7 := fM_0_7 hT.1 (r := 0) (by omega) km0
  have p8 := fM_0_8 hT.1 (r := 0) (by omega) km0
  have hTD := hT.keep hD
  have e7 := hD.fld (j := 7) (by omega) (by omega)
  have e8 := hD.fld (j := 8) (by omega) (by omega)
  have m44 := eM_1 hD.1 (r := 1) (by omega) kn1 (j := 44) (by omega) (by omega)
  obtain ⟨Q, hQ, hQv, hQc, hQl, hQb⟩ := tru_quot hTD (k := k) (by omega) (shr_of hs44 hc44) (fun y hy => by
    obtain ⟨q, q0, q1, rfl⟩ := mem_LSm hy
    exact (hc44 q q0 q1).2) (by rw [LSm_len]; omega) hN
  have hlt := hTD.lt
  have hl := hlt.2.1 k.1 (by omega) (by omega)
  refine wq_ok srt_turns (fr := []) (cuts := [152]) (J := fun pc st => (pc = 152 ∧ ∃ E, paF D E 45 44 ∧ LSm E 45 = Q ∧ st = ([(2, 0), (0, (k.1 : Int)), w2, w3], [], E))) ?_ 9 143 _ ?_
  · rintro pc st (⟨rfl, E, q2, q3, rfl⟩)
    refine wq_ok srt_turns (fr := []) (cuts := [159]) (J := fun pc st => (pc = 159 ∧ ∃ G, gH wM G ∧ (∀ q j, ¬ inS k.1 q j → G q j = E q j) ∧ LSm G k.1 = LSm E 45 ∧ st = ([(2, 0), (0, (k.1 : Int)), w2, w3], [], G))) ?_ 8 152 _ ?_
    · rintro pc st (⟨rfl, G, g2, g3, g4, rfl⟩)
      refine wq_ok srt_turns (fr := []) (cuts := [161]) (J := fun pc st => (pc = 161 ∧ st = ([(2, 0), (0, (k.1 : Int)), (0, 0), w3], [], G))) ?_ 7 159 _ ?_
      · rintro pc st (⟨rfl, rfl⟩)
        refine tu_161 g2 (fun W hW => ?_) _ 0 _ G (Nat.lt_succ_self _) (by omega) (by have := fM_0_7 g2 (r := 0) (by omega) km0; have := fM_0_8 g2 (r := 0) (by omega) km0; omega) ⟨g2, fun _ _ _ => rfl, fun j j0 j1 => by omega, fun _ _ => rfl⟩
        obtain ⟨w1, w4, w5, w6⟩ := hW
        have hf : ∀ q j, (∀ t : Int, 42 ≤ t → t ≤ 47 → ¬ inS t q j) → ¬ inS k.1 q j → q ≠ 4 → q ≠ 5 → q ≠ 12 → ¬ (q = 0 ∧ (j = 4 ∨ j = 5)) → W q j = A q j := fun q j a1 a2 a3 a4 a5 a6 => by rw [w4 q j a4, g3 q j a2, q2.2 q j (a1 45 (by omega) (by omega)) (a1 44 (by omega) (by omega)) a3]; exact hD.2 q j a1 a3 a5 a6
        have f7 : W 0 7 = A 0 7 := hf 0 7 (fun t t0 t1 ht => by unfold inS at ht; omega) (by unfold inS; omega) (by omega) (by omega) (by omega) (by omega)
        have f8 : W 0 8 = A 0 8 := hf 0 8 (fun t t0 t1 ht => by unfold inS at ht; omega) (by unfold inS; omega) (by omega) (by omega) (by omega) (by omega)
        have g7 : G 0 7 = A 0 7 := by rw [← w4 0 7 (by omega)]; exact f7
        have g8 : G 0 8 = A 0 8 := by rw [← w4 0 8 (by omega)]; exact f8
        have mk := eM_1 g2 (r := 1) (by omega) kn1 (j := (k.1 : Int)) (by omega) (by omega)
        have hWk : LSm W k.1 = Q := by rw [← q3, ← g4]; exact LSm_same mk.2 (fun q j hq => w4 q j (by unfold inS at hq; omega))
        refine Or.inr ⟨rfl, ?_, w1, hf⟩
        refine tru_next hT hk hQ hQv hQb w1 f7 f8 (fun p p0 p1 pk q j hq => hf q j (fun t t0 t1 ht => by unfold inS at *; omega) (by unfold inS at *; omega) (by unfold inS at hq; omega) (by unfold inS at hq; omega) (by unfold inS at hq; omega) (by unfold inS at hq; omega)) hWk hgood (fun i j i0 i1 j0 j1 => ?_)
        show W 5 (6 * i + j) = tv A k.1 i j
        rw [w5 (6 * i + j) (by omega) (by rw [g7, g8]; omega), if_pos (by rw [g7]; omega), g3 12 _ (by unfold inS; omega), q2.2 12 _ (by unfold inS; omega) (by unfold inS; omega) (by omega)]
        exact hnext i j i0 i1 j0 j1
      · exact ⟨rfl, rfl⟩
    · refine ⟨rM_0 (by omega) km0, ?_⟩
      refine (copy_ex (to := k.1) (fr := 45) q2.1 (by omega) (by omega) (by omega) (by omega) (by omega)).imp ?_
      rintro ⟨r1, G⟩ ⟨g1, g2, g3, g4⟩
      simp only at g1 g2 g3 g4
      subst g1
      exact ⟨rfl, G, g2, g3, g4, rfl⟩
  · refine ⟨rM_0 (by omega) km0, ?_⟩
    refine (parts_ex (A := D) (to := 45) (a := 44) (b := k.1) (EN := 217178280) (Q := Q) ⟨hD.1, by omega, by omega, by omega, ⟨by omega, by omega, by omega⟩, hl, ⟨hs44, hc44, hx44⟩, by omega, hQ, hQc, hQl⟩).imp ?_
    rintro ⟨r1, E⟩ ⟨q1, q2, q3⟩
    simp only at q1 q2 q3
    subst q1
    exact ⟨rfl, E, q2, q3, rfl⟩
theorem tu_126 {s : cx_Sd 12} {ks : List (Fin 12)} {A C0 B : pm_A} {k : Fin 12} (hT : Tru s ks A) (hk : (k.1 : Int) < A 0 7) (hC : tu_C s ks A C0 k) (hB : a47 C0 B (C0 1 43)) (w2 w3 : pm_V) : Tm pmt (an_sh wM) o_X10_turns 126 ([(2, 0), (0, (k.1 : Int)), w2, w3], [], B) (tu_post s ks A k) := by
  have hBG : tuG A B := hC.1.tr (tm_tuG hB.1 (by omega) (by omega))
  have hTB := hT.keep hBG
  have e7 := hBG.fld (j := 7) (by omega) (by omega)
  have e8 := hBG.fld (j := 8) (by omega) (by omega)
  have s4 := fM_0_4 hBG.1 (r := 0) (by omega) km0
  have htv : ∀ i j, tv B k.1 i j = tv A k.1 i j := fun i j => by unfold tv; rw [hBG.arr, hBG.arr, hBG.arr]
  have hbad : ∀ D, tuG A D → tu_post s ks A k (some (0, 0), D) := fun D hD => Or.inl ⟨rfl, hD, hT.keep hD⟩
  refine wq_ok srt_turns (fr := []) (cuts := [138]) (J := fun pc st => (pc = 138 ∧ B 0 4 = 0 ∧ ∃ D g, taF B D ∧ (g = 0 ∨ (g = 1 ∧ ∀ i j : Int, 0 ≤ i → i < B 0 7 + B 0 8 → 0 ≤ j → j < B 0 7 → -9999 ≤ tv B k.1 i j ∧ tv B k.1 i j ≤ 9999)) ∧ (∀ i j : Int, 0 ≤ i → i < B 0 7 + B 0 8 → 0 ≤ j → j < B 0 7 → D 12 (6 * i + j) = tv B k.1 i j) ∧ st = ([(2, 0), (0, (k.1 : Int)), w2, w3], [(0, g)], D))) ?_ 10 126 _ ?_
  · rintro pc st (⟨rfl, h4, D, g, q1, q3, q4, rfl⟩)
    have hDG : tuG A D := hBG.tr ⟨q1.1, fun r j a1 a2 a3 a4 => q1.2 r j a3⟩
    refine wq_ok srt_turns (fr := []) (cuts := [143]) (J := fun pc st => (pc = 143 ∧ (¬ g = 0) ∧ st = ([(2, 0), (0, (k.1 : Int)), w2, w3], [], D))) ?_ 7 138 _ ?_
    · rintro pc st (⟨rfl, h0, rfl⟩)
      have hg : g = 1 ∧ ∀ i j : Int, 0 ≤ i → i < B 0 7 + B 0 8 → 0 ≤ j → j < B 0 7 → -9999 ≤ tv B k.1 i j ∧ tv B k.1 i j ≤ 9999 := by rcases q3 with h | h; exact absurd h h0; exact h
      obtain ⟨i1, i2, i3, i4⟩ : B 0 4 = 0 ∧ srtd B 44 ∧ cfs B 44 ∧ ∀ c, cr_co (LSm B 44) c = cr_co (LSm C0 44) c + cr_co (lsf (C0 1 43).toNat (fa C0 43)) c := by rcases hB.2 with h | h; omega; exact h
      have hN := tu_N hC hBG.1 i3 i4
      have m44 := eM_1 hBG.1 (r := 1) (by omega) kn1 (j := 44) (by omega) (by omega)
      have hS : ∀ r j, inS 44 r j → D r j = B r j := fun r j h => q1.2 r j (by unfold inS at h; omega)
      refine tu_143 hT hk hDG (srtd_same m44.2 hS i2) (cfs_same m44.2 hS i3) (xb_same m44.2 hS hN.2) (fun x => by rw [LSm_same m44.2 hS]; exact hN.1 x) (fun i j i0 i1 j0 j1 => ?_) (fun i j i0 i1 j0 j1 => ?_) w2 w3
      · rw [← htv]; exact hg.2 i j i0 (by omega) j0 (by omega)
      · rw [← htv]; exact q4 i j i0 (by omega) j0 (by omega)
    · refine ⟨fun h0 => ?_, fun h0 => ?_⟩
      · exact ⟨rfl, h0, rfl⟩
      · exact ⟨rfl, hbad D hDG⟩
  · refine ⟨oM_0 (by omega) km0 4 rfl, ?_⟩
    refine ⟨fun h0 => ?_, fun h0 => ?_⟩
    · exact ⟨rfl, hbad B hBG⟩
    · refine ⟨rM_0 (by omega) km0, ?_⟩
      refine (turnsArrows_ex (k := k.1) hBG.1 hTB.2.2.2.2.2.1 (by omega) (by omega)).imp ?_
      rintro ⟨r1, D⟩ ⟨q1, g, q2, q3, q4⟩
      simp only at q1 q2 q3 q4
      subst q2
      exact ⟨rfl, h0, D, g, q1, q3, q4, rfl⟩
theorem tu_45 {s : cx_Sd 12} {ks : List (Fin 12)} {A C0 : pm_A} {k : Fin 12} (hT : Tru s ks A) (hk : (k.1 : Int) < A 0 7) (hC : tu_C s ks A C0 k) (h4 : C0 0 4 = 0) (w2 w3 : pm_V) : Tm pmt (an_sh wM) o_X10_turns 45 ([(2, 0), (0, (k.1 : Int)), w2, w3], [], C0) (tu_post s ks A k) := by
  have m43 := eM_1 hC.1.1 (r := 1) (by omega) kn1 (j := 43) (by omega) (by omega)
  refine wq_ok srt_turns (fr := []) (cuts := [47]) (J := fun pc st => (pc = 47 ∧ st = ([(2, 0), (0, (k.1 : Int)), (0, 0), w3], [], C0))) ?_ 7 45 _ ?_
  · rintro pc st (⟨rfl, rfl⟩)
    exact tu_47 hC.2.2.2.2.1 hC.1.1 (fun C w2 w3 hCC => tu_126 hT hk hC hCC w2 w3) _ 0 _ C0 (Nat.lt_succ_self _) (by omega) (by omega) ⟨⟨hC.1.1, fun _ _ _ _ _ => rfl⟩, Or.inr ⟨h4, hC.2.1, hC.2.2.1, fun c => by show _ = _ + (0 : Int); omega⟩⟩
  · exact ⟨rfl, rfl⟩
theorem pr_tuG {A B : pm_A} {to : Int} (h : prF A B to) (h0 : 42 ≤ to) (h1 : to ≤ 47) : tuG A B := ⟨h.1, fun r j a1 a2 a3 a4 => h.2 r j (a1 to h0 h1) (a1 46 (by omega) (by omega)) (a1 47 (by omega) (by omega)) a2 a4⟩
def st4 (s : cx_Sd 12) (ks : List (Fin 12)) (B : pm_A) (p : Int) (k : Fin 12) (sg : Int) : Prop := srtd B p ∧ cfs B p ∧ xb B p 217178280 ∧ ∀ x, VS B p x = cr_mo (cr_gp s.b ks x).1 (fun i => (cx_pos (sg * cr_bs s.b ks i k) : Int))
theorem st4_of {s : cx_Sd 12} {ks : List (Fin 12)} {A B : pm_A} {p sg : Int} {k : Fin 12} (hT : Tru s ks A) (hk : (k.1 : Int) < A 0 7) (h : prG A B p k.1 sg (A 0 7 + A 0 8)) : st4 s ks B p k sg := by
  have p7 := fM_0_7 hT.1 (r := 0) (by omega) km0
  have p8 := fM_0_8 hT.1 (r := 0) (by omega) km0
  obtain ⟨g1, g2, g3, g4, g5⟩ := h
  exact ⟨g1, g2, xb_mono g4 (by omega), fun x => by rw [g5 x]; exact hT.pvl hk sg x⟩
theorem tu_28 {s : cx_Sd 12} {ks : List (Fin 12)} {A B : pm_A} {k : Fin 12} (hT : Tru s ks A) (hk : (k.1 : Int) < A 0 7) (hB : tuG A B) (h : B 0 4 = 0 → st4 s ks B 42 k 1 ∧ st4 s ks B 43 k (-1)) (w2 w3 : pm_V) : Tm pmt (an_sh wM) o_X10_turns 28 ([(2, 0), (0, (k.1 : Int)), w2, w3], [], B) (tu_post s ks A k) := by
  have hbad : ∀ D, tuG A D → tu_post s ks A k (some (0, 0), D) := fun D hD => Or.inl ⟨rfl, hD, hT.keep hD⟩
  refine wq_ok srt_turns (fr := []) (cuts := [45]) (J := fun pc st => (pc = 45 ∧ B 0 4 = 0 ∧ ∃ G, gH wM G ∧ (∀ q j, ¬ inS 44 q j → G q j = B q j) ∧ LSm G 44 = LSm B 42 ∧ st = ([(2, 0), (0, (k.1 : Int)), w2, w3], [], G))) ?_ 11 28 _ ?_
  · rintro pc st (⟨rfl, h4, G, g2, g3, g4, rfl⟩)
    obtain ⟨⟨a1, a2, a3, a4⟩, ⟨b1, b2, b3, b4⟩⟩ := h h4
    have m42 := eM_1 hB.1 (r := 1) (by omega) kn1 (j := 42) (by omega) (by omega)
    have m43 := eM_1 hB.1 (r := 1) (by omega) kn1 (j := 43) (by omega) (by omega)
    have m44 := eM_1 g2 (r := 1) (by omega) kn1 (j := 44) (by omega) (by omega)
    have hS : ∀ r j, inS 43 r j → G r j = B r j := fun r j hj => g3 r j (by unfold inS at *; omega)
    refine tu_45 hT hk ⟨hB.tr ⟨g2, fun r j x1 x2 x3 x4 => g3 r j (x1 44 (by omega) (by omega))⟩, ls_srtd g4 m44.1 m42.1 a1, ls_cfs g4 m44.1 m42.1 a2, ls_xb g4 m44.1 m42.1 a3, cfs_same m43.2 hS b2, xb_same m43.2 hS b3, fun x => ?_, fun x => ?_⟩ (by rw [g3 0 4 (by unfold inS; omega)]; exact h4) w2 w3
    · rw [VS_of g4, a4 x]; exact congrArg (cr_mo _) (funext fun i => by rw [Int.one_mul])
    · rw [VS_of (LSm_same m43.2 hS), b4 x]; exact congrArg (cr_mo _) (funext fun i => by rw [Int.neg_mul, Int.one_mul])
  · refine ⟨oM_0 (by omega) km0 4 rfl, ?_⟩
    refine ⟨fun h0 => ?_, fun h0 => ?_⟩
    · refine ⟨rM_0 (by omega) km0, ?_⟩
      refine (copy_ex (to := 44) (fr := 42) hB.1 (by omega) (by omega) (by omega) (by omega) (by omega)).imp ?_
      rintro ⟨r1, G⟩ ⟨g1, g2, g3, g4⟩
      simp only at g1 g2 g3 g4
      subst g1
      exact ⟨rfl, h0, G, g2, g3, g4, rfl⟩
    · exact ⟨rfl, hbad B hB⟩
theorem turns_ex {s : cx_Sd 12} {ks : List (Fin 12)} {A : pm_A} {k : Fin 12} (hT : Tru s ks A) (hk : (k.1 : Int) < A 0 7) : Cl pmt (an_sh wM) 200 [(2, 0), (0, (k.1 : Int))] A (tu_post s ks A k) := by
  have h0 : tuG A (pm_upd A 0 4 0) := ⟨uM_0_4 hT.1 (by omega) (by omega), fun r j a1 a2 a3 a4 => upd_o (fun e => a4 ⟨e.1, Or.inl e.2⟩)⟩
  have hT0 := hT.keep h0
  have e40 : pm_upd A 0 4 0 0 4 = 0 := upd_at
  have e7 := h0.fld (j := 7) (by omega) (by omega)
  have p7 := fM_0_7 hT.1 (r := 0) (by omega) km0
  refine Cl.of (Nat.le_of_ble_eq_true rfl) ?_
  refine wq_ok (full := o_X10_turns) srt_turns (fr := []) (cuts := [13]) (J := fun pc st => (pc = 13 ∧ ∃ B, prF (pm_upd A 0 4 0) B 42 ∧ (B 0 4 = 1 ∨ (B 0 4 = 0 ∧ prG (pm_upd A 0 4 0) B 42 k.1 1 (pm_upd A 0 4 0 0 7 + pm_upd A 0 4 0 0 8))) ∧ st = ([(2, 0), (0, (k.1 : Int)), (9, 0), (9, 0)], [], B))) ?_ 12 0 _ ?_
  · rintro pc st (⟨rfl, B, g2, g3, rfl⟩)
    have hBG : tuG A B := h0.tr (pr_tuG g2 (by omega) (by omega))
    have hTB := hT.keep hBG
    have b7 := hBG.fld (j := 7) (by omega) (by omega)
    have h42 : B 0 4 = 0 → st4 s ks B 42 k 1 := fun h => by
      rcases g3 with h2 | h2
      · omega
      · exact st4_of hT0 (by omega) h2.2
    refine wq_ok srt_turns (fr := []) (cuts := [28]) (J := fun pc st => (pc = 28 ∧ (¬ (B 0 4) = 0) ∧ st = ([(2, 0), (0, (k.1 : Int)), (9, 0), (9, 0)], [], B)) ∨ (pc = 28 ∧ B 0 4 = 0 ∧ ∃ C, prF B C 43 ∧ (C 0 4 = 1 ∨ (C 0 4 = 0 ∧ prG B C 43 k.1 (-1) (B 0 7 + B 0 8))) ∧ st = ([(2, 0), (0, (k.1 : Int)), (9, 0), (9, 0)], [], C))) ?_ 12 13 _ ?_
    · rintro pc st (⟨rfl, h0, rfl⟩ | ⟨rfl, h4, C, f2, f3, rfl⟩)
      · exact tu_28 hT hk hBG (fun h => absurd h h0) _ _
      · have hCG : tuG A C := hBG.tr (pr_tuG f2 (by omega) (by omega))
        refine tu_28 hT hk hCG (fun hC4 => ⟨?_, ?_⟩) _ _
        · have hs : ∀ r j, inS 42 r j → C r j = B r j := fun r j hj => f2.2 r j (by unfold inS at *; omega) (by unfold inS at *; omega) (by unfold inS at *; omega) (by unfold inS at hj; omega) (by unfold inS at hj; omega)
          have m42 := eM_1 hBG.1 (r := 1) (by omega) kn1 (j := 42) (by omega) (by omega)
          obtain ⟨a1, a2, a3, a4⟩ := h42 h4
          exact ⟨srtd_same m42.2 hs a1, cfs_same m42.2 hs a2, xb_same m42.2 hs a3, fun x => by rw [VS_of (LSm_same m42.2 hs)]; exact a4 x⟩
        · rcases f3 with h | h
          · omega
          · exact st4_of hTB (by omega) h.2
    · refine ⟨oM_0 (by omega) km0 4 rfl, ?_⟩
      refine ⟨fun h0 => ?_, fun h0 => ?_⟩
      · exact Or.inl (⟨rfl, h0, rfl⟩)
      · refine ⟨rM_0 (by omega) km0, ?_⟩
        refine (product_ex (to := 43) (k := k.1) (sg := -1) hTB.lt h0 (by omega) (by omega) (by omega) (by omega)).imp ?_
        rintro ⟨r1, C⟩ ⟨f1, f2, f3⟩
        simp only at f1 f2 f3
        subst f1
        exact Or.inr (⟨rfl, h0, C, f2, f3, rfl⟩)
  · refine ⟨oM_0 (by omega) km0 4 rfl, ?_⟩
    refine ⟨rM_0 (by omega) km0, ?_⟩
    refine (product_ex (to := 42) (k := k.1) (sg := 1) hT0.lt e40 (by omega) (by omega) (by omega) (by omega)).imp ?_
    rintro ⟨r1, B⟩ ⟨g1, g2, g3⟩
    simp only at g1 g2 g3
    subst g1
    exact ⟨rfl, B, g2, g3, rfl⟩
