/-! size, terms, term, least, ones on both sides -/
abbrev inP (p i : Int) : Prop := 0 ≤ i ∧ i < p
def lkC (k : Nat) (A : pm_A) (c : Prop) (v : Int) (r : pm_R) : Prop := (r = (some (k, v), A) ∧ c) ∨ (r = (some (k, 0), A) ∧ ¬ c)
theorem lkC.eq {k : Nat} {A B : pm_A} {c d : Prop} {v w : Int} {q r : pm_R} (hq : lkC k A c v q) (hr : lkC k B d w r) (h : c ↔ d) (e : c → v = w) : q.2 = A ∧ r.2 = B ∧ q.1 = r.1 := by
  rcases hq with ⟨rfl, h1⟩ | ⟨rfl, h1⟩
  · rcases hr with ⟨rfl, h2⟩ | ⟨rfl, h2⟩
    · exact ⟨rfl, rfl, by rw [e h1]⟩
    · exact absurd (h.1 h1) h2
  · rcases hr with ⟨rfl, h2⟩ | ⟨rfl, h2⟩
    · exact absurd (h.2 h2) h1
    · exact ⟨rfl, rfl, rfl⟩
theorem sq_Xsize : pm_srt o_X9_size = true := by decide +kernel
theorem sq_Xterms : pm_srt o_X9_terms = true := by decide +kernel
theorem sq_Xterm : pm_srt o_X9_term = true := by decide +kernel
theorem sq_Xleast : pm_srt o_X9_least = true := by decide +kernel
theorem sq_Xones : pm_srt o_X9_ones = true := by decide +kernel
theorem sq_hasVar : pm_srt o_X8_hasVariable = true := by decide +kernel
theorem sq_Msize : pm_srt o_X10_size = true := by decide +kernel
theorem sq_Mterms : pm_srt o_X10_terms = true := by decide +kernel
theorem sq_Mterm : pm_srt o_X10_term = true := by decide +kernel
theorem sq_Mleast : pm_srt o_X10_least = true := by decide +kernel
theorem sq_MleastOf : pm_srt o_X10_leastOf = true := by decide +kernel
theorem sq_Mones : pm_srt o_X10_ones = true := by decide +kernel
theorem sq_MsumOf : pm_srt o_X10_sumOf = true := by decide +kernel
theorem xsize_ex {A : pm_A} {i : Int} (hS : StE A) (hi : r32 i) (h32 : inP (A 1 0) i → r32 (A 3 i)) : Cl pmt (an_sh wX) 108 [(2, 0), (0, i)] A (lkC 0 A (inP (A 1 0) i) (A 3 i)) := by
  have a1_z := hS.2.1.1.1
  have m8_z : A 1 3 = 3 := (hS.2.2.2.2.2.1 1 (by omega) kk1).2.1
  have p6_z := fX_1_0 hS.1 (r := 1) (by omega) kk1
  have k1_z : 0 ≤ A 0 0 := by rw [a1_z]; omega
  have k2_z : wX.2 (A 0 0) = 1 := by rw [a1_z]; exact kk1
  refine Cl.of (Nat.le_of_ble_eq_true rfl) ?_
  refine wq_ok (full := o_X9_size) sq_Xsize (fr := []) (cuts := []) (J := fun _ _ => False) (fun _ _ h_z => h_z.elim) 30 0 _ ?_
  refine ⟨rX_0 z0 kk0, ?_⟩
  refine (isPlace_ex hS hi).imp ?_
  rintro ⟨r1_z, C_z⟩ ⟨g1, g2⟩
  simp only at g1 g2
  subst g1
  rcases g2 with ⟨rfl, g3_z, g4_z⟩ | ⟨rfl, g3_z⟩
  · refine ⟨fun hh => absurd hh (by decide), fun _ => ?_⟩
    refine ⟨oX_0 z0 kk0 0 rfl, ?_⟩
    refine ⟨oX_1 k1_z k2_z 3 rfl, ?_⟩
    refine ⟨aX_11 (by (try dsimp only); rw [a1_z, m8_z]; omega) (by (try dsimp only); rw [a1_z, m8_z]; exact kk3) g3_z (by omega), ?_⟩
    refine ⟨by (try dsimp only); rw [a1_z, m8_z]; exact h32 ⟨g3_z, g4_z⟩, ?_⟩
    refine ⟨rfl, Or.inl ⟨?_, g3_z, g4_z⟩⟩
    try dsimp only
    rw [a1_z, m8_z] <;> rfl
  · refine ⟨fun _ => ?_, fun hh => absurd rfl hh⟩
    exact ⟨rfl, Or.inr ⟨rfl, g3_z⟩⟩
theorem xterms_ex {A : pm_A} {i : Int} (hS : StE A) (hi : r32 i) : Cl pmt (an_sh wX) 114 [(2, 0), (0, i)] A (lkC 0 A (inP (A 1 0) i) (A (A 4 i) 1)) := by
  have a1_z := hS.2.1.1.1
  have a5 := hS.2.1.1.2.2.2.2.1
  have p6_z := fX_1_0 hS.1 (r := 1) (by omega) kk1
  have k1_z : 0 ≤ A 0 0 := by rw [a1_z]; omega
  have k2_z : wX.2 (A 0 0) = 1 := by rw [a1_z]; exact kk1
  refine Cl.of (Nat.le_of_ble_eq_true rfl) ?_
  refine wq_ok (full := o_X9_terms) sq_Xterms (fr := []) (cuts := []) (J := fun _ _ => False) (fun _ _ h_z => h_z.elim) 30 0 _ ?_
  refine ⟨rX_0 z0 kk0, ?_⟩
  refine (isPlace_ex hS hi).imp ?_
  rintro ⟨r1_z, C_z⟩ ⟨g1, g2⟩
  simp only at g1 g2
  subst g1
  rcases g2 with ⟨rfl, g3_z, g4_z⟩ | ⟨rfl, g3_z⟩
  · refine ⟨fun hh => absurd hh (by decide), fun _ => ?_⟩
    have el := eX_12 hS.1 (r := 4) (by omega) kk4 g3_z (show i < 6 by omega)
    refine ⟨oX_0 z0 kk0 0 rfl, ?_⟩
    refine ⟨oX_1 k1_z k2_z 4 rfl, ?_⟩
    refine ⟨aX_12 (by (try dsimp only); rw [a1_z, a5]; omega) (by (try dsimp only); rw [a1_z, a5]; exact kk4) g3_z (by omega), ?_⟩
    refine ⟨oX_2 (by (try dsimp only); rw [a1_z, a5]; exact el.1) (by (try dsimp only); rw [a1_z, a5]; exact el.2) 1 rfl, ?_⟩
    refine ⟨rfl, Or.inl ⟨?_, g3_z, g4_z⟩⟩
    try dsimp only
    rw [a1_z, a5] <;> rfl
  · refine ⟨fun _ => ?_, fun hh => absurd rfl hh⟩
    exact ⟨rfl, Or.inr ⟨rfl, g3_z⟩⟩
theorem xones_ex {A : pm_A} {i : Int} (hS : StE A) (hi : r32 i) (hf : inP (A 1 0) i → cfX A (A 4 i)) : Cl pmt (an_sh wX) 101 [(2, 0), (0, i)] A (lkC 1 A (inP (A 1 0) i) (smP (A (A (A 4 i) 2)) (A (A 4 i) 1).toNat)) := by
  have a1_z := hS.2.1.1.1
  have a5 := hS.2.1.1.2.2.2.2.1
  have p6_z := fX_1_0 hS.1 (r := 1) (by omega) kk1
  have k1_z : 0 ≤ A 0 0 := by rw [a1_z]; omega
  have k2_z : wX.2 (A 0 0) = 1 := by rw [a1_z]; exact kk1
  refine Cl.of (Nat.le_of_ble_eq_true rfl) ?_
  refine wq_ok (full := o_X9_ones) sq_Xones (fr := []) (cuts := []) (J := fun _ _ => False) (fun _ _ h_z => h_z.elim) 30 0 _ ?_
  refine ⟨rX_0 z0 kk0, ?_⟩
  refine (isPlace_ex hS hi).imp ?_
  rintro ⟨r1_z, C_z⟩ ⟨g1, g2⟩
  simp only at g1 g2
  subst g1
  rcases g2 with ⟨rfl, g3_z, g4_z⟩ | ⟨rfl, g3_z⟩
  · refine ⟨fun hh => absurd hh (by decide), fun _ => ?_⟩
    have el := eX_12 hS.1 (r := 4) (by omega) kk4 g3_z (show i < 6 by omega)
    refine ⟨oX_0 z0 kk0 0 rfl, ?_⟩
    refine ⟨oX_1 k1_z k2_z 4 rfl, ?_⟩
    refine ⟨aX_12 (by (try dsimp only); rw [a1_z, a5]; omega) (by (try dsimp only); rw [a1_z, a5]; exact kk4) g3_z (by omega), ?_⟩
    refine ⟨rX_2 (by (try dsimp only); rw [a1_z, a5]; exact el.1) (by (try dsimp only); rw [a1_z, a5]; exact el.2), ?_⟩
    have hcall := sum_ex hS.1 el (hf ⟨g3_z, g4_z⟩)
    try dsimp only
    rw [a1_z, a5]
    refine hcall.imp ?_
    rintro r_z rfl
    exact ⟨rfl, Or.inl ⟨rfl, g3_z, g4_z⟩⟩
  · refine ⟨fun _ => ?_, fun hh => absurd rfl hh⟩
    exact ⟨rfl, Or.inr ⟨rfl, g3_z⟩⟩
theorem hasVar_ex {A : pm_A} {c v : Int} (hc : 0 ≤ c ∧ wX.2 c = 2) : Cl pmt (an_sh wX) 78 [(2, c), (0, v)] A (fun r_z => (r_z = (some (0, 1), A) ∧ inP (A c 0) v) ∨ (r_z = (some (0, 0), A) ∧ ¬ inP (A c 0) v)) := by
  refine Cl.of (Nat.le_of_ble_eq_true rfl) ?_
  refine wq_ok (full := o_X8_hasVariable) sq_hasVar (fr := []) (cuts := []) (J := fun _ _ => False) (fun _ _ h_z => h_z.elim) 20 0 _ ?_
  refine ⟨fun h0 => ?_, fun h0 => ?_⟩
  · exact ⟨rfl, Or.inr ⟨rfl, fun q_z => by omega⟩⟩
  · refine ⟨oX_2 hc.1 hc.2 0 rfl, ?_⟩
    refine ⟨fun h1 => ?_, fun h1 => ?_⟩
    · exact ⟨rfl, Or.inr ⟨rfl, fun q_z => by omega⟩⟩
    · exact ⟨rfl, Or.inl ⟨rfl, h0, h1⟩⟩
theorem xleast_ex {A : pm_A} {i v w : Int} (hS : StE A) (hi : r32 i) (hw : inP (A 1 0) i → A (A 4 i) 0 = w ∧ 1 ≤ A (A 4 i) 1) : Cl pmt (an_sh wX) 100 [(2, 0), (0, i), (0, v)] A (lkC 0 A (inP (A 1 0) i ∧ inP w v) (mnP (fun q_z => A (A (A 4 i) 3) (q_z * w + v)) ((A (A 4 i) 1).toNat - 1))) := by
  have a1_z := hS.2.1.1.1
  have a5 := hS.2.1.1.2.2.2.2.1
  have p6_z := fX_1_0 hS.1 (r := 1) (by omega) kk1
  have k1_z : 0 ≤ A 0 0 := by rw [a1_z]; omega
  have k2_z : wX.2 (A 0 0) = 1 := by rw [a1_z]; exact kk1
  refine Cl.of (Nat.le_of_ble_eq_true rfl) ?_
  refine wq_ok (full := o_X9_least) sq_Xleast (fr := []) (cuts := []) (J := fun _ _ => False) (fun _ _ h_z => h_z.elim) 40 0 _ ?_
  refine ⟨rX_0 z0 kk0, ?_⟩
  refine (isPlace_ex hS hi).imp ?_
  rintro ⟨r1_z, C_z⟩ ⟨g1, g2⟩
  simp only at g1 g2
  subst g1
  rcases g2 with ⟨rfl, g3_z, g4_z⟩ | ⟨rfl, g3_z⟩
  · refine ⟨fun hh => absurd hh (by decide), fun _ => ?_⟩
    have el := eX_12 hS.1 (r := 4) (by omega) kk4 g3_z (show i < 6 by omega)
    obtain ⟨hw1, hl1⟩ := hw ⟨g3_z, g4_z⟩
    refine ⟨oX_0 z0 kk0 0 rfl, ?_⟩
    refine ⟨oX_1 k1_z k2_z 4 rfl, ?_⟩
    refine ⟨aX_12 (by (try dsimp only); rw [a1_z, a5]; omega) (by (try dsimp only); rw [a1_z, a5]; exact kk4) g3_z (by omega), ?_⟩
    refine ⟨rX_2 (by (try dsimp only); rw [a1_z, a5]; exact el.1) (by (try dsimp only); rw [a1_z, a5]; exact el.2), ?_⟩
    try dsimp only
    rw [a1_z, a5]
    refine (hasVar_ex el).imp ?_
    rintro r_z (⟨rfl, h_z⟩ | ⟨rfl, h_z⟩)
    · rw [hw1] at h_z
      refine ⟨fun hh => absurd hh (by decide), fun _ => ?_⟩
      refine ⟨oX_0 z0 kk0 0 rfl, ?_⟩
      refine ⟨oX_1 k1_z k2_z 4 rfl, ?_⟩
      refine ⟨aX_12 (by (try dsimp only); rw [a1_z, a5]; omega) (by (try dsimp only); rw [a1_z, a5]; exact kk4) g3_z (by omega), ?_⟩
      refine ⟨rX_2 (by (try dsimp only); rw [a1_z, a5]; exact el.1) (by (try dsimp only); rw [a1_z, a5]; exact el.2), ?_⟩
      have hcall := leastPower_ex hS.1 el hl1 h_z.1 (by rw [hw1]; exact h_z.2)
      rw [hw1] at hcall
      try dsimp only
      rw [a1_z, a5]
      refine hcall.imp ?_
      rintro r_z rfl
      exact ⟨rfl, Or.inl ⟨rfl, ⟨g3_z, g4_z⟩, h_z⟩⟩
    · rw [hw1] at h_z
      refine ⟨fun _ => ?_, fun hh => absurd rfl hh⟩
      exact ⟨rfl, Or.inr ⟨rfl, fun q_z => h_z q_z.2⟩⟩
  · refine ⟨fun _ => ?_, fun hh => absurd rfl hh⟩
    exact ⟨rfl, Or.inr ⟨rfl, fun q_z => g3_z q_z.1⟩⟩
def tmP (A : pm_A) (p m w i t v x y : Int) (r : pm_R) : Prop := (r = (some (1, x), A) ∧ (inP p i ∧ inP m t) ∧ v = -1) ∨ (r = (some (1, y), A) ∧ (inP p i ∧ inP m t) ∧ inP w v) ∨ (r = (some (1, 0), A) ∧ ¬ ((inP p i ∧ inP m t) ∧ -1 ≤ v ∧ v < w))
theorem xterm_21 {A : pm_A} {i t v w : Int} (hS : StE A) (hi : inP (A 1 0) i) (hw : A (A 4 i) 0 = w) : Tm pmt (an_sh wX) o_X9_term 21 ([(2, 0), (0, i), (0, t), (0, v), (2, A 4 i)], [], A) (tmP A (A 1 0) (A (A 4 i) 1) w i t v (A (A (A 4 i) 2) t) (A (A (A 4 i) 3) (t * w + v))) := by
  have p6_z := fX_1_0 hS.1 (r := 1) (by omega) kk1
  have el := eX_12 hS.1 (r := 4) (by omega) kk4 hi.1 (show i < 6 by omega)
  have m1_z := fX_2_1 hS.1 el.1 el.2
  have w1_z := fX_2_0 hS.1 el.1 el.2
  have n2_z := fX_2_2 hS.1 el.1 el.2
  have n3_z := fX_2_3 hS.1 el.1 el.2
  rw [hw] at w1_z
  refine wq_ok sq_Xterm (fr := []) (cuts := []) (J := fun _ _ => False) (fun _ _ h_z => h_z.elim) 40 21 _ ?_
  refine ⟨fun h0 => ?_, fun h0 => ?_⟩
  · exact ⟨rfl, Or.inr (Or.inr ⟨rfl, fun q_z => by omega⟩)⟩
  refine ⟨oX_2 el.1 el.2 1 rfl, ?_⟩
  refine ⟨fun h1 => ?_, fun h1 => ?_⟩
  · refine ⟨fun h2 => ?_, fun h2 => ?_⟩
    · refine ⟨rX_2 el.1 el.2, ?_⟩
      refine (hasVar_ex el).imp ?_
      rintro r_z (⟨rfl, h_z⟩ | ⟨rfl, h_z⟩)
      · rw [hw] at h_z
        have hm0 : 0 ≤ t * A (A 4 i) 0 := by rw [hw]; exact Int.mul_nonneg h0 w1_z.1
        have hm1 : t * A (A 4 i) 0 ≤ 199 * w := by rw [hw]; exact Int.mul_le_mul_of_nonneg_right (by omega) w1_z.1
        refine ⟨fun hh => absurd hh (by decide), fun _ => ?_⟩
        refine ⟨oX_2 el.1 el.2 3 rfl, ?_⟩
        refine ⟨oX_2 el.1 el.2 0 rfl, ?_⟩
        refine ⟨⟨by dsimp only; omega, by dsimp only; omega⟩, ?_⟩
        refine ⟨⟨by dsimp only; omega, by dsimp only; omega⟩, ?_⟩
        refine ⟨aX_15 n3_z.1 n3_z.2 (by dsimp only; omega) (by dsimp only; omega), ?_⟩
        refine ⟨rfl, Or.inr (Or.inl ⟨?_, ⟨hi, h0, h1⟩, h_z⟩)⟩
        try dsimp only
        rw [hw] <;> rfl
      · rw [hw] at h_z
        refine ⟨fun _ => ?_, fun hh => absurd rfl hh⟩
        exact ⟨rfl, Or.inr (Or.inr ⟨rfl, fun q_z => h_z ⟨by omega, q_z.2.2⟩⟩)⟩
    · refine ⟨oX_2 el.1 el.2 2 rfl, ?_⟩
      refine ⟨aX_14 n2_z.1 n2_z.2 h0 (by omega), ?_⟩
      exact ⟨rfl, Or.inl ⟨rfl, ⟨hi, h0, h1⟩, h2⟩⟩
  · exact ⟨rfl, Or.inr (Or.inr ⟨rfl, fun q_z => by omega⟩)⟩
theorem xterm_ex {A : pm_A} {i t v w : Int} (hS : StE A) (hi : r32 i) (hw : inP (A 1 0) i → A (A 4 i) 0 = w) : Cl pmt (an_sh wX) 113 [(2, 0), (0, i), (0, t), (0, v)] A (tmP A (A 1 0) (A (A 4 i) 1) w i t v (A (A (A 4 i) 2) t) (A (A (A 4 i) 3) (t * w + v))) := by
  have a1_z := hS.2.1.1.1
  have a5 := hS.2.1.1.2.2.2.2.1
  have p6_z := fX_1_0 hS.1 (r := 1) (by omega) kk1
  have k1_z : 0 ≤ A 0 0 := by rw [a1_z]; omega
  have k2_z : wX.2 (A 0 0) = 1 := by rw [a1_z]; exact kk1
  refine Cl.of (Nat.le_of_ble_eq_true rfl) ?_
  refine wq_ok (full := o_X9_term) sq_Xterm (fr := []) (cuts := [21]) (J := fun pc st_z => pc = 21 ∧ inP (A 1 0) i ∧ st_z = ([(2, 0), (0, i), (0, t), (0, v), (2, A 4 i)], [], A)) ?_ 30 0 _ ?_
  · rintro pc st_z ⟨rfl, h_z, rfl⟩
    exact xterm_21 hS h_z (hw h_z)
  · refine ⟨rX_0 z0 kk0, ?_⟩
    refine (isPlace_ex hS hi).imp ?_
    rintro ⟨r1_z, C_z⟩ ⟨g1, g2⟩
    simp only at g1 g2
    subst g1
    rcases g2 with ⟨rfl, g3_z, g4_z⟩ | ⟨rfl, g3_z⟩
    · refine ⟨fun _ => ?_, fun hh => absurd hh (by decide)⟩
      refine ⟨oX_0 z0 kk0 0 rfl, ?_⟩
      refine ⟨oX_1 k1_z k2_z 4 rfl, ?_⟩
      refine ⟨aX_12 (by (try dsimp only); rw [a1_z, a5]; omega) (by (try dsimp only); rw [a1_z, a5]; exact kk4) g3_z (by omega), ?_⟩
      refine ⟨rfl, ⟨g3_z, g4_z⟩, ?_⟩
      try dsimp only
      rw [a1_z, a5] <;> rfl
    · refine ⟨fun hh => absurd rfl hh, fun _ => ?_⟩
      exact ⟨rfl, Or.inr (Or.inr ⟨rfl, fun q_z => g3_z q_z.1.1⟩)⟩
theorem msize_ex {A : pm_A} {i : Int} (hg : gH wM A) : Cl pmt (an_sh wM) 184 [(2, 0), (0, i)] A (lkC 0 A (inP (A 0 7) i) (A 10 i)) := by
  have p7_z := fM_0_7 hg (r := 0) (by omega) km0
  have c17_z := pM_17 hg
  refine Cl.of (Nat.le_of_ble_eq_true rfl) ?_
  refine wq_ok (full := o_X10_size) sq_Msize (fr := []) (cuts := []) (J := fun _ _ => False) (fun _ _ h_z => h_z.elim) 30 0 _ ?_
  refine ⟨fun h0 => ?_, fun h0 => ?_⟩
  · exact ⟨rfl, Or.inr ⟨rfl, fun q_z => by omega⟩⟩
  · refine ⟨oM_0 (by omega) km0 7 rfl, ?_⟩
    refine ⟨fun h1 => ?_, fun h1 => ?_⟩
    · refine ⟨oM_0 (by omega) km0 17 rfl, ?_⟩
      refine ⟨aM_10 (r := A 0 17) (by rw [c17_z]; omega) (by rw [c17_z]; exact kn10) h0 (by omega), ?_⟩
      refine ⟨rfl, Or.inl ⟨?_, h0, h1⟩⟩
      rw [c17_z] <;> rfl
    · exact ⟨rfl, Or.inr ⟨rfl, fun q_z => by omega⟩⟩
theorem mterms_ex {A : pm_A} {i : Int} (hg : gH wM A) : Cl pmt (an_sh wM) 194 [(2, 0), (0, i)] A (lkC 0 A (inP (A 0 7) i) (A 1 i)) := by
  have p7_z := fM_0_7 hg (r := 0) (by omega) km0
  have c1_z := pM_1 hg
  refine Cl.of (Nat.le_of_ble_eq_true rfl) ?_
  refine wq_ok (full := o_X10_terms) sq_Mterms (fr := []) (cuts := []) (J := fun _ _ => False) (fun _ _ h_z => h_z.elim) 30 0 _ ?_
  refine ⟨fun h0 => ?_, fun h0 => ?_⟩
  · exact ⟨rfl, Or.inr ⟨rfl, fun q_z => by omega⟩⟩
  · refine ⟨oM_0 (by omega) km0 7 rfl, ?_⟩
    refine ⟨fun h1 => ?_, fun h1 => ?_⟩
    · refine ⟨oM_0 (by omega) km0 1 rfl, ?_⟩
      refine ⟨aM_1 (r := A 0 1) (by rw [c1_z]; omega) (by rw [c1_z]; exact kn1) h0 (by omega), ?_⟩
      refine ⟨rfl, Or.inl ⟨?_, h0, h1⟩⟩
      rw [c1_z] <;> rfl
    · exact ⟨rfl, Or.inr ⟨rfl, fun q_z => by omega⟩⟩
theorem mterm_ex {A : pm_A} {i t v : Int} (hg : gH wM A) : Cl pmt (an_sh wM) 193 [(2, 0), (0, i), (0, t), (0, v)] A (tmP A (A 0 7) (A 1 i) (A 0 7 + A 0 8) i t v (A 2 (200 * i + t)) (A 3 (12 * (200 * i + t) + v))) := by
  have p7_z := fM_0_7 hg (r := 0) (by omega) km0
  have p8 := fM_0_8 hg (r := 0) (by omega) km0
  have c1_z := pM_1 hg
  have c2_z := pM_2 hg
  have c3_z := pM_3 hg
  refine Cl.of (Nat.le_of_ble_eq_true rfl) ?_
  refine wq_ok (full := o_X10_term) sq_Mterm (fr := []) (cuts := []) (J := fun _ _ => False) (fun _ _ h_z => h_z.elim) 60 0 _ ?_
  refine ⟨fun h0 => ?_, fun h0 => ?_⟩
  · exact ⟨rfl, Or.inr (Or.inr ⟨rfl, fun q_z => by omega⟩)⟩
  refine ⟨oM_0 (by omega) km0 7 rfl, ?_⟩
  refine ⟨fun h1 => ?_, fun h1 => ?_⟩
  · exact ⟨rfl, Or.inr (Or.inr ⟨rfl, fun q_z => by omega⟩)⟩
  refine ⟨fun h2 => ?_, fun h2 => ?_⟩
  · exact ⟨rfl, Or.inr (Or.inr ⟨rfl, fun q_z => by omega⟩)⟩
  refine ⟨oM_0 (by omega) km0 1 rfl, ?_⟩
  refine ⟨aM_1 (r := A 0 1) (by rw [c1_z]; omega) (by rw [c1_z]; exact kn1) h0 (by omega), ?_⟩
  have e1_z : A (A 0 1) i = A 1 i := by rw [c1_z]
  have m_z := eM_1 hg (r := 1) (by omega) kn1 (j := i) h0 (by omega)
  refine ⟨fun h3 => ?_, fun h3 => ?_⟩
  · exact ⟨rfl, Or.inr (Or.inr ⟨rfl, fun q_z => by omega⟩)⟩
  refine ⟨fun h4 => ?_, fun h4 => ?_⟩
  · exact ⟨rfl, Or.inr (Or.inr ⟨rfl, fun q_z => by omega⟩)⟩
  refine ⟨oM_0 (by omega) km0 7 rfl, ?_⟩
  refine ⟨oM_0 (by omega) km0 8 rfl, ?_⟩
  refine ⟨⟨by omega, by omega⟩, ?_⟩
  refine ⟨fun h5 => ?_, fun h5 => ?_⟩
  · refine ⟨fun h6 => ?_, fun h6 => ?_⟩
    · refine ⟨oM_0 (by omega) km0 3 rfl, ?_⟩
      refine ⟨⟨by omega, by omega⟩, ?_⟩
      refine ⟨⟨by omega, by omega⟩, ?_⟩
      refine ⟨⟨by omega, by omega⟩, ?_⟩
      refine ⟨⟨by omega, by omega⟩, ?_⟩
      refine ⟨aM_3 (r := A 0 3) (by rw [c3_z]; omega) (by rw [c3_z]; exact kn3) (by omega) (by omega), ?_⟩
      refine ⟨rfl, Or.inr (Or.inl ⟨?_, ⟨⟨h0, h1⟩, h2, by omega⟩, by omega, h5⟩)⟩
      rw [c3_z] <;> rfl
    · refine ⟨oM_0 (by omega) km0 2 rfl, ?_⟩
      refine ⟨⟨by omega, by omega⟩, ?_⟩
      refine ⟨⟨by omega, by omega⟩, ?_⟩
      refine ⟨aM_2 (r := A 0 2) (by rw [c2_z]; omega) (by rw [c2_z]; exact kn2) (by omega) (by omega), ?_⟩
      refine ⟨rfl, Or.inl ⟨?_, ⟨⟨h0, h1⟩, h2, by omega⟩, h6⟩⟩
      rw [c2_z] <;> rfl
  · exact ⟨rfl, Or.inr (Or.inr ⟨rfl, fun q_z => by omega⟩)⟩
theorem ms_5 {A : pm_A} {i : Int} (hg : gH wM A) (i0 : 0 ≤ i) (i1 : i < 152) (hf : cfs A i) : ∀ (m_z t_z : Nat), 200 - t_z < m_z → (t_z : Int) ≤ A 1 i → Tm pmt (an_sh wM) o_X10_sumOf 5 ([(2, 0), (0, i), (1, smP (fun q_z => A 2 (200 * i + q_z)) t_z), (9, 0), (0, (t_z : Int))], [], A) (fun r_z => r_z = (some (1, smP (fun q_z => A 2 (200 * i + q_z)) (A 1 i).toNat), A)) := by
  have c1_z := pM_1 hg
  have c2_z := pM_2 hg
  have hm_z := eM_1 hg (r := 1) (by omega) kn1 (j := i) i0 (by omega)
  have e1_z : A (A 0 1) i = A 1 i := by rw [c1_z]
  intro m_z
  induction m_z with
  | zero => intro t_z h_z; omega
  | succ m_z ih_z =>
    intro t_z hm_z t1_z
    refine wq_ok sq_MsumOf (fr := []) (cuts := [5]) (J := fun pc st_z => pc = 5 ∧ (t_z : Int) < A 1 i ∧ st_z = ([(2, 0), (0, i), (1, smP (fun q_z => A 2 (200 * i + q_z)) t_z + A 2 (200 * i + (t_z : Int))), (9, 0), (0, (t_z : Int) + 1)], [], A)) ?_ 30 5 _ ?_
    · rintro pc st_z ⟨rfl, h1, rfl⟩
      rw [show (t_z : Int) + 1 = ((t_z + 1 : Nat) : Int) by omega]
      exact ih_z (t_z + 1) (by omega) (by omega)
    · refine ⟨oM_0 (by omega) km0 1 rfl, ?_⟩
      refine ⟨aM_1 (r := A 0 1) (by rw [c1_z]; omega) (by rw [c1_z]; exact kn1) i0 (by omega), ?_⟩
      refine ⟨fun h_z => ?_, fun h_z => ?_⟩
      · have e_z : t_z = (A 1 i).toNat := by omega
        exact ⟨rfl, by rw [e_z]⟩
      · have b_z := smP_b (f := fun q_z => A 2 (200 * i + q_z)) t_z (by omega) (fun q_z q0 q1_z => hf q_z q0 (by omega))
        have b2 := hf t_z (by omega) (by omega)
        refine ⟨oM_0 (by omega) km0 2 rfl, ?_⟩
        refine ⟨⟨by omega, by omega⟩, ?_⟩
        refine ⟨⟨by omega, by omega⟩, ?_⟩
        refine ⟨aM_2 (r := A 0 2) (by rw [c2_z]; omega) (by rw [c2_z]; exact kn2) (by omega) (by omega), ?_⟩
        rw [c2_z]
        refine ⟨⟨by omega, by omega⟩, ?_⟩
        refine ⟨⟨by omega, by omega⟩, ?_⟩
        exact ⟨rfl, by omega, rfl⟩
theorem msum_ex {A : pm_A} {i : Int} (hg : gH wM A) (i0 : 0 ≤ i) (i1 : i < 152) (hf : cfs A i) : Cl pmt (an_sh wM) 186 [(2, 0), (0, i)] A (fun r_z => r_z = (some (1, smP (fun q_z => A 2 (200 * i + q_z)) (A 1 i).toNat), A)) := by
  have hm_z := eM_1 hg (r := 1) (by omega) kn1 (j := i) i0 (by omega)
  refine Cl.of (Nat.le_of_ble_eq_true rfl) ?_
  refine wq_ok (full := o_X10_sumOf) sq_MsumOf (fr := []) (cuts := [5]) (J := fun pc st_z => pc = 5 ∧ st_z = ([(2, 0), (0, i), (1, 0), (9, 0), (0, 0)], [], A)) ?_ 20 0 _ ?_
  · rintro pc st_z ⟨rfl, rfl⟩
    exact ms_5 hg i0 i1 hf _ 0 (Nat.lt_succ_self _) (by omega)
  · exact ⟨rfl, rfl⟩
theorem mones_ex {A : pm_A} {i : Int} (hg : gH wM A) (hf : inP (A 0 7) i → cfs A i) : Cl pmt (an_sh wM) 169 [(2, 0), (0, i)] A (lkC 1 A (inP (A 0 7) i) (smP (fun q_z => A 2 (200 * i + q_z)) (A 1 i).toNat)) := by
  have p7_z := fM_0_7 hg (r := 0) (by omega) km0
  refine Cl.of (Nat.le_of_ble_eq_true rfl) ?_
  refine wq_ok (full := o_X10_ones) sq_Mones (fr := []) (cuts := []) (J := fun _ _ => False) (fun _ _ h_z => h_z.elim) 30 0 _ ?_
  refine ⟨fun h0 => ?_, fun h0 => ?_⟩
  · exact ⟨rfl, Or.inr ⟨rfl, fun q_z => by omega⟩⟩
  · refine ⟨oM_0 (by omega) km0 7 rfl, ?_⟩
    refine ⟨fun h1 => ?_, fun h1 => ?_⟩
    · refine ⟨rM_0 (by omega) km0, ?_⟩
      refine (msum_ex hg h0 (by omega) (hf ⟨h0, h1⟩)).imp ?_
      rintro r_z rfl
      exact ⟨rfl, Or.inl ⟨rfl, h0, h1⟩⟩
    · exact ⟨rfl, Or.inr ⟨rfl, fun q_z => by omega⟩⟩
theorem ml_16 {A : pm_A} {i v : Int} (hg : gH wM A) (i0 : 0 ≤ i) (i1 : i < 152) (h1 : 1 ≤ A 1 i) (v0 : 0 ≤ v) (v1 : v < 12) : ∀ (m_z t_z : Nat), 200 - t_z < m_z → 1 ≤ t_z → (t_z : Int) ≤ A 1 i → Tm pmt (an_sh wM) o_X10_leastOf 16 ([(2, 0), (0, i), (0, v), (0, mnP (fun q_z => A 3 (12 * (200 * i + q_z) + v)) (t_z - 1)), (0, (t_z : Int))], [], A) (fun r_z => r_z = (some (0, mnP (fun q_z => A 3 (12 * (200 * i + q_z) + v)) ((A 1 i).toNat - 1)), A)) := by
  have c1_z := pM_1 hg
  have c3_z := pM_3 hg
  have hm_z := eM_1 hg (r := 1) (by omega) kn1 (j := i) i0 (by omega)
  have e1_z : A (A 0 1) i = A 1 i := by rw [c1_z]
  intro m_z
  induction m_z with
  | zero => intro t_z h_z; omega
  | succ m_z ih_z =>
    intro t_z hm_z t0_z t1_z
    have st1_z : mnP (fun q_z => A 3 (12 * (200 * i + q_z) + v)) t_z = min (mnP (fun q_z => A 3 (12 * (200 * i + q_z) + v)) (t_z - 1)) (A 3 (12 * (200 * i + (t_z : Int)) + v)) := by
      obtain ⟨u_z, rfl⟩ : ∃ u_z : Nat, t_z = u_z + 1 := ⟨t_z - 1, by omega⟩
      show min (mnP (fun q_z => A 3 (12 * (200 * i + q_z) + v)) u_z) (A 3 (12 * (200 * i + ((u_z : Int) + 1)) + v)) = _
      rw [show ((u_z + 1 : Nat) : Int) = (u_z : Int) + 1 by omega, show u_z + 1 - 1 = u_z by omega]
    refine wq_ok sq_MleastOf (fr := []) (cuts := [16]) (J := fun pc st_z => pc = 16 ∧ (t_z : Int) < A 1 i ∧ st_z = ([(2, 0), (0, i), (0, v), (0, min (mnP (fun q_z => A 3 (12 * (200 * i + q_z) + v)) (t_z - 1)) (A 3 (12 * (200 * i + (t_z : Int)) + v))), (0, (t_z : Int) + 1)], [], A)) ?_ 40 16 _ ?_
    · rintro pc st_z ⟨rfl, h2, rfl⟩
      rw [← st1_z, show (t_z : Int) + 1 = ((t_z + 1 : Nat) : Int) by omega]
      exact ih_z (t_z + 1) (by omega) (by omega) (by omega)
    · refine ⟨oM_0 (by omega) km0 1 rfl, ?_⟩
      refine ⟨aM_1 (r := A 0 1) (by rw [c1_z]; omega) (by rw [c1_z]; exact kn1) i0 (by omega), ?_⟩
      refine ⟨fun h_z => ?_, fun h_z => ?_⟩
      · have e_z : t_z = (A 1 i).toNat := by omega
        exact ⟨rfl, by rw [e_z]⟩
      · refine ⟨oM_0 (by omega) km0 3 rfl, ?_⟩
        refine ⟨⟨by omega, by omega⟩, ?_⟩
        refine ⟨⟨by omega, by omega⟩, ?_⟩
        refine ⟨⟨by omega, by omega⟩, ?_⟩
        refine ⟨⟨by omega, by omega⟩, ?_⟩
        refine ⟨aM_3 (r := A 0 3) (by rw [c3_z]; omega) (by rw [c3_z]; exact kn3) (by omega) (by omega), ?_⟩
        rw [c3_z]
        refine ⟨rfl, ?_⟩
        refine lesser_ex.imp ?_
        rintro r_z rfl
        refine ⟨⟨by omega, by omega⟩, ?_⟩
        exact ⟨rfl, by omega, rfl⟩
theorem mleastOf_ex {A : pm_A} {i v : Int} (hg : gH wM A) (i0 : 0 ≤ i) (i1 : i < 152) (h1 : 1 ≤ A 1 i) (v0 : 0 ≤ v) (v1 : v < 12) : Cl pmt (an_sh wM) 163 [(2, 0), (0, i), (0, v)] A (fun r_z => r_z = (some (0, mnP (fun q_z => A 3 (12 * (200 * i + q_z) + v)) ((A 1 i).toNat - 1)), A)) := by
  have hm_z := eM_1 hg (r := 1) (by omega) kn1 (j := i) i0 (by omega)
  have c3_z := pM_3 hg
  refine Cl.of (Nat.le_of_ble_eq_true rfl) ?_
  refine wq_ok (full := o_X10_leastOf) sq_MleastOf (fr := []) (cuts := [16]) (J := fun pc st_z => pc = 16 ∧ st_z = ([(2, 0), (0, i), (0, v), (0, A 3 (2400 * i + v)), (0, 1)], [], A)) ?_ 20 0 _ ?_
  · rintro pc st_z ⟨rfl, rfl⟩
    have h2 := ml_16 hg i0 i1 h1 v0 v1 _ 1 (Nat.lt_succ_self _) (by omega) (by omega)
    have e_z : mnP (fun q_z => A 3 (12 * (200 * i + q_z) + v)) (1 - 1) = A 3 (2400 * i + v) := by
      show A 3 (12 * (200 * i + 0) + v) = _
      rw [show 12 * (200 * i + 0) + v = 2400 * i + v by omega]
    rw [e_z] at h2
    exact h2
  · refine ⟨oM_0 (by omega) km0 3 rfl, ?_⟩
    refine ⟨⟨by omega, by omega⟩, ?_⟩
    refine ⟨⟨by omega, by omega⟩, ?_⟩
    refine ⟨aM_3 (r := A 0 3) (by rw [c3_z]; omega) (by rw [c3_z]; exact kn3) (by omega) (by omega), ?_⟩
    rw [c3_z]
    exact ⟨rfl, rfl⟩
theorem mleast_ex {A : pm_A} {i v : Int} (hg : gH wM A) (h1 : inP (A 0 7) i → 1 ≤ A 1 i) : Cl pmt (an_sh wM) 162 [(2, 0), (0, i), (0, v)] A (lkC 0 A (inP (A 0 7) i ∧ inP (A 0 7 + A 0 8) v) (mnP (fun q_z => A 3 (12 * (200 * i + q_z) + v)) ((A 1 i).toNat - 1))) := by
  have p7_z := fM_0_7 hg (r := 0) (by omega) km0
  have p8 := fM_0_8 hg (r := 0) (by omega) km0
  refine Cl.of (Nat.le_of_ble_eq_true rfl) ?_
  refine wq_ok (full := o_X10_least) sq_Mleast (fr := []) (cuts := []) (J := fun _ _ => False) (fun _ _ h_z => h_z.elim) 40 0 _ ?_
  refine ⟨fun h0 => ?_, fun h0 => ?_⟩
  · exact ⟨rfl, Or.inr ⟨rfl, fun q_z => by omega⟩⟩
  refine ⟨oM_0 (by omega) km0 7 rfl, ?_⟩
  refine ⟨fun h2 => ?_, fun h2 => ?_⟩
  · exact ⟨rfl, Or.inr ⟨rfl, fun q_z => by omega⟩⟩
  refine ⟨fun h3 => ?_, fun h3 => ?_⟩
  · exact ⟨rfl, Or.inr ⟨rfl, fun q_z => by omega⟩⟩
  refine ⟨oM_0 (by omega) km0 7 rfl, ?_⟩
  refine ⟨oM_0 (by omega) km0 8 rfl, ?_⟩
  refine ⟨⟨by omega, by omega⟩, ?_⟩
  refine ⟨fun h4 => ?_, fun h4 => ?_⟩
  · refine ⟨rM_0 (by omega) km0, ?_⟩
    refine (mleastOf_ex hg h0 (by omega) (h1 ⟨h0, h2⟩) h3 (by omega)).imp ?_
    rintro r_z rfl
    exact ⟨rfl, Or.inl ⟨rfl, ⟨h0, h2⟩, h3, h4⟩⟩
  · exact ⟨rfl, Or.inr ⟨rfl, fun q_z => by omega⟩⟩
/-- what both sides say of a letter -/
theorem rl_one {s : cx_Sd 12} {ks : List (Fin 12)} {AX AM : pm_A} (h : RL0 s ks AX AM) {i : Int} (hi : inP (AX 1 0) i) : 1 ≤ AM 1 i ∧ cfs AM i ∧ cfX AX (AX 4 i) := by
  have p6_z := fX_1_0 h.1.1 (r := 1) (by omega) kk1
  have a5 := h.1.2.1.1.2.2.2.2.1
  have e7_z := h.2.2.2.1
  obtain ⟨f_z, hf⟩ : ∃ f_z : Fin 12, i = (f_z.1 : Int) := ⟨⟨i.toNat, by omega⟩, by show i = ((i.toNat : Nat) : Int); omega⟩
  have h1 := h.2.1.one (i := f_z) (by rw [← hf]; exact hi.2)
  have h2 := (h.at hi.1 hi.2).1.1
  rw [a5, ← hf, h2] at h1
  have h3 := (h.2.2.1.2.2.2.2.2.2 f_z (by rw [← hf]; omega)).2.1
  have h4 := (h.2.1.2.2.2.2.2.2.2 f_z (by rw [← hf]; exact hi.2)).2.1
  rw [← hf] at h3 h4
  rw [a5] at h4
  exact ⟨h1, h3, h4⟩
theorem rl_terms {s : cx_Sd 12} {ks : List (Fin 12)} {AX AM : pm_A} {i : Int} {q r : pm_R} (h : RL0 s ks AX AM) (hq : lkC 0 AX (inP (AX 1 0) i) (AX (AX 4 i) 1) q) (hr : lkC 0 AM (inP (AM 0 7) i) (AM 1 i) r) : q.2 = AX ∧ r.2 = AM ∧ q.1 = r.1 :=
  hq.eq hr (by rw [h.2.2.2.1]) (fun hi_z => (h.at hi_z.1 hi_z.2).1.1)
theorem rl_ones {s : cx_Sd 12} {ks : List (Fin 12)} {AX AM : pm_A} {i : Int} {q r : pm_R} (h : RL0 s ks AX AM) (hq : lkC 1 AX (inP (AX 1 0) i) (smP (AX (AX (AX 4 i) 2)) (AX (AX 4 i) 1).toNat) q) (hr : lkC 1 AM (inP (AM 0 7) i) (smP (fun q_z => AM 2 (200 * i + q_z)) (AM 1 i).toNat) r) : q.2 = AX ∧ r.2 = AM ∧ q.1 = r.1 :=
  hq.eq hr (by rw [h.2.2.2.1]) (fun hi_z => by
    have h1 := h.at hi_z.1 hi_z.2
    have h2 := (rl_one h hi_z).1
    rw [h1.1.1]
    exact smP_c _ (fun q_z q0 q1_z => (h1.2 q_z q0 (by omega)).1))
theorem rl_least {s : cx_Sd 12} {ks : List (Fin 12)} {AX AM : pm_A} {i v : Int} {q r : pm_R} (h : RL0 s ks AX AM) (hq : lkC 0 AX (inP (AX 1 0) i ∧ inP (AM 0 7 + AM 0 8) v) (mnP (fun q_z => AX (AX (AX 4 i) 3) (q_z * (AM 0 7 + AM 0 8) + v)) ((AX (AX 4 i) 1).toNat - 1)) q) (hr : lkC 0 AM (inP (AM 0 7) i ∧ inP (AM 0 7 + AM 0 8) v) (mnP (fun q_z => AM 3 (12 * (200 * i + q_z) + v)) ((AM 1 i).toNat - 1)) r) : q.2 = AX ∧ r.2 = AM ∧ q.1 = r.1 :=
  hq.eq hr (by rw [h.2.2.2.1]) (fun hi_z => by
    have h1 := h.at hi_z.1.1 hi_z.1.2
    have h2 := (rl_one h hi_z.1).1
    rw [h1.1.1]
    exact mnP_c _ (fun q_z q0 q1_z => (h1.2 q_z q0 (by omega)).2 v hi_z.2.1 hi_z.2.2))
theorem rl_term {s : cx_Sd 12} {ks : List (Fin 12)} {AX AM : pm_A} {i t v : Int} {q r : pm_R} (h : RL0 s ks AX AM) (hq : tmP AX (AX 1 0) (AX (AX 4 i) 1) (AM 0 7 + AM 0 8) i t v (AX (AX (AX 4 i) 2) t) (AX (AX (AX 4 i) 3) (t * (AM 0 7 + AM 0 8) + v)) q) (hr : tmP AM (AM 0 7) (AM 1 i) (AM 0 7 + AM 0 8) i t v (AM 2 (200 * i + t)) (AM 3 (12 * (200 * i + t) + v)) r) : q.2 = AX ∧ r.2 = AM ∧ q.1 = r.1 := by
  have e7_z := h.2.2.2.1
  have p7_z := fM_0_7 h.2.2.1.1 (r := 0) (by omega) km0
  have p8 := fM_0_8 h.2.2.1.1 (r := 0) (by omega) km0
  have hl : inP (AM 0 7) i → AX (AX 4 i) 1 = AM 1 i := fun hi_z => (h.at hi_z.1 (by omega)).1.1
  rw [e7_z] at hq
  rcases hq with ⟨rfl, h1, h2⟩ | ⟨rfl, h1, h2⟩ | ⟨rfl, h1⟩
  · rw [hl h1.1] at h1
    rcases hr with ⟨rfl, g1, g2⟩ | ⟨rfl, g1, g2⟩ | ⟨rfl, g1⟩
    · exact ⟨rfl, rfl, by rw [((h.at h1.1.1 (by omega)).2 t h1.2.1 h1.2.2).1]⟩
    · omega
    · exact absurd ⟨h1, by omega⟩ g1
  · rw [hl h1.1] at h1
    rcases hr with ⟨rfl, g1, g2⟩ | ⟨rfl, g1, g2⟩ | ⟨rfl, g1⟩
    · omega
    · exact ⟨rfl, rfl, by rw [((h.at h1.1.1 (by omega)).2 t h1.2.1 h1.2.2).2 v h2.1 h2.2]⟩
    · exact absurd ⟨h1, by omega⟩ g1
  · rcases hr with ⟨rfl, g1, g2⟩ | ⟨rfl, g1, g2⟩ | ⟨rfl, g1⟩
    · rw [← hl g1.1] at g1
      exact absurd ⟨g1, by omega⟩ h1
    · rw [← hl g1.1] at g1
      exact absurd ⟨g1, by omega⟩ h1
    · exact ⟨rfl, rfl, rfl⟩
