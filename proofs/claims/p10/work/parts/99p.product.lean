/-! product -/
theorem srt_Mproduct : pm_srt o_X10_product = true := by decide +kernel
def yv (A : pm_A) (x : cr_Pv 12) (i : Nat) : Rat := if (i : Int) < A 0 7 then VS A i x else if h : i < 12 then x.1 ⟨i, h⟩ else 1
def pvl (A : pm_A) (k sg : Int) (x : cr_Pv 12) : Nat → Rat
  | 0 => 1
  | m + 1 => pvl A k sg x m * yv A x m ^ (cx_pos (sg * A 5 (6 * (m : Int) + k)) : Int)
def prF (A B : pm_A) (to : Int) : Prop := gH wM B ∧ ∀ r j, ¬ inS to r j → ¬ inS 46 r j → ¬ inS 47 r j → r ≠ 4 → ¬ (r = 0 ∧ (j = 4 ∨ j = 5)) → B r j = A r j
def prG (A B : pm_A) (to k sg i : Int) : Prop := srtd B to ∧ cfs B to ∧ 1 ≤ B 1 to ∧ xb B to (i * 18098190) ∧ ∀ x, VS B to x = pvl A k sg x i.toNat
def mpr_post (A : pm_A) (to k sg : Int) (r : pm_R) : Prop := r.1 = none ∧ prF A r.2 to ∧ (r.2 0 4 = 1 ∨ (r.2 0 4 = 0 ∧ prG A r.2 to k sg (A 0 7 + A 0 8)))
def ltH (A : pm_A) : Prop := gH wM A ∧ (∀ i : Int, 0 ≤ i → i < A 0 7 → srtd A i ∧ cfs A i ∧ 1 ≤ A 1 i ∧ xb A i 1810) ∧ ∀ i j : Int, 0 ≤ i → i < A 0 7 + A 0 8 → 0 ≤ j → j < A 0 7 → -9999 ≤ A 5 (6 * i + j) ∧ A 5 (6 * i + j) ≤ 9999
theorem xb_mono {A : pm_A} {p E E' : Int} (h : xb A p E) (he : E ≤ E') : xb A p E' := fun q v q0 q1 v0 v1 => by have := h q v q0 q1 v0 v1; omega
theorem pr_79 {C : pm_A} {to k sg i n : Int} (i0 : 0 ≤ i) (i1 : i ≤ 12) {z : pm_R → Prop} (H : Tm pmt (an_sh wM) o_X10_product 8 ([(2, 0), (0, to), (0, k), (0, sg), (0, i + 1), (0, n)], [], C) z) : Tm pmt (an_sh wM) o_X10_product 79 ([(2, 0), (0, to), (0, k), (0, sg), (0, i), (0, n)], [], C) z := by
  refine wq_ok srt_Mproduct (fr := []) (cuts := [8]) (J := fun pc st => (pc = 8 ∧ st = ([(2, 0), (0, to), (0, k), (0, sg), (0, i + 1), (0, n)], [], C))) ?_ 7 79 _ ?_
  · rintro pc st (⟨rfl, rfl⟩)
    exact H
  · refine ⟨⟨by omega, by omega⟩, ?_⟩
    exact ⟨rfl, rfl⟩
theorem pr_72 {A B C : pm_A} {to k sg i n p : Int} (hto : to = 42 ∨ to = 43) (hp : 0 ≤ p ∧ p ≤ 46 ∧ p ≠ to) (i0 : 0 ≤ i) (i1 : i < A 0 7 + A 0 8) (hw : A 0 7 + A 0 8 ≤ 12) (hn : n = sg * A 5 (6 * i + k)) (n0 : 0 < n) (n1 : n ≤ 9999) (hB : prF A B to) (h4 : B 0 4 = 0) (hG : prG A B to k sg i) (hC : gH wM C) (hCF : ∀ q j, ¬ inS 46 q j → C q j = B q j) (hcp : cfs C p) (hmp : 1 ≤ C 1 p) (hxp : xb C p 1810) (hv : ∀ x, VS C p x = yv A x i.toNat) {z : pm_R → Prop}
    (H : ∀ D, prF A D to → (D 0 4 = 1 ∨ (D 0 4 = 0 ∧ prG A D to k sg (i + 1))) → Tm pmt (an_sh wM) o_X10_product 8 ([(2, 0), (0, to), (0, k), (0, sg), (0, i + 1), (0, n)], [], D) z) : Tm pmt (an_sh wM) o_X10_product 72 ([(2, 0), (0, to), (0, k), (0, sg), (0, i), (0, n)], [(0, p), (0, to), (2, 0)], C) z := by
  obtain ⟨g1, g2, g3, g4, g5⟩ := hG
  have mt := eM_1 hB.1 (r := 1) (by omega) kn1 (j := to) (by omega) (by omega)
  have hs : ∀ r j, inS to r j → C r j = B r j := fun r j h => hCF r j (by unfold inS at *; omega)
  have hls := LSm_same mt.2 hs
  have mC := eM_1 hC (r := 1) (by omega) kn1 (j := to) (by omega) (by omega)
  have hni := Int.mul_le_mul_of_nonneg_right n1 (show (0 : Int) ≤ 1810 by omega)
  refine wq_ok srt_Mproduct (fr := []) (cuts := [79]) (J := fun pc st => (pc = 79 ∧ ∃ D, toF C D to 47 ∧ (D 0 4 = 1 ∨ (D 0 4 = 0 ∧ srtd D to ∧ cfs D to ∧ 1 ≤ D 1 to ∧ xb D to (i * 18098190 + n * 1810) ∧ ∀ x, VS D to x = VS C to x * VS C p x ^ n)) ∧ st = ([(2, 0), (0, to), (0, k), (0, sg), (0, i), (0, n)], [], D))) ?_ 7 72 _ ?_
  · rintro pc st (⟨rfl, D, hDF, hD, rfl⟩)
    refine pr_79 i0 (by omega) (H D ⟨hDF.1, fun r j a1 a2 a3 a4 a5 => ?_⟩ ?_)
    · rw [hDF.2 r j a1 a3 a4 a5, hCF r j a2]; exact hB.2 r j a1 a2 a3 a4 a5
    · rcases hD with h | ⟨d1, d2, d3, d4, d5, d6⟩
      · exact Or.inl h
      · refine Or.inr ⟨d1, d2, d3, d4, xb_mono d5 (by omega), fun x => ?_⟩
        rw [d6 x, VS_of hls, g5 x, hv x, show (i + 1).toNat = i.toNat + 1 by omega]
        show _ = pvl A k sg x i.toNat * yv A x i.toNat ^ (cx_pos (sg * A 5 (6 * ((i.toNat : Nat) : Int) + k)) : Int)
        rw [Int.toNat_of_nonneg i0, ← hn]
        have : ((cx_pos n : Nat) : Int) = n := by unfold cx_pos; omega
        rw [this]
  · refine ⟨rM_0 (by omega) km0, ?_⟩
    refine (timesOften_ex (s := to) (bb := p) (n := n) (bs := 47) (E1 := i * 18098190) (E2 := 1810) ⟨hC, by omega, by omega, by omega, ⟨by omega, by omega, by omega⟩, ls_srtd hls mC.1 mt.1 g1, ls_cfs hls mC.1 mt.1 g2, hcp, ls_xb hls mC.1 mt.1 g4, hxp, ⟨by omega, by omega, by omega, by omega⟩, ⟨by rw [hs 1 to (Or.inl ⟨rfl, rfl⟩)]; exact g3, hmp⟩, by rw [hCF 0 4 (by unfold inS; omega)]; exact h4⟩ (by omega)).imp ?_
    rintro ⟨r1, D⟩ ⟨q1, q2, q3⟩
    simp only at q1 q2 q3
    subst q1
    exact ⟨rfl, D, q2, q3, rfl⟩
theorem pr_8 {A : pm_A} {to k sg : Int} (hA : ltH A) (hto : to = 42 ∨ to = 43) (k0 : 0 ≤ k) (k1 : k < A 0 7) (hsg : sg = 1 ∨ sg = -1) : ∀ (m : Nat) (i : Int) (v5 : pm_V) (B : pm_A), (A 0 7 + A 0 8 - i).toNat < m → 0 ≤ i → i ≤ A 0 7 + A 0 8 → prF A B to → (B 0 4 = 1 ∨ (B 0 4 = 0 ∧ prG A B to k sg i)) → Tm pmt (an_sh wM) o_X10_product 8 ([(2, 0), (0, to), (0, k), (0, sg), (0, i), v5], [], B) (mpr_post A to k sg) := by
  have p7 := fM_0_7 hA.1 (r := 0) (by omega) km0
  have p8 := fM_0_8 hA.1 (r := 0) (by omega) km0
  intro m
  induction m with
  | zero => intro i v5 B h; omega
  | succ m ih =>
    intro i v5 B hm i0 i1 hF hI
    have c9 := pM_9 hF.1
    have e7 : B 0 7 = A 0 7 := hF.2 0 7 (by unfold inS; omega) (by unfold inS; omega) (by unfold inS; omega) (by omega) (by omega)
    have e8 : B 0 8 = A 0 8 := hF.2 0 8 (by unfold inS; omega) (by unfold inS; omega) (by unfold inS; omega) (by omega) (by omega)
    have e5 : ∀ j : Int, B 5 j = A 5 j := fun j => hF.2 5 j (by unfold inS; omega) (by unfold inS; omega) (by unfold inS; omega) (by omega) (by omega)
    have harr : i < A 0 7 + A 0 8 → -9999 ≤ B 5 (6 * i + k) ∧ B 5 (6 * i + k) ≤ 9999 := fun h => by rw [e5]; exact hA.2.2 i k i0 h k0 k1
    have hmul : ∀ X : Int, -9999 ≤ X → X ≤ 9999 → -9999 ≤ sg * X ∧ sg * X ≤ 9999 := fun X h1 h2 => by rcases hsg with rfl | rfl <;> omega
    have s4 := fM_0_4 hF.1 (r := 0) (by omega) km0
    have hend : (B 0 4 ≠ 0 ∨ A 0 7 + A 0 8 ≤ i) → mpr_post A to k sg (none, B) := fun hc => ⟨rfl, hF, by
      rcases hI with h | h
      · exact Or.inl h
      · have e : i = A 0 7 + A 0 8 := by rcases hc with h5 | h5; exact absurd h.1 h5; omega
        rw [e] at h
        exact Or.inr h⟩
    have hget : B 0 4 = 0 → prG A B to k sg i := fun h => by rcases hI with h2 | h2; omega; exact h2.2
    refine wq_ok srt_Mproduct (fr := []) (cuts := [72, 79]) (J := fun pc st => (pc = 79 ∧ (i < ((B 0 7) + (B 0 8))) ∧ ((B 0 4) = 0) ∧ ((sg * (B (B 0 9) ((6 * i) + k))) ≤ 0) ∧ st = ([(2, 0), (0, to), (0, k), (0, sg), (0, i), (0, sg * (B (B 0 9) ((6 * i) + k)))], [], B)) ∨ (pc = 72 ∧ (i < B 0 7 + B 0 8) ∧ (B 0 4 = 0) ∧ (0 < sg * B (B 0 9) (6 * i + k)) ∧ (B 0 7 ≤ i) ∧ ∃ C, gH wM C ∧ (∀ q j, ¬ inS 46 q j → C q j = B q j) ∧ LSm C 46 = [(1, fun v => if (v.1 : Int) = i then 1 else 0)] ∧ st = ([(2, 0), (0, to), (0, k), (0, sg), (0, i), (0, sg * B (B 0 9) (6 * i + k))], [(0, 46), (0, to), (2, 0)], C)) ∨ (pc = 72 ∧ (i < ((B 0 7) + (B 0 8))) ∧ ((B 0 4) = 0) ∧ (0 < (sg * (B (B 0 9) ((6 * i) + k)))) ∧ (i < (B 0 7)) ∧ st = ([(2, 0), (0, to), (0, k), (0, sg), (0, i), (0, sg * (B (B 0 9) ((6 * i) + k)))], [(0, i), (0, to), (2, 0)], B))) ?_ 36 8 _ ?_
    · rintro pc st (⟨rfl, h0, h1, h2, rfl⟩ | ⟨rfl, h0, h1, h2, h3, C, q2, q3, q4, rfl⟩ | ⟨rfl, h0, h1, h2, h3, rfl⟩)
      · rw [e7, e8] at h0
        rw [c9, e5] at h2 ⊢
        have ha := hA.2.2 i k i0 h0 k0 k1
        have hm2 := hmul _ ha.1 ha.2
        refine pr_79 i0 (by omega) (ih (i + 1) _ B (by omega) (by omega) (by omega) hF (Or.inr ⟨h1, ?_⟩))
        obtain ⟨g1, g2, g3, g4, g5⟩ := hget h1
        refine ⟨g1, g2, g3, xb_mono g4 (by omega), fun x => ?_⟩
        rw [g5 x, show (i + 1).toNat = i.toNat + 1 by omega]
        show _ = pvl A k sg x i.toNat * yv A x i.toNat ^ (cx_pos (sg * A 5 (6 * ((i.toNat : Nat) : Int) + k)) : Int)
        rw [Int.toNat_of_nonneg i0]
        have : ((cx_pos (sg * A 5 (6 * i + k)) : Nat) : Int) = 0 := by unfold cx_pos; omega
        rw [this, Rat.zpow_zero, Rat.mul_one]
      · rw [e7] at h3
        rw [e7, e8] at h0
        rw [c9, e5] at h2 ⊢
        have ha := hA.2.2 i k i0 h0 k0 k1
        have hm2 := hmul _ ha.1 ha.2
        have mC := eM_1 q2 (r := 1) (by omega) kn1 (j := 46) (by omega) (by omega)
        have hm1 : C 1 46 = 1 := by
          have := congrArg List.length q4
          rw [LSm_len] at this
          simp at this
          omega
        have hall : ∀ q : Int, 0 ≤ q → q < C 1 46 → C 2 (200 * 46 + q) = 1 ∧ xe C 46 q = fun v => if (v.1 : Int) = i then 1 else 0 := fun q q0 q1 => by
          have hi := in_LSm (A := C) (p := 46) q0 q1
          rw [q4] at hi
          simp only [List.mem_cons, List.not_mem_nil, or_false] at hi
          exact ⟨congrArg Prod.fst hi, congrArg Prod.snd hi⟩
        refine pr_72 hto ⟨by omega, by omega, by omega⟩ i0 h0 (by omega) rfl h2 hm2.2 hF h1 (hget h1) q2 q3 (fun q q0 q1 => by rw [(hall q q0 q1).1]; omega) (by omega) (fun q v q0 q1 v0 v1 => ?_) (fun x => ?_) (fun D hD hD2 => ih (i + 1) _ D (by omega) (by omega) (by omega) hD hD2)
        · have := congrFun (hall q q0 q1).2 ⟨v.toNat, by omega⟩
          have e2 : C 3 (12 * (200 * 46 + q) + ((v.toNat : Nat) : Int)) = if ((v.toNat : Nat) : Int) = i then 1 else 0 := this
          rw [Int.toNat_of_nonneg v0] at e2
          rw [e2]
          by_cases hv : v = i
          · rw [if_pos hv]; omega
          · rw [if_neg hv]; omega
        · unfold yv VS
          rw [Int.toNat_of_nonneg i0, if_neg (by omega), dif_pos (show i.toNat < 12 by omega), q4, cr_vl_sing]
          have e3 : (fun v : Fin 12 => if (v.1 : Int) = i then (1 : Int) else 0) = cr_up (fun _ => 0) ⟨i.toNat, by omega⟩ 1 := funext fun v => by
            unfold cr_up
            by_cases hv : (v.1 : Int) = i
            · rw [if_pos hv, if_pos (Fin.ext (by show v.1 = i.toNat; omega))]
            · rw [if_neg hv, if_neg (fun e => hv (by rw [e]; show ((i.toNat : Nat) : Int) = i; omega))]
          rw [e3, cr_mo_e, Rat.zpow_one]
      · rw [e7] at h3
        rw [e7, e8] at h0
        rw [c9, e5] at h2 ⊢
        have ha := hA.2.2 i k i0 h0 k0 k1
        have hm2 := hmul _ ha.1 ha.2
        obtain ⟨d1, d2, d3, d4⟩ := hA.2.1 i i0 h3
        have mi := eM_1 hA.1 (r := 1) (by omega) kn1 (j := i) i0 (by omega)
        have hbS : ∀ r j, inS i r j → B r j = A r j := fun r j h => hF.2 r j (by unfold inS at *; omega) (by unfold inS at *; omega) (by unfold inS at *; omega) (by unfold inS at h; omega) (by unfold inS at h; omega)
        refine pr_72 hto ⟨i0, by omega, by omega⟩ i0 h0 (by omega) rfl h2 hm2.2 hF h1 (hget h1) hF.1 (fun _ _ _ => rfl) (cfs_same mi.2 hbS d2) (by rw [hbS 1 i (Or.inl ⟨rfl, rfl⟩)]; exact d3) (xb_same mi.2 hbS d4) (fun x => ?_) (fun D hD hD2 => ih (i + 1) _ D (by omega) (by omega) (by omega) hD hD2)
        unfold yv
        rw [Int.toNat_of_nonneg i0, if_pos h3, VS_of (LSm_same mi.2 hbS)]
    · refine ⟨oM_0 (by omega) km0 7 rfl, ?_⟩
      refine ⟨oM_0 (by omega) km0 8 rfl, ?_⟩
      refine ⟨⟨by omega, by omega⟩, ?_⟩
      refine ⟨fun h0 => ?_, fun h0 => ?_⟩
      · exact hend (Or.inr (by rw [e7, e8] at h0; exact h0))
      · refine ⟨oM_0 (by omega) km0 4 rfl, ?_⟩
        refine ⟨fun h1 => ?_, fun h1 => ?_⟩
        · exact hend (Or.inl h1)
        · refine ⟨oM_0 (by omega) km0 9 rfl, ?_⟩
          refine ⟨⟨by omega, by omega⟩, ?_⟩
          refine ⟨⟨by omega, by omega⟩, ?_⟩
          refine ⟨aM_5 (r := B 0 9) (by rw [c9]; omega) (by rw [c9]; exact kn5) (by omega) (by omega), ?_⟩
          have e1 : B (B 0 9) ((6 * i) + k) = B 5 ((6 * i) + k) := by rw [c9]
          refine ⟨(by have hx := harr (by omega); have := hmul _ hx.1 hx.2; rw [e1]; exact ⟨by omega, by omega⟩), ?_⟩
          refine ⟨fun h2 => ?_, fun h2 => ?_⟩
          · exact Or.inl (⟨rfl, h0, h1, h2, rfl⟩)
          · refine ⟨oM_0 (by omega) km0 7 rfl, ?_⟩
            refine ⟨fun h3 => ?_, fun h3 => ?_⟩
            · refine ⟨rM_0 (by omega) km0, ?_⟩
              refine (heldSlot_ex (i := i) hF.1 i0 (by omega)).imp ?_
              rintro ⟨r1, C⟩ ⟨q1, q2, q3, q4⟩
              simp only at q1 q2 q3 q4
              subst q1
              exact Or.inr (Or.inl (⟨rfl, h0, h1, h2, h3, C, q2, q3, q4, rfl⟩))
            · exact Or.inr (Or.inr (⟨rfl, h0, h1, h2, h3, rfl⟩))
theorem product_ex {A : pm_A} {to k sg : Int} (hA : ltH A) (h4 : A 0 4 = 0) (hto : to = 42 ∨ to = 43) (k0 : 0 ≤ k) (k1 : k < A 0 7) (hsg : sg = 1 ∨ sg = -1) : Cl pmt (an_sh wM) 175 [(2, 0), (0, to), (0, k), (0, sg)] A (mpr_post A to k sg) := by
  have p7 := fM_0_7 hA.1 (r := 0) (by omega) km0
  have p8 := fM_0_8 hA.1 (r := 0) (by omega) km0
  refine Cl.of (Nat.le_of_ble_eq_true rfl) ?_
  refine wq_ok (full := o_X10_product) srt_Mproduct (fr := []) (cuts := [5]) (J := fun pc st => (pc = 5 ∧ ∃ C, gH wM C ∧ (∀ q j, ¬ inS to q j → C q j = A q j) ∧ LSm C to = [(1, fun _ => 0)] ∧ st = ([(2, 0), (0, to), (0, k), (0, sg), (9, 0), (9, 0)], [], C))) ?_ 7 0 _ ?_
  · rintro pc st (⟨rfl, C, q2, q3, q4, rfl⟩)
    have mC := eM_1 q2 (r := 1) (by omega) kn1 (j := to) (by omega) (by omega)
    have hm1 : C 1 to = 1 := by
      have := congrArg List.length q4
      rw [LSm_len] at this
      simp at this
      omega
    have hall : ∀ q : Int, 0 ≤ q → q < C 1 to → C 2 (200 * to + q) = 1 ∧ xe C to q = fun _ => 0 := fun q q0 q1 => by
      have hi := in_LSm (A := C) (p := to) q0 q1
      rw [q4] at hi
      simp only [List.mem_cons, List.not_mem_nil, or_false] at hi
      exact ⟨congrArg Prod.fst hi, congrArg Prod.snd hi⟩
    refine wq_ok srt_Mproduct (fr := []) (cuts := [8]) (J := fun pc st => (pc = 8 ∧ st = ([(2, 0), (0, to), (0, k), (0, sg), (0, 0), (9, 0)], [], C))) ?_ 7 5 _ ?_
    · rintro pc st (⟨rfl, rfl⟩)
      refine pr_8 hA hto k0 k1 hsg _ 0 _ C (Nat.lt_succ_self _) (by omega) (by omega) ⟨q2, fun r j a1 _ _ _ _ => q3 r j a1⟩ (Or.inr ⟨by rw [q3 0 4 (by unfold inS; omega)]; exact h4, fun q q2 b0 b1 b2 => by omega, fun q q0 q1 => by rw [(hall q q0 q1).1]; omega, by omega, fun q v q0 q1 v0 v1 => ?_, fun x => ?_⟩)
      · have := congrFun (hall q q0 q1).2 ⟨v.toNat, by omega⟩
        have e2 : C 3 (12 * (200 * to + q) + ((v.toNat : Nat) : Int)) = 0 := this
        rw [Int.toNat_of_nonneg v0] at e2
        rw [e2]; omega
      · unfold VS
        rw [q4, cr_vl_one]; rfl
    · exact ⟨rfl, rfl⟩
  · refine ⟨rM_0 (by omega) km0, ?_⟩
    refine (one_ex (p := to) hA.1 (by omega) (by omega)).imp ?_
    rintro ⟨r1, C⟩ ⟨q1, q2, q3, q4⟩
    simp only at q1 q2 q3 q4
    subst q1
    exact ⟨rfl, C, q2, q3, q4, rfl⟩
