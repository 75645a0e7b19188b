/-! the class's fence, flip -/
def stF (F : Int → Int) (f : Int) : Int → Int := fun x => if x = f then 1 else F x
theorem fcd_c {a b : Int} (a0 : 0 ≤ a) (a9 : a ≤ 9) (b0 : 0 ≤ b) (b9 : b ≤ 9) : fcd a b / 10 = min a b ∧ fcd a b % 10 = max a b ∧ 0 ≤ fcd a b ∧ fcd a b < 100 := by unfold fcd; omega
theorem p45 {k : Nat} (h : k ≤ 44) : 2 ^ k < 35184372088832 := Nat.lt_of_le_of_lt (Nat.pow_le_pow_right (by omega) h) (by decide)
theorem tb_2 {k j : Nat} : Nat.testBit (2 ^ k) j = decide (k = j) := by
  by_cases e : k = j
  · subst e; rw [Nat.testBit_two_pow_self, decide_eq_true rfl]
  · rw [Nat.testBit_two_pow_of_ne e, decide_eq_false e]
theorem bI_ne {a b c d : Int} (a0 : 0 ≤ a) (ab : a < b) (b9 : b ≤ 9) (c0 : 0 ≤ c) (cd : c < d) (d9 : d ≤ 9) : (bI a b).toNat = (bI c d).toNat ↔ 10 * c + d = 10 * a + b := by
  have h1 := bI_b a0 ab b9
  have h2 := bI_b c0 cd d9
  constructor
  · intro h
    have := bI_inj a0 ab b9 c0 cd d9 (by omega)
    omega
  · intro h
    have e1 : c = a := by omega
    have e2 : d = b := by omega
    rw [e1, e2]
theorem rgV_set {V : Nat} {F : Int → Int} (h : rgV V F) {a b : Int} (a0 : 0 ≤ a) (ab : a < b) (b9 : b ≤ 9) : rgV (V ||| 2 ^ (bI a b).toNat) (stF F (10 * a + b)) := by
  have hb := bI_b a0 ab b9
  refine ⟨Nat.or_lt_two_pow (n := 45) h.1 (p45 (by omega)), fun c d c0 cd d9 => ?_⟩
  rw [Nat.testBit_or, tb_2, Bool.or_eq_true, decide_eq_true_eq, bI_ne a0 ab b9 c0 cd d9, h.2 c d c0 cd d9]
  unfold stF
  by_cases e : 10 * c + d = 10 * a + b
  · rw [if_pos e]; simp [e]
  · rw [if_neg e]; simp [e]
theorem rgV_flip {V : Nat} {F : Int → Int} (h : rgV V F) {a b c d : Int} (a0 : 0 ≤ a) (ab : a < b) (b9 : b ≤ 9) (c0 : 0 ≤ c) (cd : c < d) (d9 : d ≤ 9) (hf : F (10 * a + b) = 1) (hg : F (10 * c + d) = 0) : rgV (V ^^^ (2 ^ (bI a b).toNat ^^^ 2 ^ (bI c d).toNat)) (flF F (10 * a + b) (10 * c + d)) := by
  have hb := bI_b a0 ab b9
  have hd := bI_b c0 cd d9
  have hne : 10 * c + d ≠ 10 * a + b := fun e => by rw [e] at hg; omega
  refine ⟨Nat.xor_lt_two_pow (n := 45) h.1 (Nat.xor_lt_two_pow (n := 45) (p45 (by omega)) (p45 (by omega))), fun x y x0 xy y9 => ?_⟩
  have k := h.2 x y x0 xy y9
  have k1 := bI_ne a0 ab b9 x0 xy y9
  have k2 := bI_ne c0 cd d9 x0 xy y9
  rw [Nat.testBit_xor, Nat.testBit_xor, tb_2, tb_2]
  unfold flF
  by_cases e2 : 10 * x + y = 10 * c + d
  · rw [if_pos e2, decide_eq_true (k2.mpr e2)]
    have e1 : ¬ 10 * x + y = 10 * a + b := fun e => hne (e2.symm.trans e)
    rw [decide_eq_false (fun q => e1 (k1.mp q))]
    have : Nat.testBit V (bI x y).toNat = false := by
      cases hv : Nat.testBit V (bI x y).toNat with
      | false => rfl
      | true => have := k.mp hv; rw [e2] at this; omega
    rw [this]; simp
  · rw [if_neg e2, decide_eq_false (fun q => e2 (k2.mp q))]
    by_cases e1 : 10 * x + y = 10 * a + b
    · rw [if_pos e1, decide_eq_true (k1.mpr e1)]
      have : Nat.testBit V (bI x y).toNat = true := k.mpr (by rw [e1]; exact hf)
      rw [this]; simp
    · rw [if_neg e1, decide_eq_false (fun q => e1 (k1.mp q))]
      simp only [Bool.xor_false]
      exact k
def xfP (A : pm_A) (r n : Int) (F : Int → Int) (a b : Int) (q : pm_R) : Prop := (q = (some (0, -1), A) ∧ ¬ okF n F a b) ∨ (okF n F a b ∧ (∃ V : Nat, q.2 = pm_upd A r 1 (V : Int) ∧ rgV V (stF F (fcd a b))) ∧ q.1 = some (0, cntF (stF F (fcd a b)) 100))
theorem srt_Xfence : pm_srt o_X9_fence = true := by decide +kernel
theorem okF_put {n : Int} {F : Int → Int} {a b : Int} (hS : rgS n F) (ho : okF n F a b) : rgS n (stF F (fcd a b)) := by
  have hn := hS.1
  obtain ⟨⟨h1, h2, h3, h4⟩, h5, h6⟩ := ho
  unfold inC at h1 h2
  have k := fcd_c h1.1 (by omega) h2.1 (by omega)
  refine rgS_put hS k.2.2.1 k.2.2.2 ?_ ?_ (by unfold stF; rw [if_pos rfl]) (fun f f0 f1 hf => by unfold stF; rw [if_neg hf])
  · rw [k.1, k.2.1]
    refine ⟨by omega, by omega, fun e => h4 ?_⟩
    unfold neigh at *; omega
  · rw [k.1, k.2.1]; exact h6
theorem xf_82 {A : pm_A} {r n s a b : Int} {F : Int → Int} (hA : gH wX A) (r0 : 0 ≤ r) (rk : wX.2 r = 9) (h : rgX A r n F) (hS : rgS n F) (ho : okF n F a b) : Tm pmt (an_sh wX) o_X9_fence 82 ([(2, 0), (0, s), (0, a), (0, b), (2, r)], [], A) (xfP A r n F a b) := by
  have hn := hS.1
  obtain ⟨e0, V, e1, hV⟩ := h
  have ho2 := ho.1
  unfold inC at ho2
  have hb := bI_b (a := min a b) (b := max a b) (by omega) (by omega) (by omega)
  have hv : pp_lb 4 (A r 1) (shl1 (bI (min a b) (max a b))) = ((V ||| 2 ^ (bI (min a b) (max a b)).toNat : Nat) : Int) := by
    rw [e1, shl1_nat hb.1 hb.2]
    exact nl_or (Nat.lt_trans hV.1 (by decide)) (Nat.lt_trans (p45 (by omega)) (by decide))
  have hV2 := rgV_set hV (a := min a b) (b := max a b) (by omega) (by omega) (by omega)
  have h97 : ∀ B, B = pm_upd A r 1 ((V ||| 2 ^ (bI (min a b) (max a b)).toNat : Nat) : Int) → Tm pmt (an_sh wX) o_X9_fence 97 ([(2, 0), (0, s), (0, a), (0, b), (2, r)], [], B) (xfP A r n F a b) := fun B hB => by
    have hX : rgX B r n (stF F (fcd a b)) := ⟨by rw [hB, upd_o (by omega)]; exact e0, _, by rw [hB, upd_at], hV2⟩
    refine wq_ok srt_Xfence (fr := []) (cuts := [102]) (J := fun pc st => (pc = 102 ∧ st = ([(2, 0), (0, s), (0, a), (0, b), (2, r)], [(0, cntF (stF F (fcd a b)) 100)], B))) ?_ 6 97 _ ?_
    · rintro pc st (⟨rfl, rfl⟩)
      refine wq_ok srt_Xfence (fr := []) (cuts := []) (J := fun _ _ => False) ?_ 5 102 _ ?_
      · intro pc st h; exact h.elim
      · exact ⟨rfl, Or.inr ⟨ho, ⟨_, hB, hV2⟩, rfl⟩⟩
    · refine ⟨rX_9 r0 rk, ?_⟩
      refine (xcount_ex r0 rk hX (okF_put hS ho)).imp ?_
      rintro r rfl
      exact ⟨rfl, rfl⟩
  refine wq_ok srt_Xfence (fr := []) (cuts := [93]) (J := fun pc st => (pc = 93 ∧ st = ([(2, 0), (0, s), (0, a), (0, b), (2, r)], [(1, shl1 (bI (min a b) (max a b))), (1, A r 1), (2, r)], A))) ?_ 10 82 _ ?_
  · rintro pc st (⟨rfl, rfl⟩)
    refine wq_ok srt_Xfence (fr := []) (cuts := [97]) (J := fun pc st => (pc = 97 ∧ st = ([(2, 0), (0, s), (0, a), (0, b), (2, r)], [], pm_upd A r 1 (pp_lb 4 (A r 1) (shl1 (bI (min a b) (max a b))))))) ?_ 7 93 _ ?_
    · rintro pc st (⟨rfl, rfl⟩)
      rw [hv]
      exact h97 _ rfl
    · refine ⟨oX_9 r0 rk 1 rfl, ?_⟩
      exact ⟨rfl, rfl⟩
  · refine ⟨oX_9 r0 rk 1 rfl, ?_⟩
    refine ⟨rfl, ?_⟩
    refine (xbit_ex (a := a) (b := b) (by omega) (by omega) (by omega) (by omega)).imp ?_
    rintro r rfl
    exact ⟨rfl, rfl⟩
theorem xf_17 {A : pm_A} {r n s a b : Int} {F : Int → Int} (hA : gH wX A) (r0 : 0 ≤ r) (rk : wX.2 r = 9) (h : rgX A r n F) (hS : rgS n F) : Tm pmt (an_sh wX) o_X9_fence 17 ([(2, 0), (0, s), (0, a), (0, b), (2, r)], [], A) (xfP A r n F a b) := by
  have hn := hS.1
  refine wq_ok srt_Xfence (fr := []) (cuts := [23]) (J := fun pc st => (pc = 23 ∧ ∃ z1 : Int, ((z1 = 1 ∧ inC n a) ∨ (z1 = 0 ∧ ¬ inC n a)) ∧ st = ([(2, 0), (0, s), (0, a), (0, b), (2, r)], [(0, z1)], A))) ?_ 7 17 _ ?_
  · rintro pc st (⟨rfl, z1, hz1, rfl⟩)
    refine wq_ok srt_Xfence (fr := []) (cuts := [32]) (J := fun pc st => (pc = 32 ∧ (¬ z1 = 0) ∧ ∃ z2 : Int, ((z2 = 1 ∧ inC n b) ∨ (z2 = 0 ∧ ¬ inC n b)) ∧ st = ([(2, 0), (0, s), (0, a), (0, b), (2, r)], [(0, z2)], A))) ?_ 8 23 _ ?_
    · rintro pc st (⟨rfl, h0, z2, hz2, rfl⟩)
      have k1 : inC n a := (by rcases hz1 with ⟨_, e⟩ | ⟨e, _⟩; exact e; omega)
      clear h0
      refine wq_ok srt_Xfence (fr := []) (cuts := [47]) (J := fun pc st => (pc = 47 ∧ (¬ z2 = 0) ∧ (¬ a = b) ∧ ∃ z3 : Int, ((z3 = 1 ∧ neigh n a b) ∨ (z3 = 0 ∧ ¬ neigh n a b)) ∧ st = ([(2, 0), (0, s), (0, a), (0, b), (2, r)], [(0, z3)], A))) ?_ 12 32 _ ?_
      · rintro pc st (⟨rfl, h0, h1, z3, hz3, rfl⟩)
        have k2 : inC n b := (by rcases hz2 with ⟨_, e⟩ | ⟨e, _⟩; exact e; omega)
        have k3 : ¬ a = b := by assumption
        clear h0 h1
        have k1x := k1
        have k2x := k2
        unfold inC at k1x k2x
        refine wq_ok srt_Xfence (fr := []) (cuts := [59]) (J := fun pc st => (pc = 59 ∧ (z3 = 0) ∧ ∃ z4 : Int, ((z4 = 1 ∧ hsP F a b) ∨ (z4 = 0 ∧ ¬ hsP F a b)) ∧ st = ([(2, 0), (0, s), (0, a), (0, b), (2, r)], [(0, z4)], A))) ?_ 9 47 _ ?_
        · rintro pc st (⟨rfl, h0, z4, hz4, rfl⟩)
          have k4 : ¬ neigh n a b := (by rcases hz3 with ⟨e, _⟩ | ⟨_, e⟩; omega; exact e)
          clear h0
          refine wq_ok srt_Xfence (fr := []) (cuts := [77]) (J := fun pc st => (pc = 77 ∧ (z4 = 0) ∧ ∃ z5 : Int, ((z5 = 1 ∧ crs n F (min a b) (max a b)) ∨ (z5 = 0 ∧ ¬ crs n F (min a b) (max a b))) ∧ st = ([(2, 0), (0, s), (0, a), (0, b), (2, r)], [(0, z5)], A))) ?_ 13 59 _ ?_
          · rintro pc st (⟨rfl, h0, z5, hz5, rfl⟩)
            have k5 : F (fcd a b) = 0 := by
              have kk := fcd_c (a := a) (b := b) (by omega) (by omega) (by omega) (by omega)
              refine (hS.2.1 _ kk.2.2.1 kk.2.2.2).resolve_right (fun e => absurd (show hsP F a b from ⟨k3, e⟩) (by rcases hz4 with ⟨e, _⟩ | ⟨_, e⟩; omega; exact e))
            clear h0
            refine wq_ok srt_Xfence (fr := []) (cuts := [82]) (J := fun pc st => (pc = 82 ∧ (z5 = 0) ∧ st = ([(2, 0), (0, s), (0, a), (0, b), (2, r)], [], A))) ?_ 7 77 _ ?_
            · rintro pc st (⟨rfl, h0, rfl⟩)
              refine xf_82 hA r0 rk h hS ⟨⟨k1, k2, k3, k4⟩, k5, fun f f0 f1 hf hc => ?_⟩
              exact absurd ((crs_iff hS (by omega) (by omega)).mpr ⟨f, f0, f1, hf, hc⟩) (by rcases hz5 with ⟨e, _⟩ | ⟨_, e⟩; omega; exact e)
            · refine ⟨fun h0 => ?_, fun h0 => ?_⟩
              · exact ⟨rfl, h0, rfl⟩
              · exact ⟨rfl, Or.inl ⟨rfl, fun q => by obtain ⟨f, f0, f1, hf, hc⟩ := (crs_iff hS (lo := min a b) (hi := max a b) (by omega) (by omega)).mp (by rcases hz5 with ⟨_, e⟩ | ⟨e, _⟩; exact e; omega); exact q.2.2 f f0 f1 hf hc⟩⟩
          · refine ⟨fun h0 => ?_, fun h0 => ?_⟩
            · exact ⟨rfl, Or.inl ⟨rfl, fun q => by have := (show hsP F a b from (by rcases hz4 with ⟨_, e⟩ | ⟨e, _⟩; exact e; omega)).2; have q5 := q.2.1; omega⟩⟩
            · refine ⟨rX_9 r0 rk, ?_⟩
              refine (xcrossed_ex r0 rk h hS (lo := min a b) (hi := max a b) (by omega) (by omega) (by omega)).imp ?_
              rintro ⟨r1, C⟩ ⟨q1, z5, q2, hz5⟩
              simp only at q1 q2
              subst q1
              subst q2
              exact ⟨rfl, h0, z5, hz5, rfl⟩
        · refine ⟨fun h0 => ?_, fun h0 => ?_⟩
          · refine ⟨rX_9 r0 rk, ?_⟩
            refine (xhas_ex r0 rk h (a := a) (b := b) (by omega) (by omega) (by omega) (by omega)).imp ?_
            rintro ⟨r1, C⟩ ⟨q1, z4, q2, hz4⟩
            simp only at q1 q2
            subst q1
            subst q2
            exact ⟨rfl, h0, z4, hz4, rfl⟩
          · exact ⟨rfl, Or.inl ⟨rfl, fun q => q.1.2.2.2 (by rcases hz3 with ⟨_, e⟩ | ⟨e, _⟩; exact e; omega)⟩⟩
      · refine ⟨fun h0 => ?_, fun h0 => ?_⟩
        · exact ⟨rfl, Or.inl ⟨rfl, fun q => absurd q.1.2.1 (by rcases hz2 with ⟨e, _⟩ | ⟨_, e⟩; omega; exact e)⟩⟩
        · refine ⟨fun h1 => ?_, fun h1 => ?_⟩
          · exact ⟨rfl, Or.inl ⟨rfl, fun q => q.1.2.2.1 (by omega)⟩⟩
          · refine ⟨rX_9 r0 rk, ?_⟩
            refine (xngb_ex r0 rk h hn.1 hn.2 (a := a) (b := b) k1.1 k1.2 (show inC n b from (by rcases hz2 with ⟨_, e⟩ | ⟨e, _⟩; exact e; omega)).1 (show inC n b from (by rcases hz2 with ⟨_, e⟩ | ⟨e, _⟩; exact e; omega)).2).imp ?_
            rintro ⟨r1, C⟩ ⟨q1, z3, q2, hz3⟩
            simp only at q1 q2
            subst q1
            subst q2
            exact ⟨rfl, h0, h1, z3, hz3, rfl⟩
    · refine ⟨fun h0 => ?_, fun h0 => ?_⟩
      · exact ⟨rfl, Or.inl ⟨rfl, fun q => absurd q.1.1 (by rcases hz1 with ⟨e, _⟩ | ⟨_, e⟩; omega; exact e)⟩⟩
      · refine ⟨rX_9 r0 rk, ?_⟩
        refine (xcorner_ex r0 rk h (a := b)).imp ?_
        rintro ⟨r1, C⟩ ⟨q1, z2, q2, hz2⟩
        simp only at q1 q2
        subst q1
        subst q2
        exact ⟨rfl, h0, z2, hz2, rfl⟩
  · refine ⟨rX_9 r0 rk, ?_⟩
    refine (xcorner_ex r0 rk h (a := a)).imp ?_
    rintro ⟨r1, C⟩ ⟨q1, z1, q2, hz1⟩
    simp only at q1 q2
    subst q1
    subst q2
    exact ⟨rfl, z1, hz1, rfl⟩
theorem xfence_ex {A : pm_A} {n s a b : Int} {F : Int → Int} (hA : gH wX A) (h : s = 0 ∨ s = 1 → rgX A (A (A 0 13) s) n F ∧ rgS n F) : Cl pmt (an_sh wX) 89 [(2, 0), (0, s), (0, a), (0, b)] A (fun q => (q = (some (0, -1), A) ∧ ¬ (s = 0 ∨ s = 1)) ∨ ((s = 0 ∨ s = 1) ∧ xfP A (A (A 0 13) s) n F a b q)) := by
  have p0 := fX_0_13 hA (Int.le_refl 0) kk0
  have h9 : s = 0 ∨ s = 1 → Tm pmt (an_sh wX) o_X9_fence 9 ([(2, 0), (0, s), (0, a), (0, b), (9, 0)], [], A) (fun q => (q = (some (0, -1), A) ∧ ¬ (s = 0 ∨ s = 1)) ∨ ((s = 0 ∨ s = 1) ∧ xfP A (A (A 0 13) s) n F a b q)) := fun hs => by
    have e0 := eX_34 hA p0.1 p0.2 (j := s) (by omega) (by omega)
    refine wq_ok srt_Xfence (fr := []) (cuts := [17]) (J := fun pc st => (pc = 17 ∧ st = ([(2, 0), (0, s), (0, a), (0, b), (2, A (A 0 13) s)], [], A))) ?_ 10 9 _ ?_
    · rintro pc st (⟨rfl, rfl⟩)
      exact (xf_17 hA e0.1 e0.2 (h hs).1 (h hs).2).imp (fun q hq => Or.inr ⟨hs, hq⟩)
    · refine ⟨oX_0 (Int.le_refl 0) kk0 13 rfl, ?_⟩
      refine ⟨aX_34 (fX_0_13 hA (Int.le_refl 0) kk0).1 (fX_0_13 hA (Int.le_refl 0) kk0).2 (by omega) (by omega), ?_⟩
      exact ⟨rfl, rfl⟩
  refine Cl.of (Nat.le_of_ble_eq_true rfl) ?_
  refine wq_ok (full := o_X9_fence) srt_Xfence (fr := []) (cuts := [4]) (J := fun pc st => (pc = 4 ∧ ∃ x : Int, ((x = 1 ∧ (s = 0 ∨ s = 1)) ∨ (x = 0 ∧ ¬ (s = 0 ∨ s = 1))) ∧ st = ([(2, 0), (0, s), (0, a), (0, b), (9, 0)], [(0, x)], A))) ?_ 6 0 _ ?_
  · rintro pc st (⟨rfl, x, hx, rfl⟩)
    refine wq_ok srt_Xfence (fr := []) (cuts := [9]) (J := fun pc st => (pc = 9 ∧ (¬ x = 0) ∧ st = ([(2, 0), (0, s), (0, a), (0, b), (9, 0)], [], A))) ?_ 7 4 _ ?_
    · rintro pc st (⟨rfl, h0, rfl⟩)
      exact h9 (by rcases hx with ⟨_, e⟩ | ⟨e, _⟩; exact e; omega)
    · refine ⟨fun h0 => ?_, fun h0 => ?_⟩
      · exact ⟨rfl, h0, rfl⟩
      · exact ⟨rfl, Or.inl ⟨rfl, (by rcases hx with ⟨e, _⟩ | ⟨_, e⟩; omega; exact e)⟩⟩
  · refine ⟨rfl, ?_⟩
    refine (xa_isSlot).imp ?_
    rintro ⟨r1, C⟩ ⟨q1, x, q2, hx⟩
    simp only at q1 q2
    subst q1
    subst q2
    exact ⟨rfl, x, hx, rfl⟩
def xlP (A : pm_A) (r n : Int) (F : Int → Int) (a b : Int) (q : pm_R) : Prop := (q = (some (0, -1), A) ∧ ¬ okL n F a b) ∨ (okL n F a b ∧ ∃ i o, oth n F (fcd a b) i o ∧ (∃ V : Nat, q.2 = pm_upd A r 1 (V : Int) ∧ rgV V (flF F (fcd a b) (cod i o))) ∧ q.1 = some (0, 100 * min i o + max i o))
theorem srt_Xflip : pm_srt o_X9_flip = true := by decide +kernel
theorem xl_82 {A : pm_A} {r n s a b i o : Int} {F : Int → Int} (hA : gH wX A) (r0 : 0 ≤ r) (rk : wX.2 r = 9) (h : rgX A r n F) (hS : rgS n F) (ho : okL n F a b) (hq : oth n F (fcd a b) i o) : Tm pmt (an_sh wX) o_X9_flip 82 ([(2, 0), (0, s), (0, a), (0, b), (2, r), (0, 100 * min i o + max i o)], [], A) (xlP A r n F a b) := by
  have hn := hS.1
  obtain ⟨e0, V, e1, hV⟩ := h
  have ho2 := ho.2
  unfold inC at ho2
  have kk := fcd_c (a := a) (b := b) (by omega) (by omega) (by omega) (by omega)
  have cb := cod_b hS kk.2.2.1 kk.2.2.2 ho.2.2.2.2 hq
  have hq2 := hq
  obtain ⟨q1, ⟨q2, q3, q4⟩, _⟩ := hq2
  have m1 : min i o < max i o := by omega
  have hb := bI_b (a := min a b) (b := max a b) (by omega) (by omega) (by omega)
  have hd := bI_b (a := min i o) (b := max i o) (by omega) m1 (by omega)
  have hv : pp_lb 5 (A r 1) (pp_lb 5 (shl1 (bI (min a b) (max a b))) (shl1 (bI (min i o) (max i o)))) = ((V ^^^ (2 ^ (bI (min a b) (max a b)).toNat ^^^ 2 ^ (bI (min i o) (max i o)).toNat) : Nat) : Int) := by
    rw [e1, shl1_nat hb.1 hb.2, shl1_nat hd.1 hd.2, nl_xor (Nat.lt_trans (p45 (by omega)) (by decide)) (Nat.lt_trans (p45 (by omega)) (by decide))]
    exact nl_xor (Nat.lt_trans hV.1 (by decide)) (Nat.lt_trans (Nat.xor_lt_two_pow (n := 45) (p45 (by omega)) (p45 (by omega))) (by decide))
  have hV2 : rgV (V ^^^ (2 ^ (bI (min a b) (max a b)).toNat ^^^ 2 ^ (bI (min i o) (max i o)).toNat)) (flF F (fcd a b) (cod i o)) := rgV_flip hV (a := min a b) (b := max a b) (c := min i o) (d := max i o) (by omega) (by omega) (by omega) (by omega) m1 (by omega) ho.2.2.2.2 cb.2.2.2.2.2
  have ed : (100 * min i o + max i o) / 100 = min i o := by omega
  have em : (100 * min i o + max i o) % 100 = max i o := by omega
  have mm : min (min i o) (max i o) = min i o := by omega
  have mx : max (min i o) (max i o) = max i o := by omega
  refine wq_ok srt_Xflip (fr := []) (cuts := [93]) (J := fun pc st => (pc = 93 ∧ st = ([(2, 0), (0, s), (0, a), (0, b), (2, r), (0, 100 * min i o + max i o)], [(1, shl1 (bI (min a b) (max a b))), (1, A r 1), (2, r)], A))) ?_ 10 82 _ ?_
  · rintro pc st (⟨rfl, rfl⟩)
    refine wq_ok srt_Xflip (fr := []) (cuts := [106]) (J := fun pc st => (pc = 106 ∧ st = ([(2, 0), (0, s), (0, a), (0, b), (2, r), (0, 100 * min i o + max i o)], [(1, shl1 (bI (min i o) (max i o))), (1, shl1 (bI (min a b) (max a b))), (1, A r 1), (2, r)], A))) ?_ 11 93 _ ?_
    · rintro pc st (⟨rfl, rfl⟩)
      refine wq_ok srt_Xflip (fr := []) (cuts := []) (J := fun _ _ => False) ?_ 9 106 _ ?_
      · intro pc st h; exact h.elim
      · refine ⟨oX_9 r0 rk 1 rfl, ?_⟩
        exact ⟨rfl, Or.inr ⟨ho, i, o, hq, ⟨_, by rw [hv], hV2⟩, rfl⟩⟩
    · refine ⟨⟨by omega, by omega, by omega, by omega⟩, ?_⟩
      refine ⟨⟨by omega, by omega, by omega, by omega⟩, ?_⟩
      refine ⟨rfl, ?_⟩
      rw [ed, em]
      have xb := xbit_ex (A := A) (a := min i o) (b := max i o) (by omega) (by omega) (by omega) (by omega)
      rw [mm, mx] at xb
      refine xb.imp ?_
      rintro r rfl
      exact ⟨rfl, rfl⟩
  · refine ⟨oX_9 r0 rk 1 rfl, ?_⟩
    refine ⟨rfl, ?_⟩
    refine (xbit_ex (a := a) (b := b) (by omega) (by omega) (by omega) (by omega)).imp ?_
    rintro r rfl
    exact ⟨rfl, rfl⟩
theorem xl_29 {A : pm_A} {r n s a b : Int} {F : Int → Int} (hA : gH wX A) (r0 : 0 ≤ r) (rk : wX.2 r = 9) (h : rgX A r n F) (hS : rgS n F) (hcut : cntF F 100 = n - 3) : Tm pmt (an_sh wX) o_X9_flip 29 ([(2, 0), (0, s), (0, a), (0, b), (2, r), (9, 0)], [], A) (xlP A r n F a b) := by
  have hn := hS.1
  refine wq_ok srt_Xflip (fr := []) (cuts := [35]) (J := fun pc st => (pc = 35 ∧ ∃ z1 : Int, ((z1 = 1 ∧ inC n a) ∨ (z1 = 0 ∧ ¬ inC n a)) ∧ st = ([(2, 0), (0, s), (0, a), (0, b), (2, r), (9, 0)], [(0, z1)], A))) ?_ 7 29 _ ?_
  · rintro pc st (⟨rfl, z1, hz1, rfl⟩)
    refine wq_ok srt_Xflip (fr := []) (cuts := [44]) (J := fun pc st => (pc = 44 ∧ (¬ z1 = 0) ∧ ∃ z2 : Int, ((z2 = 1 ∧ inC n b) ∨ (z2 = 0 ∧ ¬ inC n b)) ∧ st = ([(2, 0), (0, s), (0, a), (0, b), (2, r), (9, 0)], [(0, z2)], A))) ?_ 8 35 _ ?_
    · rintro pc st (⟨rfl, h0, z2, hz2, rfl⟩)
      have k1 : inC n a := (by rcases hz1 with ⟨_, e⟩ | ⟨e, _⟩; exact e; omega)
      clear h0
      refine wq_ok srt_Xflip (fr := []) (cuts := [54]) (J := fun pc st => (pc = 54 ∧ (¬ z2 = 0) ∧ ∃ z3 : Int, ((z3 = 1 ∧ hsP F a b) ∨ (z3 = 0 ∧ ¬ hsP F a b)) ∧ st = ([(2, 0), (0, s), (0, a), (0, b), (2, r), (9, 0)], [(0, z3)], A))) ?_ 9 44 _ ?_
      · rintro pc st (⟨rfl, h0, z3, hz3, rfl⟩)
        have k2 : inC n b := (by rcases hz2 with ⟨_, e⟩ | ⟨e, _⟩; exact e; omega)
        clear h0
        have k1x := k1
        have k2x := k2
        unfold inC at k1x k2x
        have kk := fcd_c (a := a) (b := b) (by omega) (by omega) (by omega) (by omega)
        refine wq_ok srt_Xflip (fr := []) (cuts := [74]) (J := fun pc st => (pc = 74 ∧ hsP F a b ∧ ∃ i o, oth n F (fcd a b) i o ∧ st = ([(2, 0), (0, s), (0, a), (0, b), (2, r), (9, 0)], [(0, 100 * min i o + max i o)], A))) ?_ 13 54 _ ?_
        · rintro pc st (⟨rfl, k4, i, o, hq, rfl⟩)
          refine wq_ok srt_Xflip (fr := []) (cuts := [82]) (J := fun pc st => (pc = 82 ∧ (¬ (100 * min i o + max i o) = ((-1))) ∧ st = ([(2, 0), (0, s), (0, a), (0, b), (2, r), (0, 100 * min i o + max i o)], [], A))) ?_ 10 74 _ ?_
          · rintro pc st (⟨rfl, h0, rfl⟩)
            exact xl_82 hA r0 rk h hS ⟨hcut, k1, k2, k4.1, k4.2⟩ hq
          · refine ⟨fun h0 => ?_, fun h0 => ?_⟩
            · exact absurd (show False by obtain ⟨q1, ⟨q2, _⟩, _⟩ := hq; omega) (fun q => q)
            · exact ⟨rfl, h0, rfl⟩
        · refine ⟨fun h0 => ?_, fun h0 => ?_⟩
          · refine ⟨rX_9 r0 rk, ?_⟩
            have k4 : hsP F a b := (by rcases hz3 with ⟨_, e⟩ | ⟨e, _⟩; exact e; omega)
            have xo := xother_ex r0 rk h ⟨hS, hcut⟩ kk.2.2.1 kk.2.2.2 k4.2
            rw [kk.1, kk.2.1] at xo
            refine xo.imp ?_
            rintro ⟨r1, C⟩ ⟨q1, i, o, hq, q2⟩
            simp only at q1 q2
            subst q1
            subst q2
            exact ⟨rfl, k4, i, o, hq, rfl⟩
          · exact ⟨rfl, Or.inl ⟨rfl, fun q => absurd (show hsP F a b from ⟨q.2.2.2.1, q.2.2.2.2⟩) (by rcases hz3 with ⟨e, _⟩ | ⟨_, e⟩; omega; exact e)⟩⟩
      · refine ⟨fun h0 => ?_, fun h0 => ?_⟩
        · exact ⟨rfl, Or.inl ⟨rfl, fun q => absurd q.2.2.1 (by rcases hz2 with ⟨e, _⟩ | ⟨_, e⟩; omega; exact e)⟩⟩
        · refine ⟨rX_9 r0 rk, ?_⟩
          refine (xhas_ex r0 rk h (a := a) (b := b) k1.1 (by have := k1.2; omega) (show inC n b from (by rcases hz2 with ⟨_, e⟩ | ⟨e, _⟩; exact e; omega)).1 (by have := (show inC n b from (by rcases hz2 with ⟨_, e⟩ | ⟨e, _⟩; exact e; omega)).2; omega)).imp ?_
          rintro ⟨r1, C⟩ ⟨q1, z3, q2, hz3⟩
          simp only at q1 q2
          subst q1
          subst q2
          exact ⟨rfl, h0, z3, hz3, rfl⟩
    · refine ⟨fun h0 => ?_, fun h0 => ?_⟩
      · exact ⟨rfl, Or.inl ⟨rfl, fun q => absurd q.2.1 (by rcases hz1 with ⟨e, _⟩ | ⟨_, e⟩; omega; exact e)⟩⟩
      · refine ⟨rX_9 r0 rk, ?_⟩
        refine (xcorner_ex r0 rk h (a := b)).imp ?_
        rintro ⟨r1, C⟩ ⟨q1, z2, q2, hz2⟩
        simp only at q1 q2
        subst q1
        subst q2
        exact ⟨rfl, h0, z2, hz2, rfl⟩
  · refine ⟨rX_9 r0 rk, ?_⟩
    refine (xcorner_ex r0 rk h (a := a)).imp ?_
    rintro ⟨r1, C⟩ ⟨q1, z1, q2, hz1⟩
    simp only at q1 q2
    subst q1
    subst q2
    exact ⟨rfl, z1, hz1, rfl⟩
theorem xflip_ex {A : pm_A} {n s a b : Int} {F : Int → Int} (hA : gH wX A) (h : s = 0 ∨ s = 1 → rgX A (A (A 0 13) s) n F ∧ rgS n F) : Cl pmt (an_sh wX) 91 [(2, 0), (0, s), (0, a), (0, b)] A (fun q => (q = (some (0, -1), A) ∧ ¬ (s = 0 ∨ s = 1)) ∨ ((s = 0 ∨ s = 1) ∧ xlP A (A (A 0 13) s) n F a b q)) := by
  have p0 := fX_0_13 hA (Int.le_refl 0) kk0
  have h7 : s = 0 ∨ s = 1 → Tm pmt (an_sh wX) o_X9_flip 7 ([(2, 0), (0, s), (0, a), (0, b), (9, 0), (9, 0)], [], A) (fun q => (q = (some (0, -1), A) ∧ ¬ (s = 0 ∨ s = 1)) ∨ ((s = 0 ∨ s = 1) ∧ xlP A (A (A 0 13) s) n F a b q)) := fun hs => by
    have e0 := eX_34 hA p0.1 p0.2 (j := s) (by omega) (by omega)
    refine wq_ok srt_Xflip (fr := []) (cuts := [16]) (J := fun pc st => (pc = 16 ∧ ∃ x : Int, ((x = 1 ∧ (cntF F 100 = n - 3)) ∨ (x = 0 ∧ ¬ (cntF F 100 = n - 3))) ∧ st = ([(2, 0), (0, s), (0, a), (0, b), (9, 0), (9, 0)], [(0, x)], A))) ?_ 9 7 _ ?_
    · rintro pc st (⟨rfl, x, hx, rfl⟩)
      refine wq_ok srt_Xflip (fr := []) (cuts := [29]) (J := fun pc st => (pc = 29 ∧ (¬ x = 0) ∧ st = ([(2, 0), (0, s), (0, a), (0, b), (2, A (A 0 13) s), (9, 0)], [], A))) ?_ 11 16 _ ?_
      · rintro pc st (⟨rfl, h0, rfl⟩)
        exact (xl_29 hA e0.1 e0.2 (h hs).1 (h hs).2 (by rcases hx with ⟨_, e⟩ | ⟨e, _⟩; exact e; omega)).imp (fun q hq => Or.inr ⟨hs, hq⟩)
      · refine ⟨fun h0 => ?_, fun h0 => ?_⟩
        · refine ⟨oX_0 (Int.le_refl 0) kk0 13 rfl, ?_⟩
          refine ⟨aX_34 (fX_0_13 hA (Int.le_refl 0) kk0).1 (fX_0_13 hA (Int.le_refl 0) kk0).2 (by omega) (by omega), ?_⟩
          exact ⟨rfl, h0, rfl⟩
        · exact ⟨rfl, Or.inr ⟨hs, Or.inl ⟨rfl, fun q => absurd q.1 (by rcases hx with ⟨e, _⟩ | ⟨_, e⟩; omega; exact e)⟩⟩⟩
    · refine ⟨oX_0 (Int.le_refl 0) kk0 13 rfl, ?_⟩
      refine ⟨aX_34 (fX_0_13 hA (Int.le_refl 0) kk0).1 (fX_0_13 hA (Int.le_refl 0) kk0).2 (by omega) (by omega), ?_⟩
      refine ⟨rX_9 (eX_34 hA (fX_0_13 hA (Int.le_refl 0) kk0).1 (fX_0_13 hA (Int.le_refl 0) kk0).2 (j := s) (by omega) (by omega)).1 (eX_34 hA (fX_0_13 hA (Int.le_refl 0) kk0).1 (fX_0_13 hA (Int.le_refl 0) kk0).2 (j := s) (by omega) (by omega)).2, ?_⟩
      refine (xcut_ex e0.1 e0.2 (h hs).1 (h hs).2).imp ?_
      rintro ⟨r1, C⟩ ⟨q1, x, q2, hx⟩
      simp only at q1 q2
      subst q1
      subst q2
      exact ⟨rfl, x, hx, rfl⟩
  refine Cl.of (Nat.le_of_ble_eq_true rfl) ?_
  refine wq_ok (full := o_X9_flip) srt_Xflip (fr := []) (cuts := [4]) (J := fun pc st => (pc = 4 ∧ ∃ x : Int, ((x = 1 ∧ (s = 0 ∨ s = 1)) ∨ (x = 0 ∧ ¬ (s = 0 ∨ s = 1))) ∧ st = ([(2, 0), (0, s), (0, a), (0, b), (9, 0), (9, 0)], [(0, x)], A))) ?_ 6 0 _ ?_
  · rintro pc st (⟨rfl, x, hx, rfl⟩)
    refine wq_ok srt_Xflip (fr := []) (cuts := [7]) (J := fun pc st => (pc = 7 ∧ (¬ x = 0) ∧ st = ([(2, 0), (0, s), (0, a), (0, b), (9, 0), (9, 0)], [], A))) ?_ 7 4 _ ?_
    · rintro pc st (⟨rfl, h0, rfl⟩)
      exact h7 (by rcases hx with ⟨_, e⟩ | ⟨e, _⟩; exact e; omega)
    · refine ⟨fun h0 => ?_, fun h0 => ?_⟩
      · exact ⟨rfl, Or.inl ⟨rfl, (by rcases hx with ⟨e, _⟩ | ⟨_, e⟩; omega; exact e)⟩⟩
      · exact ⟨rfl, h0, rfl⟩
  · refine ⟨rfl, ?_⟩
    refine (xa_isSlot).imp ?_
    rintro ⟨r1, C⟩ ⟨q1, x, q2, hx⟩
    simp only at q1 q2
    subst q1
    subst q2
    exact ⟨rfl, x, hx, rfl⟩
