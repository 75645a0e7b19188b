/-! the class's fences: bits of a long, as whole numbers -/
def bI (a b : Int) : Int := a * (19 - a) / 2 + b - a - 1
theorem bI_b {a b : Int} (a0 : 0 ≤ a) (ab : a < b) (b9 : b ≤ 9) : 0 ≤ bI a b ∧ bI a b ≤ 44 := by
  unfold bI
  rcases (show a = 0 ∨ a = 1 ∨ a = 2 ∨ a = 3 ∨ a = 4 ∨ a = 5 ∨ a = 6 ∨ a = 7 ∨ a = 8 by omega) with rfl | rfl | rfl | rfl | rfl | rfl | rfl | rfl | rfl <;> omega
theorem bI_inj {a b c d : Int} (a0 : 0 ≤ a) (ab : a < b) (b9 : b ≤ 9) (c0 : 0 ≤ c) (cd : c < d) (d9 : d ≤ 9) (h : bI a b = bI c d) : a = c ∧ b = d := by
  unfold bI at h
  rcases (show a = 0 ∨ a = 1 ∨ a = 2 ∨ a = 3 ∨ a = 4 ∨ a = 5 ∨ a = 6 ∨ a = 7 ∨ a = 8 by omega) with rfl | rfl | rfl | rfl | rfl | rfl | rfl | rfl | rfl <;> rcases (show c = 0 ∨ c = 1 ∨ c = 2 ∨ c = 3 ∨ c = 4 ∨ c = 5 ∨ c = 6 ∨ c = 7 ∨ c = 8 by omega) with rfl | rfl | rfl | rfl | rfl | rfl | rfl | rfl | rfl <;> omega
theorem bv_n {V : Nat} : (Int64.ofInt (V : Int)).toBitVec = BitVec.ofNat 64 V := by
  show BitVec.ofInt 64 (V : Int) = _
  rw [BitVec.ofInt_natCast]
theorem bv_i {x : BitVec 64} (h : x.toNat < 9223372036854775808) : x.toInt = (x.toNat : Int) := BitVec.toInt_eq_toNat_of_lt (by omega)
theorem nt_n {V : Nat} (h : V < 9223372036854775808) : (BitVec.ofNat 64 V).toNat = V := by
  rw [BitVec.toNat_ofNat]; omega
theorem nl_and {V U : Nat} (hV : V < 9223372036854775808) (hU : U < 9223372036854775808) : pp_lb 3 (V : Int) (U : Int) = ((V &&& U : Nat) : Int) := by
  show ((Int64.ofInt (V : Int)).toBitVec &&& (Int64.ofInt (U : Int)).toBitVec).toInt = _
  rw [bv_n, bv_n]
  have e : (BitVec.ofNat 64 V &&& BitVec.ofNat 64 U).toNat = V &&& U := by rw [BitVec.toNat_and, nt_n hV, nt_n hU]
  rw [bv_i (by rw [e]; exact Nat.lt_of_le_of_lt Nat.and_le_left hV), e]
theorem nl_or {V U : Nat} (hV : V < 9223372036854775808) (hU : U < 9223372036854775808) : pp_lb 4 (V : Int) (U : Int) = ((V ||| U : Nat) : Int) := by
  show ((Int64.ofInt (V : Int)).toBitVec ||| (Int64.ofInt (U : Int)).toBitVec).toInt = _
  rw [bv_n, bv_n]
  have e : (BitVec.ofNat 64 V ||| BitVec.ofNat 64 U).toNat = V ||| U := by rw [BitVec.toNat_or, nt_n hV, nt_n hU]
  rw [bv_i (by rw [e]; exact Nat.or_lt_two_pow (n := 63) hV hU), e]
theorem nl_xor {V U : Nat} (hV : V < 9223372036854775808) (hU : U < 9223372036854775808) : pp_lb 5 (V : Int) (U : Int) = ((V ^^^ U : Nat) : Int) := by
  show ((Int64.ofInt (V : Int)).toBitVec ^^^ (Int64.ofInt (U : Int)).toBitVec).toInt = _
  rw [bv_n, bv_n]
  have e : (BitVec.ofNat 64 V ^^^ BitVec.ofNat 64 U).toNat = V ^^^ U := by rw [BitVec.toNat_xor, nt_n hV, nt_n hU]
  rw [bv_i (by rw [e]; exact Nat.xor_lt_two_pow (n := 63) hV hU), e]
theorem shl1_n : ∀ k : Fin 45, shl1 (k.1 : Int) = ((2 ^ k.1 : Nat) : Int) := by decide +kernel
theorem shl1_nat {k : Int} (k0 : 0 ≤ k) (k1 : k ≤ 44) : shl1 k = ((2 ^ k.toNat : Nat) : Int) := by
  have := shl1_n ⟨k.toNat, by omega⟩
  simp only at this
  rwa [Int.toNat_of_nonneg k0] at this
def shV (a : Nat) (v b : Int) : Int := (o_ls a (Int64.ofInt v) (Int32.ofInt b)).toInt
theorem ush_amt : ∀ b : Fin 33, (((Int32.ofInt (b.1 : Int)).toInt64.toUInt64 &&& Int64.toUInt64 63) % 64).toNat = b.1 := by decide +kernel
theorem nl_ush {V : Nat} {b : Int} (hV : V < 9223372036854775808) (b0 : 0 ≤ b) (b1 : b ≤ 32) : shV 2 (V : Int) b = ((V / 2 ^ b.toNat : Nat) : Int) := by
  have ha := ush_amt ⟨b.toNat, by omega⟩
  simp only at ha
  rw [Int.toNat_of_nonneg b0] at ha
  show (((Int64.ofInt (V : Int)).toUInt64 >>> ((Int32.ofInt b).toInt64.toUInt64 &&& Int64.toUInt64 63)).toBitVec).toInt = _
  have e : ((Int64.ofInt (V : Int)).toUInt64 >>> ((Int32.ofInt b).toInt64.toUInt64 &&& Int64.toUInt64 63)).toNat = V / 2 ^ b.toNat := by
    rw [UInt64.toNat_shiftRight, Nat.shiftRight_eq_div_pow]
    have e1 : (Int64.ofInt (V : Int)).toUInt64.toNat = V := by
      show (Int64.ofInt (V : Int)).toBitVec.toNat = V
      rw [bv_n, nt_n hV]
    rw [e1]
    congr 2
  rw [bv_i (by
    show ((Int64.ofInt (V : Int)).toUInt64 >>> ((Int32.ofInt b).toInt64.toUInt64 &&& Int64.toUInt64 63)).toNat < _
    rw [e]
    exact Nat.lt_of_le_of_lt (Nat.div_le_self _ _) hV)]
  exact congrArg _ e
/-- a ring of the class holds n corners and the fences F -/
def rgV (V : Nat) (F : Int → Int) : Prop := V < 35184372088832 ∧ ∀ a b : Int, 0 ≤ a → a < b → b ≤ 9 → (Nat.testBit V (bI a b).toNat = true ↔ F (10 * a + b) = 1)
def rgX (A : pm_A) (r n : Int) (F : Int → Int) : Prop := A r 0 = n ∧ ∃ V : Nat, A r 1 = (V : Int) ∧ rgV V F
def fcd (a b : Int) : Int := 10 * min a b + max a b
theorem and_bit {V k : Nat} : V &&& 2 ^ k = 0 ↔ Nat.testBit V k = false := by
  constructor
  · intro h
    have e : Nat.testBit (V &&& 2 ^ k) k = Nat.testBit V k := by rw [Nat.testBit_and, Nat.testBit_two_pow_self, Bool.and_true]
    rw [← e, h, Nat.zero_testBit]
  · intro h
    apply Nat.eq_of_testBit_eq
    intro j
    rw [Nat.testBit_and, Nat.zero_testBit]
    by_cases e : k = j
    · subst e; rw [h]; rfl
    · rw [Nat.testBit_two_pow_of_ne e, Bool.and_false]
theorem rgV_has {V : Nat} {F : Int → Int} (h : rgV V F) {a b : Int} (a0 : 0 ≤ a) (ab : a < b) (b9 : b ≤ 9) : (¬ pp_lb 3 (V : Int) (shl1 (bI a b)) = 0) ↔ F (10 * a + b) = 1 := by
  have hb := bI_b a0 ab b9
  have hp : 2 ^ (bI a b).toNat < 9223372036854775808 := Nat.lt_of_le_of_lt (Nat.pow_le_pow_right (by omega) (show (bI a b).toNat ≤ 44 by omega)) (by decide)
  rw [shl1_nat hb.1 hb.2, nl_and (Nat.lt_trans h.1 (by decide)) hp, ← h.2 a b a0 ab b9]
  have := and_bit (V := V) (k := (bI a b).toNat)
  cases hv : Nat.testBit V (bI a b).toNat with
  | false =>
    rw [hv] at this
    rw [this.mpr rfl]
    simp
  | true =>
    refine ⟨fun _ => rfl, fun _ he => ?_⟩
    have := this.mp (by omega)
    rw [hv] at this
    cases this
theorem rgV_uniq {V U : Nat} {F : Int → Int} (hV : rgV V F) (hU : rgV U F) : V = U := by
  apply Nat.eq_of_testBit_eq
  intro j
  by_cases hj : j < 45
  · have k : ∀ j : Fin 45, ∃ a : Fin 10, ∃ b : Fin 10, a.1 < b.1 ∧ bI (a.1 : Int) (b.1 : Int) = (j.1 : Int) := by decide +kernel
    obtain ⟨a, b, ab, e⟩ := k ⟨j, hj⟩
    simp only at e
    have h1 := hV.2 a.1 b.1 (by omega) (by omega) (by have := b.2; omega)
    have h2 := hU.2 a.1 b.1 (by omega) (by omega) (by have := b.2; omega)
    rw [e, Int.toNat_natCast] at h1 h2
    rw [Bool.eq_iff_iff, h1, h2]
  · have l : ∀ W : Nat, W < 35184372088832 → Nat.testBit W j = false := fun W hW => Nat.testBit_lt_two_pow (Nat.lt_of_lt_of_le hW (Nat.pow_le_pow_right (n := 2) (by omega) (show 45 ≤ j by omega)))
    rw [l V hV.1, l U hU.1]
/-- the bits in their order -/
def pre8 (f : Nat) : Nat := (f / 10) * (19 - f / 10) / 2 + (f % 10 - f / 10 - 1)
theorem pre_s : ∀ f : Fin 99, pre8 (f.1 + 1) = pre8 f.1 + (if f.1 / 10 < f.1 % 10 then 1 else 0) := by decide +kernel
theorem pre_b : ∀ f : Fin 100, f.1 / 10 < f.1 % 10 → bI ((f.1 / 10 : Nat) : Int) ((f.1 % 10 : Nat) : Int) = (pre8 f.1 : Int) := by decide +kernel
theorem cnt_pop {n : Int} {V : Nat} {F : Int → Int} (h : rgV V F) (hF : rgS n F) : ∀ f : Nat, f ≤ 99 → cntF F f = (popS V (pre8 f) : Int)
  | 0, _ => rfl
  | f + 1, hf => by
    have ih := cnt_pop h hF f (by omega)
    have ps := pre_s ⟨f, by omega⟩
    have pb := pre_b ⟨f, by omega⟩
    simp only at ps pb
    rw [cntF_s, ih, ps]
    unfold iz
    by_cases l : f / 10 < f % 10
    · have pb := pb l
      have hb := h.2 ((f / 10 : Nat) : Int) ((f % 10 : Nat) : Int) (by omega) (by omega) (by omega)
      rw [pb, Int.toNat_natCast, show 10 * ((f / 10 : Nat) : Int) + ((f % 10 : Nat) : Int) = (f : Int) by omega] at hb
      rw [if_pos l, popS]
      rcases hF.2.1 (f : Int) (by omega) (by omega) with z | z
      · rw [if_pos z]
        have : ¬ Nat.testBit V (pre8 f) = true := fun e => by have := hb.mp e; omega
        rw [if_neg this]; omega
      · rw [if_neg (by omega), if_pos (hb.mpr z)]; omega
    · rw [if_neg l, Nat.add_zero]
      have z : F (f : Int) = 0 := (hF.2.1 (f : Int) (by omega) (by omega)).resolve_right (fun e => by
        have := (hF.2.2 (f : Int) (by omega) (by omega) e).1
        omega)
      rw [if_pos z]; omega
theorem cnt_all {n : Int} {V : Nat} {F : Int → Int} (h : rgV V F) (hF : rgS n F) : cntF F 100 = (popS V 64 : Int) := by
  have e := cnt_pop h hF 99 (by omega)
  have z : F 99 = 0 := (hF.2.1 99 (by omega) (by omega)).resolve_right (fun e => by
    have := (hF.2.2 99 (by omega) (by omega) e).1
    omega)
  rw [cntF_s, e]
  unfold iz
  rw [if_pos (show F ((99 : Nat) : Int) = 0 from z)]
  have p48 : popS V 64 = popS V 45 := popS_stop h.1 19
  rw [p48, show pre8 99 = 45 by decide]
  omega
