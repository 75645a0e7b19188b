/-! bits of a long -/
def lbit (v : Int) (j : Nat) : Bool := (Int64.ofInt v).toBitVec.getLsbD j
def shl1 (b : Int) : Int := (o_ls 0 (Int64.ofInt 1) (Int32.ofInt b)).toInt
def shrV (v b : Int) : Int := (o_ls 1 (Int64.ofInt v) (Int32.ofInt b)).toInt
def tbt (v b : Int) : Int := pp_lb 3 (shrV v b) 1
theorem shl1_d : ∀ b : Fin 35, ∀ j : Fin 64, (Int64.ofInt (shl1 (b.1 : Int))).toBitVec.getLsbD j.1 = decide (j.1 = b.1) := by decide +kernel
theorem shl1_bit {b : Int} (b0 : 0 ≤ b) (b1 : b ≤ 34) {j : Nat} (hj : j < 64) : lbit (shl1 b) j = decide (j = b.toNat) := by
  have := shl1_d ⟨b.toNat, by omega⟩ ⟨j, hj⟩
  simp only at this
  rw [Int.toNat_of_nonneg b0] at this
  exact this
theorem lbit_or (x y : Int) (j : Nat) : lbit (pp_lb 4 x y) j = (lbit x j || lbit y j) := by
  show (Int64.ofInt ((Int64.ofInt x ||| Int64.ofInt y).toInt)).toBitVec.getLsbD j = _
  rw [Int64.ofInt_toInt]
  show ((Int64.ofInt x).toBitVec ||| (Int64.ofInt y).toBitVec).getLsbD j = _
  rw [BitVec.getLsbD_or]
  rfl
theorem shamt : ∀ b : Fin 35, ((((Int32.ofInt (b.1 : Int)).toInt64 &&& 63).toBitVec.smod 64).toNat) = b.1 := by decide +kernel
theorem tbt_eq (v : Int) {b : Int} (b0 : 0 ≤ b) (b1 : b ≤ 34) : tbt v b = if lbit v b.toNat = true then 1 else 0 := by
  have hs := shamt ⟨b.toNat, by omega⟩
  simp only at hs
  rw [Int.toNat_of_nonneg b0] at hs
  show (Int64.ofInt ((Int64.ofInt v >>> ((Int32.ofInt b).toInt64 &&& 63)).toInt) &&& Int64.ofInt 1).toInt = _
  rw [Int64.ofInt_toInt]
  show BitVec.toInt (((Int64.ofInt v).toBitVec.sshiftRight (((Int32.ofInt b).toInt64 &&& 63).toBitVec.smod 64).toNat) &&& 1#64) = _
  rw [BitVec.and_one_eq_setWidth_ofBool_getLsbD, BitVec.getLsbD_sshiftRight, hs, if_pos (by omega)]
  unfold lbit
  rw [show b.toNat + 0 = b.toNat from rfl]
  generalize (Int64.ofInt v).toBitVec.getLsbD b.toNat = c
  cases c <;> decide
def i64 (v : Int) : Prop := (Int64.ofInt v).toInt = v
theorem lbit_ext {v w : Int} (hv : i64 v) (hw : i64 w) (h : ∀ j : Nat, j < 64 → lbit v j = lbit w j) : v = w := by
  have e : Int64.ofInt v = Int64.ofInt w := Int64.toBitVec.inj (BitVec.eq_of_getLsbD_eq (fun i hi => h i hi))
  exact hv.symm.trans ((congrArg Int64.toInt e).trans hw)
def bitsV (bm F : Int → Int) : Nat → Int
  | 0 => 0
  | f + 1 => if F f = 0 then bitsV bm F f else pp_lb 4 (bitsV bm F f) (shl1 (bm f))
theorem bitsV_i64 (bm F : Int → Int) : ∀ m : Nat, i64 (bitsV bm F m)
  | 0 => by show (Int64.ofInt 0).toInt = 0; decide
  | m + 1 => by
    rw [bitsV]
    split
    · exact bitsV_i64 bm F m
    · show (Int64.ofInt ((Int64.ofInt _ ||| Int64.ofInt _).toInt)).toInt = (Int64.ofInt _ ||| Int64.ofInt _).toInt
      rw [Int64.ofInt_toInt]
theorem bitsV_congr {bm F G : Int → Int} : ∀ m : Nat, (∀ f : Int, 0 ≤ f → f < m → F f = G f) → bitsV bm F m = bitsV bm G m
  | 0, _ => rfl
  | m + 1, h => by rw [bitsV, bitsV, bitsV_congr m (fun f f0 f1 => h f f0 (by omega)), h m (by omega) (by omega)]
theorem bitsV_bit {bm F : Int → Int} {j : Nat} (hj : j < 64) : ∀ m : Nat, (∀ f : Int, 0 ≤ f → f < m → ¬ F f = 0 → 0 ≤ bm f ∧ bm f ≤ 34) → (lbit (bitsV bm F m) j = true ↔ ∃ f : Int, 0 ≤ f ∧ f < m ∧ ¬ F f = 0 ∧ bm f = j)
  | 0, _ => by
    refine ⟨fun h => ?_, fun ⟨f, f0, f1, _⟩ => by omega⟩
    have : lbit 0 j = false := by
      show ((0 : BitVec 64)).getLsbD j = false
      simp
    rw [bitsV, this] at h
    cases h
  | m + 1, hb => by
    have ih := bitsV_bit hj m (fun f f0 f1 => hb f f0 (by omega))
    rw [bitsV]
    by_cases z : F m = 0
    · rw [if_pos z, ih]
      refine ⟨fun ⟨f, f0, f1, f2, f3⟩ => ⟨f, f0, by omega, f2, f3⟩, fun ⟨f, f0, f1, f2, f3⟩ => ⟨f, f0, ?_, f2, f3⟩⟩
      by_cases e : f = m
      · rw [e] at f2; exact absurd z f2
      · omega
    · have b := hb m (by omega) (by omega) z
      rw [if_neg z, lbit_or, shl1_bit b.1 b.2 hj, Bool.or_eq_true, decide_eq_true_eq, ih]
      refine ⟨?_, fun ⟨f, f0, f1, f2, f3⟩ => ?_⟩
      · rintro (⟨f, f0, f1, f2, f3⟩ | e)
        · exact ⟨f, f0, by omega, f2, f3⟩
        · exact ⟨m, by omega, by omega, z, by omega⟩
      · by_cases e : f = m
        · subst e; exact Or.inr (by omega)
        · exact Or.inl ⟨f, f0, by omega, f2, f3⟩
def vdF (n f : Int) : Prop := f / 10 < f % 10 ∧ f % 10 < n ∧ ¬ neigh n (f / 10) (f % 10)
def bmS (n : Int) (bm bf : Int → Int) (m : Int) : Prop := m ≤ 35 ∧ (∀ f : Int, 0 ≤ f → f < 100 → (vdF n f ∧ 0 ≤ bm f ∧ bm f < m ∧ bf (bm f) = f) ∨ (¬ vdF n f ∧ bm f = -1)) ∧ ∀ b : Int, 0 ≤ b → b < m → 0 ≤ bf b ∧ bf b < 100 ∧ bm (bf b) = b
theorem msk_b {n m : Int} {bm bf F : Int → Int} (h : rgS n F) (hb : bmS n bm bf m) {f : Int} (f0 : 0 ≤ f) (f1 : f < 100) (hf : ¬ F f = 0) : 0 ≤ bm f ∧ bm f < m ∧ bf (bm f) = f := by
  have v := (h.2.2 f f0 f1 ((h.2.1 f f0 f1).resolve_left hf)).1
  rcases hb.2.1 f f0 f1 with ⟨_, e⟩ | ⟨e, _⟩
  · exact e
  · exact absurd v e
theorem msk_bit {n m : Int} {bm bf F : Int → Int} (h : rgS n F) (hb : bmS n bm bf m) {b : Int} (b0 : 0 ≤ b) (b1 : b < m) : (tbt (bitsV bm F 100) b = 1 ∧ F (bf b) = 1) ∨ (tbt (bitsV bm F 100) b = 0 ∧ F (bf b) = 0) := by
  have hm := hb.1
  obtain ⟨c0, c1, c2⟩ := hb.2.2 b b0 b1
  have k := bitsV_bit (bm := bm) (F := F) (j := b.toNat) (by omega) 100 (fun f f0 f1 hf => by have := msk_b h hb f0 (by omega) hf; omega)
  rw [tbt_eq _ b0 (by omega)]
  rcases h.2.1 (bf b) c0 c1 with z | z
  · refine Or.inr ⟨if_neg (fun e => ?_), z⟩
    obtain ⟨f, f0, f1, f2, f3⟩ := k.1 e
    have := msk_b h hb f0 (by omega) f2
    rw [show bm f = b by omega] at this
    rw [← this.2.2] at f2
    exact f2 z
  · exact Or.inl ⟨if_pos (k.2 ⟨bf b, c0, by omega, by omega, by omega⟩), z⟩
theorem msk_f {n m : Int} {bm bf F : Int → Int} (h : rgS n F) (hb : bmS n bm bf m) {f : Int} (f0 : 0 ≤ f) (f1 : f < 100) : (F f = 1 ∧ ¬ bm f = -1 ∧ tbt (bitsV bm F 100) (bm f) = 1) ∨ (F f = 0 ∧ (bm f = -1 ∨ tbt (bitsV bm F 100) (bm f) = 0)) := by
  rcases hb.2.1 f f0 f1 with ⟨_, e1, e2, e3⟩ | ⟨e1, e2⟩
  · have k := msk_bit h hb e1 e2
    rw [e3] at k
    rcases k with ⟨k1, k2⟩ | ⟨k1, k2⟩
    · exact Or.inl ⟨k2, by omega, k1⟩
    · exact Or.inr ⟨k2, Or.inr k1⟩
  · rcases h.2.1 f f0 f1 with z | z
    · exact Or.inr ⟨z, Or.inl e2⟩
    · exact absurd (h.2.2 f f0 f1 z).1 e1
theorem msk_inj {n m : Int} {bm bf F G : Int → Int} (hF : rgS n F) (hG : rgS n G) (hb : bmS n bm bf m) (e : bitsV bm F 100 = bitsV bm G 100) {f : Int} (f0 : 0 ≤ f) (f1 : f < 100) : F f = G f := by
  have a := msk_f hF hb f0 f1
  have b := msk_f hG hb f0 f1
  rw [e] at a
  omega
def vdc (n f : Int) : Int := if f / 10 < f % 10 ∧ f % 10 < n ∧ ¬ f % 10 = f / 10 + 1 ∧ ¬ (f / 10 = 0 ∧ f % 10 = n - 1) then 1 else 0
theorem vdc_35 : ∀ n : Fin 11, cntF (vdc (n.1 : Int)) 100 ≤ 35 := by decide +kernel
theorem vdc_v {n f : Int} : ¬ vdc n f = 0 ↔ vdF n f := by
  unfold vdc vdF neigh
  split
  · exact ⟨fun _ => by omega, fun _ => by omega⟩
  · exact ⟨fun h => by omega, fun h => by omega⟩
