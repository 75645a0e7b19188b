/-! WHAT THE BOUNDS MEAN -/
def gv (w : an_W) (a : an_V) (v : pm_V) : Prop := match a.1 with
  | 0 => v.1 = 0 ∧ a.2.1 ≤ v.2 ∧ v.2 ≤ a.2.2
  | 1 => v.1 = 1 ∧ a.2.1 ≤ v.2 ∧ v.2 ≤ a.2.2
  | 2 => v.1 = 2 ∧ ((0 ≤ v.2 ∧ (w.2 v.2 : Int) = a.2.1) ∨ (a.2.2 = 1 ∧ v.2 = -1))
  | 4 => v.1 = 2 ∧ v.2 = -1
  | _ => True
def gH (w : an_W) (A : pm_A) : Prop := ∀ (r : Int) (k : an_K), 0 ≤ r → w.1[w.2 r]? = some k → (k.1 = 0 → ∀ (j : Nat) (a : an_V), k.2.2.2[j]? = some a → gv w a (pm_ftk k.2.1 j, A r j)) ∧ (k.1 = 1 → ∀ a : an_V, k.2.2.2[0]? = some a → ∀ j : Int, 0 ≤ j → j < k.2.2.1 → gv w a (pm_kd k.2.1, A r j))
def mcode (w : an_W) (r j : Int) : Nat := match (an_sh w r).1 with
  | 0 => 100 * (an_sh w r).2.1 + j.toNat
  | _ => 10000 + w.2 r
def gFr (w : an_W) (ms : List Nat) (A0 A : pm_A) : Prop := ∀ r j : Int, 0 ≤ r → 0 ≤ j → ¬ mcode w r j ∈ ms → A r j = A0 r j
def gO (w : an_W) (r : Int) (fc : Nat) : Prop := 0 ≤ r ∧ (an_sh w r).1 = 0 ∧ (an_sh w r).2.1 = fc / 100
def gE (w : an_W) (Lc : List pm_V) (A : pm_A) (e : an_E) (v : pm_V) : Prop := gv w e.1 v ∧ (e.2.1 = 1 → Lc[e.2.2.1]? = some v) ∧ (e.2.1 = 2 → ∃ r, Lc[e.2.2.1]? = some (2, r) ∧ gO w r e.2.2.2 ∧ v.2 = A r ((e.2.2.2 % 100 : Nat) : Int))
def gKs (w : an_W) (Lc : List pm_V) (A : pm_A) : List an_E → List pm_V → Prop
  | [], [] => True
  | e :: es, v :: vs => gE w Lc A e v ∧ gKs w Lc A es vs
  | _, _ => False
def gFs (w : an_W) (Lc : List pm_V) (A : pm_A) (F : List an_F) : Prop := ∀ f ∈ F, ∃ r, Lc[f.1]? = some (2, r) ∧ gO w r f.2.1 ∧ f.2.2.1 ≤ A r ((f.2.1 % 100 : Nat) : Int) ∧ A r ((f.2.1 % 100 : Nat) : Int) ≤ f.2.2.2
def gDs (L0 Lc : List pm_V) (D : List (Option Int)) : Prop := ∀ (i : Nat) (d : Int), D[i]? = some (some d) → ∃ t x, L0[i]? = some (t, x) ∧ Lc[i]? = some (t, x + d)
def gLs (w : an_W) (L : List an_V) (Lc : List pm_V) : Prop := L.length = Lc.length ∧ ∀ (i : Nat) (a : an_V) (v : pm_V), L[i]? = some a → Lc[i]? = some v → gv w a v
def gS (w : an_W) (ms : List Nat) (L0 : List pm_V) (A0 : pm_A) (s : an_S) (c : pm_S) : Prop := gLs w s.1 c.1 ∧ gKs w c.1 c.2.2 s.2.1 c.2.1 ∧ gFs w c.1 c.2.2 s.2.2.1 ∧ gDs L0 c.1 s.2.2.2 ∧ gH w c.2.2 ∧ gFr w ms A0 c.2.2
def gA (w : an_W) : List an_V → List pm_V → Prop
  | [], [] => True
  | a :: as, v :: vs => gv w a v ∧ gA w as vs
  | _, _ => False
def gR (w : an_W) : Option an_V → Option pm_V → Prop
  | none, none => True
  | some a, some v => gv w a v ∧ v.1 < 3
  | _, _ => False
theorem gv0 {w : an_W} {a : an_V} {v : pm_V} (h : an_isI a = true) : gv w a v ↔ (v.1 = 0 ∧ a.2.1 ≤ v.2 ∧ v.2 ≤ a.2.2) := by
  have e := Nat.eq_of_beq_eq_true h
  unfold gv; rw [e]; exact Iff.rfl
theorem gv1 {w : an_W} {a : an_V} {v : pm_V} (h : Nat.beq a.1 1 = true) : gv w a v ↔ (v.1 = 1 ∧ a.2.1 ≤ v.2 ∧ v.2 ≤ a.2.2) := by
  have e := Nat.eq_of_beq_eq_true h
  unfold gv; rw [e]; exact Iff.rfl
theorem gv2 {w : an_W} {a : an_V} {v : pm_V} (h : Nat.beq a.1 2 = true) : gv w a v ↔ (v.1 = 2 ∧ ((0 ≤ v.2 ∧ (w.2 v.2 : Int) = a.2.1) ∨ (a.2.2 = 1 ∧ v.2 = -1))) := by
  have e := Nat.eq_of_beq_eq_true h
  unfold gv; rw [e]; exact Iff.rfl
theorem gv4 {w : an_W} {a : an_V} {v : pm_V} (h : Nat.beq a.1 4 = true) : gv w a v ↔ (v.1 = 2 ∧ v.2 = -1) := by
  have e := Nat.eq_of_beq_eq_true h
  unfold gv; rw [e]; exact Iff.rfl
theorem gvR {w : an_W} {a : an_V} {v : pm_V} (h : an_isR a = true) (hv : gv w a v) : v.1 = 2 ∧ 0 ≤ v.2 ∧ w.2 v.2 = a.2.1.toNat := by
  unfold an_isR at h
  rw [Bool.and_eq_true, decide_eq_true_eq] at h
  obtain ⟨h1, h2⟩ := (gv2 h.1).mp hv
  rcases h2 with ⟨h3, h4⟩ | ⟨h3, h4⟩
  · exact ⟨h1, h3, by omega⟩
  · omega
theorem gv_le {w : an_W} {a b : an_V} {v : pm_V} (h : an_le a b = true) (hv : gv w a v) : gv w b v := by
  obtain ⟨tb, b1, b2⟩ := b
  unfold an_le at h
  simp only at h
  split at h
  · simp only [Bool.and_eq_true] at h
    have := (gv0 h.1).mp hv
    have h1 := ile_ok h.2.1
    have h2 := ile_ok h.2.2
    exact ⟨this.1, by simp only; omega, by simp only; omega⟩
  · simp only [Bool.and_eq_true] at h
    have := (gv1 h.1).mp hv
    have h1 := ile_ok h.2.1
    have h2 := ile_ok h.2.2
    exact ⟨this.1, by simp only; omega, by simp only; omega⟩
  · simp only [Bool.or_eq_true, Bool.and_eq_true, decide_eq_true_eq] at h
    rcases h with ⟨h1, h2, h3⟩ | ⟨h1, h2⟩
    · obtain ⟨g1, g2⟩ := (gv2 h1).mp hv
      refine ⟨g1, ?_⟩
      simp only
      rcases g2 with ⟨g3, g4⟩ | ⟨g3, g4⟩
      · exact Or.inl ⟨g3, by omega⟩
      · exact Or.inr ⟨by omega, g4⟩
    · obtain ⟨g1, g2⟩ := (gv4 h1).mp hv
      exact ⟨g1, Or.inr ⟨h2, g2⟩⟩
  · exact (gv4 h).mp hv
  · next n0 n1 n2 n4 =>
    match tb, n0, n1, n2, n4 with
    | 0, n0, _, _, _ => exact absurd rfl n0
    | 1, _, n1, _, _ => exact absurd rfl n1
    | 2, _, _, n2, _ => exact absurd rfl n2
    | 3, _, _, _, _ => trivial
    | 4, _, _, _, n4 => exact absurd rfl n4
    | n + 5, _, _, _, _ => trivial
theorem w32_rng (x : Int) : -2147483648 ≤ w32 x ∧ w32 x ≤ 2147483647 := by unfold w32; omega
theorem w64_rng (x : Int) : -9223372036854775808 ≤ w64 x ∧ w64 x ≤ 9223372036854775807 := by unfold w64; omega
theorem i32_rng (i : Int32) : -2147483648 ≤ i.toInt ∧ i.toInt ≤ 2147483647 := by
  have h := w32_rng i.toInt
  have : w32 i.toInt = i.toInt := by
    rw [w32_eq]
    have := Int32.toInt_ofInt (n := i.toInt)
    rw [Int32.ofInt_toInt] at this
    exact this.symm
  omega
theorem i64_rng (i : Int64) : -9223372036854775808 ≤ i.toInt ∧ i.toInt ≤ 9223372036854775807 := by
  have h := w64_rng i.toInt
  have : w64 i.toInt = i.toInt := by
    rw [w64_eq]
    have := Int64.toInt_ofInt (n := i.toInt)
    rw [Int64.ofInt_toInt] at this
    exact this.symm
  omega
theorem gv_fI {w : an_W} {x : Int} (h : -2147483648 ≤ x ∧ x ≤ 2147483647) : gv w fI (0, x) := ⟨rfl, h.1, h.2⟩
theorem gv_fL {w : an_W} {x : Int} (h : -9223372036854775808 ≤ x ∧ x ≤ 9223372036854775807) : gv w fL (1, x) := ⟨rfl, h.1, h.2⟩
theorem gv_ck {w : an_W} {lo hi x : Int} (h1 : lo ≤ x) (h2 : x ≤ hi) : gv w (an_ck lo hi) (0, w32 x) := by
  unfold an_ck
  cases hb : (ile (-2147483648) lo && ile hi 2147483647) with
  | true =>
    rw [Bool.and_eq_true] at hb
    have a1 := ile_ok hb.1
    have a2 := ile_ok hb.2
    rw [w32_in (by omega) (by omega)]
    exact ⟨rfl, h1, h2⟩
  | false => exact gv_fI (w32_rng x)
theorem mul_abs_le {x y a b : Int} (h1 : -a ≤ x) (h2 : x ≤ a) (h3 : -b ≤ y) (h4 : y ≤ b) : -(a * b) ≤ x * y ∧ x * y ≤ a * b := by
  have e1 : 0 ≤ (a - x) * (b - y) := Int.mul_nonneg (by omega) (by omega)
  have e2 : 0 ≤ (a + x) * (b + y) := Int.mul_nonneg (by omega) (by omega)
  have e3 : 0 ≤ (a - x) * (b + y) := Int.mul_nonneg (by omega) (by omega)
  have e4 : 0 ≤ (a + x) * (b - y) := Int.mul_nonneg (by omega) (by omega)
  simp only [Int.mul_add, Int.add_mul, Int.mul_sub, Int.sub_mul] at e1 e2 e3 e4
  constructor <;> omega
theorem i32_and {i j : Int32} {c : Int} (hj : j.toInt = c) (h0 : 0 ≤ c) : 0 ≤ (i &&& j).toInt ∧ (i &&& j).toInt ≤ c := by
  have hr := i32_rng j
  have e1 : (i &&& j).toInt = (i.toBitVec &&& j.toBitVec).toInt := rfl
  have e2 : j.toInt = j.toBitVec.toInt := rfl
  rw [e1]
  rw [e2] at hj
  rw [BitVec.toInt_eq_toNat_bmod] at hj ⊢
  have l1 : (i.toBitVec &&& j.toBitVec).toNat ≤ j.toBitVec.toNat := by rw [BitVec.toNat_and]; exact Nat.and_le_right
  have l2 := j.toBitVec.isLt
  rw [← w32_eq] at hj ⊢
  unfold w32 at hj ⊢
  omega
theorem i32_shr1 {i j : Int32} {x : Int} (hi : i.toInt = x) (hj : j.toInt = 1) (h0 : 0 ≤ x) : ((i.toUInt32 >>> (j.toUInt32 &&& Int32.toUInt32 31)).toInt32).toInt = x / 2 := by
  have ej : j = 1 := by rw [← Int32.toInt_inj, hj]; rfl
  subst ej
  have e : (i.toUInt32 >>> (Int32.toUInt32 1 &&& Int32.toUInt32 31)).toInt32.toInt = (i.toBitVec >>> 1).toInt := rfl
  rw [e, BitVec.toInt_eq_toNat_bmod, BitVec.toNat_ushiftRight]
  have e2 : i.toInt = i.toBitVec.toInt := rfl
  rw [e2, BitVec.toInt_eq_toNat_bmod] at hi
  have l2 := i.toBitVec.isLt
  rw [← w32_eq] at hi ⊢
  rw [Nat.shiftRight_eq_div_pow]
  unfold w32 at hi ⊢
  omega
theorem an_bi_ok {w : an_W} (a : Nat) {X Y : an_V} {x y : Int} (hX : an_isI X = true) (hY : an_isI Y = true) (hx : gv w X (0, x)) (hy : gv w Y (0, y)) : gv w (an_bi a X Y) (0, pp_bi a x y) := by
  obtain ⟨-, x1, x2⟩ := (gv0 hX).mp hx
  obtain ⟨-, y1, y2⟩ := (gv0 hY).mp hy
  simp only at x1 x2 y1 y2
  have gen : ∀ n : Nat, gv w fI (0, pp_bi n x y) := by
    intro n
    match n with
    | 0 => exact gv_fI (w32_rng _)
    | 1 => exact gv_fI (w32_rng _)
    | 2 => exact gv_fI (w32_rng _)
    | n + 3 => exact gv_fI (i32_rng _)
  match a with
  | 0 => exact gv_ck (by omega) (by omega)
  | 1 => exact gv_ck (by omega) (by omega)
  | 2 =>
    show gv w (cond (ile 0 X.2.1 && ile 0 Y.2.1) (an_ck (X.2.1 * Y.2.1) (X.2.2 * Y.2.2)) (an_ck (-(an_abs X * an_abs Y)) (an_abs X * an_abs Y))) (0, w32 (x * y))
    cases hb : (ile 0 X.2.1 && ile 0 Y.2.1) with
    | true =>
      rw [Bool.and_eq_true] at hb
      have a1 := ile_ok hb.1
      have a2 := ile_ok hb.2
      exact gv_ck (Int.mul_le_mul x1 y1 a2 (by omega)) (Int.mul_le_mul x2 y2 (by omega) (by omega))
    | false =>
      have hm := mul_abs_le (x := x) (y := y) (a := an_abs X) (b := an_abs Y) (by unfold an_abs; omega) (by unfold an_abs; omega) (by unfold an_abs; omega) (by unfold an_abs; omega)
      exact gv_ck hm.1 hm.2
  | 3 =>
    show gv w (cond (decide (Y.2.1 = Y.2.2) && (ile 0 Y.2.1 && ile Y.2.1 2147483647)) (0, 0, Y.2.1) fI) (0, pp_bi 3 x y)
    cases hb : (decide (Y.2.1 = Y.2.2) && (ile 0 Y.2.1 && ile Y.2.1 2147483647)) with
    | false => exact gen 3
    | true =>
      simp only [Bool.and_eq_true, decide_eq_true_eq] at hb
      have a1 := ile_ok hb.2.1
      have a2 := ile_ok hb.2.2
      have hy : y = Y.2.1 := by omega
      have e : (Int32.ofInt y).toInt = Y.2.1 := by rw [Int32.toInt_ofInt]; show y.bmod (2 ^ 32) = _; rw [← w32_eq, w32_in (by omega) (by omega), hy]
      have := i32_and (i := Int32.ofInt x) e a1
      exact ⟨rfl, this.1, this.2⟩
  | 4 => exact gen 4
  | 5 => exact gen 5
  | 6 => exact gen 6
  | 7 => exact gen 7
  | 8 =>
    show gv w (cond (decide (Y.2.1 = 1) && (decide (Y.2.2 = 1) && (ile 0 X.2.1 && ile X.2.2 2147483647))) (0, X.2.1 / 2, X.2.2 / 2) fI) (0, pp_bi 8 x y)
    cases hb : (decide (Y.2.1 = 1) && (decide (Y.2.2 = 1) && (ile 0 X.2.1 && ile X.2.2 2147483647))) with
    | false => exact gen 8
    | true =>
      simp only [Bool.and_eq_true, decide_eq_true_eq] at hb
      have a1 := ile_ok hb.2.2.1
      have a2 := ile_ok hb.2.2.2
      have hy : y = 1 := by omega
      have e1 : (Int32.ofInt x).toInt = x := by rw [Int32.toInt_ofInt]; show x.bmod (2 ^ 32) = _; rw [← w32_eq, w32_in (by omega) (by omega)]
      have e2 : (Int32.ofInt y).toInt = 1 := by rw [hy]; rfl
      have := i32_shr1 e1 e2 (by omega)
      have h3 : pp_bi 8 x y = x / 2 := this
      rw [h3]
      exact ⟨rfl, by simp only [cond_true]; omega, by simp only [cond_true]; omega⟩
  | n + 9 => exact gen (n + 9)
theorem i32_div {i j : Int32} {x y : Int} (hi : i.toInt = x) (hj : j.toInt = y) (h0 : 0 ≤ x) (h1 : 1 ≤ y) : (i / j).toInt = x / y := by
  have hr := i32_rng i
  rw [Int32.toInt_div, hi, hj, ← w32_eq, Int.tdiv_eq_ediv_of_nonneg h0]
  have l1 : 0 ≤ x / y := Int.ediv_nonneg h0 (by omega)
  have l2 : x / y ≤ x := Int.ediv_le_self y h0
  exact w32_in (by omega) (by omega)
theorem i32_rem {i j : Int32} {x y : Int} (hi : i.toInt = x) (hj : j.toInt = y) (h0 : 0 ≤ x) (h1 : 1 ≤ y) : (i - i / j * j).toInt = x % y := by
  have hr := i32_rng i
  have hr2 := i32_rng j
  have e := i32_div hi hj h0 h1
  have l1 : 0 ≤ x % y := Int.emod_nonneg x (by omega)
  have l2 : x % y < y := Int.emod_lt_of_pos x (by omega)
  have l3 : x / y * y + x % y = x := by rw [Int.mul_comm]; exact Int.mul_ediv_add_emod x y
  have l4 : 0 ≤ x / y * y := Int.mul_nonneg (Int.ediv_nonneg h0 (by omega)) (by omega)
  have e2 : (i / j * j).toInt = x / y * y := by
    rw [Int32.toInt_mul, e, hj, ← w32_eq]
    exact w32_in (by omega) (by omega)
  rw [Int32.toInt_sub, hi, e2, ← w32_eq, w32_in (by omega) (by omega)]
  omega
theorem an_bid_ok {w : an_W} (a : Nat) {X Y : an_V} {x y : Int} (hX : an_isI X = true) (hY : an_isI Y = true) (hx : gv w X (0, x)) (hy : gv w Y (0, y)) (h1 : 1 ≤ Y.2.1) : gv w (an_bid a X Y) (0, (o_bid a (Int32.ofInt x) (Int32.ofInt y)).toInt) := by
  obtain ⟨-, x1, x2⟩ := (gv0 hX).mp hx
  obtain ⟨-, y1, y2⟩ := (gv0 hY).mp hy
  simp only at x1 x2 y1 y2
  have ex : X.2.2 ≤ 2147483647 → 0 ≤ X.2.1 → (Int32.ofInt x).toInt = x := by
    intro q1 q2
    rw [Int32.toInt_ofInt]; show x.bmod (2 ^ 32) = _; rw [← w32_eq, w32_in (by omega) (by omega)]
  have ey : Y.2.2 ≤ 2147483647 → (Int32.ofInt y).toInt = y := by
    intro q1
    rw [Int32.toInt_ofInt]; show y.bmod (2 ^ 32) = _; rw [← w32_eq, w32_in (by omega) (by omega)]
  match a with
  | 0 =>
    show gv w (cond (ile 0 X.2.1 && (ile X.2.2 2147483647 && ile Y.2.2 2147483647)) (0, cond (decide (Y.2.1 = Y.2.2)) (X.2.1 / Y.2.1) 0, cond (decide (Y.2.1 = Y.2.2)) (X.2.2 / Y.2.1) X.2.2) fI) (0, (Int32.ofInt x / Int32.ofInt y).toInt)
    cases hb : (ile 0 X.2.1 && (ile X.2.2 2147483647 && ile Y.2.2 2147483647)) with
    | false => exact gv_fI (i32_rng _)
    | true =>
      simp only [Bool.and_eq_true] at hb
      have a0 := ile_ok hb.1
      have a1 := ile_ok hb.2.1
      have a2 := ile_ok hb.2.2
      rw [i32_div (ex a1 a0) (ey a2) (by omega) (by omega)]
      have l1 : 0 ≤ x / y := Int.ediv_nonneg (by omega) (by omega)
      have l2 : x / y ≤ x := Int.ediv_le_self y (by omega)
      cases hc : decide (Y.2.1 = Y.2.2) with
      | false => exact ⟨rfl, by simpa using l1, by simp only [cond_false, cond_true]; omega⟩
      | true =>
        rw [decide_eq_true_eq] at hc
        have e : y = Y.2.1 := by omega
        rw [e]
        exact ⟨rfl, Int.ediv_le_ediv (by omega) x1, Int.ediv_le_ediv (by omega) x2⟩
  | n + 1 =>
    show gv w (cond (ile 0 X.2.1 && (ile X.2.2 2147483647 && ile Y.2.2 2147483647)) (0, 0, min X.2.2 (Y.2.2 - 1)) fI) (0, (Int32.ofInt x - Int32.ofInt x / Int32.ofInt y * Int32.ofInt y).toInt)
    cases hb : (ile 0 X.2.1 && (ile X.2.2 2147483647 && ile Y.2.2 2147483647)) with
    | false => exact gv_fI (i32_rng _)
    | true =>
      simp only [Bool.and_eq_true] at hb
      have a0 := ile_ok hb.1
      have a1 := ile_ok hb.2.1
      have a2 := ile_ok hb.2.2
      rw [i32_rem (ex a1 a0) (ey a2) (by omega) (by omega)]
      have l1 : 0 ≤ x % y := Int.emod_nonneg x (by omega)
      have l2 : x % y < y := Int.emod_lt_of_pos x (by omega)
      have l3 : x % y ≤ x := by
        have := Int.mul_ediv_add_emod x y
        have q := Int.mul_nonneg (show 0 ≤ y by omega) (Int.ediv_nonneg (show 0 ≤ x by omega) (show 0 ≤ y by omega))
        omega
      exact ⟨rfl, l1, by simp only [cond_true]; omega⟩
theorem an_ref_ok {w : an_W} (op : Nat) {X Y : an_V} {x y : Int} (hX : an_isI X = true) (hY : an_isI Y = true) (hx : gv w X (0, x)) (hy : gv w Y (0, y)) (ht : pp_tst op x y = true) : gv w (an_ref op X Y).1 (0, x) ∧ gv w (an_ref op X Y).2 (0, y) := by
  obtain ⟨-, x1, x2⟩ := (gv0 hX).mp hx
  obtain ⟨-, y1, y2⟩ := (gv0 hY).mp hy
  simp only at x1 x2 y1 y2
  match op, ht with
  | 0, ht => have ht := of_decide_eq_true ht; exact ⟨⟨rfl, by simp only [an_ref]; omega, by simp only [an_ref]; omega⟩, ⟨rfl, by simp only [an_ref]; omega, by simp only [an_ref]; omega⟩⟩
  | 1, ht => have ht := of_decide_eq_true ht; exact ⟨⟨rfl, by simp only [an_ref]; omega, by simp only [an_ref]; omega⟩, ⟨rfl, by simp only [an_ref]; omega, by simp only [an_ref]; omega⟩⟩
  | 2, ht => have ht := of_decide_eq_true ht; exact ⟨⟨rfl, by simp only [an_ref]; omega, by simp only [an_ref]; omega⟩, ⟨rfl, by simp only [an_ref]; omega, by simp only [an_ref]; omega⟩⟩
  | 3, ht => have ht := of_decide_eq_true ht; exact ⟨⟨rfl, by simp only [an_ref]; omega, by simp only [an_ref]; omega⟩, ⟨rfl, by simp only [an_ref]; omega, by simp only [an_ref]; omega⟩⟩
  | 4, ht => have ht := of_decide_eq_true ht; exact ⟨⟨rfl, by simp only [an_ref]; omega, by simp only [an_ref]; omega⟩, ⟨rfl, by simp only [an_ref]; omega, by simp only [an_ref]; omega⟩⟩
  | n + 5, ht =>
    have ht : ¬ x = y := by
      simp only [pp_tst, Bool.not_eq_true', decide_eq_false_iff_not] at ht
      exact ht
    refine ⟨⟨rfl, ?_, ?_⟩, ⟨rfl, ?_, ?_⟩⟩ <;> simp only [an_ref]
    · cases hb : (decide (Y.2.1 = Y.2.2) && decide (X.2.1 = Y.2.1)) with
      | false => exact x1
      | true => simp only [Bool.and_eq_true, decide_eq_true_eq] at hb; simp only [cond_true]; omega
    · cases hb : (decide (Y.2.1 = Y.2.2) && decide (X.2.2 = Y.2.1)) with
      | false => exact x2
      | true => simp only [Bool.and_eq_true, decide_eq_true_eq] at hb; simp only [cond_true]; omega
    · cases hb : (decide (X.2.1 = X.2.2) && decide (Y.2.1 = X.2.1)) with
      | false => exact y1
      | true => simp only [Bool.and_eq_true, decide_eq_true_eq] at hb; simp only [cond_true]; omega
    · cases hb : (decide (X.2.1 = X.2.2) && decide (Y.2.2 = X.2.1)) with
      | false => exact y2
      | true => simp only [Bool.and_eq_true, decide_eq_true_eq] at hb; simp only [cond_true]; omega
