/-! BY HAND: what must hold ahead of an operation. Numbers are kept free of wrapping. -/
abbrev pm_J : Type := Nat → pm_S → Prop
def r32 (x : Int) : Prop := -2147483648 ≤ x ∧ x ≤ 2147483647
def r64 (x : Int) : Prop := -9223372036854775808 ≤ x ∧ x ≤ 9223372036854775807
/-- a call comes back with Q -/
def Cl (PT : pm_T) (sh : pm_Sh) (mid : Nat) (a : List pm_V) (A : pm_A) (Q : pm_R → Prop) : Prop := ∃ n r, pm_call PT sh n mid a A = some r ∧ Q r
def wb (fr : Bool) (a : Nat) (x y : Int) (k : Int → Prop) : Prop := cond fr (k (pp_bi a x y)) (match a with
  | 0 => r32 (x + y) ∧ k (x + y)
  | 1 => r32 (x - y) ∧ k (x - y)
  | 2 => r32 (x * y) ∧ k (x * y)
  | n + 3 => k (pp_bi (n + 3) x y))
def wl (fr : Bool) (a : Nat) (x y : Int) (k : Int → Prop) : Prop := cond fr (k (pp_lb a x y)) (match a with
  | 0 => r64 (x + y) ∧ k (x + y)
  | 1 => r64 (x - y) ∧ k (x - y)
  | 2 => r64 (x * y) ∧ k (x * y)
  | n + 3 => k (pp_lb (n + 3) x y))
def wt (op : Nat) (x y : Int) (p q : Prop) : Prop := match op with
  | 0 => (x < y → p) ∧ (y ≤ x → q)
  | 1 => (y ≤ x → p) ∧ (x < y → q)
  | 2 => (y < x → p) ∧ (x ≤ y → q)
  | 3 => (x ≤ y → p) ∧ (y < x → q)
  | 4 => (x = y → p) ∧ (¬ x = y → q)
  | _ => (¬ x = y → p) ∧ (x = y → q)
def wfi (b : Nat) (f : Int → Prop) : Prop := match b with
  | 0 => f 0
  | 1 => f 1
  | 2 => f 2
  | 3 => f 3
  | 4 => f 4
  | 5 => f 5
  | 6 => f 6
  | 7 => f 7
  | 8 => f 8
  | 9 => f 9
  | 10 => f 10
  | 11 => f 11
  | 12 => f 12
  | 13 => f 13
  | 14 => f 14
  | 15 => f 15
  | 16 => f 16
  | 17 => f 17
  | 18 => f 18
  | 19 => f 19
  | 20 => f 20
  | 21 => f 21
  | 22 => f 22
  | 23 => f 23
  | 24 => f 24
  | 25 => f 25
  | 26 => f 26
  | 27 => f 27
  | 28 => f 28
  | 29 => f 29
  | 30 => f 30
  | 31 => f 31
  | 32 => f 32
  | 33 => f 33
  | 34 => f 34
  | 35 => f 35
  | 36 => f 36
  | 37 => f 37
  | 38 => f 38
  | 39 => f 39
  | 40 => f 40
  | 41 => f 41
  | 42 => f 42
  | 43 => f 43
  | 44 => f 44
  | 45 => f 45
  | 46 => f 46
  | 47 => f 47
  | 48 => f 48
  | 49 => f 49
  | 50 => f 50
  | 51 => f 51
  | 52 => f 52
  | 53 => f 53
  | 54 => f 54
  | 55 => f 55
  | 56 => f 56
  | 57 => f 57
  | 58 => f 58
  | 59 => f 59
  | n + 60 => f ((n + 60 : Nat) : Int)
theorem wfi_ok {b : Nat} {f : Int → Prop} (h : wfi b f) : f (b : Int) := by
  match b, h with
  | 0, h => exact h
  | 1, h => exact h
  | 2, h => exact h
  | 3, h => exact h
  | 4, h => exact h
  | 5, h => exact h
  | 6, h => exact h
  | 7, h => exact h
  | 8, h => exact h
  | 9, h => exact h
  | 10, h => exact h
  | 11, h => exact h
  | 12, h => exact h
  | 13, h => exact h
  | 14, h => exact h
  | 15, h => exact h
  | 16, h => exact h
  | 17, h => exact h
  | 18, h => exact h
  | 19, h => exact h
  | 20, h => exact h
  | 21, h => exact h
  | 22, h => exact h
  | 23, h => exact h
  | 24, h => exact h
  | 25, h => exact h
  | 26, h => exact h
  | 27, h => exact h
  | 28, h => exact h
  | 29, h => exact h
  | 30, h => exact h
  | 31, h => exact h
  | 32, h => exact h
  | 33, h => exact h
  | 34, h => exact h
  | 35, h => exact h
  | 36, h => exact h
  | 37, h => exact h
  | 38, h => exact h
  | 39, h => exact h
  | 40, h => exact h
  | 41, h => exact h
  | 42, h => exact h
  | 43, h => exact h
  | 44, h => exact h
  | 45, h => exact h
  | 46, h => exact h
  | 47, h => exact h
  | 48, h => exact h
  | 49, h => exact h
  | 50, h => exact h
  | 51, h => exact h
  | 52, h => exact h
  | 53, h => exact h
  | 54, h => exact h
  | 55, h => exact h
  | 56, h => exact h
  | 57, h => exact h
  | 58, h => exact h
  | 59, h => exact h
  | n + 60, h => exact h
def ws (PT : pm_T) (sh : pm_Sh) (fr : Bool) (o : pm_Op) (s : pm_S) (k : pm_J) (z : pm_R → Prop) : Prop := match o, s with
  | (nx, code, a, b, c, d, ts), (L, K0, A) => match code with
    | 0 => cond (ile (-2147483648) d && ile d 2147483647) (k nx (L, (0, d) :: K0, A)) False
    | 1 => match a with
      | 0 => k nx (L, (1, 0) :: K0, A)
      | 1 => k nx (L, (1, 1) :: K0, A)
      | _ => False
    | 2 => k nx (L, (2, -1) :: K0, A)
    | 3 => match L[b]? with
      | some v => cond (Nat.beq v.1 a && Nat.ble (a + 1) 3) (k nx (L, v :: K0, A)) False
      | none => False
    | 4 => match K0 with
      | v :: K => cond (Nat.beq v.1 a && (Nat.ble (a + 1) 3 && Nat.ble (b + pm_cat v) c)) (k nx (cond (Nat.beq a 1) (pm_put2 L b v) (pm_put1 L b v), K, A)) False
      | [] => False
    | 5 => match L[a]? with
      | some (0, x) => cond (Nat.ble (a + 1) c) (r32 (x + d) ∧ k nx (pm_put1 L a (0, x + d), K0, A)) False
      | _ => False
    | 6 => match K0 with
      | (0, y) :: (0, x) :: K => wb fr a x y (fun r => k nx (L, (0, r) :: K, A))
      | _ => False
    | 7 => match K0 with
      | (0, y) :: (0, x) :: K => (0 ≤ x ∧ x ≤ 2147483647 ∧ 1 ≤ y ∧ y ≤ 2147483647) ∧ k nx (L, (0, cond (Nat.beq a 0) (x / y) (x % y)) :: K, A)
      | _ => False
    | 8 => match K0 with
      | (1, y) :: (1, x) :: K => wl fr a x y (fun r => k nx (L, (1, r) :: K, A))
      | _ => False
    | 9 => match K0 with
      | (1, y) :: (1, x) :: K => (¬ y = 0 ∧ r64 x ∧ r64 y ∧ (x = -9223372036854775808 → ¬ y = -1)) ∧ k nx (L, (1, cond (Nat.beq a 0) (x.tdiv y) (x.tmod y)) :: K, A)
      | _ => False
    | 10 => match K0 with
      | (0, y) :: (1, x) :: K => k nx (L, (1, (o_ls a (Int64.ofInt x) (Int32.ofInt y)).toInt) :: K, A)
      | _ => False
    | 11 => match a with
      | 0 => match K0 with
        | (0, x) :: K => r32 (-x) ∧ k nx (L, (0, -x) :: K, A)
        | _ => False
      | 1 => match K0 with
        | (1, x) :: K => cond fr (k nx (L, (1, w64 (-x)) :: K, A)) (r64 (-x) ∧ k nx (L, (1, -x) :: K, A))
        | _ => False
      | 2 => match K0 with
        | (0, x) :: K => k nx (L, (1, x) :: K, A)
        | _ => False
      | 3 => match K0 with
        | (1, x) :: K => r32 x ∧ k nx (L, (0, x) :: K, A)
        | _ => False
      | 4 => match K0 with
        | (1, y) :: (1, x) :: K => (y < x → k nx (L, (0, 1) :: K, A)) ∧ (x = y → k nx (L, (0, 0) :: K, A)) ∧ (x < y → k nx (L, (0, -1) :: K, A))
        | _ => False
      | n + 5 => match pp_un (n + 5) K0 with
        | some K => k nx (L, K, A)
        | none => False
    | 12 => k b s
    | 13 => match K0 with
      | (2, x) :: K => (x < 0 → k b (L, K, A)) ∧ (0 ≤ x → k nx (L, K, A))
      | _ => False
    | 14 => match K0 with
      | (0, y) :: (0, x) :: K => wt a x y (k b (L, K, A)) (k nx (L, K, A))
      | _ => False
    | 15 => match K0 with
      | (0, x) :: K => wt a x 0 (k b (L, K, A)) (k nx (L, K, A))
      | _ => False
    | 17 => match K0 with
      | (2, r) :: K => (0 ≤ r ∧ (sh r).1 = 0 ∧ (sh r).2.1 = a ∧ (b : Int) < (sh r).2.2) ∧ wfi b (fun j => k nx (L, (pm_ftk a b, A r j) :: K, A))
      | _ => False
    | 18 => match K0 with
      | v :: (2, r) :: K => cond (pm_okt c v && Nat.beq v.1 (pm_ftk a b)) ((0 ≤ r ∧ (sh r).1 = 0 ∧ (sh r).2.1 = a ∧ (b : Int) < (sh r).2.2) ∧ wfi b (fun j => k nx (L, K, pm_upd A r j v.2))) False
      | _ => False
    | 19 => match K0 with
      | (0, i) :: (2, r) :: K => (0 ≤ r ∧ (sh r).1 = 1 ∧ (sh r).2.1 = a ∧ 0 ≤ i ∧ i < (sh r).2.2) ∧ k nx (L, (pm_kd a, A r i) :: K, A)
      | _ => False
    | 20 => match K0 with
      | v :: (0, i) :: (2, r) :: K => cond (Nat.ble (a + 1) 3) ((0 ≤ r ∧ (sh r).1 = 1 ∧ (sh r).2.1 = a ∧ 0 ≤ i ∧ i < (sh r).2.2 ∧ pm_okt a v = true) ∧ k nx (L, K, pm_upd A r i v.2)) False
      | _ => False
    | 21 => match K0 with
      | (2, q) :: (0, i) :: (2, r) :: K => cond (Nat.ble 3 a) ((0 ≤ r ∧ (sh r).1 = 1 ∧ (sh r).2.1 = a ∧ 0 ≤ i ∧ i < (sh r).2.2 ∧ 0 ≤ q ∧ (sh q).1 = 0 ∧ (sh q).2.1 = b) ∧ k nx (L, K, pm_upd A r i q)) False
      | _ => False
    | 23 => cond (Nat.beq (K0.take b).length b && Nat.ble ((K0.drop b).map pm_cat).sum 8) ((!decide (d = 1) || pm_recv sh c (K0.take b).reverse) = true ∧ Cl PT sh a (K0.take b).reverse A (fun r => k nx (L, r.1.toList ++ K0.drop b, r.2))) False
    | 24 => match K0 with
      | [] => z (none, A)
      | _ => False
    | 25 => match K0 with
      | [v] => pm_okt a v = true ∧ z (some v, A)
      | _ => False
    | 26 => cond (ile (-2147483648) d && ile d 2147483647) (k nx (L, (0, d) :: K0, A)) False
    | 27 => cond (ile (-9223372036854775808) d && ile d 9223372036854775807) (k nx (L, (1, d) :: K0, A)) False
    | 28 => match K0 with
      | (0, n) :: (0, dp) :: (2, q) :: (0, sp) :: (2, p) :: K => cond (Nat.ble ((K.map pm_cat).sum + 18) c && Nat.ble (a + 1) 2) ((0 ≤ p ∧ 0 ≤ q ∧ (sh p).1 = 1 ∧ (sh p).2.1 = a ∧ (sh q).1 = 1 ∧ (sh q).2.1 = a ∧ 0 ≤ n ∧ 0 ≤ dp ∧ 0 ≤ sp ∧ sp + n ≤ (sh p).2.2 ∧ dp + n ≤ (sh q).2.2) ∧ k nx (L, K, pm_cpy A p sp q dp n)) False
      | _ => False
    | 29 => match K0 with
      | (0, y) :: (0, x) :: K => cond (Nat.ble ((K.map pm_cat).sum + 13) c) (k nx (L, (0, cond (Nat.beq a 0) (max x y) (min x y)) :: K, A)) False
      | _ => False
    | 30 => match K0 with
      | (0, x) :: K => cond (Nat.ble ((K.map pm_cat).sum + 13) c) ((-2147483647 ≤ x ∧ x ≤ 2147483647) ∧ k nx (L, (0, (x.natAbs : Int)) :: K, A)) False
      | _ => False
    | _ => False
def wN (PT : pm_T) (sh : pm_Sh) (o : pm_Op) (s : pm_S) (k : pm_J) (z : pm_R → Prop) : Prop := (∃ n0 pc' s', pm_step sh (pm_call PT sh n0) o s = some (.inl (pc', s')) ∧ k pc' s') ∨ (∃ n0 r, pm_step sh (pm_call PT sh n0) o s = some (.inr r) ∧ z r)
theorem cond_F {b : Bool} {p : Prop} (h : cond b p False) : b = true ∧ p := by
  cases b with
  | true => exact ⟨rfl, h⟩
  | false => exact h.elim
theorem i64_quo {x y : Int} (hx : r64 x) (hy : r64 y) (h0 : ¬ y = 0) (hm : x = -9223372036854775808 → ¬ y = -1) : r64 (x.tdiv y) ∧ (Int64.ofInt x / Int64.ofInt y).toInt = x.tdiv y ∧ (Int64.ofInt x - Int64.ofInt x / Int64.ofInt y * Int64.ofInt y).toInt = x.tmod y := by
  have ex : (Int64.ofInt x).toInt = x := by rw [Int64.toInt_ofInt]; show x.bmod (2 ^ 64) = _; rw [← w64_eq, w64_in hx.1 hx.2]
  have ey : (Int64.ofInt y).toInt = y := by rw [Int64.toInt_ofInt]; show y.bmod (2 ^ 64) = _; rw [← w64_eq, w64_in hy.1 hy.2]
  have ha : (x.tdiv y).natAbs ≤ x.natAbs := by rw [Int.natAbs_tdiv]; exact Nat.div_le_self _ _
  have hr : r64 (x.tdiv y) := by
    unfold r64 at hx ⊢
    refine ⟨by omega, ?_⟩
    by_cases e : x = -9223372036854775808
    · have hy1 := hm e
      subst e
      by_cases hp : 0 < y
      · have e1 : Int.tdiv (-9223372036854775808) y = -(Int.tdiv 9223372036854775808 y) := Int.neg_tdiv 9223372036854775808 y
        have e2 : 0 ≤ Int.tdiv 9223372036854775808 y := Int.tdiv_nonneg (by omega) (by omega)
        omega
      · have h2 : y ≤ -2 := by omega
        have : (Int.tdiv (-9223372036854775808) y).natAbs = (9223372036854775808 : Nat) / y.natAbs := by rw [Int.natAbs_tdiv]; rfl
        have h3 : (9223372036854775808 : Nat) / y.natAbs ≤ 9223372036854775808 / 2 := Nat.div_le_div_left (by omega) (by omega)
        omega
    · omega
  have hd : (Int64.ofInt x / Int64.ofInt y).toInt = x.tdiv y := by
    rw [Int64.toInt_div, ex, ey, ← w64_eq, w64_in hr.1 hr.2]
  refine ⟨hr, hd, ?_⟩
  have hmul : y * x.tdiv y + x.tmod y = x := Int.mul_tdiv_add_tmod x y
  have hmod : (x.tmod y).natAbs ≤ x.natAbs := by rw [Int.natAbs_tmod]; exact Nat.mod_le _ _
  have hprod : (y * x.tdiv y).natAbs ≤ x.natAbs := by
    rw [Int.natAbs_mul, Int.natAbs_tdiv, Nat.mul_comm]; exact Nat.div_mul_le_self _ _
  unfold r64 at hx
  have hlow : -9223372036854775808 ≤ y * x.tdiv y := by omega
  rw [Int64.toInt_sub, ex, Int64.toInt_mul, hd, ey, ← w64_eq, ← w64_eq]
  have e1 : x.tdiv y * y = y * x.tdiv y := Int.mul_comm _ _
  rw [e1]
  by_cases hbig : y * x.tdiv y ≤ 9223372036854775807
  · rw [w64_in hlow hbig, w64_in (by omega) (by omega)]; omega
  · unfold w64; omega
