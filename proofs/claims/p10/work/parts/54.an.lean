/-! BOUNDS: a check of bounds over the operations, with what is known at marked places given ahead. -/
/-- (0, lo, hi): an int within bounds; (1, lo, hi): a long; (2, kind, n): a cell of a kind, n = 1: or none; (4, ..): none; else anything -/
abbrev an_V : Type := Nat × Int × Int
/-- with where it comes from: (1, i, _): it is what local i holds; (2, i, fc): it is field fc of what local i holds -/
abbrev an_E : Type := an_V × Nat × Nat × Nat
abbrev an_F : Type := Nat × Nat × Int × Int
abbrev an_S : Type := List an_V × List an_E × List an_F × List (Option Int)
/-- a kind of cells: (0, class, fields, bounds of each), (1, tag, length, [bounds of its elements]) -/
abbrev an_K : Type := Nat × Nat × Int × List an_V
abbrev an_W : Type := List an_K × (Int → Nat)
def an_sh (w : an_W) : pm_Sh := fun r => match w.1[w.2 r]? with
  | some k => (k.1, k.2.1, k.2.2.1)
  | none => (2, 0, 0)
def ile (a b : Int) : Bool := decide (a ≤ b)
theorem ile_ok {a b : Int} (h : ile a b = true) : a ≤ b := of_decide_eq_true h
def fI : an_V := (0, -2147483648, 2147483647)
def fL : an_V := (1, -9223372036854775808, 9223372036854775807)
def an_le (a b : an_V) : Bool := match b.1 with
  | 0 => Nat.beq a.1 0 && (ile b.2.1 a.2.1 && ile a.2.2 b.2.2)
  | 1 => Nat.beq a.1 1 && (ile b.2.1 a.2.1 && ile a.2.2 b.2.2)
  | 2 => (Nat.beq a.1 2 && (decide (a.2.1 = b.2.1) && (decide (a.2.2 = 0) || decide (b.2.2 = 1)))) || (Nat.beq a.1 4 && decide (b.2.2 = 1))
  | 4 => Nat.beq a.1 4
  | _ => true
def an_ck (lo hi : Int) : an_V := cond (ile (-2147483648) lo && ile hi 2147483647) (0, lo, hi) fI
def an_abs (x : an_V) : Int := max (x.2.2) (- x.2.1)
def an_bi (a : Nat) (x y : an_V) : an_V := match a with
  | 0 => an_ck (x.2.1 + y.2.1) (x.2.2 + y.2.2)
  | 1 => an_ck (x.2.1 - y.2.2) (x.2.2 - y.2.1)
  | 2 => cond (ile 0 x.2.1 && ile 0 y.2.1) (an_ck (x.2.1 * y.2.1) (x.2.2 * y.2.2)) (an_ck (-(an_abs x * an_abs y)) (an_abs x * an_abs y))
  | 3 => cond (decide (y.2.1 = y.2.2) && (ile 0 y.2.1 && ile y.2.1 2147483647)) (0, 0, y.2.1) fI
  | 8 => cond (decide (y.2.1 = 1) && (decide (y.2.2 = 1) && (ile 0 x.2.1 && ile x.2.2 2147483647))) (0, x.2.1 / 2, x.2.2 / 2) fI
  | _ => fI
def an_bid (a : Nat) (x y : an_V) : an_V := match a with
  | 0 => cond (ile 0 x.2.1 && (ile x.2.2 2147483647 && ile y.2.2 2147483647)) (0, cond (decide (y.2.1 = y.2.2)) (x.2.1 / y.2.1) 0, cond (decide (y.2.1 = y.2.2)) (x.2.2 / y.2.1) x.2.2) fI
  | _ => cond (ile 0 x.2.1 && (ile x.2.2 2147483647 && ile y.2.2 2147483647)) (0, 0, min x.2.2 (y.2.2 - 1)) fI
/-- what is known of x and y where x op y: 0 lt, 1 ge, 2 gt, 3 le, 4 eq, 5 ne -/
def an_ref (op : Nat) (x y : an_V) : an_V × an_V := match op with
  | 0 => ((0, x.2.1, min x.2.2 (y.2.2 - 1)), (0, max y.2.1 (x.2.1 + 1), y.2.2))
  | 1 => ((0, max x.2.1 y.2.1, x.2.2), (0, y.2.1, min y.2.2 x.2.2))
  | 2 => ((0, max x.2.1 (y.2.1 + 1), x.2.2), (0, y.2.1, min y.2.2 (x.2.2 - 1)))
  | 3 => ((0, x.2.1, min x.2.2 y.2.2), (0, max y.2.1 x.2.1, y.2.2))
  | 4 => ((0, max x.2.1 y.2.1, min x.2.2 y.2.2), (0, max x.2.1 y.2.1, min x.2.2 y.2.2))
  | _ => ((0, cond (decide (y.2.1 = y.2.2) && decide (x.2.1 = y.2.1)) (x.2.1 + 1) x.2.1, cond (decide (y.2.1 = y.2.2) && decide (x.2.2 = y.2.1)) (x.2.2 - 1) x.2.2), (0, cond (decide (x.2.1 = x.2.2) && decide (y.2.1 = x.2.1)) (y.2.1 + 1) y.2.1, cond (decide (x.2.1 = x.2.2) && decide (y.2.2 = x.2.1)) (y.2.2 - 1) y.2.2))
def an_neg : Nat → Nat
  | 0 => 1
  | 1 => 0
  | 2 => 3
  | 3 => 2
  | 4 => 5
  | _ => 4
/-- what comes from local i is forgotten -/
def an_kE (i : Nat) (K : List an_E) : List an_E := K.map (fun e => cond (Nat.beq e.2.2.1 i) (e.1, 0, 0, 0) e)
def an_kF (i : Nat) (F : List an_F) : List an_F := F.filter (fun f => !Nat.beq f.1 i)
/-- what comes from fields that are written is forgotten -/
def an_mE (ms : List Nat) (K : List an_E) : List an_E := K.map (fun e => cond (ms.contains e.2.2.2) (e.1, 0, 0, 0) e)
def an_mF (ms : List Nat) (F : List an_F) : List an_F := F.filter (fun f => !ms.contains f.2.1)
def an_app (e : an_E) (v : an_V) (s : an_S) : an_S := match e.2.1 with
  | 1 => (s.1.set e.2.2.1 v, s.2)
  | 2 => (s.1, s.2.1, (e.2.2.1, e.2.2.2, v.2.1, v.2.2) :: s.2.2.1, s.2.2.2)
  | _ => s
def an_look (F : List an_F) (i fc : Nat) (v : an_V) : an_V := match F with
  | [] => v
  | f :: t => cond (Nat.beq f.1 i && (Nat.beq f.2.1 fc && Nat.beq v.1 0)) (0, max f.2.2.1 v.2.1, min f.2.2.2 v.2.2) (an_look t i fc v)
/-- a branch is left out where it can't be -/
def an_tk (op tgt : Nat) (x y : an_E) (s : an_S) : List (Nat × an_S) := cond (ile (an_ref op x.1 y.1).1.2.1 (an_ref op x.1 y.1).1.2.2 && ile (an_ref op x.1 y.1).2.2.1 (an_ref op x.1 y.1).2.2.2) [(tgt, an_app y (an_ref op x.1 y.1).2 (an_app x (an_ref op x.1 y.1).1 s))] []
def an_cat (v : an_V) : Nat := cond (Nat.beq v.1 1) 2 1
/-- locals where a long at the place ahead is lost -/
def an_pre (L : List an_V) : Nat → Bool
  | 0 => false
  | j + 1 => match L[j]? with
    | some v => !(Nat.beq v.1 0 || (Nat.beq v.1 2 || Nat.beq v.1 4))
    | none => false
def an_drop (i : Nat) (s : an_S) : an_S := (s.1.set i (3, 0, 0), an_kE i s.2.1, an_kF i s.2.2.1, s.2.2.2.set i none)
def an_put (i : Nat) (v : an_V) (d : Option Int) (s : an_S) : an_S := (s.1.set i v, an_kE i s.2.1, an_kF i s.2.2.1, s.2.2.2.set i d)
def an_ini (i : Nat) (s : an_S) : an_S := cond (an_pre s.1 i) (an_drop (i - 1) s) s
/-- contracts: bounds of the arguments, of the answer, what is written -/
abbrev an_Q : Type := List an_V × Option an_V × List Nat
def an_les : List an_E → List an_V → Bool
  | [], [] => true
  | e :: es, v :: vs => an_le e.1 v && an_les es vs
  | _, _ => false
def an_isI (v : an_V) : Bool := Nat.beq v.1 0
def an_isR (v : an_V) : Bool := Nat.beq v.1 2 && decide (v.2.2 = 0)
def an_sub (a b : List Nat) : Bool := a.all (fun x => b.contains x)
def an_un (a : Nat) (K : List an_E) : Option (List an_E) := match a with
  | 0 => match K with
    | x :: r => cond (an_isI x.1) (some ((an_ck (- x.1.2.2) (- x.1.2.1), 0, 0, 0) :: r)) none
    | _ => none
  | 1 => match K with
    | x :: r => cond (Nat.beq x.1.1 1) (some ((fL, 0, 0, 0) :: r)) none
    | _ => none
  | 2 => match K with
    | x :: r => cond (an_isI x.1) (some (((1, x.1.2.1, x.1.2.2), 0, 0, 0) :: r)) none
    | _ => none
  | 3 => match K with
    | x :: r => cond (Nat.beq x.1.1 1) (some ((an_ck x.1.2.1 x.1.2.2, 0, 0, 0) :: r)) none
    | _ => none
  | 4 => match K with
    | y :: x :: r => cond (Nat.beq x.1.1 1 && Nat.beq y.1.1 1) (some (((0, -1, 1), 0, 0, 0) :: r)) none
    | _ => none
  | 5 => match K with
    | x :: r => cond (an_isI x.1 || Nat.beq x.1.1 2) (some (x :: x :: r)) none
    | _ => none
  | 6 => match K with
    | x :: y :: r => cond (an_isI x.1 && (an_isI y.1 || Nat.beq y.1.1 2)) (some (x :: y :: x :: y :: r)) none
    | _ => none
  | _ => match K with
    | x :: r => cond (an_isI x.1 || Nat.beq x.1.1 2) (some r) none
    | _ => none
def an_ok (c : Nat) (v : an_V) : Bool := match c with
  | 0 => Nat.beq v.1 0
  | 1 => Nat.beq v.1 1
  | 2 => Nat.beq v.1 0 && (ile 0 v.2.1 && ile v.2.2 1)
  | _ => Nat.beq v.1 2 || Nat.beq v.1 4
def e1 {α : Type} (K : List an_E) (f : an_E → List an_E → Option α) : Option α := match K with
  | x :: r => f x r
  | _ => none
theorem e1_s {α : Type} {K : List an_E} {f : an_E → List an_E → Option α} {o : α} (h : e1 K f = some o) : ∃ x r, K = x :: r ∧ f x r = some o := by
  unfold e1 at h
  split at h
  · exact ⟨_, _, rfl, h⟩
  · cases h
def e2 {α : Type} (K : List an_E) (f : an_E → an_E → List an_E → Option α) : Option α := match K with
  | x :: y :: r => f x y r
  | _ => none
theorem e2_s {α : Type} {K : List an_E} {f : an_E → an_E → List an_E → Option α} {o : α} (h : e2 K f = some o) : ∃ x y r, K = x :: y :: r ∧ f x y r = some o := by
  unfold e2 at h
  split at h
  · exact ⟨_, _, _, rfl, h⟩
  · cases h
def e3 {α : Type} (K : List an_E) (f : an_E → an_E → an_E → List an_E → Option α) : Option α := match K with
  | x :: y :: u :: r => f x y u r
  | _ => none
theorem e3_s {α : Type} {K : List an_E} {f : an_E → an_E → an_E → List an_E → Option α} {o : α} (h : e3 K f = some o) : ∃ x y u r, K = x :: y :: u :: r ∧ f x y u r = some o := by
  unfold e3 at h
  split at h
  · exact ⟨_, _, _, _, rfl, h⟩
  · cases h
def e5 {α : Type} (K : List an_E) (f : an_E → an_E → an_E → an_E → an_E → List an_E → Option α) : Option α := match K with
  | x :: y :: u :: p :: q :: r => f x y u p q r
  | _ => none
theorem e5_s {α : Type} {K : List an_E} {f : an_E → an_E → an_E → an_E → an_E → List an_E → Option α} {o : α} (h : e5 K f = some o) : ∃ x y u p q r, K = x :: y :: u :: p :: q :: r ∧ f x y u p q r = some o := by
  unfold e5 at h
  split at h
  · exact ⟨_, _, _, _, _, _, rfl, h⟩
  · cases h
/-- w: kinds; CT: contracts; Q: the method's own -/
def an_op (w : an_W) (CT : Nat → List an_Q) (Q : an_Q) (o : pm_Op) (s : an_S) : Option (List (Nat × an_S)) := match o.2.1 with
  | 0 => some [(o.1, s.1, ((0, w32 o.2.2.2.2.2.1, w32 o.2.2.2.2.2.1), 0, 0, 0) :: s.2.1, s.2.2)]
  | 1 => some [(o.1, s.1, ((1, w64 o.2.2.1, w64 o.2.2.1), 0, 0, 0) :: s.2.1, s.2.2)]
  | 2 => some [(o.1, s.1, ((4, 0, 0), 0, 0, 0) :: s.2.1, s.2.2)]
  | 3 => match s.1[o.2.2.2.1]? with
    | some v => cond ((Nat.beq v.1 o.2.2.1 || (Nat.beq v.1 4 && Nat.beq o.2.2.1 2)) && Nat.ble (o.2.2.1 + 1) 3) (some [(o.1, s.1, (v, 1, o.2.2.2.1, 0) :: s.2.1, s.2.2)]) none
    | none => none
  | 4 => e1 s.2.1 (fun e K => cond ((Nat.beq e.1.1 o.2.2.1 || (Nat.beq e.1.1 4 && Nat.beq o.2.2.1 2)) && (Nat.ble (o.2.2.1 + 1) 3 && Nat.ble (o.2.2.2.1 + an_cat e.1) o.2.2.2.2.1)) (some [(o.1, cond (Nat.beq o.2.2.1 1) (an_drop (o.2.2.2.1 + 1) (an_put o.2.2.2.1 e.1 none (an_ini o.2.2.2.1 (s.1, K, s.2.2)))) (an_put o.2.2.2.1 e.1 none (an_ini o.2.2.2.1 (s.1, K, s.2.2))))]) none)
  | 5 => match s.1[o.2.2.1]? with
    | some v => cond (an_isI v && Nat.ble (o.2.2.1 + 1) o.2.2.2.2.1) (some [(o.1, cond (ile (-2147483648) (v.2.1 + o.2.2.2.2.2.1) && ile (v.2.2 + o.2.2.2.2.2.1) 2147483647) (an_put o.2.2.1 (0, v.2.1 + o.2.2.2.2.2.1, v.2.2 + o.2.2.2.2.2.1) ((s.2.2.2.getD o.2.2.1 none).map (fun d => d + o.2.2.2.2.2.1)) (an_ini o.2.2.1 s)) (an_put o.2.2.1 fI none (an_ini o.2.2.1 s)))]) none
    | none => none
  | 6 => e2 s.2.1 (fun y x K => cond (an_isI x.1 && an_isI y.1) (some [(o.1, s.1, (an_bi o.2.2.1 x.1 y.1, 0, 0, 0) :: K, s.2.2)]) none)
  | 7 => e2 s.2.1 (fun y x K => cond (an_isI x.1 && (an_isI y.1 && ile 1 y.1.2.1)) (some [(o.1, s.1, (an_bid o.2.2.1 x.1 y.1, 0, 0, 0) :: K, s.2.2)]) none)
  | 8 => e2 s.2.1 (fun y x K => cond (Nat.beq x.1.1 1 && Nat.beq y.1.1 1) (some [(o.1, s.1, (fL, 0, 0, 0) :: K, s.2.2)]) none)
  | 9 => e2 s.2.1 (fun y x K => cond (Nat.beq x.1.1 1 && (Nat.beq y.1.1 1 && ile 1 y.1.2.1)) (some [(o.1, s.1, (fL, 0, 0, 0) :: K, s.2.2)]) none)
  | 10 => e2 s.2.1 (fun y x K => cond (Nat.beq x.1.1 1 && an_isI y.1) (some [(o.1, s.1, (fL, 0, 0, 0) :: K, s.2.2)]) none)
  | 11 => match an_un o.2.2.1 s.2.1 with
    | some K => some [(o.1, s.1, K, s.2.2)]
    | none => none
  | 12 => some [(o.2.2.2.1, s)]
  | 13 => e1 s.2.1 (fun x K => cond (Nat.beq x.1.1 2 || Nat.beq x.1.1 4) (some (cond (Nat.beq x.1.1 2) [(o.1, cond (Nat.beq x.2.1 1) (an_app x (2, x.1.2.1, 0) (s.1, K, s.2.2)) (s.1, K, s.2.2))] [] ++ cond (an_isR x.1) [] [(o.2.2.2.1, s.1, K, s.2.2)])) none)
  | 14 => e2 s.2.1 (fun y x K => cond (an_isI x.1 && an_isI y.1) (some (an_tk o.2.2.1 o.2.2.2.1 x y (s.1, K, s.2.2) ++ an_tk (an_neg o.2.2.1) o.1 x y (s.1, K, s.2.2))) none)
  | 15 => e1 s.2.1 (fun x K => cond (an_isI x.1) (some (an_tk o.2.2.1 o.2.2.2.1 x ((0, 0, 0), 0, 0, 0) (s.1, K, s.2.2) ++ an_tk (an_neg o.2.2.1) o.1 x ((0, 0, 0), 0, 0, 0) (s.1, K, s.2.2))) none)
  | 16 => e1 s.2.1 (fun x K => cond (an_isI x.1) (some ((o.2.2.2.1, s.1, K, s.2.2) :: o.2.2.2.2.2.2.map (fun t => (t, s.1, K, s.2.2)))) none)
  | 17 => e1 s.2.1 (fun x K => cond (an_isR x.1) (match w.1[x.1.2.1.toNat]? with
      | some k => match k.2.2.2[o.2.2.2.1]? with
        | some v => cond (Nat.beq k.1 0 && (Nat.beq k.2.1 o.2.2.1 && (ile (o.2.2.2.1 + 1) k.2.2.1 && Nat.blt o.2.2.2.1 100))) (some [(o.1, s.1, cond (Nat.beq x.2.1 1) (an_look s.2.2.1 x.2.2.1 (100 * o.2.2.1 + o.2.2.2.1) v, 2, x.2.2.1, 100 * o.2.2.1 + o.2.2.2.1) (v, 0, 0, 0) :: K, s.2.2)]) none
        | none => none
      | none => none) none)
  | 18 => e2 s.2.1 (fun e x K => cond (an_isR x.1) (match w.1[x.1.2.1.toNat]? with
      | some k => match k.2.2.2[o.2.2.2.1]? with
        | some v => cond (Nat.beq k.1 0 && (Nat.beq k.2.1 o.2.2.1 && (ile (o.2.2.2.1 + 1) k.2.2.1 && (an_le e.1 v && (Nat.ble (v.1 + 1) 3 && (an_ok o.2.2.2.2.1 e.1 && (Q.2.2.contains (100 * o.2.2.1 + o.2.2.2.1) && (Nat.beq (cond (Nat.beq e.1.1 4) 2 e.1.1) (pm_ftk o.2.2.1 o.2.2.2.1) && Nat.blt o.2.2.2.1 100)))))))) (some [(o.1, s.1, an_mE [100 * o.2.2.1 + o.2.2.2.1] K, cond (Nat.beq x.2.1 1 && an_isI e.1) ((x.2.2.1, 100 * o.2.2.1 + o.2.2.2.1, e.1.2.1, e.1.2.2) :: an_mF [100 * o.2.2.1 + o.2.2.2.1] s.2.2.1) (an_mF [100 * o.2.2.1 + o.2.2.2.1] s.2.2.1), s.2.2.2)]) none
        | none => none
      | none => none) none)
  | 19 => e2 s.2.1 (fun i x K => cond (an_isR x.1 && an_isI i.1) (match w.1[x.1.2.1.toNat]? with
      | some k => match k.2.2.2[0]? with
        | some v => cond (Nat.beq k.1 1 && (Nat.beq k.2.1 o.2.2.1 && (ile 0 i.1.2.1 && ile (i.1.2.2 + 1) k.2.2.1))) (some [(o.1, s.1, (v, 0, 0, 0) :: K, s.2.2)]) none
        | none => none
      | none => none) none)
  | 20 => e3 s.2.1 (fun e i x K => cond (an_isR x.1 && an_isI i.1) (match w.1[x.1.2.1.toNat]? with
      | some k => match k.2.2.2[0]? with
        | some v => cond (Nat.beq k.1 1 && (Nat.beq k.2.1 o.2.2.1 && (ile 0 i.1.2.1 && (ile (i.1.2.2 + 1) k.2.2.1 && (an_le e.1 v && (Nat.ble (o.2.2.1 + 1) 3 && (an_ok o.2.2.1 e.1 && Q.2.2.contains (10000 + x.1.2.1.toNat)))))))) (some [(o.1, s.1, K, s.2.2)]) none
        | none => none
      | none => none) none)
  | 21 => e3 s.2.1 (fun e i x K => cond (an_isR x.1 && (an_isI i.1 && an_isR e.1)) (match w.1[x.1.2.1.toNat]? with
      | some k => match k.2.2.2[0]?, w.1[e.1.2.1.toNat]? with
        | some v, some k2 => cond (Nat.beq k.1 1 && (Nat.beq k.2.1 o.2.2.1 && (ile 0 i.1.2.1 && (ile (i.1.2.2 + 1) k.2.2.1 && (an_le e.1 v && (Nat.ble 3 o.2.2.1 && (Nat.beq k2.1 0 && (Nat.beq k2.2.1 o.2.2.2.1 && Q.2.2.contains (10000 + x.1.2.1.toNat))))))))) (some [(o.1, s.1, K, s.2.2)]) none
        | _, _ => none
      | none => none) none)
  | 22 => e1 s.2.1 (fun x K => cond (an_isR x.1) (match w.1[x.1.2.1.toNat]? with
      | some k => cond (Nat.beq k.1 1 && (Nat.beq k.2.1 o.2.2.1 && ile (k.2.2.1 + 1) 2147483648)) (some [(o.1, s.1, ((0, k.2.2.1, k.2.2.1), 0, 0, 0) :: K, s.2.2)]) none
      | none => none) none)
  | 23 => match (CT o.2.2.1).find? (fun q => an_les (s.2.1.take o.2.2.2.1).reverse q.1) with
    | some q => cond (Nat.ble o.2.2.2.1 s.2.1.length && (an_les (s.2.1.take o.2.2.2.1).reverse q.1 && (Nat.ble ((s.2.1.drop o.2.2.2.1).map (fun e => an_cat e.1)).sum 8 && ((s.2.1.drop o.2.2.2.1).all (fun e => Nat.ble (e.1.1 + 1) 3 || Nat.beq e.1.1 4) && (an_sub q.2.2 Q.2.2 && (!decide (o.2.2.2.2.2.1 = 1) || (match (s.2.1.take o.2.2.2.1).reverse with
        | x :: _ => cond (an_isR x.1) (match w.1[x.1.2.1.toNat]? with
          | some k => Nat.beq k.1 0 && Nat.beq k.2.1 o.2.2.2.2.1
          | none => false) false
        | [] => false))))))) (some [(o.1, s.1, (match q.2.1 with
          | some v => [(v, 0, 0, 0)]
          | none => []) ++ an_mE q.2.2 (s.2.1.drop o.2.2.2.1), an_mF q.2.2 s.2.2.1, s.2.2.2)]) none
    | none => none
  | 24 => match s.2.1, Q.2.1 with
    | [], none => some []
    | _, _ => none
  | 25 => match s.2.1, Q.2.1 with
    | [e], some v => cond (an_le e.1 v && an_ok o.2.2.1 e.1) (some []) none
    | _, _ => none
  | 26 => some [(o.1, s.1, ((0, w32 o.2.2.2.2.2.1, w32 o.2.2.2.2.2.1), 0, 0, 0) :: s.2.1, s.2.2)]
  | 27 => some [(o.1, s.1, ((1, w64 o.2.2.2.2.2.1, w64 o.2.2.2.2.2.1), 0, 0, 0) :: s.2.1, s.2.2)]
  | 28 => e5 s.2.1 (fun n dp b sp a K => cond (an_isI n.1 && (an_isI dp.1 && (an_isI sp.1 && (an_isR a.1 && an_isR b.1)))) (match w.1[a.1.2.1.toNat]?, w.1[b.1.2.1.toNat]? with
      | some ka, some kb => match ka.2.2.2[0]?, kb.2.2.2[0]? with
        | some va, some vb => cond (Nat.beq ka.1 1 && (Nat.beq ka.2.1 o.2.2.1 && (Nat.beq kb.1 1 && (Nat.beq kb.2.1 o.2.2.1 && (ile 0 n.1.2.1 && (ile 0 dp.1.2.1 && (ile 0 sp.1.2.1 && (ile (sp.1.2.2 + n.1.2.2) ka.2.2.1 && (ile (dp.1.2.2 + n.1.2.2) kb.2.2.1 && (an_le va vb && (Nat.ble ((K.map (fun e => an_cat e.1)).sum + 18) o.2.2.2.2.1 && (K.all (fun e => Nat.ble (e.1.1 + 1) 3 || Nat.beq e.1.1 4) && (Nat.ble (o.2.2.1 + 1) 2 && Q.2.2.contains (10000 + b.1.2.1.toNat)))))))))))))) (some [(o.1, s.1, K, s.2.2)]) none
        | _, _ => none
      | _, _ => none) none)
  | 29 => e2 s.2.1 (fun y x K => cond (an_isI x.1 && (an_isI y.1 && (Nat.ble ((K.map (fun e => an_cat e.1)).sum + 13) o.2.2.2.2.1 && K.all (fun e => Nat.ble (e.1.1 + 1) 3 || Nat.beq e.1.1 4)))) (some [(o.1, s.1, (cond (Nat.beq o.2.2.1 0) (0, max x.1.2.1 y.1.2.1, max x.1.2.2 y.1.2.2) (0, min x.1.2.1 y.1.2.1, min x.1.2.2 y.1.2.2), 0, 0, 0) :: K, s.2.2)]) none)
  | 30 => e1 s.2.1 (fun x K => cond ((an_isI x.1 && ile x.1.2.2 2147483647) && (Nat.ble ((K.map (fun e => an_cat e.1)).sum + 13) o.2.2.2.2.1 && K.all (fun e => Nat.ble (e.1.1 + 1) 3 || Nat.beq e.1.1 4))) (some [(o.1, s.1, (cond (ile 0 x.1.2.1) x.1 (an_ck (cond (ile (-2147483647) x.1.2.1) 0 (-2147483648)) (an_abs x.1)), 0, 0, 0) :: K, s.2.2)]) none)
  | _ => none
