/-! A PLAIN MACHINE: values are (kind, whole number): 0 int, 1 long, 2 reference (the number of a cell, -1 for none). The cells' shapes stay: 'sh' tells them; A k j is the j-th number in cell k. -/
abbrev pm_V : Type := Nat × Int
abbrev pm_A : Type := Int → Int → Int
abbrev pm_S : Type := List pm_V × List pm_V × pm_A
abbrev pm_R : Type := Option pm_V × pm_A
abbrev pm_O : Type := (Nat × pm_S) ⊕ pm_R
abbrev pm_C : Type := Nat → List pm_V → pm_A → Option pm_R
abbrev pm_Sh : Type := Int → Nat × Nat × Int
def w32 (x : Int) : Int := (x + 2147483648) % 4294967296 - 2147483648
def w64 (x : Int) : Int := (x + 9223372036854775808) % 18446744073709551616 - 9223372036854775808
def pp_bi (a : Nat) (x y : Int) : Int := match a with
  | 0 => w32 (x + y)
  | 1 => w32 (x - y)
  | 2 => w32 (x * y)
  | n + 3 => (o_bi (n + 3) (Int32.ofInt x) (Int32.ofInt y)).toInt
def pp_lb (a : Nat) (x y : Int) : Int := match a with
  | 0 => w64 (x + y)
  | 1 => w64 (x - y)
  | 2 => w64 (x * y)
  | n + 3 => (o_lb (n + 3) (Int64.ofInt x) (Int64.ofInt y)).toInt
def pp_un (a : Nat) (K : List pm_V) : Option (List pm_V) := match a with
  | 0 => match K with
    | (0, x) :: r => some ((0, w32 (-x)) :: r)
    | _ => none
  | 1 => match K with
    | (1, x) :: r => some ((1, w64 (-x)) :: r)
    | _ => none
  | 2 => match K with
    | (0, x) :: r => some ((1, x) :: r)
    | _ => none
  | 3 => match K with
    | (1, x) :: r => some ((0, w32 x) :: r)
    | _ => none
  | 4 => match K with
    | (1, y) :: (1, x) :: r => some ((0, if y < x then 1 else if x = y then 0 else -1) :: r)
    | _ => none
  | 5 => match K with
    | (0, x) :: r => some ((0, x) :: (0, x) :: r)
    | (2, x) :: r => some ((2, x) :: (2, x) :: r)
    | _ => none
  | 6 => match K with
    | (0, x) :: (0, y) :: r => some ((0, x) :: (0, y) :: (0, x) :: (0, y) :: r)
    | (0, x) :: (2, y) :: r => some ((0, x) :: (2, y) :: (0, x) :: (2, y) :: r)
    | _ => none
  | _ => match K with
    | (0, _) :: r => some r
    | (2, _) :: r => some r
    | _ => none
def pp_tst (op : Nat) (x y : Int) : Bool := match op with
  | 0 => decide (x < y)
  | 1 => decide (y ≤ x)
  | 2 => decide (y < x)
  | 3 => decide (x ≤ y)
  | 4 => decide (x = y)
  | _ => !decide (x = y)
def pm_kill (L : List pm_V) : Nat → List pm_V
  | 0 => L
  | j + 1 => match L[j]? with
    | some (1, _) => L.set j (9, 0)
    | _ => L
def pm_put1 (L : List pm_V) (i : Nat) (v : pm_V) : List pm_V := (pm_kill L i).set i v
def pm_put2 (L : List pm_V) (i : Nat) (v : pm_V) : List pm_V := ((pm_kill L i).set i v).set (i + 1) (9, 0)
def pm_upd (A : pm_A) (k i v : Int) : pm_A := fun k' i' => if k' = k ∧ i' = i then v else A k' i'
def pm_cpy (A : pm_A) (a sp b dp n : Int) : pm_A := fun k i => if k = b ∧ (dp ≤ i ∧ i < dp + n) then A a (sp + (i - dp)) else A k i
def pm_kd : Nat → Nat
  | 0 => 0
  | 1 => 1
  | 2 => 0
  | _ => 2
def pm_okt : Nat → pm_V → Bool
  | 0, v => Nat.beq v.1 0
  | 1, v => Nat.beq v.1 1
  | 2, v => Nat.beq v.1 0 && (decide (v.2 = 0) || decide (v.2 = 1))
  | _, v => Nat.beq v.1 2
def pm_cat (v : pm_V) : Nat := if v.1 = 1 then 2 else 1
def pm_recv (sh : pm_Sh) (ci : Nat) : List pm_V → Bool
  | (2, r) :: _ => decide (0 ≤ r ∧ (sh r).1 = 0 ∧ (sh r).2.1 = ci)
  | _ => false
/-- the kind of a field -/
def pm_ftk (ci k : Nat) : Nat := match o_tyc ci k with
  | .long => 1
  | .object _ => 2
  | .array _ => 2
  | _ => 0
def k_i {α : Type} (K : List pm_V) (f : Int → List pm_V → Option α) : Option α := match K with
  | (0, x) :: r => f x r
  | _ => none
def k_ii {α : Type} (K : List pm_V) (f : Int → Int → List pm_V → Option α) : Option α := match K with
  | (0, y) :: (0, x) :: r => f y x r
  | _ => none
def k_ll {α : Type} (K : List pm_V) (f : Int → Int → List pm_V → Option α) : Option α := match K with
  | (1, y) :: (1, x) :: r => f y x r
  | _ => none
def k_il {α : Type} (K : List pm_V) (f : Int → Int → List pm_V → Option α) : Option α := match K with
  | (0, y) :: (1, x) :: r => f y x r
  | _ => none
def k_r {α : Type} (K : List pm_V) (f : Int → List pm_V → Option α) : Option α := match K with
  | (2, x) :: r => f x r
  | _ => none
def k_vr {α : Type} (K : List pm_V) (f : pm_V → Int → List pm_V → Option α) : Option α := match K with
  | v :: (2, x) :: r => f v x r
  | _ => none
def k_ir {α : Type} (K : List pm_V) (f : Int → Int → List pm_V → Option α) : Option α := match K with
  | (0, i) :: (2, x) :: r => f i x r
  | _ => none
def k_vir {α : Type} (K : List pm_V) (f : pm_V → Int → Int → List pm_V → Option α) : Option α := match K with
  | v :: (0, i) :: (2, x) :: r => f v i x r
  | _ => none
def k_rir {α : Type} (K : List pm_V) (f : Int → Int → Int → List pm_V → Option α) : Option α := match K with
  | (2, b) :: (0, i) :: (2, x) :: r => f b i x r
  | _ => none
def k_cp {α : Type} (K : List pm_V) (f : Int → Int → Int → Int → Int → List pm_V → Option α) : Option α := match K with
  | (0, n) :: (0, dp) :: (2, b) :: (0, sp) :: (2, a) :: r => f n dp b sp a r
  | _ => none
def k_v {α : Type} (K : List pm_V) (f : pm_V → List pm_V → Option α) : Option α := match K with
  | v :: r => f v r
  | _ => none
theorem k_i_s {α : Type} {K : List pm_V} {f : Int → List pm_V → Option α} {o : α} (h : k_i K f = some o) : ∃ x r, K = (0, x) :: r ∧ f x r = some o := by
  unfold k_i at h
  split at h
  · exact ⟨_, _, rfl, h⟩
  · cases h
theorem k_ii_s {α : Type} {K : List pm_V} {f : Int → Int → List pm_V → Option α} {o : α} (h : k_ii K f = some o) : ∃ y x r, K = (0, y) :: (0, x) :: r ∧ f y x r = some o := by
  unfold k_ii at h
  split at h
  · exact ⟨_, _, _, rfl, h⟩
  · cases h
theorem k_ll_s {α : Type} {K : List pm_V} {f : Int → Int → List pm_V → Option α} {o : α} (h : k_ll K f = some o) : ∃ y x r, K = (1, y) :: (1, x) :: r ∧ f y x r = some o := by
  unfold k_ll at h
  split at h
  · exact ⟨_, _, _, rfl, h⟩
  · cases h
theorem k_il_s {α : Type} {K : List pm_V} {f : Int → Int → List pm_V → Option α} {o : α} (h : k_il K f = some o) : ∃ y x r, K = (0, y) :: (1, x) :: r ∧ f y x r = some o := by
  unfold k_il at h
  split at h
  · exact ⟨_, _, _, rfl, h⟩
  · cases h
theorem k_r_s {α : Type} {K : List pm_V} {f : Int → List pm_V → Option α} {o : α} (h : k_r K f = some o) : ∃ x r, K = (2, x) :: r ∧ f x r = some o := by
  unfold k_r at h
  split at h
  · exact ⟨_, _, rfl, h⟩
  · cases h
theorem k_vr_s {α : Type} {K : List pm_V} {f : pm_V → Int → List pm_V → Option α} {o : α} (h : k_vr K f = some o) : ∃ v x r, K = v :: (2, x) :: r ∧ f v x r = some o := by
  unfold k_vr at h
  split at h
  · exact ⟨_, _, _, rfl, h⟩
  · cases h
theorem k_ir_s {α : Type} {K : List pm_V} {f : Int → Int → List pm_V → Option α} {o : α} (h : k_ir K f = some o) : ∃ i x r, K = (0, i) :: (2, x) :: r ∧ f i x r = some o := by
  unfold k_ir at h
  split at h
  · exact ⟨_, _, _, rfl, h⟩
  · cases h
theorem k_vir_s {α : Type} {K : List pm_V} {f : pm_V → Int → Int → List pm_V → Option α} {o : α} (h : k_vir K f = some o) : ∃ v i x r, K = v :: (0, i) :: (2, x) :: r ∧ f v i x r = some o := by
  unfold k_vir at h
  split at h
  · exact ⟨_, _, _, _, rfl, h⟩
  · cases h
theorem k_rir_s {α : Type} {K : List pm_V} {f : Int → Int → Int → List pm_V → Option α} {o : α} (h : k_rir K f = some o) : ∃ b i x r, K = (2, b) :: (0, i) :: (2, x) :: r ∧ f b i x r = some o := by
  unfold k_rir at h
  split at h
  · exact ⟨_, _, _, _, rfl, h⟩
  · cases h
theorem k_cp_s {α : Type} {K : List pm_V} {f : Int → Int → Int → Int → Int → List pm_V → Option α} {o : α} (h : k_cp K f = some o) : ∃ n dp b sp a r, K = (0, n) :: (0, dp) :: (2, b) :: (0, sp) :: (2, a) :: r ∧ f n dp b sp a r = some o := by
  unfold k_cp at h
  split at h
  · exact ⟨_, _, _, _, _, _, rfl, h⟩
  · cases h
theorem k_v_s {α : Type} {K : List pm_V} {f : pm_V → List pm_V → Option α} {o : α} (h : k_v K f = some o) : ∃ v r, K = v :: r ∧ f v r = some o := by
  unfold k_v at h
  split at h
  · exact ⟨_, _, rfl, h⟩
  · cases h
def k_if {α : Type} (b : Bool) (x : α) : Option α := cond b (some x) none
theorem k_if_s {α : Type} {b : Bool} {x y : α} (h : k_if b x = some y) : b = true ∧ y = x := by
  cases b with
  | true => exact ⟨rfl, (Option.some.inj h).symm⟩
  | false => cases h
def pm_step (sh : pm_Sh) (rec : pm_C) (o : pm_Op) (s : pm_S) : Option pm_O := match o.2.1 with
  | 0 => some (.inl (o.1, (s.1, (0, w32 o.2.2.2.2.2.1) :: s.2.1, s.2.2)))
  | 1 => some (.inl (o.1, (s.1, (1, w64 o.2.2.1) :: s.2.1, s.2.2)))
  | 2 => some (.inl (o.1, (s.1, (2, -1) :: s.2.1, s.2.2)))
  | 3 => match s.1[o.2.2.2.1]? with
    | some v => k_if (decide (v.1 = o.2.2.1 ∧ o.2.2.1 < 3)) (.inl (o.1, (s.1, v :: s.2.1, s.2.2)))
    | none => none
  | 4 => k_v s.2.1 (fun v K => k_if (decide (v.1 = o.2.2.1 ∧ o.2.2.1 < 3 ∧ o.2.2.2.1 + pm_cat v ≤ o.2.2.2.2.1)) (.inl (o.1, (if o.2.2.1 = 1 then pm_put2 s.1 o.2.2.2.1 v else pm_put1 s.1 o.2.2.2.1 v, K, s.2.2))))
  | 5 => match s.1[o.2.2.1]? with
    | some (0, x) => k_if (decide (o.2.2.1 + 1 ≤ o.2.2.2.2.1)) (.inl (o.1, (pm_put1 s.1 o.2.2.1 (0, w32 (x + o.2.2.2.2.2.1)), s.2.1, s.2.2)))
    | _ => none
  | 6 => k_ii s.2.1 (fun y x K => some (.inl (o.1, (s.1, (0, pp_bi o.2.2.1 x y) :: K, s.2.2))))
  | 7 => k_ii s.2.1 (fun y x K => if y = 0 then none else some (.inl (o.1, (s.1, (0, (o_bid o.2.2.1 (Int32.ofInt x) (Int32.ofInt y)).toInt) :: K, s.2.2))))
  | 8 => k_ll s.2.1 (fun y x K => some (.inl (o.1, (s.1, (1, pp_lb o.2.2.1 x y) :: K, s.2.2))))
  | 9 => k_ll s.2.1 (fun y x K => if y = 0 then none else some (.inl (o.1, (s.1, (1, (o_lbd o.2.2.1 (Int64.ofInt x) (Int64.ofInt y)).toInt) :: K, s.2.2))))
  | 10 => k_il s.2.1 (fun y x K => some (.inl (o.1, (s.1, (1, (o_ls o.2.2.1 (Int64.ofInt x) (Int32.ofInt y)).toInt) :: K, s.2.2))))
  | 11 => match pp_un o.2.2.1 s.2.1 with
    | some K => some (.inl (o.1, (s.1, K, s.2.2)))
    | none => none
  | 12 => some (.inl (o.2.2.2.1, s))
  | 13 => k_r s.2.1 (fun x K => some (.inl (if x < 0 then o.2.2.2.1 else o.1, (s.1, K, s.2.2))))
  | 14 => k_ii s.2.1 (fun y x K => some (.inl (cond (pp_tst o.2.2.1 x y) o.2.2.2.1 o.1, (s.1, K, s.2.2))))
  | 15 => k_i s.2.1 (fun x K => some (.inl (cond (pp_tst o.2.2.1 x 0) o.2.2.2.1 o.1, (s.1, K, s.2.2))))
  | 16 => k_i s.2.1 (fun x K => if x < o.2.2.2.2.2.1 ∨ o.2.2.2.2.2.1 + o.2.2.2.2.2.2.length - 1 < x then some (.inl (o.2.2.2.1, (s.1, K, s.2.2))) else match o.2.2.2.2.2.2[(x - o.2.2.2.2.2.1).toNat]? with
      | some t => some (.inl (t, (s.1, K, s.2.2)))
      | none => none)
  | 17 => k_r s.2.1 (fun r K => k_if (decide (0 ≤ r ∧ (sh r).1 = 0 ∧ (sh r).2.1 = o.2.2.1 ∧ (o.2.2.2.1 : Int) < (sh r).2.2)) (.inl (o.1, (s.1, (pm_ftk o.2.2.1 o.2.2.2.1, s.2.2 r o.2.2.2.1) :: K, s.2.2))))
  | 18 => k_vr s.2.1 (fun v r K => k_if (decide (0 ≤ r ∧ (sh r).1 = 0 ∧ (sh r).2.1 = o.2.2.1 ∧ (o.2.2.2.1 : Int) < (sh r).2.2 ∧ pm_okt o.2.2.2.2.1 v = true ∧ v.1 = pm_ftk o.2.2.1 o.2.2.2.1)) (.inl (o.1, (s.1, K, pm_upd s.2.2 r o.2.2.2.1 v.2))))
  | 19 => k_ir s.2.1 (fun i r K => k_if (decide (0 ≤ r ∧ (sh r).1 = 1 ∧ (sh r).2.1 = o.2.2.1 ∧ 0 ≤ i ∧ i < (sh r).2.2)) (.inl (o.1, (s.1, (pm_kd o.2.2.1, s.2.2 r i) :: K, s.2.2))))
  | 20 => k_vir s.2.1 (fun v i r K => k_if (decide (0 ≤ r ∧ (sh r).1 = 1 ∧ (sh r).2.1 = o.2.2.1 ∧ 0 ≤ i ∧ i < (sh r).2.2 ∧ o.2.2.1 < 3 ∧ pm_okt o.2.2.1 v = true)) (.inl (o.1, (s.1, K, pm_upd s.2.2 r i v.2))))
  | 21 => k_rir s.2.1 (fun b i r K => k_if (decide (0 ≤ r ∧ (sh r).1 = 1 ∧ (sh r).2.1 = o.2.2.1 ∧ 0 ≤ i ∧ i < (sh r).2.2 ∧ 2 < o.2.2.1 ∧ 0 ≤ b ∧ (sh b).1 = 0 ∧ (sh b).2.1 = o.2.2.2.1)) (.inl (o.1, (s.1, K, pm_upd s.2.2 r i b))))
  | 22 => k_r s.2.1 (fun r K => k_if (decide (0 ≤ r ∧ (sh r).1 = 1 ∧ (sh r).2.1 = o.2.2.1 ∧ (sh r).2.2 < 2147483648)) (.inl (o.1, (s.1, (0, (sh r).2.2) :: K, s.2.2))))
  | 23 => if (s.2.1.take o.2.2.2.1).length = o.2.2.2.1 ∧ ((s.2.1.drop o.2.2.2.1).map pm_cat).sum ≤ 8 ∧ (!decide (o.2.2.2.2.2.1 = 1) || pm_recv sh o.2.2.2.2.1 (s.2.1.take o.2.2.2.1).reverse) = true then
      match rec o.2.2.1 (s.2.1.take o.2.2.2.1).reverse s.2.2 with
      | none => none
      | some (v, A') => some (.inl (o.1, (s.1, v.toList ++ s.2.1.drop o.2.2.2.1, A'))) else none
  | 24 => match s.2.1 with
    | [] => some (.inr (none, s.2.2))
    | _ => none
  | 25 => match s.2.1 with
    | [v] => if pm_okt o.2.2.1 v = true then some (.inr (some v, s.2.2)) else none
    | _ => none
  | 26 => some (.inl (o.1, (s.1, (0, w32 o.2.2.2.2.2.1) :: s.2.1, s.2.2)))
  | 27 => some (.inl (o.1, (s.1, (1, w64 o.2.2.2.2.2.1) :: s.2.1, s.2.2)))
  | 28 => k_cp s.2.1 (fun n dp b sp a K => k_if (decide (0 ≤ a ∧ 0 ≤ b ∧ (sh a).1 = 1 ∧ (sh a).2.1 = o.2.2.1 ∧ (sh b).1 = 1 ∧ (sh b).2.1 = o.2.2.1 ∧ 0 ≤ n ∧ 0 ≤ dp ∧ 0 ≤ sp ∧ sp + n ≤ (sh a).2.2 ∧ dp + n ≤ (sh b).2.2 ∧ (K.map pm_cat).sum + 18 ≤ o.2.2.2.2.1 ∧ o.2.2.1 < 2)) (.inl (o.1, (s.1, K, pm_cpy s.2.2 a sp b dp n))))
  | 29 => k_ii s.2.1 (fun y x K => k_if (decide ((K.map pm_cat).sum + 13 ≤ o.2.2.2.2.1)) (.inl (o.1, (s.1, (0, if o.2.2.1 = 0 then (if x < y then y else x) else (if y < x then y else x)) :: K, s.2.2))))
  | 30 => k_i s.2.1 (fun x K => k_if (decide ((K.map pm_cat).sum + 13 ≤ o.2.2.2.2.1)) (.inl (o.1, (s.1, (0, if 0 ≤ x then x else w32 (0 - x)) :: K, s.2.2))))
  | _ => none
def pm_seek (pc : Nat) : pm_P → pm_P
  | [] => []
  | q :: t => cond (Nat.beq q.1 pc) (q :: t) (pm_seek pc t)
def pm_next (full : pm_P) (pc : Nat) : pm_P → pm_P
  | [] => pm_seek pc full
  | q :: t => cond (Nat.beq q.1 pc) (q :: t) (pm_seek pc full)
def pm_lay : List pm_V → List pm_V
  | [] => []
  | v :: t => if v.1 = 1 then v :: (9, 0) :: pm_lay t else v :: pm_lay t
def pm_args (n : Nat) (a : List pm_V) : List pm_V := pm_lay a ++ List.replicate (n - (a.map pm_cat).sum) (9, 0)
/-- the methods: locals and operations -/
abbrev pm_T : Type := Nat → Nat × pm_P
def pm_run (PT : pm_T) (sh : pm_Sh) : Nat → pm_P → pm_P → pm_S → Option pm_R
  | 0, _, _, _ => none
  | _ + 1, _, [], _ => none
  | n + 1, full, q :: rest, s => match pm_step sh (fun mid a A => if (a.map pm_cat).sum ≤ (PT mid).1 then pm_run PT sh n (PT mid).2 (pm_seek 0 (PT mid).2) (pm_args (PT mid).1 a, [], A) else none) q.2 s with
    | none => none
    | some (.inr r) => some r
    | some (.inl (pc, s')) => pm_run PT sh n full (pm_next full pc rest) s'
def pm_call (PT : pm_T) (sh : pm_Sh) (n : Nat) : pm_C := fun mid a A => if (a.map pm_cat).sum ≤ (PT mid).1 then pm_run PT sh n (PT mid).2 (pm_seek 0 (PT mid).2) (pm_args (PT mid).1 a, [], A) else none
theorem pm_run_s (PT : pm_T) (sh : pm_Sh) (n : Nat) (full : pm_P) (q : Nat × pm_Op) (rest : pm_P) (s : pm_S) : pm_run PT sh (n + 1) full (q :: rest) s = match pm_step sh (pm_call PT sh n) q.2 s with
    | none => none
    | some (.inr r) => some r
    | some (.inl (pc, s')) => pm_run PT sh n full (pm_next full pc rest) s' := rfl
/-! WHAT STANDS FOR WHAT -/
def pv (p : pm_V) (v : Value) : Prop := match p.1 with
  | 0 => ∃ i : Int32, v = .int i ∧ i.toInt = p.2
  | 1 => ∃ i : Int64, v = .long i ∧ i.toInt = p.2
  | 2 => (p.2 = -1 ∧ v = .null) ∨ (0 ≤ p.2 ∧ v = .ref p.2.toNat)
  | _ => False
def pl : List pm_V → List Value → Prop
  | [], [] => True
  | p :: ps, v :: vs => pv p v ∧ pl ps vs
  | _, _ => False
def plv (L : List pm_V) (lv : rx_L) : Prop := ∀ (i : Nat) (p : pm_V), L[i]? = some p → p.1 < 3 → ∃ v, rx_find lv i = some v ∧ pv p v
def pw (sh : pm_Sh) (A : pm_A) (ws : rx_W) : Prop := ∀ k : Nat,
  ((sh k).1 = 0 → ∃ fs, ws[k]? = some (.inl ((sh k).2.1, fs)) ∧ (fs.length : Int) = (sh k).2.2 ∧ ∀ (j : Nat) (v : Value), fs[j]? = some v → pv (pm_ftk (sh k).2.1 j, A k j) v) ∧
  ((sh k).1 = 1 → ∃ (m : Nat) (u : List (Nat × Value)) (d : Value), (m : Int) = (sh k).2.2 ∧ ws[k]? = some (.inr ((sh k).2.1, m, u, d)) ∧ ∀ j : Nat, j < m → pv (pm_kd (sh k).2.1, A k j) (rx_look u d j))
def po : Option pm_V → Option Value → Prop
  | none, none => True
  | some p, some v => pv p v
  | _, _ => False
def pO (sh : pm_Sh) : pm_O → rx_O → Prop
  | .inl (pc, s), .inl (pc', lv, st, ws, c0, s0) => pc = pc' ∧ plv s.1 lv ∧ pl s.2.1 st ∧ pw sh s.2.2 ws ∧ c0 = 0 ∧ s0 = 0
  | .inr r, .inr r' => po r.1 r'.1 ∧ pw sh r.2 r'.2
  | _, _ => False
theorem w32_eq (x : Int) : w32 x = x.bmod (2 ^ 32) := by
  unfold w32
  show (x + 2147483648) % 4294967296 - 2147483648 = if x % 4294967296 < 2147483648 then x % 4294967296 else x % 4294967296 - 4294967296
  split <;> omega
theorem w64_eq (x : Int) : w64 x = x.bmod (2 ^ 64) := by
  unfold w64
  show (x + 9223372036854775808) % 18446744073709551616 - 9223372036854775808 = if x % 18446744073709551616 < 9223372036854775808 then x % 18446744073709551616 else x % 18446744073709551616 - 18446744073709551616
  split <;> omega
theorem pl_len : ∀ {K : List pm_V} {st : List Value}, pl K st → K.length = st.length
  | [], [], _ => rfl
  | _ :: _, _ :: _, h => congrArg (· + 1) (pl_len h.2)
  | [], _ :: _, h => h.elim
  | _ :: _, [], h => h.elim
theorem pl_take : ∀ (n : Nat) {K : List pm_V} {st : List Value}, pl K st → pl (K.take n) (st.take n) ∧ pl (K.drop n) (st.drop n)
  | 0, _, _, h => ⟨trivial, h⟩
  | _ + 1, [], [], _ => ⟨trivial, trivial⟩
  | n + 1, _ :: _, _ :: _, h => ⟨⟨h.1, (pl_take n h.2).1⟩, (pl_take n h.2).2⟩
  | _ + 1, [], _ :: _, h => h.elim
  | _ + 1, _ :: _, [], h => h.elim
theorem pl_app : ∀ {a c : List pm_V} {b d : List Value}, pl a b → pl c d → pl (a ++ c) (b ++ d)
  | [], _, [], _, _, h => h
  | _ :: _, _, _ :: _, _, h, g => ⟨h.1, pl_app h.2 g⟩
  | [], _, _ :: _, _, h, _ => h.elim
  | _ :: _, _, [], _, h, _ => h.elim
theorem pl_rev : ∀ {a : List pm_V} {b : List Value}, pl a b → pl a.reverse b.reverse
  | [], [], _ => trivial
  | v :: vs, w :: ws, h => by
    rw [List.reverse_cons, List.reverse_cons]
    exact pl_app (pl_rev h.2) ⟨h.1, trivial⟩
  | [], _ :: _, h => h.elim
  | _ :: _, [], h => h.elim
theorem pv_cat {p : pm_V} {v : Value} (h : pv p v) : rx_cat v = pm_cat p := by
  obtain ⟨t, x⟩ := p
  match t, h with
  | 0, ⟨i, h1, _⟩ => subst h1; rfl
  | 1, ⟨i, h1, _⟩ => subst h1; rfl
  | 2, Or.inl ⟨_, h1⟩ => subst h1; rfl
  | 2, Or.inr ⟨_, h1⟩ => subst h1; rfl
  | n + 3, h => exact h.elim
theorem pl_cat : ∀ {K : List pm_V} {st : List Value}, pl K st → (st.map rx_cat).sum = (K.map pm_cat).sum
  | [], [], _ => rfl
  | _ :: _, _ :: _, h => by
    simp only [List.map_cons, List.sum_cons]
    rw [pv_cat h.1, pl_cat h.2]
  | [], _ :: _, h => h.elim
  | _ :: _, [], h => h.elim
theorem pv_is {p : pm_V} {v : Value} (h : pv p v) : rx_is p.1 v = true := by
  obtain ⟨t, x⟩ := p
  match t, h with
  | 0, ⟨i, h1, _⟩ => subst h1; rfl
  | 1, ⟨i, h1, _⟩ => subst h1; rfl
  | 2, Or.inl ⟨_, h1⟩ => subst h1; rfl
  | 2, Or.inr ⟨_, h1⟩ => subst h1; rfl
  | n + 3, h => exact h.elim
theorem pv_okt {a : Nat} {p : pm_V} {v : Value} (h : pv p v) (hk : pm_okt a p = true) : rx_okty (fty a) v = true := by
  obtain ⟨t, x⟩ := p
  match a, hk with
  | 0, hk => cases Nat.eq_of_beq_eq_true hk; obtain ⟨i, rfl, _⟩ := h; rfl
  | 1, hk => cases Nat.eq_of_beq_eq_true hk; obtain ⟨i, rfl, _⟩ := h; rfl
  | 2, hk =>
    simp only [pm_okt, Bool.and_eq_true, Bool.or_eq_true, decide_eq_true_eq] at hk
    cases Nat.eq_of_beq_eq_true hk.1
    obtain ⟨i, rfl, hi⟩ := h
    show (decide (i = 0) || decide (i = 1)) = true
    simp only [Bool.or_eq_true, decide_eq_true_eq, ← Int32.toInt_inj]
    rcases hk.2 with e | e
    · left; rw [hi]; exact e
    · right; rw [hi]; exact e
  | n + 3, hk =>
    have e := Nat.eq_of_beq_eq_true (show Nat.beq t 2 = true from hk)
    subst e
    rcases h with ⟨_, h1⟩ | ⟨_, h1⟩
    · subst h1; rfl
    · subst h1; rfl
theorem rx_find_filter {f : Nat × Value → Bool} : ∀ {lv : rx_L} {j : Nat} {v : Value}, rx_find lv j = some v → f (j, v) = true → rx_find (lv.filter f) j = some v
  | [], _, _, h, _ => by cases h
  | (k, w) :: t, j, v, h, hf => by
    simp only [rx_find] at h
    cases hb : Nat.beq j k with
    | true =>
      rw [hb] at h
      cases h
      have e := Nat.eq_of_beq_eq_true hb
      subst e
      rw [List.filter_cons, if_pos hf]
      simp only [rx_find, hb, cond_true]
    | false =>
      rw [hb] at h
      have ih := rx_find_filter (f := f) (lv := t) h hf
      rw [List.filter_cons]
      split
      · simp only [rx_find, hb, cond_false]; exact ih
      · exact ih
theorem rx_find_hd {lv : rx_L} {i : Nat} {v : Value} : rx_find ((i, v) :: lv) i = some v := by
  simp [rx_find]
theorem rx_find_tl {lv : rx_L} {i j : Nat} {v : Value} (h : ¬ j = i) : rx_find ((i, v) :: lv) j = rx_find lv j := by
  have : Nat.beq j i = false := by rw [← Bool.not_eq_true]; exact fun q => h (Nat.eq_of_beq_eq_true q)
  simp [rx_find, this]
theorem pv_cat1 {p : pm_V} {v : Value} (h : pv p v) (h1 : p.1 ≠ 1) : rx_cat v = 1 := by
  rw [pv_cat h]; simp [pm_cat, h1]
theorem pm_kill_get {L : List pm_V} {i j : Nat} {p : pm_V} (h : (pm_kill L i)[j]? = some p) (hp : p.1 < 3) : L[j]? = some p ∧ (j + 1 = i → p.1 ≠ 1) := by
  cases i with
  | zero => exact ⟨h, fun q => by omega⟩
  | succ i =>
    simp only [pm_kill] at h
    split at h
    · next x hx =>
      rw [List.getElem?_set] at h
      split at h
      · next e =>
        subst e
        split at h
        · cases h; exact absurd hp (by decide)
        · cases h
      · next e => exact ⟨h, fun q => absurd (by omega : i = j) e⟩
    · next hx =>
      refine ⟨h, fun q h1 => ?_⟩
      have e : j = i := by omega
      subst e
      obtain ⟨t, x⟩ := p
      simp only at h1
      subst h1
      exact hx x h
theorem plv_put1 {L : List pm_V} {lv : rx_L} {i : Nat} {p : pm_V} {v : Value} (h : plv L lv) (hv : pv p v) : plv (pm_put1 L i p) ((i, v) :: rx_put1 lv i) := by
  intro j q hq hp
  unfold pm_put1 at hq
  rw [List.getElem?_set] at hq
  by_cases e : i = j
  · subst e
    rw [if_pos rfl] at hq
    split at hq
    · cases hq; exact ⟨v, rx_find_hd, hv⟩
    · cases hq
  · rw [if_neg e] at hq
    obtain ⟨g1, g2⟩ := pm_kill_get hq hp
    obtain ⟨w, g3, g4⟩ := h j q g1 hp
    refine ⟨w, ?_, g4⟩
    rw [rx_find_tl (fun z => e z.symm)]
    refine rx_find_filter g3 ?_
    have e1 : (j == i) = false := by simp; omega
    simp only [e1, Bool.not_false, Bool.true_and, Bool.not_eq_true', Bool.and_eq_false_iff]
    by_cases e2 : j + 1 = i
    · right
      rw [pv_cat1 g4 (g2 e2)]; rfl
    · left; simp; omega
theorem plv_put2 {L : List pm_V} {lv : rx_L} {i : Nat} {p : pm_V} {v : Value} (h : plv L lv) (hv : pv p v) : plv (pm_put2 L i p) ((i, v) :: rx_put2 lv i) := by
  intro j q hq hp
  unfold pm_put2 at hq
  rw [List.getElem?_set] at hq
  by_cases e3 : i + 1 = j
  · rw [if_pos e3] at hq
    split at hq
    · cases hq; exact absurd hp (by decide)
    · cases hq
  rw [if_neg e3, List.getElem?_set] at hq
  by_cases e : i = j
  · subst e
    rw [if_pos rfl] at hq
    split at hq
    · cases hq; exact ⟨v, rx_find_hd, hv⟩
    · cases hq
  · rw [if_neg e] at hq
    obtain ⟨g1, g2⟩ := pm_kill_get hq hp
    obtain ⟨w, g3, g4⟩ := h j q g1 hp
    refine ⟨w, ?_, g4⟩
    rw [rx_find_tl (fun z => e z.symm)]
    refine rx_find_filter g3 ?_
    have e1 : (j == i) = false := by simp; omega
    have e4 : (j == i + 1) = false := by simp; omega
    simp only [e1, e4, Bool.not_false, Bool.true_and, Bool.not_eq_true', Bool.and_eq_false_iff]
    by_cases e2 : j + 1 = i
    · right
      rw [pv_cat1 g4 (g2 e2)]; rfl
    · left; simp; omega
theorem pm_lay_get : ∀ {a : List pm_V} {ca : List Value} (i : Nat), pl a ca → ∀ (j : Nat) (p : pm_V), (pm_lay a)[j]? = some p → p.1 < 3 → ∃ v, rx_find (rx_args i ca) (i + j) = some v ∧ pv p v
  | [], [], _, _, _, _, h, _ => by simp [pm_lay] at h
  | q :: qs, w :: ws, i, hl, j, p, h, hp => by
    have hc := pv_cat hl.1
    simp only [pm_lay] at h
    simp only [rx_args]
    by_cases e : q.1 = 1
    · rw [if_pos e] at h
      have hc2 : rx_cat w = 2 := by rw [hc]; simp [pm_cat, e]
      match j, h with
      | 0, h => simp at h; subst h; exact ⟨w, rx_find_hd, hl.1⟩
      | 1, h => simp at h; subst h; exact absurd hp (by decide)
      | j + 2, h =>
        simp only [List.getElem?_cons_succ] at h
        obtain ⟨v, g1, g2⟩ := pm_lay_get (i + rx_cat w) hl.2 j p h hp
        refine ⟨v, ?_, g2⟩
        rw [rx_find_tl (by omega), ← g1, hc2]
        congr 1; omega
    · rw [if_neg e] at h
      have hc2 : rx_cat w = 1 := by rw [hc]; simp [pm_cat, e]
      match j, h with
      | 0, h => simp at h; subst h; exact ⟨w, rx_find_hd, hl.1⟩
      | j + 1, h =>
        simp only [List.getElem?_cons_succ] at h
        obtain ⟨v, g1, g2⟩ := pm_lay_get (i + rx_cat w) hl.2 j p h hp
        refine ⟨v, ?_, g2⟩
        rw [rx_find_tl (by omega), ← g1, hc2]
        congr 1; omega
  | [], _ :: _, _, h, _, _, _, _ => h.elim
  | _ :: _, [], _, h, _, _, _, _ => h.elim
theorem plv_args {n : Nat} {a : List pm_V} {ca : List Value} (h : pl a ca) : plv (pm_args n a) (rx_args 0 ca) := by
  intro j p hj hp
  unfold pm_args at hj
  by_cases hl : j < (pm_lay a).length
  · rw [List.getElem?_append_left hl] at hj
    obtain ⟨v, g1, g2⟩ := pm_lay_get 0 h j p hj hp
    exact ⟨v, by rw [Nat.zero_add] at g1; exact g1, g2⟩
  · rw [List.getElem?_append_right (by omega), List.getElem?_replicate] at hj
    split at hj
    · cases hj; exact absurd hp (by decide)
    · cases hj
