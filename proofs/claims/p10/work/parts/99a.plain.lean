theorem cr_zp_add {x : Rat} (h : 0 < x) (a b : Int) : x ^ (a + b) = x ^ a * x ^ b := Rat.zpow_add (by grind) a b
theorem cr_nodup_list  {α : Type} (l : List α) : ∃ u : List α, u.Nodup ∧ ∀ x, x ∈ u ↔ x ∈ l := by
  classical
  induction l with
  | nil => exact ⟨[], by simp, fun x => Iff.rfl⟩
  | cons a l ih =>
    obtain ⟨u, hn, hm⟩ := ih
    by_cases ha : a ∈ u
    · exact ⟨u, hn, fun x => by
        rw [hm, List.mem_cons]
        exact ⟨fun h => .inr h, fun h => h.elim (fun e => e ▸ (hm a).1 ha) id⟩⟩
    · exact ⟨a :: u, List.nodup_cons.2 ⟨ha, hn⟩, fun x => by rw [List.mem_cons, List.mem_cons, hm]⟩
theorem cr_wl {n : Nat} (l : List (Fin n)) (hl : l.Nodup) (w a : Fin n → Int) (M : Int) (k : Fin n) : l.foldr (fun i s => (M * w i + if i = k then 1 else 0) * a i + s) 0 = M * l.foldr (fun i s => w i * a i + s) 0 + (if k ∈ l then a k else 0) := by
  induction l with
  | nil => rw [List.foldr_nil, List.foldr_nil, if_neg (by simp)]; omega
  | cons x l ih =>
    rw [List.nodup_cons] at hl
    rw [List.foldr_cons, List.foldr_cons, ih hl.2]
    by_cases hx : x = k
    · subst hx
      rw [if_pos rfl, if_neg hl.1, if_pos (by simp), Int.add_mul, Int.mul_add, Int.mul_assoc]; omega
    · rw [if_neg hx, Int.add_zero, Int.mul_add, Int.mul_assoc]
      by_cases hk : k ∈ l
      · rw [if_pos hk, if_pos (by simp [hk])]; omega
      · rw [if_neg hk, if_neg (by simp [hk]; exact fun e => hx e.symm)]; omega
theorem cr_weights {n : Nat} (L : List (Fin n → Int)) (hL : ∀ a ∈ L, a ≠ fun _ => 0) : ∃ w : Fin n → Int, ∀ a ∈ L, (List.finRange n).foldr (fun i s => w i * a i + s) 0 ≠ 0 := by
  induction L with
  | nil => exact ⟨fun _ => 0, fun a ha => by simp at ha⟩
  | cons a L ih =>
    obtain ⟨w, hw⟩ := ih (fun b hb => hL b (by simp [hb]))
    by_cases h0 : (List.finRange n).foldr (fun i s => w i * a i + s) 0 = 0
    · have : ∃ k, a k ≠ 0 := Classical.byContradiction (fun hno => hL a (by simp) (funext fun i => Classical.byContradiction (fun h => hno ⟨i, h⟩)))
      obtain ⟨k, hk⟩ := this
      have bound : ∃ M : Int, 0 < M ∧ ∀ b ∈ L, b k < M ∧ - M < b k := by
        clear hw h0 hL ih
        induction L with
        | nil => exact ⟨1, by omega, fun b hb => by simp at hb⟩
        | cons b L ih =>
          obtain ⟨M, hM, h⟩ := ih
          refine ⟨M + (b k).natAbs, by omega, fun c hc => ?_⟩
          rcases List.mem_cons.1 hc with rfl | hc
          · omega
          · have := h c hc; omega
      obtain ⟨M, hM, hb⟩ := bound
      refine ⟨fun i => M * w i + if i = k then 1 else 0, fun c hc => ?_⟩
      rw [cr_wl _ (List.nodup_finRange n) w c M k, if_pos (List.mem_finRange k)]
      rcases List.mem_cons.1 hc with rfl | hc
      · rw [h0]; omega
      · have h1 := hw c hc
        have h2 := hb c hc
        generalize (List.finRange n).foldr (fun i s => w i * c i + s) 0 = W at h1 ⊢
        by_cases hs : 0 < W
        · have := Int.mul_nonneg (by omega : 0 ≤ M) (by omega : 0 ≤ W - 1)
          rw [Int.mul_sub] at this; omega
        · have := Int.mul_nonneg (by omega : 0 ≤ M) (by omega : 0 ≤ - W - 1)
          rw [Int.mul_sub, Int.mul_neg] at this; omega
    · exact ⟨w, fun c hc => by rcases List.mem_cons.1 hc with rfl | hc; exact h0; exact hw c hc⟩
def cr_mo {n : Nat} (v : Fin n → Rat) (a : Fin n → Int) : Rat := (List.finRange n).foldr (fun j r => v j ^ a j * r) 1
def cr_mol {n : Nat} (l : List (Fin n)) (v : Fin n → Rat) (a : Fin n → Int) : Rat := l.foldr (fun j r => v j ^ a j * r) 1
theorem cr_mol_cons {n : Nat} (x : Fin n) (l : List (Fin n)) (v : Fin n → Rat) (a : Fin n → Int) : cr_mol (x :: l) v a = v x ^ a x * cr_mol l v a := rfl
theorem cr_mol_add {n : Nat} (l : List (Fin n)) {v : Fin n → Rat} (h : ∀ j, 0 < v j) (a b : Fin n → Int) : cr_mol l v (fun j => a j + b j) = cr_mol l v a * cr_mol l v b := by
  induction l with
  | nil => show (1 : Rat) = 1 * 1; grind
  | cons x l ih => rw [cr_mol_cons, cr_mol_cons, cr_mol_cons, ih, cr_zp_add (h x)]; grind
theorem cr_mol_pos {n : Nat} (l : List (Fin n)) {v : Fin n → Rat} (h : ∀ j, 0 < v j) (a : Fin n → Int) : 0 < cr_mol l v a := by
  induction l with
  | nil => show (0 : Rat) < 1; grind
  | cons x l ih => rw [cr_mol_cons]; exact Rat.mul_pos (Rat.zpow_pos (h x)) ih
theorem cr_mol_zero {n : Nat} (l : List (Fin n)) (v : Fin n → Rat) (a : Fin n → Int) (h : ∀ j ∈ l, a j = 0) : cr_mol l v a = 1 := by
  induction l with
  | nil => rfl
  | cons x l ih => rw [cr_mol_cons, ih (fun j hj => h j (by simp [hj])), h x (by simp), Rat.zpow_zero]; grind
theorem cr_mol_congr {n : Nat} (l : List (Fin n)) {v v' : Fin n → Rat} {a a' : Fin n → Int} (h : ∀ j ∈ l, v j ^ a j = v' j ^ a' j) : cr_mol l v a = cr_mol l v' a' := by
  induction l with
  | nil => rfl
  | cons x l ih => rw [cr_mol_cons, cr_mol_cons, ih (fun j hj => h j (by simp [hj])), h x (by simp)]
theorem cr_one_zp  (z : Int) : (1 : Rat) ^ z = 1 := by
  have : ∀ j : Nat, (1 : Rat) ^ (j : Int) = 1 := fun j => by
    induction j with
    | zero => exact Rat.zpow_zero 1
    | succ j ih => rw [show ((j + 1 : Nat) : Int) = (j : Int) + 1 by omega, cr_zp_add (by grind), ih, Rat.zpow_one]; grind
  rcases Int.eq_nat_or_neg z with ⟨j, rfl | rfl⟩
  · exact this j
  · rw [Rat.zpow_neg, this j]; have h : (1 : Rat)⁻¹ * 1 = 1 := Rat.inv_mul_cancel _ (by grind)
    rw [Rat.mul_one] at h; exact h
theorem cr_mul_zp  {x y : Rat} (hx : 0 < x) (hy : 0 < y) (z : Int) : (x * y) ^ z = x ^ z * y ^ z := by
  have hxy := Rat.mul_pos hx hy
  have main : ∀ j : Nat, (x * y) ^ (j : Int) = x ^ (j : Int) * y ^ (j : Int) := fun j => by
    induction j with
    | zero => show (x * y) ^ (0 : Int) = x ^ (0 : Int) * y ^ (0 : Int); rw [Rat.zpow_zero, Rat.zpow_zero, Rat.zpow_zero]; grind
    | succ j ih =>
      rw [show ((j + 1 : Nat) : Int) = (j : Int) + 1 by omega, cr_zp_add hxy, cr_zp_add hx, cr_zp_add hy, ih, Rat.zpow_one, Rat.zpow_one, Rat.zpow_one]; grind
  rcases Int.eq_nat_or_neg z with ⟨j, rfl | rfl⟩
  · exact main j
  · rw [Rat.zpow_neg, Rat.zpow_neg, Rat.zpow_neg, main j, Rat.inv_mul_rev]; grind
theorem cr_zp_mul  {x : Rat} (hx : 0 < x) (a z : Int) : x ^ (a * z) = (x ^ a) ^ z := by
  have hxa : 0 < x ^ a := Rat.zpow_pos hx
  have main : ∀ j : Nat, x ^ (a * (j : Int)) = (x ^ a) ^ (j : Int) := fun j => by
    induction j with
    | zero => show x ^ (a * (0 : Int)) = (x ^ a) ^ (0 : Int); rw [Int.mul_zero, Rat.zpow_zero, Rat.zpow_zero]
    | succ j ih =>
      rw [show ((j + 1 : Nat) : Int) = (j : Int) + 1 by omega, Int.mul_add, cr_zp_add hx, cr_zp_add hxa, ih, Int.mul_one, Rat.zpow_one]
  rcases Int.eq_nat_or_neg z with ⟨j, rfl | rfl⟩
  · exact main j
  · rw [Int.mul_neg, Rat.zpow_neg, Rat.zpow_neg, main j]
theorem cr_mol_pow {n : Nat} (l : List (Fin n)) {v : Fin n → Rat} (h : ∀ j, 0 < v j) (a : Fin n → Int) (z : Int) : cr_mol l v (fun j => a j * z) = cr_mol l v a ^ z := by
  induction l with
  | nil => show (1 : Rat) = 1 ^ z; rw [cr_one_zp]
  | cons x l ih => rw [cr_mol_cons, cr_mol_cons, ih, cr_mul_zp (Rat.zpow_pos (h x)) (cr_mol_pos l h a), cr_zp_mul (h x)]
theorem cr_mol_split {n : Nat} {l : List (Fin n)} (hn : l.Nodup) {k : Fin n} (hk : k ∈ l) (v : Fin n → Rat) (a : Fin n → Int) : cr_mol l v a = v k ^ a k * cr_mol l v (fun j => if j = k then 0 else a j) := by
  induction l with
  | nil => simp at hk
  | cons x l ih =>
    rw [List.nodup_cons] at hn
    rw [cr_mol_cons, cr_mol_cons]
    by_cases hx : x = k
    · subst hx
      rw [if_pos rfl, Rat.zpow_zero, Rat.one_mul]
      congr 1
      exact cr_mol_congr l (fun j hj => by rw [if_neg (fun e : j = x => hn.1 (by rw [← e]; exact hj))])
    · rw [if_neg hx, ih hn.2 (by rcases List.mem_cons.1 hk with h | h; exact absurd h.symm hx; exact h)]; grind
theorem cr_mo_add {n : Nat} {v : Fin n → Rat} (h : ∀ j, 0 < v j) (a b : Fin n → Int) : cr_mo v (fun j => a j + b j) = cr_mo v a * cr_mo v b := cr_mol_add _ h a b
theorem cr_mo_pos {n : Nat} {v : Fin n → Rat} (h : ∀ j, 0 < v j) (a : Fin n → Int) : 0 < cr_mo v a := cr_mol_pos _ h a
theorem cr_mo_pow {n : Nat} {v : Fin n → Rat} (h : ∀ j, 0 < v j) (a : Fin n → Int) (z : Int) : cr_mo v (fun j => a j * z) = cr_mo v a ^ z := cr_mol_pow _ h a z
theorem cr_mo_split {n : Nat} (k : Fin n) (v : Fin n → Rat) (a : Fin n → Int) : cr_mo v a = v k ^ a k * cr_mo v (fun j => if j = k then 0 else a j) := cr_mol_split (List.nodup_finRange n) (List.mem_finRange k) v a
theorem cr_mo_congr {n : Nat} {v v' : Fin n → Rat} {a a' : Fin n → Int} (h : ∀ j, v j ^ a j = v' j ^ a' j) : cr_mo v a = cr_mo v' a' := cr_mol_congr _ (fun j _ => h j)
def cr_stepv {n : Nat} (b : Fin n → Fin n → Int) (k : Fin n) (v : Fin n → Rat) : Fin n → Rat := fun j =>
  if j = k then (cr_mo v (fun i => (cx_pos (b i k) : Int)) + cr_mo v (fun i => (cx_pos (- b i k) : Int))) * (v k)⁻¹ else v j
theorem cr_stepv_pos {n : Nat} (b : Fin n → Fin n → Int) (k : Fin n) {v : Fin n → Rat} (h : ∀ j, 0 < v j) (j : Fin n) : 0 < cr_stepv b k v j := by
  unfold cr_stepv
  by_cases hj : j = k
  · rw [if_pos hj]
    have h1 := cr_mo_pos h (fun i => (cx_pos (b i k) : Int))
    have h2 := cr_mo_pos h (fun i => (cx_pos (- b i k) : Int))
    exact Rat.mul_pos (by grind) (Rat.inv_pos.2 (h k))
  · rw [if_neg hj]; exact h j
theorem cr_stepv_neg {n : Nat} {b b' : Fin n → Fin n → Int} {k : Fin n} (h : ∀ i, b' i k = - b i k) (v : Fin n → Rat) : cr_stepv b' k v = cr_stepv b k v := by
  funext j
  unfold cr_stepv
  by_cases hj : j = k
  · rw [if_pos hj, if_pos hj]
    have e1 : (fun i => (cx_pos (b' i k) : Int)) = fun i => (cx_pos (- b i k) : Int) := funext fun i => by rw [h i]
    have e2 : (fun i => (cx_pos (- b' i k) : Int)) = fun i => (cx_pos (b i k) : Int) := funext fun i => by rw [h i, Int.neg_neg]
    rw [e1, e2]; grind
  · rw [if_neg hj, if_neg hj]
theorem cr_posI2  (x : Int) : (cx_pos (-x) : Int) + x = (cx_pos x : Int) := by unfold cx_pos; omega
def cr_Pv  (n : Nat) := { x : Fin n → Rat // ∀ j, 0 < x j }
abbrev cr_Xp  (n : Nat) := Fin n → Int
abbrev cr_Pl_  (n : Nat) := List (Int × cr_Xp n)
noncomputable def cr_co {n : Nat} (l : cr_Pl_ n) (a : cr_Xp n) : Int := (l.map fun y => @ite _ (y.2 = a) (Classical.propDecidable _) y.1 0).sum
def cr_vl {n : Nat} (x : Fin n → Rat) (l : cr_Pl_ n) : Rat := cx_sm l (fun y => (y.1 : Rat) * cr_mo x y.2)
theorem cr_co_nil {n : Nat} (a : cr_Xp n) : cr_co [] a = 0 := rfl
theorem cr_co_cons {n : Nat} (y : Int × cr_Xp n) (l : cr_Pl_ n) (a : cr_Xp n) : cr_co (y :: l) a = (@ite _ (y.2 = a) (Classical.propDecidable _) y.1 0) + cr_co l a := rfl
theorem cr_co_app {n : Nat} (l l' : cr_Pl_ n) (a : cr_Xp n) : cr_co (l ++ l') a = cr_co l a + cr_co l' a := by
  induction l with
  | nil => rw [List.nil_append, cr_co_nil]; omega
  | cons y l ih => rw [List.cons_append, cr_co_cons, cr_co_cons, ih]; omega
theorem cr_vl_nil {n : Nat} (x : Fin n → Rat) : cr_vl x [] = 0 := rfl
theorem cr_vl_cons {n : Nat} (x : Fin n → Rat) (y : Int × cr_Xp n) (l : cr_Pl_ n) : cr_vl x (y :: l) = (y.1 : Rat) * cr_mo x y.2 + cr_vl x l := rfl
theorem cr_vl_app {n : Nat} (x : Fin n → Rat) (l l' : cr_Pl_ n) : cr_vl x (l ++ l') = cr_vl x l + cr_vl x l' := cx_sm_append _ _ _
theorem cr_vl_list {n : Nat} {U : List (cr_Xp n)} (hn : U.Nodup) (x : Fin n → Rat) (l : cr_Pl_ n) (h : ∀ y ∈ l, y.2 ∈ U) : cr_vl x l = cx_sm U (fun a => (cr_co l a : Rat) * cr_mo x a) := by
  classical
  induction l with
  | nil => exact (cx_sm_zero (fun b _ => by rw [cr_co_nil, show ((0 : Int) : Rat) = 0 from rfl]; grind)).symm
  | cons y l ih =>
    have ih := ih (fun z hz => h z (by simp [hz]))
    rw [cr_vl_cons, ih]
    have e1 : cx_sm U (fun a => (cr_co (y :: l) a : Rat) * cr_mo x a) = cx_sm U (fun a => (if y.2 = a then (y.1 : Rat) else 0) * cr_mo x a) + cx_sm U (fun a => (cr_co l a : Rat) * cr_mo x a) := by
      rw [← cx_sm_add]
      refine cx_sm_congr (fun a _ => ?_)
      rw [cr_co_cons]
      by_cases ha : y.2 = a
      · rw [if_pos ha, if_pos ha]
        have : ((y.1 + cr_co l a : Int) : Rat) = (y.1 : Rat) + (cr_co l a : Rat) := by exact_mod_cast rfl
        rw [this]; grind
      · rw [if_neg ha, if_neg ha]
        have : ((0 + cr_co l a : Int) : Rat) = (cr_co l a : Rat) := by rw [Int.zero_add]
        rw [this]; grind
    have e2 : ∀ U : List (cr_Xp n), U.Nodup → y.2 ∈ U → cx_sm U (fun a => (if y.2 = a then (y.1 : Rat) else 0) * cr_mo x a) = (y.1 : Rat) * cr_mo x y.2 := by
      intro U
      induction U with
      | nil => intro _ h; simp at h
      | cons a U ihU =>
        intro hn hm
        rw [List.nodup_cons] at hn
        rw [cx_sm_cons]
        by_cases ha : y.2 = a
        · have e3 : cx_sm U (fun b => (if y.2 = b then (y.1 : Rat) else 0) * cr_mo x b) = 0 := cx_sm_zero (fun b hb => by
            rw [if_neg (fun e : y.2 = b => hn.1 (by rw [← ha, e]; exact hb))]; grind)
          rw [e3, if_pos ha, ha]; grind
        · rw [ihU hn.2 (by rcases List.mem_cons.1 hm with h | h; exact absurd h ha; exact h), if_neg ha]; grind
    rw [e1, e2 U hn (h y (by simp))]
theorem cr_vl_co {n : Nat} (x : Fin n → Rat) {l l' : cr_Pl_ n} (h : ∀ a, cr_co l a = cr_co l' a) : cr_vl x l = cr_vl x l' := by
  obtain ⟨U, hn, hm⟩ := cr_nodup_list ((l ++ l').map (·.2))
  rw [cr_vl_list hn x l (fun y hy => (hm _).2 (List.mem_map.2 ⟨y, by simp [hy], rfl⟩)), cr_vl_list hn x l' (fun y hy => (hm _).2 (List.mem_map.2 ⟨y, by simp [hy], rfl⟩))]
  exact cx_sm_congr (fun a _ => by rw [h a])
def cr_shz {n : Nat} (y : Int × cr_Xp n) (l : cr_Pl_ n) : cr_Pl_ n := l.map fun z => (y.1 * z.1, fun i => y.2 i + z.2 i)
def cr_pmz {n : Nat} (l l' : cr_Pl_ n) : cr_Pl_ n := l.flatMap fun y => cr_shz y l'
theorem cr_vl_shz {n : Nat} {x : Fin n → Rat} (hx : ∀ j, 0 < x j) (y : Int × cr_Xp n) (l : cr_Pl_ n) : cr_vl x (cr_shz y l) = (y.1 : Rat) * cr_mo x y.2 * cr_vl x l := by
  unfold cr_vl cr_shz
  rw [cx_sm_map, ← cx_sm_mulL]
  refine cx_sm_congr (fun z _ => ?_)
  rw [cr_mo_add hx]
  have : ((y.1 * z.1 : Int) : Rat) = (y.1 : Rat) * (z.1 : Rat) := by exact_mod_cast rfl
  rw [this]; grind
theorem cr_vl_pmz {n : Nat} {x : Fin n → Rat} (hx : ∀ j, 0 < x j) (l l' : cr_Pl_ n) : cr_vl x (cr_pmz l l') = cr_vl x l * cr_vl x l' := by
  induction l with
  | nil => show (0 : Rat) = 0 * _; grind
  | cons y l ih =>
    show cr_vl x (List.flatMap _ (y :: l)) = _
    rw [List.flatMap_cons, cr_vl_app, cr_vl_shz hx]
    have : cr_vl x (List.flatMap (fun y => cr_shz y l') l) = cr_vl x l * cr_vl x l' := ih
    rw [this, cr_vl_cons]; grind
theorem cr_co_shz {n : Nat} (y : Int × cr_Xp n) (l : cr_Pl_ n) (a : cr_Xp n) : cr_co (cr_shz y l) a = y.1 * cr_co l (fun i => a i - y.2 i) := by
  classical
  induction l with
  | nil => show (0 : Int) = y.1 * 0; omega
  | cons z l ih =>
    show cr_co ((y.1 * z.1, fun i => y.2 i + z.2 i) :: cr_shz y l) a = _
    rw [cr_co_cons, cr_co_cons, ih]
    by_cases h : z.2 = fun i => a i - y.2 i
    · rw [if_pos (by funext i; show y.2 i + z.2 i = a i; rw [h]; show y.2 i + (a i - y.2 i) = a i; omega), if_pos h, Int.mul_add]
    · rw [if_neg (fun e => h (by funext i; have := congrFun e i; have h2 : y.2 i + z.2 i = a i := this; omega)), if_neg h]; grind
theorem cr_co_pmz {n : Nat} (l l' : cr_Pl_ n) (a : cr_Xp n) : cr_co (cr_pmz l l') a = (l.map fun y => y.1 * cr_co l' (fun i => a i - y.2 i)).sum := by
  induction l with
  | nil => rfl
  | cons y l ih =>
    show cr_co (List.flatMap _ (y :: l)) a = _
    rw [List.flatMap_cons, cr_co_app, cr_co_shz, List.map_cons, List.sum_cons]
    congr 1
theorem cr_den_mul  (q : Rat) : (q.den : Rat) * q = (q.num : Rat) := by
  have h : (q.num : Rat) / (q.den : Rat) = q := by rw [← Rat.mkRat_eq_div, Rat.mkRat_self]
  have hd : ((q.den : Nat) : Rat) ≠ 0 := by
    intro e
    have : q.den = 0 := by exact_mod_cast e
    exact q.den_nz this
  have h2 : (q.num : Rat) / (q.den : Rat) * (q.den : Rat) = q.num := Rat.div_mul_cancel hd
  rw [h] at h2
  grind
def cr_wd {n : Nat} (w a : cr_Xp n) : Int := (List.finRange n).foldr (fun i s => w i * a i + s) 0
theorem cr_wd_sub {n : Nat} (w a b : cr_Xp n) : cr_wd w (fun i => a i - b i) = cr_wd w a - cr_wd w b := by
  unfold cr_wd
  generalize List.finRange n = l
  induction l with
  | nil => rfl
  | cons i l ih =>
    rw [List.foldr_cons, List.foldr_cons, List.foldr_cons, ih, Int.mul_sub]; omega
theorem cr_mo_wd {n : Nat} {T : Rat} (hT : 0 < T) (w a : cr_Xp n) : cr_mo (fun i => T ^ w i) a = T ^ cr_wd w a := by
  unfold cr_mo cr_wd
  generalize List.finRange n = l
  induction l with
  | nil => exact (Rat.zpow_zero T).symm
  | cons i l ih => rw [List.foldr_cons, List.foldr_cons, ih, cr_zp_add hT, ← cr_zp_mul hT]
theorem cr_zp_nat_ge  {T : Rat} (hT : 1 ≤ T) (j : Nat) : 1 ≤ T ^ (j : Int) := by
  have h0 : 0 < T := by grind
  induction j with
  | zero => show 1 ≤ T ^ (0 : Int); rw [Rat.zpow_zero]; grind
  | succ j ih =>
    rw [show ((j + 1 : Nat) : Int) = (j : Int) + 1 by omega, cr_zp_add h0, Rat.zpow_one]
    have := Rat.mul_nonneg (by grind : 0 ≤ T ^ (j : Int) - 1) (by grind : 0 ≤ T)
    grind
theorem cr_zp_mono  {T : Rat} (hT : 1 ≤ T) {a b : Int} (h : a ≤ b) : T ^ a ≤ T ^ b := by
  have h0 : 0 < T := by grind
  obtain ⟨j, rfl⟩ : ∃ j : Nat, b = a + (j : Int) := ⟨(b - a).toNat, by omega⟩
  rw [cr_zp_add h0]
  have h1 := cr_zp_nat_ge hT j
  have h2 : 0 < T ^ a := Rat.zpow_pos h0
  have := Rat.mul_nonneg (by grind : 0 ≤ T ^ a) (by grind : 0 ≤ T ^ (j : Int) - 1)
  grind
theorem cr_most  {α : Type} (l : List α) (f : α → Int) (h : l ≠ []) : ∃ a ∈ l, ∀ b ∈ l, f b ≤ f a := by
  induction l with
  | nil => exact absurd rfl h
  | cons x l ih =>
    by_cases hl : l = []
    · subst hl; exact ⟨x, by simp, fun b hb => by simp at hb; subst hb; omega⟩
    · obtain ⟨a, ha, hm⟩ := ih hl
      by_cases hx : f a ≤ f x
      · exact ⟨x, by simp, fun b hb => by
          rcases List.mem_cons.1 hb with rfl | hb
          · omega
          · have := hm b hb; omega⟩
      · exact ⟨a, by simp [ha], fun b hb => by
          rcases List.mem_cons.1 hb with rfl | hb
          · omega
          · exact hm b hb⟩
theorem cr_vanish {n : Nat} {U : List (cr_Xp n)} (hU : U.Nodup) (c : cr_Xp n → Int) (h : ∀ x : cr_Pv n, cx_sm U (fun a => (c a : Rat) * cr_mo x.1 a) = 0) : ∀ a ∈ U, c a = 0 := by
  classical

  let V := U.filter (fun a => decide (c a ≠ 0))
  have hV : ∀ x : cr_Pv n, cx_sm V (fun a => (c a : Rat) * cr_mo x.1 a) = 0 := fun x => by
    refine Eq.trans ?_ (h x)
    refine (cx_sm_filter U _ _ (fun a _ ha => ?_)).symm
    have : c a = 0 := by simpa using ha
    rw [this, show ((0 : Int) : Rat) = 0 from rfl]; grind
  have hmem : ∀ a, a ∈ V ↔ a ∈ U ∧ c a ≠ 0 := fun a => by
    show a ∈ U.filter _ ↔ _
    rw [List.mem_filter, decide_eq_true_eq]
  by_cases hne : V = []
  · intro a ha
    refine Classical.byContradiction (fun h0 => ?_)
    have := (hmem a).2 ⟨ha, h0⟩
    rw [hne] at this
    simp at this
  exfalso
  obtain ⟨w, hw⟩ := cr_weights ((V.flatMap fun a => (V.filter fun b => decide (b ≠ a)).map fun b => fun i => a i - b i)) (by
    intro z hz
    obtain ⟨a, ha, hz⟩ := List.mem_flatMap.1 hz
    obtain ⟨b, hb, rfl⟩ := List.mem_map.1 hz
    have hb := List.mem_filter.1 hb
    have hne : b ≠ a := by simpa using hb.2
    intro e
    apply hne
    funext i
    have h1 : a i - b i = 0 := congrFun e i
    omega)
  have hw' : ∀ a ∈ V, ∀ b ∈ V, b ≠ a → cr_wd w a ≠ cr_wd w b := by
    intro a ha b hb hne e
    refine hw (fun i => a i - b i) (List.mem_flatMap.2 ⟨a, ha, List.mem_map.2 ⟨b, List.mem_filter.2 ⟨hb, by simpa using hne⟩, rfl⟩⟩) ?_
    have := cr_wd_sub w a b
    unfold cr_wd at this e
    rw [this]; omega
  obtain ⟨a, ha, hmax⟩ := cr_most V (cr_wd w) hne

  let R := V.filter (fun b => decide (b ≠ a))
  let C : Rat := cx_sm R (fun b => ((c b).natAbs : Rat))
  have hC0 : 0 ≤ C := cx_sm_nonneg (fun b _ => cx_natR_nonneg _)
  let T : Rat := C + 1
  have hT1 : 1 ≤ T := by show 1 ≤ C + 1; grind
  have hT0 : 0 < T := by grind
  let x : cr_Pv n := ⟨fun i => T ^ w i, fun i => Rat.zpow_pos hT0⟩
  have h1 := hV x
  have hVn : V.Nodup := hU.sublist List.filter_sublist
  have hsplit : ∀ V : List (cr_Xp n), V.Nodup → a ∈ V → cx_sm V (fun b => (c b : Rat) * cr_mo x.1 b) = (c a : Rat) * cr_mo x.1 a + cx_sm (V.filter (fun b => decide (b ≠ a))) (fun b => (c b : Rat) * cr_mo x.1 b) := by
    intro V
    induction V with
    | nil => intro _ h; simp at h
    | cons z V ih =>
      intro hn hm
      rw [List.nodup_cons] at hn
      by_cases hz : z = a
      · subst hz
        rw [List.filter_cons_of_neg (by simp), cx_sm_cons]
        congr 1
        rw [List.filter_eq_self.2 (fun b hb => by
          have : b ≠ z := fun e => hn.1 (by rw [← e]; exact hb)
          simpa using this)]
      · rw [List.filter_cons_of_pos (by simpa using hz), cx_sm_cons, cx_sm_cons, ih hn.2 (by rcases List.mem_cons.1 hm with h | h; exact absurd h.symm hz; exact h)]; grind
  rw [hsplit V hVn ha] at h1
  have hmo : ∀ b, cr_mo x.1 b = T ^ cr_wd w b := fun b => cr_mo_wd hT0 w b

  have hR : ∀ R : List (cr_Xp n), (∀ b ∈ R, cr_wd w b ≤ cr_wd w a - 1) → - (cx_sm R (fun b => ((c b).natAbs : Rat)) * T ^ (cr_wd w a - 1)) ≤ cx_sm R (fun b => (c b : Rat) * cr_mo x.1 b) ∧ cx_sm R (fun b => (c b : Rat) * cr_mo x.1 b) ≤ cx_sm R (fun b => ((c b).natAbs : Rat)) * T ^ (cr_wd w a - 1) := by
    intro R
    induction R with
    | nil => intro _; rw [cx_sm_nil, cx_sm_nil]; constructor <;> grind
    | cons b R ih =>
      intro hb
      have ih := ih (fun z hz => hb z (by simp [hz]))
      rw [cx_sm_cons, cx_sm_cons, hmo b]
      have h2 := cr_zp_mono hT1 (hb b (by simp))
      have h3 : 0 < T ^ cr_wd w b := Rat.zpow_pos hT0
      have h4 := cx_natR_nonneg (c b).natAbs
      have h5 : (c b : Rat) ≤ ((c b).natAbs : Rat) := by
        have : c b ≤ ((c b).natAbs : Int) := Int.le_natAbs
        exact_mod_cast this
      have h6 : -((c b).natAbs : Rat) ≤ (c b : Rat) := by
        have : -((c b).natAbs : Int) ≤ c b := by omega
        have e : (-((c b).natAbs : Int) : Rat) = ((-((c b).natAbs : Int) : Int) : Rat) := by exact_mod_cast rfl
        have h7 : ((-((c b).natAbs : Int) : Int) : Rat) ≤ ((c b : Int) : Rat) := by exact_mod_cast this
        have e2 : ((-((c b).natAbs : Int) : Int) : Rat) = -((c b).natAbs : Rat) := by exact_mod_cast rfl
        rw [e2] at h7
        exact h7
      have m1 := Rat.mul_nonneg (by grind : 0 ≤ ((c b).natAbs : Rat) - (c b : Rat)) (by grind : 0 ≤ T ^ cr_wd w b)
      have m2 := Rat.mul_nonneg (by grind : 0 ≤ ((c b).natAbs : Rat) + (c b : Rat)) (by grind : 0 ≤ T ^ cr_wd w b)
      have m3 := Rat.mul_nonneg h4 (by grind : 0 ≤ T ^ (cr_wd w a - 1) - T ^ cr_wd w b)
      constructor <;> grind
  have hRb : ∀ b ∈ R, cr_wd w b ≤ cr_wd w a - 1 := by
    intro b hb
    have hb := List.mem_filter.1 hb
    have hne : b ≠ a := by simpa using hb.2
    have h2 := hmax b hb.1
    have h3 := hw' a ha b hb.1 hne
    omega
  have hb := hR R hRb
  rw [hmo a] at h1
  have e5 : T ^ cr_wd w a = T ^ (cr_wd w a - 1) * T := by
    have : cr_wd w a = (cr_wd w a - 1) + 1 := by omega
    rw [this, cr_zp_add hT0, Rat.zpow_one]
    congr 2
    omega
  have hp : 0 < T ^ (cr_wd w a - 1) := Rat.zpow_pos hT0
  have hca : c a ≠ 0 := ((hmem a).1 ha).2
  have hh : cx_sm R (fun b => (c b : Rat) * cr_mo x.1 b) = - ((c a : Rat) * (T ^ (cr_wd w a - 1) * T)) := by
    rw [e5] at h1
    have h1 : (c a : Rat) * (T ^ (cr_wd w a - 1) * T) + cx_sm R (fun b => (c b : Rat) * cr_mo x.1 b) = 0 := h1
    grind
  rw [hh] at hb
  have hb1 : -(C * T ^ (cr_wd w a - 1)) ≤ -((c a : Rat) * (T ^ (cr_wd w a - 1) * T)) := hb.1
  have hb2 : -((c a : Rat) * (T ^ (cr_wd w a - 1) * T)) ≤ C * T ^ (cr_wd w a - 1) := hb.2
  have hTC : T = C + 1 := rfl
  by_cases hs : 0 < c a
  · have h7 : (1 : Rat) ≤ (c a : Rat) := by exact_mod_cast hs
    have m1 := Rat.mul_nonneg (by grind : 0 ≤ (c a : Rat) - 1) (by have := Rat.mul_pos hp hT0; grind : 0 ≤ T ^ (cr_wd w a - 1) * T)
    rw [hTC] at m1 hb1 hp
    grind
  · have h7 : (c a : Rat) ≤ -1 := by
      have h8 : c a ≤ -1 := by omega
      have h9 : ((c a : Int) : Rat) ≤ ((-1 : Int) : Rat) := by exact_mod_cast h8
      have e9 : ((-1 : Int) : Rat) = -1 := by exact_mod_cast rfl
      rw [e9] at h9
      exact h9
    have m1 := Rat.mul_nonneg (by grind : 0 ≤ -1 - (c a : Rat)) (by have := Rat.mul_pos hp hT0; grind : 0 ≤ T ^ (cr_wd w a - 1) * T)
    rw [hTC] at m1 hb2 hp
    grind
theorem cr_vl_unique {n : Nat} {l l' : cr_Pl_ n} (h : ∀ x : cr_Pv n, cr_vl x.1 l = cr_vl x.1 l') : ∀ a, cr_co l a = cr_co l' a := by
  classical
  obtain ⟨U, hn, hm⟩ := cr_nodup_list ((l ++ l').map (·.2))
  have hl : ∀ y ∈ l, y.2 ∈ U := fun y hy => (hm _).2 (List.mem_map.2 ⟨y, by simp [hy], rfl⟩)
  have hl' : ∀ y ∈ l', y.2 ∈ U := fun y hy => (hm _).2 (List.mem_map.2 ⟨y, by simp [hy], rfl⟩)
  have hv := cr_vanish hn (fun a => cr_co l a - cr_co l' a) (fun x => by
    have h1 := h x
    rw [cr_vl_list hn x.1 l hl, cr_vl_list hn x.1 l' hl'] at h1
    have e : cx_sm U (fun a => ((cr_co l a - cr_co l' a : Int) : Rat) * cr_mo x.1 a) = cx_sm U (fun a => (cr_co l a : Rat) * cr_mo x.1 a) + (-1) * cx_sm U (fun a => (cr_co l' a : Rat) * cr_mo x.1 a) := by
      rw [← cx_sm_mulL, ← cx_sm_add]
      refine cx_sm_congr (fun a _ => ?_)
      have : ((cr_co l a - cr_co l' a : Int) : Rat) = (cr_co l a : Rat) - (cr_co l' a : Rat) := by exact_mod_cast rfl
      rw [this]; grind
    rw [e, h1]; grind)
  intro a
  by_cases ha : a ∈ U
  · have := hv a ha; omega
  · have z : ∀ l : cr_Pl_ n, (∀ y ∈ l, y.2 ∈ U) → cr_co l a = 0 := by
      intro l hl
      induction l with
      | nil => rfl
      | cons y l ih => rw [cr_co_cons, if_neg (fun e : y.2 = a => ha (by rw [← e]; exact hl y (by simp))), ih (fun z hz => hl z (by simp [hz]))]; omega
    rw [z l hl, z l' hl']

def cr_Gt {n : Nat} (a b : cr_Xp n) : Prop := ∃ i, (∀ j, j < i → a j = b j) ∧ b i < a i
theorem cr_Gt.irrefl {n : Nat} (a : cr_Xp n) : ¬ cr_Gt a a := fun ⟨i, _, h⟩ => by omega
theorem cr_Gt.trans {n : Nat} {a b c : cr_Xp n} (h : cr_Gt a b) (h' : cr_Gt b c) : cr_Gt a c := by
  obtain ⟨i, h1, h2⟩ := h
  obtain ⟨j, h3, h4⟩ := h'
  by_cases hij : i < j
  · exact ⟨i, fun l hl => (h1 l hl).trans (h3 l (by omega)), by rw [← h3 i hij]; exact h2⟩
  · by_cases hji : j < i
    · exact ⟨j, fun l hl => (h1 l (by omega)).trans (h3 l hl), by rw [h1 j hji]; exact h4⟩
    · have : i = j := by omega
      subst this
      exact ⟨i, fun l hl => (h1 l hl).trans (h3 l hl), by omega⟩
theorem cr_Gt.total {n : Nat} (a b : cr_Xp n) : a = b ∨ cr_Gt a b ∨ cr_Gt b a := by
  by_cases h : ∃ i, a i ≠ b i
  · right

    have : ∃ i, a i ≠ b i ∧ ∀ j, j < i → a j = b j := by
      obtain ⟨i, hi⟩ := h
      have main : ∀ m : Nat, ∀ i : Fin n, i.1 < m → a i ≠ b i → ∃ i, a i ≠ b i ∧ ∀ j, j < i → a j = b j := by
        intro m
        induction m with
        | zero => intro i h; omega
        | succ m ih =>
          intro i him hi
          by_cases hj : ∃ j, j < i ∧ a j ≠ b j
          · obtain ⟨j, hj, hne⟩ := hj
            exact ih j (by omega) hne
          · exact ⟨i, hi, fun j hj' => Classical.byContradiction (fun hne => hj ⟨j, hj', hne⟩)⟩
      exact main (i.1 + 1) i (by omega) hi
    obtain ⟨i, hi, hlt⟩ := this
    by_cases hc : b i < a i
    · exact .inl ⟨i, hlt, hc⟩
    · exact .inr ⟨i, fun j hj => (hlt j hj).symm, by omega⟩
  · left
    funext i
    exact Classical.byContradiction (fun hne => h ⟨i, hne⟩)
theorem cr_Gt.add {n : Nat} {a b : cr_Xp n} (h : cr_Gt a b) (c : cr_Xp n) : cr_Gt (fun i => a i + c i) (fun i => b i + c i) := by
  obtain ⟨i, h1, h2⟩ := h
  exact ⟨i, fun j hj => by show a j + c j = b j + c j; rw [h1 j hj], by show b i + c i < a i + c i; omega⟩
theorem cr_Gt.asymm {n : Nat} {a b : cr_Xp n} (h : cr_Gt a b) : ¬ cr_Gt b a := fun h' => cr_Gt.irrefl a (h.trans h')
abbrev cr_Shr {n : Nat} (l : cr_Pl_ n) : Prop := (l.Pairwise (fun y z => cr_Gt y.2 z.2)) ∧ (∀ y ∈ l, 0 < y.1)
theorem cr_Shr.srt {n : Nat} {l : cr_Pl_ n} (hh_ : cr_Shr l) : l.Pairwise (fun y z => cr_Gt y.2 z.2) := hh_.1
theorem cr_Shr.pos {n : Nat} {l : cr_Pl_ n} (hh_ : cr_Shr l) : ∀ y ∈ l, 0 < y.1 := hh_.2
theorem cr_Shr.tail {n : Nat} {y : Int × cr_Xp n} {l : cr_Pl_ n} (h : cr_Shr (y :: l)) : cr_Shr l := ⟨(List.pairwise_cons.1 h.srt).2, fun z hz => h.pos z (by simp [hz])⟩
theorem cr_co_none {n : Nat} {l : cr_Pl_ n} {a : cr_Xp n} (h : ∀ y ∈ l, y.2 ≠ a) : cr_co l a = 0 := by
  classical
  induction l with
  | nil => rfl
  | cons y l ih => rw [cr_co_cons, if_neg (h y (by simp)), ih (fun z hz => h z (by simp [hz]))]; omega
theorem cr_Shr.at {n : Nat} {l : cr_Pl_ n} (h : cr_Shr l) {y : Int × cr_Xp n} (hy : y ∈ l) : cr_co l y.2 = y.1 := by
  classical
  induction l with
  | nil => simp at hy
  | cons z l ih =>
    have hs := List.pairwise_cons.1 h.srt
    rw [cr_co_cons]
    rcases List.mem_cons.1 hy with rfl | hy
    · rw [if_pos rfl, cr_co_none (fun z hz e => cr_Gt.irrefl y.2 (by have := hs.1 z hz; rw [e] at this; exact this))]; omega
    · rw [if_neg (fun e : z.2 = y.2 => cr_Gt.irrefl y.2 (by have := hs.1 y hy; rw [e] at this; exact this)), ih h.tail hy]; omega
theorem cr_Shr.nonneg {n : Nat} {l : cr_Pl_ n} (h : ∀ y ∈ l, 0 < y.1) (a : cr_Xp n) : 0 ≤ cr_co l a := by
  classical
  induction l with
  | nil => exact Int.le_refl 0
  | cons y l ih =>
    rw [cr_co_cons]
    have h1 := ih (fun z hz => h z (by simp [hz]))
    have h2 := h y (by simp)
    by_cases e : y.2 = a
    · rw [if_pos e]; omega
    · rw [if_neg e]; omega
theorem cr_co_mem {n : Nat} {l : cr_Pl_ n} {a : cr_Xp n} (h : cr_co l a ≠ 0) : ∃ y ∈ l, y.2 = a := by
  refine Classical.byContradiction (fun hno => h (cr_co_none (fun y hy e => hno ⟨y, hy, e⟩)))
theorem cr_Shr.eq {n : Nat} : ∀ {l l' : cr_Pl_ n}, cr_Shr l → cr_Shr l' → (∀ a, cr_co l a = cr_co l' a) → l = l'
  | [], [], _, _, _ => rfl
  | [], y :: l', _, h', e => by
    exfalso
    have := h'.at (y := y) (by simp)
    have h2 := h'.pos y (by simp)
    rw [← e] at this
    have : cr_co ([] : cr_Pl_ n) y.2 = 0 := rfl
    omega
  | y :: l, [], h, _, e => by
    exfalso
    have := h.at (y := y) (by simp)
    have h2 := h.pos y (by simp)
    rw [e] at this
    have : cr_co ([] : cr_Pl_ n) y.2 = 0 := rfl
    omega
  | y :: l, z :: l', h, h', e => by
    have hs := List.pairwise_cons.1 h.srt
    have hs' := List.pairwise_cons.1 h'.srt
    have hyz : y.2 = z.2 := by
      rcases cr_Gt.total y.2 z.2 with e1 | e1 | e1
      · exact e1
      · exfalso
        have h1 := h.at (y := y) (by simp)
        have h2 := h.pos y (by simp)
        rw [e] at h1
        obtain ⟨w, hw, ew⟩ := cr_co_mem (l := z :: l') (a := y.2) (by omega)
        rcases List.mem_cons.1 hw with rfl | hw
        · rw [ew] at e1; exact cr_Gt.irrefl _ e1
        · have := hs'.1 w hw
          rw [ew] at this
          exact e1.asymm this
      · exfalso
        have h1 := h'.at (y := z) (by simp)
        have h2 := h'.pos z (by simp)
        rw [← e] at h1
        obtain ⟨w, hw, ew⟩ := cr_co_mem (l := y :: l) (a := z.2) (by omega)
        rcases List.mem_cons.1 hw with rfl | hw
        · rw [ew] at e1; exact cr_Gt.irrefl _ e1
        · have := hs.1 w hw
          rw [ew] at this
          exact e1.asymm this
    have hy1 : y.1 = z.1 := by
      have h1 := h.at (y := y) (by simp)
      have h2 := h'.at (y := z) (by simp)
      rw [e, hyz] at h1
      omega
    have hyz' : y = z := Prod.ext hy1 hyz
    subst hyz'
    rw [cr_Shr.eq h.tail h'.tail (fun a => by
      have := e a
      rw [cr_co_cons, cr_co_cons] at this
      omega)]
noncomputable def cr_less {n : Nat} : cr_Pl_ n → cr_Xp n → Int → cr_Pl_ n
  | [], _, _ => []
  | y :: l, a, c => @ite _ (y.2 = a) (Classical.propDecidable _) (if y.1 = c then l else (y.1 - c, a) :: l) (y :: cr_less l a c)
theorem cr_less_exp {n : Nat} {l : cr_Pl_ n} {a : cr_Xp n} {c : Int} {y : Int × cr_Xp n} (h : y ∈ cr_less l a c) : ∃ z ∈ l, z.2 = y.2 := by
  classical
  induction l with
  | nil => simp [cr_less] at h
  | cons z l ih =>
    unfold cr_less at h
    by_cases e : z.2 = a
    · rw [if_pos e] at h
      by_cases e1 : z.1 = c
      · rw [if_pos e1] at h; exact ⟨y, by simp [h], rfl⟩
      · rw [if_neg e1] at h
        rcases List.mem_cons.1 h with rfl | h
        · exact ⟨z, by simp, e⟩
        · exact ⟨y, by simp [h], rfl⟩
    · rw [if_neg e] at h
      rcases List.mem_cons.1 h with rfl | h
      · exact ⟨y, by simp, rfl⟩
      · obtain ⟨w, hw, ew⟩ := ih h
        exact ⟨w, by simp [hw], ew⟩
theorem cr_less_shr {n : Nat} {l : cr_Pl_ n} (h : cr_Shr l) {a : cr_Xp n} {c : Int} (hc : 0 < c) (hle : c ≤ cr_co l a) : cr_Shr (cr_less l a c) ∧ ∀ b, cr_co (cr_less l a c) b = cr_co l b - (@ite _ (b = a) (Classical.propDecidable _) c 0) := by
  classical
  induction l with
  | nil => exfalso; have : cr_co ([] : cr_Pl_ n) a = 0 := rfl; omega
  | cons y l ih =>
    have hs := List.pairwise_cons.1 h.srt
    unfold cr_less
    by_cases e : y.2 = a
    · have hy : cr_co (y :: l) a = y.1 := by rw [← e]; exact h.at (by simp)
      rw [if_pos e]
      by_cases e1 : y.1 = c
      · rw [if_pos e1]
        refine ⟨h.tail, fun b => ?_⟩
        rw [cr_co_cons]
        by_cases hb : b = a
        · rw [if_pos hb, if_pos (by rw [e, hb])]; omega
        · rw [if_neg hb, if_neg (fun e2 => hb (by rw [← e2]; exact e))]; omega
      · rw [if_neg e1]
        refine ⟨⟨List.pairwise_cons.2 ⟨fun z hz => by rw [← e]; exact hs.1 z hz, hs.2⟩, fun z hz => ?_⟩, fun b => ?_⟩
        · rcases List.mem_cons.1 hz with rfl | hz
          · show 0 < y.1 - c; omega
          · exact h.pos z (by simp [hz])
        · rw [cr_co_cons, cr_co_cons]
          by_cases hb : b = a
          · rw [if_pos hb.symm, if_pos hb, if_pos (by rw [e, hb])]; omega
          · rw [if_neg (fun e2 => hb e2.symm), if_neg hb, if_neg (fun e2 => hb (by rw [← e2]; exact e))]; omega
    · rw [if_neg e]
      have hle' : c ≤ cr_co l a := by rw [cr_co_cons, if_neg e] at hle; omega
      obtain ⟨h1, h2⟩ := ih h.tail hle'
      refine ⟨⟨List.pairwise_cons.2 ⟨fun z hz => ?_, h1.srt⟩, fun z hz => ?_⟩, fun b => ?_⟩
      · obtain ⟨w, hw, ew⟩ := cr_less_exp hz
        rw [← ew]; exact hs.1 w hw
      · rcases List.mem_cons.1 hz with rfl | hz
        · exact h.pos z (by simp)
        · exact h1.pos z hz
      · rw [cr_co_cons, cr_co_cons, h2 b]; omega
noncomputable def cr_lessAll {n : Nat} (A : cr_Pl_ n) (r : Int × cr_Xp n) : cr_Pl_ n → cr_Pl_ n
  | [] => A
  | y :: B => cr_lessAll (cr_less A (fun i => r.2 i + y.2 i) (r.1 * y.1)) r B
theorem cr_lessAll_shr {n : Nat} {r : Int × cr_Xp n} (hr : 0 < r.1) {C : cr_Pl_ n} (hC : ∀ y ∈ C, 0 < y.1) : ∀ {B A : cr_Pl_ n}, (∀ y ∈ B, 0 < y.1) → cr_Shr A → (∀ a, cr_co A a = cr_co C a + cr_co (cr_shz r B) a) →
    cr_Shr (cr_lessAll A r B) ∧ ∀ a, cr_co (cr_lessAll A r B) a = cr_co C a
  | [], A, _, hA, he => ⟨hA, fun a => by show cr_co A a = _; rw [he a]; show cr_co C a + 0 = _; omega⟩
  | y :: B, A, hB, hA, he => by
    classical
    have hy := hB y (by simp)
    have hpos : 0 < r.1 * y.1 := Int.mul_pos hr hy
    have e1 : ∀ a, cr_co (cr_shz r (y :: B)) a = (if (fun i => r.2 i + y.2 i) = a then r.1 * y.1 else 0) + cr_co (cr_shz r B) a := fun a => rfl
    have hsB : ∀ z ∈ cr_shz r B, 0 < z.1 := fun z hz => by
      obtain ⟨w, hw, rfl⟩ := List.mem_map.1 hz
      exact Int.mul_pos hr (hB w (by simp [hw]))
    have h1 := cr_less_shr hA (a := fun i => r.2 i + y.2 i) hpos (by
      rw [he, e1, if_pos rfl]
      have := cr_Shr.nonneg hC (fun i => r.2 i + y.2 i)
      have := cr_Shr.nonneg hsB (fun i => r.2 i + y.2 i)
      omega)
    show cr_Shr (cr_lessAll (cr_less A (fun i => r.2 i + y.2 i) (r.1 * y.1)) r B) ∧ ∀ a, cr_co (cr_lessAll (cr_less A (fun i => r.2 i + y.2 i) (r.1 * y.1)) r B) a = cr_co C a
    refine cr_lessAll_shr hr hC (B := B) (fun z hz => hB z (by simp [hz])) h1.1 (fun a => ?_)
    rw [h1.2, he, e1]
    by_cases ha : a = fun i => r.2 i + y.2 i
    · rw [if_pos ha.symm, if_pos ha]; omega
    · rw [if_neg (fun e => ha e.symm), if_neg ha]; omega
theorem cr_last_mul {n : Nat} {R B : cr_Pl_ n} {r b : Int × cr_Xp n} (hR : cr_Shr (R ++ [r])) (hB : cr_Shr (B ++ [b])) :
    cr_co (cr_pmz (R ++ [r]) (B ++ [b])) (fun i => r.2 i + b.2 i) = r.1 * b.1 ∧ ∀ a, cr_co (cr_pmz (R ++ [r]) (B ++ [b])) a ≠ 0 → a = (fun i => r.2 i + b.2 i) ∨ cr_Gt a (fun i => r.2 i + b.2 i) := by
  have hlR : ∀ y ∈ R, cr_Gt y.2 r.2 := fun y hy => (List.pairwise_append.1 hR.srt).2.2 y hy r (by simp)
  have hlB : ∀ y ∈ B, cr_Gt y.2 b.2 := fun y hy => (List.pairwise_append.1 hB.srt).2.2 y hy b (by simp)
  have hBge : ∀ y ∈ B ++ [b], y.2 = b.2 ∨ cr_Gt y.2 b.2 := fun y hy => by
    rcases List.mem_append.1 hy with h | h
    · exact .inr (hlB y h)
    · have : y = b := by simpa using h
      subst this; exact .inl rfl
  constructor
  · rw [cr_co_pmz, List.map_append, List.sum_append]
    have z : (R.map fun y => y.1 * cr_co (B ++ [b]) (fun i => (r.2 i + b.2 i) - y.2 i)).sum = 0 := by
      have key : ∀ y ∈ R, y.1 * cr_co (B ++ [b]) (fun i => (r.2 i + b.2 i) - y.2 i) = 0 := by
        intro y hy
        rw [cr_co_none (fun z hz e => ?_), Int.mul_zero]
        have hg := hlR y hy

        have h1 : cr_Gt b.2 z.2 := by
          have h2 := hg.add (fun i => b.2 i - y.2 i)
          have e1 : (fun i => y.2 i + (b.2 i - y.2 i)) = b.2 := funext fun i => by omega
          have e2 : (fun i => r.2 i + (b.2 i - y.2 i)) = z.2 := funext fun i => by rw [e]; show r.2 i + (b.2 i - y.2 i) = r.2 i + b.2 i - y.2 i; omega
          rw [e1, e2] at h2
          exact h2
        rcases hBge z hz with h | h
        · rw [h] at h1; exact cr_Gt.irrefl _ h1
        · exact h1.asymm h
      clear hR hlR
      induction R with
      | nil => rfl
      | cons y R ih => rw [List.map_cons, List.sum_cons, key y (by simp), ih (fun z hz => key z (by simp [hz]))]; rfl
    rw [z]
    show 0 + (r.1 * cr_co (B ++ [b]) (fun i => (r.2 i + b.2 i) - r.2 i) + 0) = _
    have e : (fun i => (r.2 i + b.2 i) - r.2 i) = b.2 := funext fun i => by omega
    rw [e, hB.at (by simp)]; omega
  · intro a ha
    rw [cr_co_pmz] at ha
    have : ∃ y ∈ R ++ [r], cr_co (B ++ [b]) (fun i => a i - y.2 i) ≠ 0 := by
      refine Classical.byContradiction (fun hno => ha ?_)
      have key : ∀ y ∈ R ++ [r], y.1 * cr_co (B ++ [b]) (fun i => a i - y.2 i) = 0 := fun y hy => by
        have : cr_co (B ++ [b]) (fun i => a i - y.2 i) = 0 := Classical.byContradiction (fun h => hno ⟨y, hy, h⟩)
        rw [this, Int.mul_zero]
      generalize R ++ [r] = l at key
      induction l with
      | nil => rfl
      | cons y l ih => rw [List.map_cons, List.sum_cons, key y (by simp), ih (fun z hz => key z (by simp [hz]))]; rfl
    obtain ⟨y, hy, hne⟩ := this
    obtain ⟨z, hz, ez⟩ := cr_co_mem hne
    have ea : a = fun i => y.2 i + z.2 i := funext fun i => by
      have : z.2 i = a i - y.2 i := congrFun ez i
      omega
    have hyr : y.2 = r.2 ∨ cr_Gt y.2 r.2 := by
      rcases List.mem_append.1 hy with h | h
      · exact .inr (hlR y h)
      · have : y = r := by simpa using h
        subst this; exact .inl rfl
    have comm : ∀ u w : cr_Xp n, (fun i => u i + w i) = fun i => w i + u i := fun u w => funext fun i => by omega
    rw [ea]
    rcases hyr with h1 | h1
    · rcases hBge z hz with h2 | h2
      · left; rw [h1, h2]
      · right; rw [h1, comm r.2 z.2, comm r.2 b.2]; exact h2.add r.2
    · right
      have h3 := h1.add z.2
      rcases hBge z hz with h2 | h2
      · rw [h2] at h3 ⊢; exact h3
      · have h4 := h2.add r.2
        rw [comm z.2 r.2, comm b.2 r.2] at h4
        exact h3.trans h4
theorem cr_divide_step {n : Nat} {R B A : cr_Pl_ n} {r b : Int × cr_Xp n} (hR : cr_Shr (R ++ [r])) (hB : cr_Shr (B ++ [b])) (hA : cr_Shr A) (he : ∀ a, cr_co A a = cr_co (cr_pmz (R ++ [r]) (B ++ [b])) a) :
    ∃ A' x, A = A' ++ [x] ∧ x.1 = r.1 * b.1 ∧ (∀ i, x.2 i = r.2 i + b.2 i) ∧ x.1 / b.1 = r.1 ∧ cr_Shr (cr_lessAll A r (B ++ [b])) ∧ ∀ a, cr_co (cr_lessAll A r (B ++ [b])) a = cr_co (cr_pmz R (B ++ [b])) a := by
  obtain ⟨h1, h2⟩ := cr_last_mul hR hB
  have hr := hR.pos r (by simp)
  have hb := hB.pos b (by simp)
  have hne : A ≠ [] := by
    intro e
    have := he (fun i => r.2 i + b.2 i)
    rw [e, h1] at this
    have h3 := Int.mul_pos hr hb
    have : cr_co ([] : cr_Pl_ n) (fun i => r.2 i + b.2 i) = 0 := rfl
    omega
  obtain ⟨A', x, rfl⟩ : ∃ A' x, A = A' ++ [x] := ⟨A.dropLast, A.getLast hne, (List.dropLast_concat_getLast hne).symm⟩
  have hx := hA.at (y := x) (by simp)
  have hxp := hA.pos x (by simp)
  have hx2 : x.2 = fun i => r.2 i + b.2 i := by
    have hn : cr_co (cr_pmz (R ++ [r]) (B ++ [b])) x.2 ≠ 0 := by rw [← he, hx]; omega
    rcases h2 x.2 hn with h | h
    · exact h
    · exfalso
      have h3 : cr_co (A' ++ [x]) (fun i => r.2 i + b.2 i) ≠ 0 := by
        rw [he, h1]
        have := Int.mul_pos hr hb
        omega
      obtain ⟨w, hw, ew⟩ := cr_co_mem h3
      have hle : w.2 = x.2 ∨ cr_Gt w.2 x.2 := by
        rcases List.mem_append.1 hw with hw | hw
        · exact .inr ((List.pairwise_append.1 hA.srt).2.2 w hw x (by simp))
        · have : w = x := by simpa using hw
          subst this; exact .inl rfl
      rw [← ew] at h
      rcases hle with e | e
      · rw [e] at h; exact cr_Gt.irrefl _ h
      · exact h.asymm e
  have hx1 : x.1 = r.1 * b.1 := by rw [← hx, he, hx2, h1]
  have hRp : ∀ y ∈ cr_pmz R (B ++ [b]), 0 < y.1 := fun y hy => by
    obtain ⟨z, hz, hy⟩ := List.mem_flatMap.1 hy
    obtain ⟨w, hw, rfl⟩ := List.mem_map.1 hy
    exact Int.mul_pos (hR.pos z (by simp [hz])) (hB.pos w hw)
  refine ⟨A', x, rfl, hx1, fun i => by rw [hx2], by rw [hx1]; exact Int.mul_ediv_cancel _ (by omega), ?_⟩
  refine cr_lessAll_shr hr hRp (fun y hy => hB.pos y hy) hA (fun a => ?_)
  rw [he]
  have : cr_pmz (R ++ [r]) (B ++ [b]) = cr_pmz R (B ++ [b]) ++ cr_shz r (B ++ [b]) := by
    unfold cr_pmz
    rw [List.flatMap_append]
    simp
  rw [this, cr_co_app]

