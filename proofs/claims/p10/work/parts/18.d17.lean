def cx_mo [Mul (cx_S Nat)] [One (cx_S Nat)] [Add (cx_S Nat)] [Zero (cx_S Nat)] [Inhabited (cx_Idx Nat)] [Inhabited (PLift cx_Natl)] {n : Nat} [Zero (cx_Ex n)] [Add (cx_Ex n)] [Mul (cx_S (cx_Ex n))] [One (cx_S (cx_Ex n))] [Add (cx_S (cx_Ex n))] [Zero (cx_S (cx_Ex n))] [Inhabited (cx_Idx (cx_Ex n))] [Inhabited (PLift (cx_Exl n))] [∀ s : cx_Sd n, Add (cx_MM s)] [∀ s : cx_Sd n, Inhabited (PLift (cx_MGl (cx_MM s)))] [∀ s : cx_Sd n, Inhabited (cx_Tord (cx_Ex n) (cx_MM s))] [Inhabited (PLift (cx_MMl n))] (v : Fin n → Rat) (a : Fin n → Int) : Rat := (List.finRange n).foldr (fun j r => v j ^ a j * r) 1
def cx_mol [Mul (cx_S Nat)] [One (cx_S Nat)] [Add (cx_S Nat)] [Zero (cx_S Nat)] [Inhabited (cx_Idx Nat)] [Inhabited (PLift cx_Natl)] {n : Nat} [Zero (cx_Ex n)] [Add (cx_Ex n)] [Mul (cx_S (cx_Ex n))] [One (cx_S (cx_Ex n))] [Add (cx_S (cx_Ex n))] [Zero (cx_S (cx_Ex n))] [Inhabited (cx_Idx (cx_Ex n))] [Inhabited (PLift (cx_Exl n))] [∀ s : cx_Sd n, Add (cx_MM s)] [∀ s : cx_Sd n, Inhabited (PLift (cx_MGl (cx_MM s)))] [∀ s : cx_Sd n, Inhabited (cx_Tord (cx_Ex n) (cx_MM s))] [Inhabited (PLift (cx_MMl n))] (l : List (Fin n)) (v : Fin n → Rat) (a : Fin n → Int) : Rat := l.foldr (fun j r => v j ^ a j * r) 1
theorem cx_mol_cons [Mul (cx_S Nat)] [One (cx_S Nat)] [Add (cx_S Nat)] [Zero (cx_S Nat)] [Inhabited (cx_Idx Nat)] [Inhabited (PLift cx_Natl)] {n : Nat} [Zero (cx_Ex n)] [Add (cx_Ex n)] [Mul (cx_S (cx_Ex n))] [One (cx_S (cx_Ex n))] [Add (cx_S (cx_Ex n))] [Zero (cx_S (cx_Ex n))] [Inhabited (cx_Idx (cx_Ex n))] [Inhabited (PLift (cx_Exl n))] [∀ s : cx_Sd n, Add (cx_MM s)] [∀ s : cx_Sd n, Inhabited (PLift (cx_MGl (cx_MM s)))] [∀ s : cx_Sd n, Inhabited (cx_Tord (cx_Ex n) (cx_MM s))] [Inhabited (PLift (cx_MMl n))] (x : Fin n) (l : List (Fin n)) (v : Fin n → Rat) (a : Fin n → Int) : cx_mol (x :: l) v a = v x ^ a x * cx_mol l v a := rfl
theorem cx_mol_add [Mul (cx_S Nat)] [One (cx_S Nat)] [Add (cx_S Nat)] [Zero (cx_S Nat)] [Inhabited (cx_Idx Nat)] [Inhabited (PLift cx_Natl)] {n : Nat} [Zero (cx_Ex n)] [Add (cx_Ex n)] [Mul (cx_S (cx_Ex n))] [One (cx_S (cx_Ex n))] [Add (cx_S (cx_Ex n))] [Zero (cx_S (cx_Ex n))] [Inhabited (cx_Idx (cx_Ex n))] [Inhabited (PLift (cx_Exl n))] [∀ s : cx_Sd n, Add (cx_MM s)] [∀ s : cx_Sd n, Inhabited (PLift (cx_MGl (cx_MM s)))] [∀ s : cx_Sd n, Inhabited (cx_Tord (cx_Ex n) (cx_MM s))] [Inhabited (PLift (cx_MMl n))] (l : List (Fin n)) {v : Fin n → Rat} (h : ∀ j, 0 < v j) (a b : Fin n → Int) : cx_mol l v (fun j => a j + b j) = cx_mol l v a * cx_mol l v b := by
  induction l with
  | nil => show (1 : Rat) = 1 * 1; grind
  | cons x l ih => rw [cx_mol_cons, cx_mol_cons, cx_mol_cons, ih, cx_zp_add (h x)]; grind
theorem cx_mol_pos [Mul (cx_S Nat)] [One (cx_S Nat)] [Add (cx_S Nat)] [Zero (cx_S Nat)] [Inhabited (cx_Idx Nat)] [Inhabited (PLift cx_Natl)] {n : Nat} [Zero (cx_Ex n)] [Add (cx_Ex n)] [Mul (cx_S (cx_Ex n))] [One (cx_S (cx_Ex n))] [Add (cx_S (cx_Ex n))] [Zero (cx_S (cx_Ex n))] [Inhabited (cx_Idx (cx_Ex n))] [Inhabited (PLift (cx_Exl n))] [∀ s : cx_Sd n, Add (cx_MM s)] [∀ s : cx_Sd n, Inhabited (PLift (cx_MGl (cx_MM s)))] [∀ s : cx_Sd n, Inhabited (cx_Tord (cx_Ex n) (cx_MM s))] [Inhabited (PLift (cx_MMl n))] (l : List (Fin n)) {v : Fin n → Rat} (h : ∀ j, 0 < v j) (a : Fin n → Int) : 0 < cx_mol l v a := by
  induction l with
  | nil => show (0 : Rat) < 1; grind
  | cons x l ih => rw [cx_mol_cons]; exact Rat.mul_pos (Rat.zpow_pos (h x)) ih
theorem cx_mol_zero [Mul (cx_S Nat)] [One (cx_S Nat)] [Add (cx_S Nat)] [Zero (cx_S Nat)] [Inhabited (cx_Idx Nat)] [Inhabited (PLift cx_Natl)] {n : Nat} [Zero (cx_Ex n)] [Add (cx_Ex n)] [Mul (cx_S (cx_Ex n))] [One (cx_S (cx_Ex n))] [Add (cx_S (cx_Ex n))] [Zero (cx_S (cx_Ex n))] [Inhabited (cx_Idx (cx_Ex n))] [Inhabited (PLift (cx_Exl n))] [∀ s : cx_Sd n, Add (cx_MM s)] [∀ s : cx_Sd n, Inhabited (PLift (cx_MGl (cx_MM s)))] [∀ s : cx_Sd n, Inhabited (cx_Tord (cx_Ex n) (cx_MM s))] [Inhabited (PLift (cx_MMl n))] (l : List (Fin n)) (v : Fin n → Rat) (a : Fin n → Int) (h : ∀ j ∈ l, a j = 0) : cx_mol l v a = 1 := by
  induction l with
  | nil => rfl
  | cons x l ih => rw [cx_mol_cons, ih (fun j hj => h j (by simp [hj])), h x (by simp), Rat.zpow_zero]; grind
theorem cx_mol_congr [Mul (cx_S Nat)] [One (cx_S Nat)] [Add (cx_S Nat)] [Zero (cx_S Nat)] [Inhabited (cx_Idx Nat)] [Inhabited (PLift cx_Natl)] {n : Nat} [Zero (cx_Ex n)] [Add (cx_Ex n)] [Mul (cx_S (cx_Ex n))] [One (cx_S (cx_Ex n))] [Add (cx_S (cx_Ex n))] [Zero (cx_S (cx_Ex n))] [Inhabited (cx_Idx (cx_Ex n))] [Inhabited (PLift (cx_Exl n))] [∀ s : cx_Sd n, Add (cx_MM s)] [∀ s : cx_Sd n, Inhabited (PLift (cx_MGl (cx_MM s)))] [∀ s : cx_Sd n, Inhabited (cx_Tord (cx_Ex n) (cx_MM s))] [Inhabited (PLift (cx_MMl n))] (l : List (Fin n)) {v v' : Fin n → Rat} {a a' : Fin n → Int} (h : ∀ j ∈ l, v j ^ a j = v' j ^ a' j) : cx_mol l v a = cx_mol l v' a' := by
  induction l with
  | nil => rfl
  | cons x l ih => rw [cx_mol_cons, cx_mol_cons, ih (fun j hj => h j (by simp [hj])), h x (by simp)]
theorem cx_one_zp [Mul (cx_S Nat)] [One (cx_S Nat)] [Add (cx_S Nat)] [Zero (cx_S Nat)] [Inhabited (cx_Idx Nat)] [Inhabited (PLift cx_Natl)]  (z : Int) : (1 : Rat) ^ z = 1 := by
  have : ∀ j : Nat, (1 : Rat) ^ (j : Int) = 1 := fun j => by
    induction j with
    | zero => exact Rat.zpow_zero 1
    | succ j ih => rw [show ((j + 1 : Nat) : Int) = (j : Int) + 1 by omega, cx_zp_add (by grind), ih, Rat.zpow_one]; grind
  rcases Int.eq_nat_or_neg z with ⟨j, rfl | rfl⟩
  · exact this j
  · rw [Rat.zpow_neg, this j]; have h : (1 : Rat)⁻¹ * 1 = 1 := Rat.inv_mul_cancel _ (by grind)
    rw [Rat.mul_one] at h; exact h
theorem cx_mul_zp [Mul (cx_S Nat)] [One (cx_S Nat)] [Add (cx_S Nat)] [Zero (cx_S Nat)] [Inhabited (cx_Idx Nat)] [Inhabited (PLift cx_Natl)]  {x y : Rat} (hx : 0 < x) (hy : 0 < y) (z : Int) : (x * y) ^ z = x ^ z * y ^ z := by
  have hxy := Rat.mul_pos hx hy
  have main : ∀ j : Nat, (x * y) ^ (j : Int) = x ^ (j : Int) * y ^ (j : Int) := fun j => by
    induction j with
    | zero => show (x * y) ^ (0 : Int) = x ^ (0 : Int) * y ^ (0 : Int); rw [Rat.zpow_zero, Rat.zpow_zero, Rat.zpow_zero]; grind
    | succ j ih =>
      rw [show ((j + 1 : Nat) : Int) = (j : Int) + 1 by omega, cx_zp_add hxy, cx_zp_add hx, cx_zp_add hy, ih, Rat.zpow_one, Rat.zpow_one, Rat.zpow_one]; grind
  rcases Int.eq_nat_or_neg z with ⟨j, rfl | rfl⟩
  · exact main j
  · rw [Rat.zpow_neg, Rat.zpow_neg, Rat.zpow_neg, main j, Rat.inv_mul_rev]; grind
theorem cx_zp_mul [Mul (cx_S Nat)] [One (cx_S Nat)] [Add (cx_S Nat)] [Zero (cx_S Nat)] [Inhabited (cx_Idx Nat)] [Inhabited (PLift cx_Natl)]  {x : Rat} (hx : 0 < x) (a z : Int) : x ^ (a * z) = (x ^ a) ^ z := by
  have hxa : 0 < x ^ a := Rat.zpow_pos hx
  have main : ∀ j : Nat, x ^ (a * (j : Int)) = (x ^ a) ^ (j : Int) := fun j => by
    induction j with
    | zero => show x ^ (a * (0 : Int)) = (x ^ a) ^ (0 : Int); rw [Int.mul_zero, Rat.zpow_zero, Rat.zpow_zero]
    | succ j ih =>
      rw [show ((j + 1 : Nat) : Int) = (j : Int) + 1 by omega, Int.mul_add, cx_zp_add hx, cx_zp_add hxa, ih, Int.mul_one, Rat.zpow_one]
  rcases Int.eq_nat_or_neg z with ⟨j, rfl | rfl⟩
  · exact main j
  · rw [Int.mul_neg, Rat.zpow_neg, Rat.zpow_neg, main j]
theorem cx_mol_pow [Mul (cx_S Nat)] [One (cx_S Nat)] [Add (cx_S Nat)] [Zero (cx_S Nat)] [Inhabited (cx_Idx Nat)] [Inhabited (PLift cx_Natl)] {n : Nat} [Zero (cx_Ex n)] [Add (cx_Ex n)] [Mul (cx_S (cx_Ex n))] [One (cx_S (cx_Ex n))] [Add (cx_S (cx_Ex n))] [Zero (cx_S (cx_Ex n))] [Inhabited (cx_Idx (cx_Ex n))] [Inhabited (PLift (cx_Exl n))] [∀ s : cx_Sd n, Add (cx_MM s)] [∀ s : cx_Sd n, Inhabited (PLift (cx_MGl (cx_MM s)))] [∀ s : cx_Sd n, Inhabited (cx_Tord (cx_Ex n) (cx_MM s))] [Inhabited (PLift (cx_MMl n))] (l : List (Fin n)) {v : Fin n → Rat} (h : ∀ j, 0 < v j) (a : Fin n → Int) (z : Int) : cx_mol l v (fun j => a j * z) = cx_mol l v a ^ z := by
  induction l with
  | nil => show (1 : Rat) = 1 ^ z; rw [cx_one_zp]
  | cons x l ih => rw [cx_mol_cons, cx_mol_cons, ih, cx_mul_zp (Rat.zpow_pos (h x)) (cx_mol_pos l h a), cx_zp_mul (h x)]
theorem cx_mol_split [Mul (cx_S Nat)] [One (cx_S Nat)] [Add (cx_S Nat)] [Zero (cx_S Nat)] [Inhabited (cx_Idx Nat)] [Inhabited (PLift cx_Natl)] {n : Nat} [Zero (cx_Ex n)] [Add (cx_Ex n)] [Mul (cx_S (cx_Ex n))] [One (cx_S (cx_Ex n))] [Add (cx_S (cx_Ex n))] [Zero (cx_S (cx_Ex n))] [Inhabited (cx_Idx (cx_Ex n))] [Inhabited (PLift (cx_Exl n))] [∀ s : cx_Sd n, Add (cx_MM s)] [∀ s : cx_Sd n, Inhabited (PLift (cx_MGl (cx_MM s)))] [∀ s : cx_Sd n, Inhabited (cx_Tord (cx_Ex n) (cx_MM s))] [Inhabited (PLift (cx_MMl n))] {l : List (Fin n)} (hn : l.Nodup) {k : Fin n} (hk : k ∈ l) (v : Fin n → Rat) (a : Fin n → Int) : cx_mol l v a = v k ^ a k * cx_mol l v (fun j => if j = k then 0 else a j) := by
  induction l with
  | nil => simp at hk
  | cons x l ih =>
    rw [List.nodup_cons] at hn
    rw [cx_mol_cons, cx_mol_cons]
    by_cases hx : x = k
    · subst hx
      rw [if_pos rfl, Rat.zpow_zero, Rat.one_mul]
      congr 1
      exact cx_mol_congr l (fun j hj => by rw [if_neg (fun e : j = x => hn.1 (by rw [← e]; exact hj))])
    · rw [if_neg hx, ih hn.2 (by rcases List.mem_cons.1 hk with h | h; exact absurd h.symm hx; exact h)]; grind
theorem cx_mo_add [Mul (cx_S Nat)] [One (cx_S Nat)] [Add (cx_S Nat)] [Zero (cx_S Nat)] [Inhabited (cx_Idx Nat)] [Inhabited (PLift cx_Natl)] {n : Nat} [Zero (cx_Ex n)] [Add (cx_Ex n)] [Mul (cx_S (cx_Ex n))] [One (cx_S (cx_Ex n))] [Add (cx_S (cx_Ex n))] [Zero (cx_S (cx_Ex n))] [Inhabited (cx_Idx (cx_Ex n))] [Inhabited (PLift (cx_Exl n))] [∀ s : cx_Sd n, Add (cx_MM s)] [∀ s : cx_Sd n, Inhabited (PLift (cx_MGl (cx_MM s)))] [∀ s : cx_Sd n, Inhabited (cx_Tord (cx_Ex n) (cx_MM s))] [Inhabited (PLift (cx_MMl n))] {v : Fin n → Rat} (h : ∀ j, 0 < v j) (a b : Fin n → Int) : cx_mo v (fun j => a j + b j) = cx_mo v a * cx_mo v b := cx_mol_add _ h a b
theorem cx_mo_pos [Mul (cx_S Nat)] [One (cx_S Nat)] [Add (cx_S Nat)] [Zero (cx_S Nat)] [Inhabited (cx_Idx Nat)] [Inhabited (PLift cx_Natl)] {n : Nat} [Zero (cx_Ex n)] [Add (cx_Ex n)] [Mul (cx_S (cx_Ex n))] [One (cx_S (cx_Ex n))] [Add (cx_S (cx_Ex n))] [Zero (cx_S (cx_Ex n))] [Inhabited (cx_Idx (cx_Ex n))] [Inhabited (PLift (cx_Exl n))] [∀ s : cx_Sd n, Add (cx_MM s)] [∀ s : cx_Sd n, Inhabited (PLift (cx_MGl (cx_MM s)))] [∀ s : cx_Sd n, Inhabited (cx_Tord (cx_Ex n) (cx_MM s))] [Inhabited (PLift (cx_MMl n))] {v : Fin n → Rat} (h : ∀ j, 0 < v j) (a : Fin n → Int) : 0 < cx_mo v a := cx_mol_pos _ h a
theorem cx_mo_pow [Mul (cx_S Nat)] [One (cx_S Nat)] [Add (cx_S Nat)] [Zero (cx_S Nat)] [Inhabited (cx_Idx Nat)] [Inhabited (PLift cx_Natl)] {n : Nat} [Zero (cx_Ex n)] [Add (cx_Ex n)] [Mul (cx_S (cx_Ex n))] [One (cx_S (cx_Ex n))] [Add (cx_S (cx_Ex n))] [Zero (cx_S (cx_Ex n))] [Inhabited (cx_Idx (cx_Ex n))] [Inhabited (PLift (cx_Exl n))] [∀ s : cx_Sd n, Add (cx_MM s)] [∀ s : cx_Sd n, Inhabited (PLift (cx_MGl (cx_MM s)))] [∀ s : cx_Sd n, Inhabited (cx_Tord (cx_Ex n) (cx_MM s))] [Inhabited (PLift (cx_MMl n))] {v : Fin n → Rat} (h : ∀ j, 0 < v j) (a : Fin n → Int) (z : Int) : cx_mo v (fun j => a j * z) = cx_mo v a ^ z := cx_mol_pow _ h a z
theorem cx_mo_split [Mul (cx_S Nat)] [One (cx_S Nat)] [Add (cx_S Nat)] [Zero (cx_S Nat)] [Inhabited (cx_Idx Nat)] [Inhabited (PLift cx_Natl)] {n : Nat} [Zero (cx_Ex n)] [Add (cx_Ex n)] [Mul (cx_S (cx_Ex n))] [One (cx_S (cx_Ex n))] [Add (cx_S (cx_Ex n))] [Zero (cx_S (cx_Ex n))] [Inhabited (cx_Idx (cx_Ex n))] [Inhabited (PLift (cx_Exl n))] [∀ s : cx_Sd n, Add (cx_MM s)] [∀ s : cx_Sd n, Inhabited (PLift (cx_MGl (cx_MM s)))] [∀ s : cx_Sd n, Inhabited (cx_Tord (cx_Ex n) (cx_MM s))] [Inhabited (PLift (cx_MMl n))] (k : Fin n) (v : Fin n → Rat) (a : Fin n → Int) : cx_mo v a = v k ^ a k * cx_mo v (fun j => if j = k then 0 else a j) := cx_mol_split (List.nodup_finRange n) (List.mem_finRange k) v a
theorem cx_mo_congr [Mul (cx_S Nat)] [One (cx_S Nat)] [Add (cx_S Nat)] [Zero (cx_S Nat)] [Inhabited (cx_Idx Nat)] [Inhabited (PLift cx_Natl)] {n : Nat} [Zero (cx_Ex n)] [Add (cx_Ex n)] [Mul (cx_S (cx_Ex n))] [One (cx_S (cx_Ex n))] [Add (cx_S (cx_Ex n))] [Zero (cx_S (cx_Ex n))] [Inhabited (cx_Idx (cx_Ex n))] [Inhabited (PLift (cx_Exl n))] [∀ s : cx_Sd n, Add (cx_MM s)] [∀ s : cx_Sd n, Inhabited (PLift (cx_MGl (cx_MM s)))] [∀ s : cx_Sd n, Inhabited (cx_Tord (cx_Ex n) (cx_MM s))] [Inhabited (PLift (cx_MMl n))] {v v' : Fin n → Rat} {a a' : Fin n → Int} (h : ∀ j, v j ^ a j = v' j ^ a' j) : cx_mo v a = cx_mo v' a' := cx_mol_congr _ (fun j _ => h j)
def cx_ix [Mul (cx_S Nat)] [One (cx_S Nat)] [Add (cx_S Nat)] [Zero (cx_S Nat)] [Inhabited (cx_Idx Nat)] [Inhabited (PLift cx_Natl)] {n : Nat} [Zero (cx_Ex n)] [Add (cx_Ex n)] [Mul (cx_S (cx_Ex n))] [One (cx_S (cx_Ex n))] [Add (cx_S (cx_Ex n))] [Zero (cx_S (cx_Ex n))] [Inhabited (cx_Idx (cx_Ex n))] [Inhabited (PLift (cx_Exl n))] [∀ s : cx_Sd n, Add (cx_MM s)] [∀ s : cx_Sd n, Inhabited (PLift (cx_MGl (cx_MM s)))] [∀ s : cx_Sd n, Inhabited (cx_Tord (cx_Ex n) (cx_MM s))] [Inhabited (PLift (cx_MMl n))] {s : cx_Sd n} (m : cx_MM s) : Fin n → Int := fun i => cx_iz (m.v i)
def cx_Vm [Mul (cx_S Nat)] [One (cx_S Nat)] [Add (cx_S Nat)] [Zero (cx_S Nat)] [Inhabited (cx_Idx Nat)] [Inhabited (PLift cx_Natl)] {n : Nat} {ι : Type} [Zero (cx_Ex n)] [Add (cx_Ex n)] [Mul (cx_S (cx_Ex n))] [One (cx_S (cx_Ex n))] [Add (cx_S (cx_Ex n))] [Zero (cx_S (cx_Ex n))] [Inhabited (cx_Idx (cx_Ex n))] [Inhabited (PLift (cx_Exl n))] [∀ s : cx_Sd n, Add (cx_MM s)] [∀ s : cx_Sd n, Inhabited (PLift (cx_MGl (cx_MM s)))] [∀ s : cx_Sd n, Inhabited (cx_Tord (cx_Ex n) (cx_MM s))] [Inhabited (PLift (cx_MMl n))] (s : cx_Sd n) (v : ι → Fin n → Rat) : ι → cx_MM s → Rat := fun i m => cx_mo (v i) (cx_ix m)
theorem cx_Vm_mulZ [Mul (cx_S Nat)] [One (cx_S Nat)] [Add (cx_S Nat)] [Zero (cx_S Nat)] [Inhabited (cx_Idx Nat)] [Inhabited (PLift cx_Natl)] {n : Nat} {ι : Type} [Zero (cx_Ex n)] [Add (cx_Ex n)] [Mul (cx_S (cx_Ex n))] [One (cx_S (cx_Ex n))] [Add (cx_S (cx_Ex n))] [Zero (cx_S (cx_Ex n))] [Inhabited (cx_Idx (cx_Ex n))] [Inhabited (PLift (cx_Exl n))] [∀ s : cx_Sd n, Add (cx_MM s)] [∀ s : cx_Sd n, Inhabited (PLift (cx_MGl (cx_MM s)))] [∀ s : cx_Sd n, Inhabited (cx_Tord (cx_Ex n) (cx_MM s))] [Inhabited (PLift (cx_MMl n))] (s : cx_Sd n) {v : ι → Fin n → Rat} (h : ∀ i j, 0 < v i j) : cx_MulZ s (cx_Vm s v) := ⟨(fun i m _ => cx_mo_pos (h i) _),
  (fun i m m' hm hm' => by
    unfold cx_Vm
    rw [← cx_mo_add (h i)]
    refine cx_mo_congr (fun j => ?_)
    unfold cx_ix
    rw [cx_mm_add, cx_iz_add (hm j) (hm' j)])⟩
def cx_stepv [Mul (cx_S Nat)] [One (cx_S Nat)] [Add (cx_S Nat)] [Zero (cx_S Nat)] [Inhabited (cx_Idx Nat)] [Inhabited (PLift cx_Natl)] {n : Nat} [Zero (cx_Ex n)] [Add (cx_Ex n)] [Mul (cx_S (cx_Ex n))] [One (cx_S (cx_Ex n))] [Add (cx_S (cx_Ex n))] [Zero (cx_S (cx_Ex n))] [Inhabited (cx_Idx (cx_Ex n))] [Inhabited (PLift (cx_Exl n))] [∀ s : cx_Sd n, Add (cx_MM s)] [∀ s : cx_Sd n, Inhabited (PLift (cx_MGl (cx_MM s)))] [∀ s : cx_Sd n, Inhabited (cx_Tord (cx_Ex n) (cx_MM s))] [Inhabited (PLift (cx_MMl n))] (b : Fin n → Fin n → Int) (k : Fin n) (v : Fin n → Rat) : Fin n → Rat := fun j =>
  if j = k then (cx_mo v (fun i => (cx_pos (b i k) : Int)) + cx_mo v (fun i => (cx_pos (- b i k) : Int))) * (v k)⁻¹ else v j
theorem cx_stepv_pos [Mul (cx_S Nat)] [One (cx_S Nat)] [Add (cx_S Nat)] [Zero (cx_S Nat)] [Inhabited (cx_Idx Nat)] [Inhabited (PLift cx_Natl)] {n : Nat} [Zero (cx_Ex n)] [Add (cx_Ex n)] [Mul (cx_S (cx_Ex n))] [One (cx_S (cx_Ex n))] [Add (cx_S (cx_Ex n))] [Zero (cx_S (cx_Ex n))] [Inhabited (cx_Idx (cx_Ex n))] [Inhabited (PLift (cx_Exl n))] [∀ s : cx_Sd n, Add (cx_MM s)] [∀ s : cx_Sd n, Inhabited (PLift (cx_MGl (cx_MM s)))] [∀ s : cx_Sd n, Inhabited (cx_Tord (cx_Ex n) (cx_MM s))] [Inhabited (PLift (cx_MMl n))] (b : Fin n → Fin n → Int) (k : Fin n) {v : Fin n → Rat} (h : ∀ j, 0 < v j) (j : Fin n) : 0 < cx_stepv b k v j := by
  unfold cx_stepv
  by_cases hj : j = k
  · rw [if_pos hj]
    have h1 := cx_mo_pos h (fun i => (cx_pos (b i k) : Int))
    have h2 := cx_mo_pos h (fun i => (cx_pos (- b i k) : Int))
    exact Rat.mul_pos (by grind) (Rat.inv_pos.2 (h k))
  · rw [if_neg hj]; exact h j
theorem cx_stepv_neg [Mul (cx_S Nat)] [One (cx_S Nat)] [Add (cx_S Nat)] [Zero (cx_S Nat)] [Inhabited (cx_Idx Nat)] [Inhabited (PLift cx_Natl)] {n : Nat} [Zero (cx_Ex n)] [Add (cx_Ex n)] [Mul (cx_S (cx_Ex n))] [One (cx_S (cx_Ex n))] [Add (cx_S (cx_Ex n))] [Zero (cx_S (cx_Ex n))] [Inhabited (cx_Idx (cx_Ex n))] [Inhabited (PLift (cx_Exl n))] [∀ s : cx_Sd n, Add (cx_MM s)] [∀ s : cx_Sd n, Inhabited (PLift (cx_MGl (cx_MM s)))] [∀ s : cx_Sd n, Inhabited (cx_Tord (cx_Ex n) (cx_MM s))] [Inhabited (PLift (cx_MMl n))] {b b' : Fin n → Fin n → Int} {k : Fin n} (h : ∀ i, b' i k = - b i k) (v : Fin n → Rat) : cx_stepv b' k v = cx_stepv b k v := by
  funext j
  unfold cx_stepv
  by_cases hj : j = k
  · rw [if_pos hj, if_pos hj]
    have e1 : (fun i => (cx_pos (b' i k) : Int)) = fun i => (cx_pos (- b i k) : Int) := funext fun i => by rw [h i]
    have e2 : (fun i => (cx_pos (- b' i k) : Int)) = fun i => (cx_pos (b i k) : Int) := funext fun i => by rw [h i, Int.neg_neg]
    rw [e1, e2]; grind
  · rw [if_neg hj, if_neg hj]
theorem cx_chart [Mul (cx_S Nat)] [One (cx_S Nat)] [Add (cx_S Nat)] [Zero (cx_S Nat)] [Inhabited (cx_Idx Nat)] [Inhabited (PLift cx_Natl)] {n : Nat} [Zero (cx_Ex n)] [Add (cx_Ex n)] [Mul (cx_S (cx_Ex n))] [One (cx_S (cx_Ex n))] [Add (cx_S (cx_Ex n))] [Zero (cx_S (cx_Ex n))] [Inhabited (cx_Idx (cx_Ex n))] [Inhabited (PLift (cx_Exl n))] [∀ s : cx_Sd n, Add (cx_MM s)] [∀ s : cx_Sd n, Inhabited (PLift (cx_MGl (cx_MM s)))] [∀ s : cx_Sd n, Inhabited (cx_Tord (cx_Ex n) (cx_MM s))] [Inhabited (PLift (cx_MMl n))] {s : cx_Sd n} {k : Fin n} {c : Fin n → Int} (hck : c k = 0) {z : Fin n → Int} (hzk : z k = 0) {v : Fin n → Rat} (hv : ∀ j, 0 < v j)
    (hb : cx_mo v (fun j => c j) * (1 + cx_mo v z) = cx_mo v (fun i => (cx_pos (s.b i k) : Int)) + cx_mo v (fun i => (cx_pos (- s.b i k) : Int))) (a a' : Fin n → Int)
    (ha' : ∀ j, a' j = if j = k then - a k else a j + c j * a k) : cx_mo (cx_stepv s.b k v) a = cx_mo v a' * (1 + cx_mo v z) ^ a k := by
  have e1 : cx_mo (cx_stepv s.b k v) a = (cx_stepv s.b k v k) ^ a k * cx_mo v (fun j => if j = k then 0 else a j) := by
    rw [cx_mo_split k]
    congr 1
    refine cx_mo_congr (fun j => ?_)
    by_cases hj : j = k
    · rw [if_pos hj, Rat.zpow_zero, Rat.zpow_zero]
    · rw [if_neg hj]
      have : cx_stepv s.b k v j = v j := if_neg hj
      rw [this]
  have e2 : cx_stepv s.b k v k = cx_mo v c * (1 + cx_mo v z) * (v k)⁻¹ := by
    unfold cx_stepv
    rw [if_pos rfl, hb]
  have p1 := cx_mo_pos hv c
  have p2 : 0 < 1 + cx_mo v z := by have := cx_mo_pos hv z; grind
  have p3 : 0 < (v k)⁻¹ := Rat.inv_pos.2 (hv k)
  have e3 : cx_mo v a' = v k ^ (- a k) * (cx_mo v (fun j => if j = k then 0 else a j) * cx_mo v c ^ a k) := by
    rw [cx_mo_split k, ha' k, if_pos rfl]
    congr 1
    rw [← cx_mo_pow hv, ← cx_mo_add hv]
    refine cx_mo_congr (fun j => ?_)
    by_cases hj : j = k
    · subst hj; rw [if_pos rfl, if_pos rfl, hck]; congr 1; omega
    · rw [if_neg hj, if_neg hj, ha' j, if_neg hj]
  have e4 : ((v k)⁻¹) ^ a k = v k ^ (- a k) := by
    have h1 : ((v k)⁻¹) ^ a k * v k ^ a k = 1 := by
      rw [← cx_mul_zp p3 (hv k), Rat.inv_mul_cancel _ (by have := hv k; grind), cx_one_zp]
    have h2 : v k ^ (- a k) * v k ^ a k = 1 := by rw [← cx_zp_add (hv k), Int.add_left_neg, Rat.zpow_zero]
    refine cx_canc_pos (Rat.zpow_pos (hv k) : 0 < v k ^ a k) ?_
    rw [h1, h2]
  rw [e1, e2, e3, cx_mul_zp (Rat.mul_pos p1 p2) p3, cx_mul_zp p1 p2, e4]; grind
theorem cx_ix_mu [Mul (cx_S Nat)] [One (cx_S Nat)] [Add (cx_S Nat)] [Zero (cx_S Nat)] [Inhabited (cx_Idx Nat)] [Inhabited (PLift cx_Natl)] {n : Nat} [Zero (cx_Ex n)] [Add (cx_Ex n)] [Mul (cx_S (cx_Ex n))] [One (cx_S (cx_Ex n))] [Add (cx_S (cx_Ex n))] [Zero (cx_S (cx_Ex n))] [Inhabited (cx_Idx (cx_Ex n))] [Inhabited (PLift (cx_Exl n))] [∀ s : cx_Sd n, Add (cx_MM s)] [∀ s : cx_Sd n, Inhabited (PLift (cx_MGl (cx_MM s)))] [∀ s : cx_Sd n, Inhabited (cx_Tord (cx_Ex n) (cx_MM s))] [Inhabited (PLift (cx_MMl n))] {s : cx_Sd n} {k : Fin n} {ρ : Fin n → Nat} {c : Fin n → Int} (hc : ∀ i, cx_cc s k ρ i = (c i : Rat)) {m : cx_MM s} (hm : cx_ZZ s m) (j : Fin n) :
    cx_ix (cx_mu s (cx_turn s k) k ρ m) j = if j = k then - cx_ix m k else cx_ix m j + c j * cx_ix m k := by
  unfold cx_ix
  by_cases hj : j = k
  · subst hj; rw [cx_mu_k, if_pos rfl, cx_iz_neg (hm j)]
  · rw [cx_mu_ne _ _ hj, if_neg hj, hc]
    apply cx_iz_inj
    have h1 := cx_iz_eq (hm j)
    have h2 := cx_iz_eq (hm k)
    have e : ((cx_iz (m.v j) + c j * cx_iz (m.v k) : Int) : Rat) = ((cx_iz (m.v j) : Int) : Rat) + (c j : Rat) * ((cx_iz (m.v k) : Int) : Rat) := by exact_mod_cast rfl
    rw [e, h1, h2]
theorem cx_posI2 [Mul (cx_S Nat)] [One (cx_S Nat)] [Add (cx_S Nat)] [Zero (cx_S Nat)] [Inhabited (cx_Idx Nat)] [Inhabited (PLift cx_Natl)]  (x : Int) : (cx_pos (-x) : Int) + x = (cx_pos x : Int) := by unfold cx_pos; omega
theorem cx_vm_p [Mul (cx_S Nat)] [One (cx_S Nat)] [Add (cx_S Nat)] [Zero (cx_S Nat)] [Inhabited (cx_Idx Nat)] [Inhabited (PLift cx_Natl)] {n : Nat} {ι : Type} [Zero (cx_Ex n)] [Add (cx_Ex n)] [Mul (cx_S (cx_Ex n))] [One (cx_S (cx_Ex n))] [Add (cx_S (cx_Ex n))] [Zero (cx_S (cx_Ex n))] [Inhabited (cx_Idx (cx_Ex n))] [Inhabited (PLift (cx_Exl n))] [∀ s : cx_Sd n, Add (cx_MM s)] [∀ s : cx_Sd n, Inhabited (PLift (cx_MGl (cx_MM s)))] [∀ s : cx_Sd n, Inhabited (cx_Tord (cx_Ex n) (cx_MM s))] [Inhabited (PLift (cx_MMl n))] {s : cx_Sd n} {k : Fin n} {v : ι → Fin n → Rat} (hv : ∀ i j, 0 < v i j) (i : ι) (m : cx_MM s) (hm : cx_ZZ s m) :
    cx_Vm (cx_turn s k) v i (cx_mu s (cx_turn s k) k (cx_rp s k) m) * (1 + cx_Vm (cx_turn s k) v i (cx_mu s (cx_turn s k) k (cx_rp s k) (cx_p (cx_ee k)))) ^ cx_iz (m.v k) = cx_Vm s (fun i => cx_stepv s.b k (v i)) i m := by
  have hc : ∀ j, cx_cc s k (cx_rp s k) j = ((cx_pos (- s.b j k) : Int) : Rat) := fun j => by unfold cx_cc; rw [cx_posR']; exact_mod_cast rfl
  have hz : ∀ j, cx_ix (cx_mu s (cx_turn s k) k (cx_rp s k) (cx_p (cx_ee k))) j = s.b j k := fun j => by
    rw [cx_ix_mu hc (cx_ZZ_p s (cx_ee k))]
    unfold cx_ix
    rw [cx_p_ee, cx_p_ee, s.self k, cx_iz_cast, cx_iz_cast]
    by_cases hj : j = k
    · subst hj; rw [if_pos rfl, s.self j]; omega
    · rw [if_neg hj]; omega
  have hz' : cx_ix (cx_mu s (cx_turn s k) k (cx_rp s k) (cx_p (cx_ee k))) = fun j => s.b j k := funext hz
  show cx_mo (v i) _ * (1 + cx_mo (v i) (cx_ix (cx_mu s (cx_turn s k) k (cx_rp s k) (cx_p (cx_ee k))))) ^ _ = cx_mo (cx_stepv s.b k (v i)) (cx_ix m)
  rw [hz']
  refine (cx_chart (s := s) (c := fun j => (cx_pos (- s.b j k) : Int)) (by rw [s.self k]; rfl) (z := fun j => s.b j k) (s.self k) (hv i) ?_ (cx_ix m) _ (cx_ix_mu hc hm)).symm
  have : cx_mo (v i) (fun j => (cx_pos (- s.b j k) : Int)) * cx_mo (v i) (fun j => s.b j k) = cx_mo (v i) (fun j => (cx_pos (s.b j k) : Int)) := by
    rw [← cx_mo_add (hv i)]
    exact cx_mo_congr (fun j => by rw [cx_posI2])
  grind
theorem cx_vm_m [Mul (cx_S Nat)] [One (cx_S Nat)] [Add (cx_S Nat)] [Zero (cx_S Nat)] [Inhabited (cx_Idx Nat)] [Inhabited (PLift cx_Natl)] {n : Nat} {ι : Type} [Zero (cx_Ex n)] [Add (cx_Ex n)] [Mul (cx_S (cx_Ex n))] [One (cx_S (cx_Ex n))] [Add (cx_S (cx_Ex n))] [Zero (cx_S (cx_Ex n))] [Inhabited (cx_Idx (cx_Ex n))] [Inhabited (PLift (cx_Exl n))] [∀ s : cx_Sd n, Add (cx_MM s)] [∀ s : cx_Sd n, Inhabited (PLift (cx_MGl (cx_MM s)))] [∀ s : cx_Sd n, Inhabited (cx_Tord (cx_Ex n) (cx_MM s))] [Inhabited (PLift (cx_MMl n))] {s : cx_Sd n} {k : Fin n} {v : ι → Fin n → Rat} (hv : ∀ i j, 0 < v i j) (i : ι) (m : cx_MM s) (hm : cx_ZZ s m) :
    cx_Vm (cx_turn s k) v i (cx_mu s (cx_turn s k) k (cx_rm s k) m) * (1 + cx_Vm (cx_turn s k) v i (cx_p (cx_ee k))) ^ cx_iz (m.v k) = cx_Vm s (fun i => cx_stepv s.b k (v i)) i m := by
  have hc : ∀ j, cx_cc s k (cx_rm s k) j = ((cx_pos (s.b j k) : Int) : Rat) := fun j => by unfold cx_cc; rw [cx_posR]; exact_mod_cast rfl
  have hz' : cx_ix (cx_p (cx_ee k) : cx_MM (cx_turn s k)) = fun j => - s.b j k := funext fun j => by
    unfold cx_ix
    rw [cx_p_ee, cx_turn_col, cx_iz_cast]
  show cx_mo (v i) _ * (1 + cx_mo (v i) (cx_ix (cx_p (cx_ee k) : cx_MM (cx_turn s k)))) ^ _ = cx_mo (cx_stepv s.b k (v i)) (cx_ix m)
  rw [hz']
  refine (cx_chart (s := s) (c := fun j => (cx_pos (s.b j k) : Int)) (by rw [s.self k]; rfl) (z := fun j => - s.b j k) (by rw [s.self k]; rfl) (hv i) ?_ (cx_ix m) _ (cx_ix_mu hc hm)).symm
  have : cx_mo (v i) (fun j => (cx_pos (s.b j k) : Int)) * cx_mo (v i) (fun j => - s.b j k) = cx_mo (v i) (fun j => (cx_pos (- s.b j k) : Int)) := by
    rw [← cx_mo_add (hv i)]
    exact cx_mo_congr (fun j => by have := cx_posI2 (- s.b j k); rw [Int.neg_neg] at this; rw [this])
  grind
def cx_Pv [Mul (cx_S Nat)] [One (cx_S Nat)] [Add (cx_S Nat)] [Zero (cx_S Nat)] [Inhabited (cx_Idx Nat)] [Inhabited (PLift cx_Natl)]  (n : Nat) := { x : Fin n → Rat // ∀ j, 0 < x j }
def cx_Ok [Mul (cx_S Nat)] [One (cx_S Nat)] [Add (cx_S Nat)] [Zero (cx_S Nat)] [Inhabited (cx_Idx Nat)] [Inhabited (PLift cx_Natl)] {n : Nat} [Zero (cx_Ex n)] [Add (cx_Ex n)] [Mul (cx_S (cx_Ex n))] [One (cx_S (cx_Ex n))] [Add (cx_S (cx_Ex n))] [Zero (cx_S (cx_Ex n))] [Inhabited (cx_Idx (cx_Ex n))] [Inhabited (PLift (cx_Exl n))] [∀ s : cx_Sd n, Add (cx_MM s)] [∀ s : cx_Sd n, Inhabited (PLift (cx_MGl (cx_MM s)))] [∀ s : cx_Sd n, Inhabited (cx_Tord (cx_Ex n) (cx_MM s))] [Inhabited (PLift (cx_MMl n))] (s : cx_Sd n) (v : cx_Pv n → Fin n → Rat) : Prop := (∀ x j, 0 < v x j) ∧ ∀ W : List ((cx_Ex n → Rat) → Rat), (∀ l ∈ W, cx_Lin1 l ∧ ∃ u, cx_Fun u ∧ l u ≠ 0) →
  ∃ (t : cx_Ex n → Rat) (X : cx_Pv n → cx_MM s → Rat) (Φ : cx_MM s → Fin n → Int), cx_Fun t ∧ (∀ l ∈ W, l t ≠ 0) ∧ cx_MulZ s X ∧ (∀ x m, cx_ZZ s m → X x m = cx_mo x.1 (Φ m)) ∧ cx_St s (cx_Vm s v) X t
theorem cx_ok_start [Mul (cx_S Nat)] [One (cx_S Nat)] [Add (cx_S Nat)] [Zero (cx_S Nat)] [Inhabited (cx_Idx Nat)] [Inhabited (PLift cx_Natl)] {n : Nat} [Zero (cx_Ex n)] [Add (cx_Ex n)] [Mul (cx_S (cx_Ex n))] [One (cx_S (cx_Ex n))] [Add (cx_S (cx_Ex n))] [Zero (cx_S (cx_Ex n))] [Inhabited (cx_Idx (cx_Ex n))] [Inhabited (PLift (cx_Exl n))] [∀ s : cx_Sd n, Add (cx_MM s)] [∀ s : cx_Sd n, Inhabited (PLift (cx_MGl (cx_MM s)))] [∀ s : cx_Sd n, Inhabited (cx_Tord (cx_Ex n) (cx_MM s))] [Inhabited (PLift (cx_MMl n))] (s : cx_Sd n) (k0 : Fin n) : cx_Ok s (fun x => x.1) := by
  refine ⟨fun x j => x.2 j, fun W hW => ?_⟩
  let L : List ((cx_Ex n → Rat) → Rat) := (List.finRange n).map fun i => fun t => t (cx_ee i)
  obtain ⟨t, ht, hall, _⟩ := cx_gen_dir (B := cx_Ex n) cx_Fun (fun u v hu hv e => hu.plus hv e) cx_fun_dg (W ++ L) (by
    intro l hl
    rcases List.mem_append.1 hl with hl | hl
    · exact (hW l hl).1
    · obtain ⟨i, _, rfl⟩ := List.mem_map.1 hl; intro u v e; rfl) (l0 := fun t => t (cx_ee k0)) (List.mem_append.2 (.inr (List.mem_map.2 ⟨k0, List.mem_finRange k0, rfl⟩))) 1 (.inl rfl)
    (by have := cx_dg_pos (cx_ee_nz k0); show 0 ≤ 1 * cx_dg (cx_ee k0); grind) ⟨cx_dg, cx_fun_dg, by have := cx_dg_pos (cx_ee_nz k0); show cx_dg (cx_ee k0) ≠ 0; grind⟩
  have hpos : ∀ i, 0 < t (cx_ee i) := fun i => (hall (fun t => t (cx_ee i)) (List.mem_append.2 (.inr (List.mem_map.2 ⟨i, List.mem_finRange i, rfl⟩)))).1 (cx_dg_pos (cx_ee_nz i))
  have htp : ∀ b : cx_Ex n, b ≠ 0 → 0 < t b := by
    intro b hb
    have hnn : ∀ i ∈ cx_fr n, 0 ≤ t (cx_ee i) * (b i : Rat) := fun i _ => Rat.mul_nonneg (by have := hpos i; grind) (cx_natR_nonneg _)
    rw [cx_fun_dt ht b]
    have h0 : 0 ≤ cx_dt (fun i => t (cx_ee i)) b := cx_sm_nonneg hnn
    by_cases hz : cx_dt (fun i => t (cx_ee i)) b = 0
    · exfalso
      apply hb
      funext i
      have := cx_sm_nonneg_zero hnn hz i (List.mem_finRange i)
      rcases Rat.mul_eq_zero.1 this with h | h
      · have := hpos i; grind
      · rw [cx_ex_zero]; exact_mod_cast h
    · grind
  obtain ⟨h, h2, hp, hg⟩ := cx_IsG.exists s k0
  have hM := cx_Vm_mulZ s (v := fun x : cx_Pv n => x.1) (fun x j => x.2 j)
  refine ⟨t, cx_Vm s (fun x => x.1), fun m => cx_ix m, ht, fun l hl h0 => ?_, hM, fun x m _ => rfl, ⟨_, cx_I, hg, cx_MnT.trivial hg.1.good ht htp, cx_I_good, fun m zm => ?_⟩⟩
  · obtain ⟨_, u, hu, hne⟩ := hW l hl
    exact hne ((hall l (List.mem_append.2 (.inl hl))).2.2 h0 u hu)
  · refine (cx_RR.one hM.mul1).congr rfl (fun x => ?_)
    have := hM.pos x m zm
    exact (Rat.mul_inv_cancel _ (by grind)).symm
theorem cx_ok_step [Mul (cx_S Nat)] [One (cx_S Nat)] [Add (cx_S Nat)] [Zero (cx_S Nat)] [Inhabited (cx_Idx Nat)] [Inhabited (PLift cx_Natl)] {n : Nat} [Zero (cx_Ex n)] [Add (cx_Ex n)] [Mul (cx_S (cx_Ex n))] [One (cx_S (cx_Ex n))] [Add (cx_S (cx_Ex n))] [Zero (cx_S (cx_Ex n))] [Inhabited (cx_Idx (cx_Ex n))] [Inhabited (PLift (cx_Exl n))] [∀ s : cx_Sd n, Add (cx_MM s)] [∀ s : cx_Sd n, Inhabited (PLift (cx_MGl (cx_MM s)))] [∀ s : cx_Sd n, Inhabited (cx_Tord (cx_Ex n) (cx_MM s))] [Inhabited (PLift (cx_MMl n))] {s : cx_Sd n} {k : Fin n} {v : cx_Pv n → Fin n → Rat} (h : cx_Ok (cx_turn s k) v) : cx_Ok s (fun x => cx_stepv s.b k (v x)) := by
  refine ⟨fun x j => cx_stepv_pos s.b k (h.1 x) j, fun W hW => ?_⟩
  have pl : ∀ ρ : Fin n → Nat, ∀ l ∈ W, cx_Lin1 (fun t => l (cx_pull ρ k t)) ∧ ∃ u, cx_Fun u ∧ l (cx_pull ρ k u) ≠ 0 := by
    intro ρ l hl
    obtain ⟨h1, u, hu, hne⟩ := hW l hl
    refine ⟨fun a b e => ?_, cx_pull ρ k u, cx_pull_fun ρ k u, ?_⟩
    · have : cx_pull ρ k (fun x => a x + e * b x) = fun x => cx_pull ρ k a x + e * cx_pull ρ k b x := funext fun x => cx_pull_lin ρ k x a b e
      show l (cx_pull ρ k (fun x => a x + e * b x)) = l (cx_pull ρ k a) + e * l (cx_pull ρ k b)
      rw [this, h1]
    · have : cx_pull ρ k (cx_pull ρ k u) = u := funext fun x => cx_pull_pull ρ k hu x
      rw [this]; exact hne
  let W' : List ((cx_Ex n → Rat) → Rat) := (fun t => t (cx_ee k)) :: ((W.map fun l => fun t => l (cx_pull (cx_rp s k) k t)) ++ (W.map fun l => fun t => l (cx_pull (cx_rm s k) k t)))
  obtain ⟨t', X', Φ', ht', hne, hX, hΦ, hst⟩ := h.2 W' (by
    intro l hl
    rcases List.mem_cons.1 hl with rfl | hl
    · exact ⟨fun _ _ _ => rfl, cx_dg, cx_fun_dg, by have := cx_dg_pos (cx_ee_nz k); grind⟩
    · rcases List.mem_append.1 hl with hl | hl
      · obtain ⟨l', hl', rfl⟩ := List.mem_map.1 hl; exact pl _ l' hl'
      · obtain ⟨l', hl', rfl⟩ := List.mem_map.1 hl; exact pl _ l' hl')
  have hV := cx_Vm_mulZ (cx_turn s k) h.1
  have hk0 : t' (cx_ee k) ≠ 0 := hne (fun t => t (cx_ee k)) (by simp [W'])
  by_cases hk : 0 < t' (cx_ee k)
  · refine ⟨cx_pull (cx_rp s k) k t', fun x m => X' x (cx_mu s (cx_turn s k) k (cx_rp s k) m), fun m => Φ' (cx_mu s (cx_turn s k) k (cx_rp s k) m), cx_pull_fun _ k t', fun l hl => ?_, hX.mu (cx_cc_p s k), fun x m zm => hΦ x _ (cx_zz_mu' (cx_cc_p s k) zm), ?_⟩
    · exact hne (fun t => l (cx_pull (cx_rp s k) k t)) (by
        show _ ∈ _ :: _
        exact List.mem_cons_of_mem _ (List.mem_append.2 (.inl (List.mem_map.2 ⟨l, hl, rfl⟩))))
    · exact (cx_step_A hV hX ht' hk hst).congr (fun x m zm => cx_vm_p h.1 x m zm)
  · refine ⟨cx_pull (cx_rm s k) k t', fun x m => X' x (cx_mu s (cx_turn s k) k (cx_rm s k) m), fun m => Φ' (cx_mu s (cx_turn s k) k (cx_rm s k) m), cx_pull_fun _ k t', fun l hl => ?_, hX.mu (cx_cc_m s k), fun x m zm => hΦ x _ (cx_zz_mu' (cx_cc_m s k) zm), ?_⟩
    · exact hne (fun t => l (cx_pull (cx_rm s k) k t)) (by
        show _ ∈ _ :: _
        exact List.mem_cons_of_mem _ (List.mem_append.2 (.inr (List.mem_map.2 ⟨l, hl, rfl⟩))))
    · exact (cx_step_B hV hX ht' (by grind) hst).congr (fun x m zm => cx_vm_m h.1 x m zm)
theorem cx_ok_turn [Mul (cx_S Nat)] [One (cx_S Nat)] [Add (cx_S Nat)] [Zero (cx_S Nat)] [Inhabited (cx_Idx Nat)] [Inhabited (PLift cx_Natl)] {n : Nat} [Zero (cx_Ex n)] [Add (cx_Ex n)] [Mul (cx_S (cx_Ex n))] [One (cx_S (cx_Ex n))] [Add (cx_S (cx_Ex n))] [Zero (cx_S (cx_Ex n))] [Inhabited (cx_Idx (cx_Ex n))] [Inhabited (PLift (cx_Exl n))] [∀ s : cx_Sd n, Add (cx_MM s)] [∀ s : cx_Sd n, Inhabited (PLift (cx_MGl (cx_MM s)))] [∀ s : cx_Sd n, Inhabited (cx_Tord (cx_Ex n) (cx_MM s))] [Inhabited (PLift (cx_MMl n))] {s : cx_Sd n} {v : cx_Pv n → Fin n → Rat} (h : cx_Ok s v) (k : Fin n) : cx_Ok (cx_turn s k) (fun x => cx_stepv s.b k (v x)) := by
  have h1 : cx_Ok (cx_turn (cx_turn s k) k) v := (cx_turn_turn s k).symm ▸ h
  have h2 := cx_ok_step h1
  have e : (fun x => cx_stepv (cx_turn s k).b k (v x)) = fun x => cx_stepv s.b k (v x) := funext fun x => cx_stepv_neg (fun i => cx_turn_col s k i) (v x)
  rw [e] at h2
  exact h2
theorem cx_ok_laurent [Mul (cx_S Nat)] [One (cx_S Nat)] [Add (cx_S Nat)] [Zero (cx_S Nat)] [Inhabited (cx_Idx Nat)] [Inhabited (PLift cx_Natl)] {n : Nat} [Zero (cx_Ex n)] [Add (cx_Ex n)] [Mul (cx_S (cx_Ex n))] [One (cx_S (cx_Ex n))] [Add (cx_S (cx_Ex n))] [Zero (cx_S (cx_Ex n))] [Inhabited (cx_Idx (cx_Ex n))] [Inhabited (PLift (cx_Exl n))] [∀ s : cx_Sd n, Add (cx_MM s)] [∀ s : cx_Sd n, Inhabited (PLift (cx_MGl (cx_MM s)))] [∀ s : cx_Sd n, Inhabited (cx_Tord (cx_Ex n) (cx_MM s))] [Inhabited (PLift (cx_MMl n))] {s : cx_Sd n} {v : cx_Pv n → Fin n → Rat} (h : cx_Ok s v) (j : Fin n) : ∃ L : List (Nat × (Fin n → Int)), (∀ x ∈ L, 0 < x.1) ∧ ∀ x : cx_Pv n, v x j = cx_sm L (fun y => (y.1 : Rat) * cx_mo x.1 y.2) := by
  classical
  obtain ⟨t, X, Φ, ht, _, hX, hΦ, g, f, hg, hm, gf, hr⟩ := h.2 [] (fun l hl => by simp at hl)
  let m : cx_MM s := cx_un s j 1
  have zm : cx_ZZ s m := cx_un_zz s j cx_IsI.one
  have hdom : ∀ a : cx_Ex n, 0 ≤ cx_pr a m := by
    intro a
    rw [cx_pr_def]
    refine cx_sm_nonneg (fun i _ => ?_)
    have h1 := Rat.mul_nonneg (cx_natR_nonneg (a i)) (cx_natR_nonneg (s.d i))
    by_cases hi : i = j
    · subst hi
      show 0 ≤ (a i : Rat) * (s.d i : Rat) * (cx_un s i 1).v i
      rw [cx_un_k]; grind
    · show 0 ≤ (a i : Rat) * (s.d i : Rat) * (cx_un s j 1).v i
      rw [cx_un_ne s hi]; grind
  have hth := fun b => cx_MnT.theta hg.1 hg.pos zm hdom ht hm b
  obtain ⟨U, hU, hmU, hval⟩ := (hr m zm).finite hX.mul1 (fun b => (hth b).1)
  have hc : ∀ b, ∃ c : Nat, f m b = (c : Rat) := fun b => cx_nat_of (hth b).2 (hth b).1
  obtain ⟨c, hc⟩ := Classical.axiomOfChoice hc
  refine ⟨(U.filter (fun b => decide (0 < c b))).map fun b => (c b, Φ (m + cx_p b)), fun x hx => ?_, fun x => ?_⟩
  · obtain ⟨b, hb, rfl⟩ := List.mem_map.1 hx
    simpa using (List.mem_filter.1 hb).2
  · have e1 : v x j = cx_Vm s v x m := by
      show _ = cx_mo (v x) (cx_ix m)
      rw [cx_mo_split j]
      have e2 : cx_mo (v x) (fun i => if i = j then 0 else cx_ix m i) = 1 := cx_mol_zero _ _ _ (fun i _ => by
        by_cases hi : i = j
        · rw [if_pos hi]
        · rw [if_neg hi]
          show cx_iz ((cx_un s j 1).v i) = 0
          rw [cx_un_ne s hi]; rfl)
      have e3 : cx_ix m j = 1 := by show cx_iz ((cx_un s j 1).v j) = 1; rw [cx_un_k]; rfl
      rw [e2, e3, Rat.zpow_one, Rat.mul_one]
    have hx := hX.pos x m zm
    have h2 := hval x
    have e4 : cx_Vm s v x m = X x m * cx_sm U (fun b => f m b * X x (cx_p b)) := by
      rw [← h2]
      have : (X x m)⁻¹ * X x m = 1 := Rat.inv_mul_cancel _ (by grind)
      grind
    rw [e1, e4, ← cx_sm_mulL, cx_sm_map, ← cx_sm_filter U (fun b => decide (0 < c b)) _ (fun b _ hb => by
      have h0 : c b = 0 := by
        have : ¬ 0 < c b := by simpa using hb
        omega
      rw [h0]; show ((0 : Nat) : Rat) * _ = 0; rw [show ((0 : Nat) : Rat) = 0 from rfl, Rat.zero_mul])]
    refine cx_sm_congr (fun b _ => ?_)
    show X x m * (f m b * X x (cx_p b)) = (c b : Rat) * cx_mo x.1 (Φ (m + cx_p b))
    rw [← hΦ x (m + cx_p b) (cx_ZZ_add s m b zm), hX.add x m (cx_p b) zm (cx_ZZ_p s b), hc b]; grind
