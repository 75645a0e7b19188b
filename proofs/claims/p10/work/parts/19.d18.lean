abbrev cx_Xp [Mul (cx_S Nat)] [One (cx_S Nat)] [Add (cx_S Nat)] [Zero (cx_S Nat)] [Inhabited (cx_Idx Nat)] [Inhabited (PLift cx_Natl)]  (n : Nat) := Fin n → Int
abbrev cx_Pl_ [Mul (cx_S Nat)] [One (cx_S Nat)] [Add (cx_S Nat)] [Zero (cx_S Nat)] [Inhabited (cx_Idx Nat)] [Inhabited (PLift cx_Natl)]  (n : Nat) := List (Int × cx_Xp n)
noncomputable def cx_co [Mul (cx_S Nat)] [One (cx_S Nat)] [Add (cx_S Nat)] [Zero (cx_S Nat)] [Inhabited (cx_Idx Nat)] [Inhabited (PLift cx_Natl)] {n : Nat} [Zero (cx_Ex n)] [Add (cx_Ex n)] [Mul (cx_S (cx_Ex n))] [One (cx_S (cx_Ex n))] [Add (cx_S (cx_Ex n))] [Zero (cx_S (cx_Ex n))] [Inhabited (cx_Idx (cx_Ex n))] [Inhabited (PLift (cx_Exl n))] [∀ s : cx_Sd n, Add (cx_MM s)] [∀ s : cx_Sd n, Inhabited (PLift (cx_MGl (cx_MM s)))] [∀ s : cx_Sd n, Inhabited (cx_Tord (cx_Ex n) (cx_MM s))] [Inhabited (PLift (cx_MMl n))] (l : cx_Pl_ n) (a : cx_Xp n) : Int := (l.map fun y => @ite _ (y.2 = a) (Classical.propDecidable _) y.1 0).sum
def cx_vl [Mul (cx_S Nat)] [One (cx_S Nat)] [Add (cx_S Nat)] [Zero (cx_S Nat)] [Inhabited (cx_Idx Nat)] [Inhabited (PLift cx_Natl)] {n : Nat} [Zero (cx_Ex n)] [Add (cx_Ex n)] [Mul (cx_S (cx_Ex n))] [One (cx_S (cx_Ex n))] [Add (cx_S (cx_Ex n))] [Zero (cx_S (cx_Ex n))] [Inhabited (cx_Idx (cx_Ex n))] [Inhabited (PLift (cx_Exl n))] [∀ s : cx_Sd n, Add (cx_MM s)] [∀ s : cx_Sd n, Inhabited (PLift (cx_MGl (cx_MM s)))] [∀ s : cx_Sd n, Inhabited (cx_Tord (cx_Ex n) (cx_MM s))] [Inhabited (PLift (cx_MMl n))] (x : Fin n → Rat) (l : cx_Pl_ n) : Rat := cx_sm l (fun y => (y.1 : Rat) * cx_mo x y.2)
theorem cx_co_nil [Mul (cx_S Nat)] [One (cx_S Nat)] [Add (cx_S Nat)] [Zero (cx_S Nat)] [Inhabited (cx_Idx Nat)] [Inhabited (PLift cx_Natl)] {n : Nat} [Zero (cx_Ex n)] [Add (cx_Ex n)] [Mul (cx_S (cx_Ex n))] [One (cx_S (cx_Ex n))] [Add (cx_S (cx_Ex n))] [Zero (cx_S (cx_Ex n))] [Inhabited (cx_Idx (cx_Ex n))] [Inhabited (PLift (cx_Exl n))] [∀ s : cx_Sd n, Add (cx_MM s)] [∀ s : cx_Sd n, Inhabited (PLift (cx_MGl (cx_MM s)))] [∀ s : cx_Sd n, Inhabited (cx_Tord (cx_Ex n) (cx_MM s))] [Inhabited (PLift (cx_MMl n))] (a : cx_Xp n) : cx_co [] a = 0 := rfl
theorem cx_co_cons [Mul (cx_S Nat)] [One (cx_S Nat)] [Add (cx_S Nat)] [Zero (cx_S Nat)] [Inhabited (cx_Idx Nat)] [Inhabited (PLift cx_Natl)] {n : Nat} [Zero (cx_Ex n)] [Add (cx_Ex n)] [Mul (cx_S (cx_Ex n))] [One (cx_S (cx_Ex n))] [Add (cx_S (cx_Ex n))] [Zero (cx_S (cx_Ex n))] [Inhabited (cx_Idx (cx_Ex n))] [Inhabited (PLift (cx_Exl n))] [∀ s : cx_Sd n, Add (cx_MM s)] [∀ s : cx_Sd n, Inhabited (PLift (cx_MGl (cx_MM s)))] [∀ s : cx_Sd n, Inhabited (cx_Tord (cx_Ex n) (cx_MM s))] [Inhabited (PLift (cx_MMl n))] (y : Int × cx_Xp n) (l : cx_Pl_ n) (a : cx_Xp n) : cx_co (y :: l) a = (@ite _ (y.2 = a) (Classical.propDecidable _) y.1 0) + cx_co l a := rfl
theorem cx_co_app [Mul (cx_S Nat)] [One (cx_S Nat)] [Add (cx_S Nat)] [Zero (cx_S Nat)] [Inhabited (cx_Idx Nat)] [Inhabited (PLift cx_Natl)] {n : Nat} [Zero (cx_Ex n)] [Add (cx_Ex n)] [Mul (cx_S (cx_Ex n))] [One (cx_S (cx_Ex n))] [Add (cx_S (cx_Ex n))] [Zero (cx_S (cx_Ex n))] [Inhabited (cx_Idx (cx_Ex n))] [Inhabited (PLift (cx_Exl n))] [∀ s : cx_Sd n, Add (cx_MM s)] [∀ s : cx_Sd n, Inhabited (PLift (cx_MGl (cx_MM s)))] [∀ s : cx_Sd n, Inhabited (cx_Tord (cx_Ex n) (cx_MM s))] [Inhabited (PLift (cx_MMl n))] (l l' : cx_Pl_ n) (a : cx_Xp n) : cx_co (l ++ l') a = cx_co l a + cx_co l' a := by
  induction l with
  | nil => rw [List.nil_append, cx_co_nil]; omega
  | cons y l ih => rw [List.cons_append, cx_co_cons, cx_co_cons, ih]; omega
theorem cx_vl_nil [Mul (cx_S Nat)] [One (cx_S Nat)] [Add (cx_S Nat)] [Zero (cx_S Nat)] [Inhabited (cx_Idx Nat)] [Inhabited (PLift cx_Natl)] {n : Nat} [Zero (cx_Ex n)] [Add (cx_Ex n)] [Mul (cx_S (cx_Ex n))] [One (cx_S (cx_Ex n))] [Add (cx_S (cx_Ex n))] [Zero (cx_S (cx_Ex n))] [Inhabited (cx_Idx (cx_Ex n))] [Inhabited (PLift (cx_Exl n))] [∀ s : cx_Sd n, Add (cx_MM s)] [∀ s : cx_Sd n, Inhabited (PLift (cx_MGl (cx_MM s)))] [∀ s : cx_Sd n, Inhabited (cx_Tord (cx_Ex n) (cx_MM s))] [Inhabited (PLift (cx_MMl n))] (x : Fin n → Rat) : cx_vl x [] = 0 := rfl
theorem cx_vl_cons [Mul (cx_S Nat)] [One (cx_S Nat)] [Add (cx_S Nat)] [Zero (cx_S Nat)] [Inhabited (cx_Idx Nat)] [Inhabited (PLift cx_Natl)] {n : Nat} [Zero (cx_Ex n)] [Add (cx_Ex n)] [Mul (cx_S (cx_Ex n))] [One (cx_S (cx_Ex n))] [Add (cx_S (cx_Ex n))] [Zero (cx_S (cx_Ex n))] [Inhabited (cx_Idx (cx_Ex n))] [Inhabited (PLift (cx_Exl n))] [∀ s : cx_Sd n, Add (cx_MM s)] [∀ s : cx_Sd n, Inhabited (PLift (cx_MGl (cx_MM s)))] [∀ s : cx_Sd n, Inhabited (cx_Tord (cx_Ex n) (cx_MM s))] [Inhabited (PLift (cx_MMl n))] (x : Fin n → Rat) (y : Int × cx_Xp n) (l : cx_Pl_ n) : cx_vl x (y :: l) = (y.1 : Rat) * cx_mo x y.2 + cx_vl x l := rfl
theorem cx_vl_app [Mul (cx_S Nat)] [One (cx_S Nat)] [Add (cx_S Nat)] [Zero (cx_S Nat)] [Inhabited (cx_Idx Nat)] [Inhabited (PLift cx_Natl)] {n : Nat} [Zero (cx_Ex n)] [Add (cx_Ex n)] [Mul (cx_S (cx_Ex n))] [One (cx_S (cx_Ex n))] [Add (cx_S (cx_Ex n))] [Zero (cx_S (cx_Ex n))] [Inhabited (cx_Idx (cx_Ex n))] [Inhabited (PLift (cx_Exl n))] [∀ s : cx_Sd n, Add (cx_MM s)] [∀ s : cx_Sd n, Inhabited (PLift (cx_MGl (cx_MM s)))] [∀ s : cx_Sd n, Inhabited (cx_Tord (cx_Ex n) (cx_MM s))] [Inhabited (PLift (cx_MMl n))] (x : Fin n → Rat) (l l' : cx_Pl_ n) : cx_vl x (l ++ l') = cx_vl x l + cx_vl x l' := cx_sm_append _ _ _
theorem cx_vl_list [Mul (cx_S Nat)] [One (cx_S Nat)] [Add (cx_S Nat)] [Zero (cx_S Nat)] [Inhabited (cx_Idx Nat)] [Inhabited (PLift cx_Natl)] {n : Nat} [Zero (cx_Ex n)] [Add (cx_Ex n)] [Mul (cx_S (cx_Ex n))] [One (cx_S (cx_Ex n))] [Add (cx_S (cx_Ex n))] [Zero (cx_S (cx_Ex n))] [Inhabited (cx_Idx (cx_Ex n))] [Inhabited (PLift (cx_Exl n))] [∀ s : cx_Sd n, Add (cx_MM s)] [∀ s : cx_Sd n, Inhabited (PLift (cx_MGl (cx_MM s)))] [∀ s : cx_Sd n, Inhabited (cx_Tord (cx_Ex n) (cx_MM s))] [Inhabited (PLift (cx_MMl n))] {U : List (cx_Xp n)} (hn : U.Nodup) (x : Fin n → Rat) (l : cx_Pl_ n) (h : ∀ y ∈ l, y.2 ∈ U) : cx_vl x l = cx_sm U (fun a => (cx_co l a : Rat) * cx_mo x a) := by
  classical
  induction l with
  | nil => exact (cx_sm_zero (fun b _ => by rw [cx_co_nil, show ((0 : Int) : Rat) = 0 from rfl]; grind)).symm
  | cons y l ih =>
    have ih := ih (fun z hz => h z (by simp [hz]))
    rw [cx_vl_cons, ih]
    have e1 : cx_sm U (fun a => (cx_co (y :: l) a : Rat) * cx_mo x a) = cx_sm U (fun a => (if y.2 = a then (y.1 : Rat) else 0) * cx_mo x a) + cx_sm U (fun a => (cx_co l a : Rat) * cx_mo x a) := by
      rw [← cx_sm_add]
      refine cx_sm_congr (fun a _ => ?_)
      rw [cx_co_cons]
      by_cases ha : y.2 = a
      · rw [if_pos ha, if_pos ha]
        have : ((y.1 + cx_co l a : Int) : Rat) = (y.1 : Rat) + (cx_co l a : Rat) := by exact_mod_cast rfl
        rw [this]; grind
      · rw [if_neg ha, if_neg ha]
        have : ((0 + cx_co l a : Int) : Rat) = (cx_co l a : Rat) := by rw [Int.zero_add]
        rw [this]; grind
    have e2 : ∀ U : List (cx_Xp n), U.Nodup → y.2 ∈ U → cx_sm U (fun a => (if y.2 = a then (y.1 : Rat) else 0) * cx_mo x a) = (y.1 : Rat) * cx_mo x y.2 := by
      intro U
      induction U with
      | nil => intro _ h; simp at h
      | cons a U ihU =>
        intro hn hm
        rw [List.nodup_cons] at hn
        rw [cx_sm_cons]
        by_cases ha : y.2 = a
        · have e3 : cx_sm U (fun b => (if y.2 = b then (y.1 : Rat) else 0) * cx_mo x b) = 0 := cx_sm_zero (fun b hb => by
            rw [if_neg (fun e : y.2 = b => hn.1 (by rw [← ha, e]; exact hb))]; grind)
          rw [e3, if_pos ha, ha]; grind
        · rw [ihU hn.2 (by rcases List.mem_cons.1 hm with h | h; exact absurd h ha; exact h), if_neg ha]; grind
    rw [e1, e2 U hn (h y (by simp))]
theorem cx_vl_co [Mul (cx_S Nat)] [One (cx_S Nat)] [Add (cx_S Nat)] [Zero (cx_S Nat)] [Inhabited (cx_Idx Nat)] [Inhabited (PLift cx_Natl)] {n : Nat} [Zero (cx_Ex n)] [Add (cx_Ex n)] [Mul (cx_S (cx_Ex n))] [One (cx_S (cx_Ex n))] [Add (cx_S (cx_Ex n))] [Zero (cx_S (cx_Ex n))] [Inhabited (cx_Idx (cx_Ex n))] [Inhabited (PLift (cx_Exl n))] [∀ s : cx_Sd n, Add (cx_MM s)] [∀ s : cx_Sd n, Inhabited (PLift (cx_MGl (cx_MM s)))] [∀ s : cx_Sd n, Inhabited (cx_Tord (cx_Ex n) (cx_MM s))] [Inhabited (PLift (cx_MMl n))] (x : Fin n → Rat) {l l' : cx_Pl_ n} (h : ∀ a, cx_co l a = cx_co l' a) : cx_vl x l = cx_vl x l' := by
  obtain ⟨U, hn, hm⟩ := cx_nodup_list ((l ++ l').map (·.2))
  rw [cx_vl_list hn x l (fun y hy => (hm _).2 (List.mem_map.2 ⟨y, by simp [hy], rfl⟩)), cx_vl_list hn x l' (fun y hy => (hm _).2 (List.mem_map.2 ⟨y, by simp [hy], rfl⟩))]
  exact cx_sm_congr (fun a _ => by rw [h a])
def cx_shz [Mul (cx_S Nat)] [One (cx_S Nat)] [Add (cx_S Nat)] [Zero (cx_S Nat)] [Inhabited (cx_Idx Nat)] [Inhabited (PLift cx_Natl)] {n : Nat} [Zero (cx_Ex n)] [Add (cx_Ex n)] [Mul (cx_S (cx_Ex n))] [One (cx_S (cx_Ex n))] [Add (cx_S (cx_Ex n))] [Zero (cx_S (cx_Ex n))] [Inhabited (cx_Idx (cx_Ex n))] [Inhabited (PLift (cx_Exl n))] [∀ s : cx_Sd n, Add (cx_MM s)] [∀ s : cx_Sd n, Inhabited (PLift (cx_MGl (cx_MM s)))] [∀ s : cx_Sd n, Inhabited (cx_Tord (cx_Ex n) (cx_MM s))] [Inhabited (PLift (cx_MMl n))] (y : Int × cx_Xp n) (l : cx_Pl_ n) : cx_Pl_ n := l.map fun z => (y.1 * z.1, fun i => y.2 i + z.2 i)
def cx_pmz [Mul (cx_S Nat)] [One (cx_S Nat)] [Add (cx_S Nat)] [Zero (cx_S Nat)] [Inhabited (cx_Idx Nat)] [Inhabited (PLift cx_Natl)] {n : Nat} [Zero (cx_Ex n)] [Add (cx_Ex n)] [Mul (cx_S (cx_Ex n))] [One (cx_S (cx_Ex n))] [Add (cx_S (cx_Ex n))] [Zero (cx_S (cx_Ex n))] [Inhabited (cx_Idx (cx_Ex n))] [Inhabited (PLift (cx_Exl n))] [∀ s : cx_Sd n, Add (cx_MM s)] [∀ s : cx_Sd n, Inhabited (PLift (cx_MGl (cx_MM s)))] [∀ s : cx_Sd n, Inhabited (cx_Tord (cx_Ex n) (cx_MM s))] [Inhabited (PLift (cx_MMl n))] (l l' : cx_Pl_ n) : cx_Pl_ n := l.flatMap fun y => cx_shz y l'
theorem cx_vl_shz [Mul (cx_S Nat)] [One (cx_S Nat)] [Add (cx_S Nat)] [Zero (cx_S Nat)] [Inhabited (cx_Idx Nat)] [Inhabited (PLift cx_Natl)] {n : Nat} [Zero (cx_Ex n)] [Add (cx_Ex n)] [Mul (cx_S (cx_Ex n))] [One (cx_S (cx_Ex n))] [Add (cx_S (cx_Ex n))] [Zero (cx_S (cx_Ex n))] [Inhabited (cx_Idx (cx_Ex n))] [Inhabited (PLift (cx_Exl n))] [∀ s : cx_Sd n, Add (cx_MM s)] [∀ s : cx_Sd n, Inhabited (PLift (cx_MGl (cx_MM s)))] [∀ s : cx_Sd n, Inhabited (cx_Tord (cx_Ex n) (cx_MM s))] [Inhabited (PLift (cx_MMl n))] {x : Fin n → Rat} (hx : ∀ j, 0 < x j) (y : Int × cx_Xp n) (l : cx_Pl_ n) : cx_vl x (cx_shz y l) = (y.1 : Rat) * cx_mo x y.2 * cx_vl x l := by
  unfold cx_vl cx_shz
  rw [cx_sm_map, ← cx_sm_mulL]
  refine cx_sm_congr (fun z _ => ?_)
  rw [cx_mo_add hx]
  have : ((y.1 * z.1 : Int) : Rat) = (y.1 : Rat) * (z.1 : Rat) := by exact_mod_cast rfl
  rw [this]; grind
theorem cx_vl_pmz [Mul (cx_S Nat)] [One (cx_S Nat)] [Add (cx_S Nat)] [Zero (cx_S Nat)] [Inhabited (cx_Idx Nat)] [Inhabited (PLift cx_Natl)] {n : Nat} [Zero (cx_Ex n)] [Add (cx_Ex n)] [Mul (cx_S (cx_Ex n))] [One (cx_S (cx_Ex n))] [Add (cx_S (cx_Ex n))] [Zero (cx_S (cx_Ex n))] [Inhabited (cx_Idx (cx_Ex n))] [Inhabited (PLift (cx_Exl n))] [∀ s : cx_Sd n, Add (cx_MM s)] [∀ s : cx_Sd n, Inhabited (PLift (cx_MGl (cx_MM s)))] [∀ s : cx_Sd n, Inhabited (cx_Tord (cx_Ex n) (cx_MM s))] [Inhabited (PLift (cx_MMl n))] {x : Fin n → Rat} (hx : ∀ j, 0 < x j) (l l' : cx_Pl_ n) : cx_vl x (cx_pmz l l') = cx_vl x l * cx_vl x l' := by
  induction l with
  | nil => show (0 : Rat) = 0 * _; grind
  | cons y l ih =>
    show cx_vl x (List.flatMap _ (y :: l)) = _
    rw [List.flatMap_cons, cx_vl_app, cx_vl_shz hx]
    have : cx_vl x (List.flatMap (fun y => cx_shz y l') l) = cx_vl x l * cx_vl x l' := ih
    rw [this, cx_vl_cons]; grind
theorem cx_co_shz [Mul (cx_S Nat)] [One (cx_S Nat)] [Add (cx_S Nat)] [Zero (cx_S Nat)] [Inhabited (cx_Idx Nat)] [Inhabited (PLift cx_Natl)] {n : Nat} [Zero (cx_Ex n)] [Add (cx_Ex n)] [Mul (cx_S (cx_Ex n))] [One (cx_S (cx_Ex n))] [Add (cx_S (cx_Ex n))] [Zero (cx_S (cx_Ex n))] [Inhabited (cx_Idx (cx_Ex n))] [Inhabited (PLift (cx_Exl n))] [∀ s : cx_Sd n, Add (cx_MM s)] [∀ s : cx_Sd n, Inhabited (PLift (cx_MGl (cx_MM s)))] [∀ s : cx_Sd n, Inhabited (cx_Tord (cx_Ex n) (cx_MM s))] [Inhabited (PLift (cx_MMl n))] (y : Int × cx_Xp n) (l : cx_Pl_ n) (a : cx_Xp n) : cx_co (cx_shz y l) a = y.1 * cx_co l (fun i => a i - y.2 i) := by
  classical
  induction l with
  | nil => show (0 : Int) = y.1 * 0; omega
  | cons z l ih =>
    show cx_co ((y.1 * z.1, fun i => y.2 i + z.2 i) :: cx_shz y l) a = _
    rw [cx_co_cons, cx_co_cons, ih]
    by_cases h : z.2 = fun i => a i - y.2 i
    · rw [if_pos (by funext i; show y.2 i + z.2 i = a i; rw [h]; show y.2 i + (a i - y.2 i) = a i; omega), if_pos h, Int.mul_add]
    · rw [if_neg (fun e => h (by funext i; have := congrFun e i; have h2 : y.2 i + z.2 i = a i := this; omega)), if_neg h]; grind
theorem cx_co_pmz [Mul (cx_S Nat)] [One (cx_S Nat)] [Add (cx_S Nat)] [Zero (cx_S Nat)] [Inhabited (cx_Idx Nat)] [Inhabited (PLift cx_Natl)] {n : Nat} [Zero (cx_Ex n)] [Add (cx_Ex n)] [Mul (cx_S (cx_Ex n))] [One (cx_S (cx_Ex n))] [Add (cx_S (cx_Ex n))] [Zero (cx_S (cx_Ex n))] [Inhabited (cx_Idx (cx_Ex n))] [Inhabited (PLift (cx_Exl n))] [∀ s : cx_Sd n, Add (cx_MM s)] [∀ s : cx_Sd n, Inhabited (PLift (cx_MGl (cx_MM s)))] [∀ s : cx_Sd n, Inhabited (cx_Tord (cx_Ex n) (cx_MM s))] [Inhabited (PLift (cx_MMl n))] (l l' : cx_Pl_ n) (a : cx_Xp n) : cx_co (cx_pmz l l') a = (l.map fun y => y.1 * cx_co l' (fun i => a i - y.2 i)).sum := by
  induction l with
  | nil => rfl
  | cons y l ih =>
    show cx_co (List.flatMap _ (y :: l)) a = _
    rw [List.flatMap_cons, cx_co_app, cx_co_shz, List.map_cons, List.sum_cons]
    congr 1
theorem cx_den_mul [Mul (cx_S Nat)] [One (cx_S Nat)] [Add (cx_S Nat)] [Zero (cx_S Nat)] [Inhabited (cx_Idx Nat)] [Inhabited (PLift cx_Natl)]  (q : Rat) : (q.den : Rat) * q = (q.num : Rat) := by
  have h : (q.num : Rat) / (q.den : Rat) = q := by rw [← Rat.mkRat_eq_div, Rat.mkRat_self]
  have hd : ((q.den : Nat) : Rat) ≠ 0 := by
    intro e
    have : q.den = 0 := by exact_mod_cast e
    exact q.den_nz this
  have h2 : (q.num : Rat) / (q.den : Rat) * (q.den : Rat) = q.num := Rat.div_mul_cancel hd
  rw [h] at h2
  grind
theorem cx_weights [Mul (cx_S Nat)] [One (cx_S Nat)] [Add (cx_S Nat)] [Zero (cx_S Nat)] [Inhabited (cx_Idx Nat)] [Inhabited (PLift cx_Natl)] {n : Nat} [Zero (cx_Ex n)] [Add (cx_Ex n)] [Mul (cx_S (cx_Ex n))] [One (cx_S (cx_Ex n))] [Add (cx_S (cx_Ex n))] [Zero (cx_S (cx_Ex n))] [Inhabited (cx_Idx (cx_Ex n))] [Inhabited (PLift (cx_Exl n))] [∀ s : cx_Sd n, Add (cx_MM s)] [∀ s : cx_Sd n, Inhabited (PLift (cx_MGl (cx_MM s)))] [∀ s : cx_Sd n, Inhabited (cx_Tord (cx_Ex n) (cx_MM s))] [Inhabited (PLift (cx_MMl n))] (L : List (cx_Xp n)) (hL : ∀ a ∈ L, a ≠ fun _ => 0) : ∃ w : cx_Xp n, ∀ a ∈ L, (List.finRange n).foldr (fun i s => w i * a i + s) 0 ≠ 0 := by
  classical

  let cx_ev (a : cx_Xp n) : (cx_Ex n → Rat) → Rat := fun t => cx_sm (cx_fr n) (fun i => t (cx_ee i) * (a i : Rat))
  obtain ⟨t, ht, hne⟩ := cx_gen_lin (B := cx_Ex n) cx_Fun (fun u v hu hv e => hu.plus hv e) ⟨cx_dg, cx_fun_dg⟩ (L.map cx_ev) (by
    intro l hl
    obtain ⟨a, _, rfl⟩ := List.mem_map.1 hl
    intro u v e
    show cx_sm _ _ = cx_sm _ _ + e * cx_sm _ _
    rw [← cx_sm_mulL, ← cx_sm_add]
    exact cx_sm_congr (fun i _ => by grind))
  have hne' : ∀ a ∈ L, cx_sm (cx_fr n) (fun i => t (cx_ee i) * (a i : Rat)) ≠ 0 := by
    intro a ha
    refine hne (cx_ev a) (List.mem_map.2 ⟨a, ha, rfl⟩) ?_
    have : ∃ i, a i ≠ 0 := Classical.byContradiction (fun hno => hL a ha (funext fun i => Classical.byContradiction (fun h => hno ⟨i, h⟩)))
    obtain ⟨i, hi⟩ := this
    refine ⟨fun b => (b i : Rat), cx_coord_fun i, ?_⟩
    show cx_sm (cx_fr n) (fun j => ((cx_ee j i : Nat) : Rat) * (a j : Rat)) ≠ 0
    rw [cx_fr_only i _ (fun j hj => by rw [cx_ee_ne (fun e => hj e.symm), show ((0 : Nat) : Rat) = 0 from rfl]; grind), cx_ee_self, show ((1 : Nat) : Rat) = 1 from rfl]
    intro h
    apply hi
    have h2 : (a i : Rat) = 0 := by grind
    exact_mod_cast h2

  have den : ∀ l : List (Fin n), ∃ d : Nat, 0 < d ∧ ∀ i ∈ l, cx_IsI ((d : Rat) * t (cx_ee i)) := by
    intro l
    induction l with
    | nil => exact ⟨1, by omega, fun i hi => by simp at hi⟩
    | cons j l ih =>
      obtain ⟨d, hd, h⟩ := ih
      refine ⟨d * (t (cx_ee j)).den, Nat.mul_pos hd (t (cx_ee j)).den_pos, fun i hi => ?_⟩
      have e : ((d * (t (cx_ee j)).den : Nat) : Rat) = (d : Rat) * ((t (cx_ee j)).den : Rat) := by exact_mod_cast rfl
      rw [e]
      rcases List.mem_cons.1 hi with rfl | hi
      · refine ⟨(d : Int) * (t (cx_ee i)).num, ?_⟩
        have h1 : ((t (cx_ee i)).den : Rat) * t (cx_ee i) = ((t (cx_ee i)).num : Rat) := cx_den_mul _
        have e2 : (((d : Int) * (t (cx_ee i)).num : Int) : Rat) = (d : Rat) * ((t (cx_ee i)).num : Rat) := by exact_mod_cast rfl
        rw [e2, ← h1]; grind
      · obtain ⟨z, hz⟩ := h i hi
        refine ⟨z * ((t (cx_ee j)).den : Int), ?_⟩
        have e2 : ((z * ((t (cx_ee j)).den : Int) : Int) : Rat) = (z : Rat) * ((t (cx_ee j)).den : Rat) := by exact_mod_cast rfl
        rw [e2, ← hz]; grind
  obtain ⟨d, hd, hI⟩ := den (List.finRange n)
  have hI : ∀ i, ∃ z : Int, (d : Rat) * t (cx_ee i) = (z : Rat) := fun i => hI i (List.mem_finRange i)
  obtain ⟨w, hw⟩ := Classical.axiomOfChoice hI
  refine ⟨w, fun a ha h0 => hne' a ha ?_⟩
  have cast : ∀ l : List (Fin n), ((l.foldr (fun i s => w i * a i + s) 0 : Int) : Rat) = (d : Rat) * cx_sm l (fun i => t (cx_ee i) * (a i : Rat)) := by
    intro l
    induction l with
    | nil => rw [cx_sm_nil]; show ((0 : Int) : Rat) = _; rw [show ((0 : Int) : Rat) = 0 from rfl]; grind
    | cons i l ih =>
      rw [List.foldr_cons, cx_sm_cons]
      have : ((w i * a i + l.foldr (fun i s => w i * a i + s) 0 : Int) : Rat) = (w i : Rat) * (a i : Rat) + ((l.foldr (fun i s => w i * a i + s) 0 : Int) : Rat) := by exact_mod_cast rfl
      rw [this, ih, ← hw i]; grind
  have h1 := cast (List.finRange n)
  rw [h0, show ((0 : Int) : Rat) = 0 from rfl] at h1
  rcases Rat.mul_eq_zero.1 h1.symm with h | h
  · have : d = 0 := by exact_mod_cast h
    omega
  · exact h
def cx_wd [Mul (cx_S Nat)] [One (cx_S Nat)] [Add (cx_S Nat)] [Zero (cx_S Nat)] [Inhabited (cx_Idx Nat)] [Inhabited (PLift cx_Natl)] {n : Nat} [Zero (cx_Ex n)] [Add (cx_Ex n)] [Mul (cx_S (cx_Ex n))] [One (cx_S (cx_Ex n))] [Add (cx_S (cx_Ex n))] [Zero (cx_S (cx_Ex n))] [Inhabited (cx_Idx (cx_Ex n))] [Inhabited (PLift (cx_Exl n))] [∀ s : cx_Sd n, Add (cx_MM s)] [∀ s : cx_Sd n, Inhabited (PLift (cx_MGl (cx_MM s)))] [∀ s : cx_Sd n, Inhabited (cx_Tord (cx_Ex n) (cx_MM s))] [Inhabited (PLift (cx_MMl n))] (w a : cx_Xp n) : Int := (List.finRange n).foldr (fun i s => w i * a i + s) 0
theorem cx_wd_sub [Mul (cx_S Nat)] [One (cx_S Nat)] [Add (cx_S Nat)] [Zero (cx_S Nat)] [Inhabited (cx_Idx Nat)] [Inhabited (PLift cx_Natl)] {n : Nat} [Zero (cx_Ex n)] [Add (cx_Ex n)] [Mul (cx_S (cx_Ex n))] [One (cx_S (cx_Ex n))] [Add (cx_S (cx_Ex n))] [Zero (cx_S (cx_Ex n))] [Inhabited (cx_Idx (cx_Ex n))] [Inhabited (PLift (cx_Exl n))] [∀ s : cx_Sd n, Add (cx_MM s)] [∀ s : cx_Sd n, Inhabited (PLift (cx_MGl (cx_MM s)))] [∀ s : cx_Sd n, Inhabited (cx_Tord (cx_Ex n) (cx_MM s))] [Inhabited (PLift (cx_MMl n))] (w a b : cx_Xp n) : cx_wd w (fun i => a i - b i) = cx_wd w a - cx_wd w b := by
  unfold cx_wd
  generalize List.finRange n = l
  induction l with
  | nil => rfl
  | cons i l ih =>
    rw [List.foldr_cons, List.foldr_cons, List.foldr_cons, ih, Int.mul_sub]; omega
theorem cx_mo_wd [Mul (cx_S Nat)] [One (cx_S Nat)] [Add (cx_S Nat)] [Zero (cx_S Nat)] [Inhabited (cx_Idx Nat)] [Inhabited (PLift cx_Natl)] {n : Nat} [Zero (cx_Ex n)] [Add (cx_Ex n)] [Mul (cx_S (cx_Ex n))] [One (cx_S (cx_Ex n))] [Add (cx_S (cx_Ex n))] [Zero (cx_S (cx_Ex n))] [Inhabited (cx_Idx (cx_Ex n))] [Inhabited (PLift (cx_Exl n))] [∀ s : cx_Sd n, Add (cx_MM s)] [∀ s : cx_Sd n, Inhabited (PLift (cx_MGl (cx_MM s)))] [∀ s : cx_Sd n, Inhabited (cx_Tord (cx_Ex n) (cx_MM s))] [Inhabited (PLift (cx_MMl n))] {T : Rat} (hT : 0 < T) (w a : cx_Xp n) : cx_mo (fun i => T ^ w i) a = T ^ cx_wd w a := by
  unfold cx_mo cx_wd
  generalize List.finRange n = l
  induction l with
  | nil => exact (Rat.zpow_zero T).symm
  | cons i l ih => rw [List.foldr_cons, List.foldr_cons, ih, cx_zp_add hT, ← cx_zp_mul hT]
theorem cx_zp_nat_ge [Mul (cx_S Nat)] [One (cx_S Nat)] [Add (cx_S Nat)] [Zero (cx_S Nat)] [Inhabited (cx_Idx Nat)] [Inhabited (PLift cx_Natl)]  {T : Rat} (hT : 1 ≤ T) (j : Nat) : 1 ≤ T ^ (j : Int) := by
  have h0 : 0 < T := by grind
  induction j with
  | zero => show 1 ≤ T ^ (0 : Int); rw [Rat.zpow_zero]; grind
  | succ j ih =>
    rw [show ((j + 1 : Nat) : Int) = (j : Int) + 1 by omega, cx_zp_add h0, Rat.zpow_one]
    have := Rat.mul_nonneg (by grind : 0 ≤ T ^ (j : Int) - 1) (by grind : 0 ≤ T)
    grind
theorem cx_zp_mono [Mul (cx_S Nat)] [One (cx_S Nat)] [Add (cx_S Nat)] [Zero (cx_S Nat)] [Inhabited (cx_Idx Nat)] [Inhabited (PLift cx_Natl)]  {T : Rat} (hT : 1 ≤ T) {a b : Int} (h : a ≤ b) : T ^ a ≤ T ^ b := by
  have h0 : 0 < T := by grind
  obtain ⟨j, rfl⟩ : ∃ j : Nat, b = a + (j : Int) := ⟨(b - a).toNat, by omega⟩
  rw [cx_zp_add h0]
  have h1 := cx_zp_nat_ge hT j
  have h2 : 0 < T ^ a := Rat.zpow_pos h0
  have := Rat.mul_nonneg (by grind : 0 ≤ T ^ a) (by grind : 0 ≤ T ^ (j : Int) - 1)
  grind
theorem cx_most [Mul (cx_S Nat)] [One (cx_S Nat)] [Add (cx_S Nat)] [Zero (cx_S Nat)] [Inhabited (cx_Idx Nat)] [Inhabited (PLift cx_Natl)]  {α : Type} (l : List α) (f : α → Int) (h : l ≠ []) : ∃ a ∈ l, ∀ b ∈ l, f b ≤ f a := by
  induction l with
  | nil => exact absurd rfl h
  | cons x l ih =>
    by_cases hl : l = []
    · subst hl; exact ⟨x, by simp, fun b hb => by simp at hb; subst hb; omega⟩
    · obtain ⟨a, ha, hm⟩ := ih hl
      by_cases hx : f a ≤ f x
      · exact ⟨x, by simp, fun b hb => by
          rcases List.mem_cons.1 hb with rfl | hb
          · omega
          · have := hm b hb; omega⟩
      · exact ⟨a, by simp [ha], fun b hb => by
          rcases List.mem_cons.1 hb with rfl | hb
          · omega
          · exact hm b hb⟩
theorem cx_vanish [Mul (cx_S Nat)] [One (cx_S Nat)] [Add (cx_S Nat)] [Zero (cx_S Nat)] [Inhabited (cx_Idx Nat)] [Inhabited (PLift cx_Natl)] {n : Nat} [Zero (cx_Ex n)] [Add (cx_Ex n)] [Mul (cx_S (cx_Ex n))] [One (cx_S (cx_Ex n))] [Add (cx_S (cx_Ex n))] [Zero (cx_S (cx_Ex n))] [Inhabited (cx_Idx (cx_Ex n))] [Inhabited (PLift (cx_Exl n))] [∀ s : cx_Sd n, Add (cx_MM s)] [∀ s : cx_Sd n, Inhabited (PLift (cx_MGl (cx_MM s)))] [∀ s : cx_Sd n, Inhabited (cx_Tord (cx_Ex n) (cx_MM s))] [Inhabited (PLift (cx_MMl n))] {U : List (cx_Xp n)} (hU : U.Nodup) (c : cx_Xp n → Int) (h : ∀ x : cx_Pv n, cx_sm U (fun a => (c a : Rat) * cx_mo x.1 a) = 0) : ∀ a ∈ U, c a = 0 := by
  classical

  let V := U.filter (fun a => decide (c a ≠ 0))
  have hV : ∀ x : cx_Pv n, cx_sm V (fun a => (c a : Rat) * cx_mo x.1 a) = 0 := fun x => by
    refine Eq.trans ?_ (h x)
    refine (cx_sm_filter U _ _ (fun a _ ha => ?_)).symm
    have : c a = 0 := by simpa using ha
    rw [this, show ((0 : Int) : Rat) = 0 from rfl]; grind
  have hmem : ∀ a, a ∈ V ↔ a ∈ U ∧ c a ≠ 0 := fun a => by
    show a ∈ U.filter _ ↔ _
    rw [List.mem_filter, decide_eq_true_eq]
  by_cases hne : V = []
  · intro a ha
    refine Classical.byContradiction (fun h0 => ?_)
    have := (hmem a).2 ⟨ha, h0⟩
    rw [hne] at this
    simp at this
  exfalso
  obtain ⟨w, hw⟩ := cx_weights ((V.flatMap fun a => (V.filter fun b => decide (b ≠ a)).map fun b => fun i => a i - b i)) (by
    intro z hz
    obtain ⟨a, ha, hz⟩ := List.mem_flatMap.1 hz
    obtain ⟨b, hb, rfl⟩ := List.mem_map.1 hz
    have hb := List.mem_filter.1 hb
    have hne : b ≠ a := by simpa using hb.2
    intro e
    apply hne
    funext i
    have h1 : a i - b i = 0 := congrFun e i
    omega)
  have hw' : ∀ a ∈ V, ∀ b ∈ V, b ≠ a → cx_wd w a ≠ cx_wd w b := by
    intro a ha b hb hne e
    refine hw (fun i => a i - b i) (List.mem_flatMap.2 ⟨a, ha, List.mem_map.2 ⟨b, List.mem_filter.2 ⟨hb, by simpa using hne⟩, rfl⟩⟩) ?_
    have := cx_wd_sub w a b
    unfold cx_wd at this e
    rw [this]; omega
  obtain ⟨a, ha, hmax⟩ := cx_most V (cx_wd w) hne

  let R := V.filter (fun b => decide (b ≠ a))
  let C : Rat := cx_sm R (fun b => ((c b).natAbs : Rat))
  have hC0 : 0 ≤ C := cx_sm_nonneg (fun b _ => cx_natR_nonneg _)
  let T : Rat := C + 1
  have hT1 : 1 ≤ T := by show 1 ≤ C + 1; grind
  have hT0 : 0 < T := by grind
  let x : cx_Pv n := ⟨fun i => T ^ w i, fun i => Rat.zpow_pos hT0⟩
  have h1 := hV x
  have hVn : V.Nodup := hU.sublist List.filter_sublist
  have hsplit : ∀ V : List (cx_Xp n), V.Nodup → a ∈ V → cx_sm V (fun b => (c b : Rat) * cx_mo x.1 b) = (c a : Rat) * cx_mo x.1 a + cx_sm (V.filter (fun b => decide (b ≠ a))) (fun b => (c b : Rat) * cx_mo x.1 b) := by
    intro V
    induction V with
    | nil => intro _ h; simp at h
    | cons z V ih =>
      intro hn hm
      rw [List.nodup_cons] at hn
      by_cases hz : z = a
      · subst hz
        rw [List.filter_cons_of_neg (by simp), cx_sm_cons]
        congr 1
        rw [List.filter_eq_self.2 (fun b hb => by
          have : b ≠ z := fun e => hn.1 (by rw [← e]; exact hb)
          simpa using this)]
      · rw [List.filter_cons_of_pos (by simpa using hz), cx_sm_cons, cx_sm_cons, ih hn.2 (by rcases List.mem_cons.1 hm with h | h; exact absurd h.symm hz; exact h)]; grind
  rw [hsplit V hVn ha] at h1
  have hmo : ∀ b, cx_mo x.1 b = T ^ cx_wd w b := fun b => cx_mo_wd hT0 w b

  have hR : ∀ R : List (cx_Xp n), (∀ b ∈ R, cx_wd w b ≤ cx_wd w a - 1) → - (cx_sm R (fun b => ((c b).natAbs : Rat)) * T ^ (cx_wd w a - 1)) ≤ cx_sm R (fun b => (c b : Rat) * cx_mo x.1 b) ∧ cx_sm R (fun b => (c b : Rat) * cx_mo x.1 b) ≤ cx_sm R (fun b => ((c b).natAbs : Rat)) * T ^ (cx_wd w a - 1) := by
    intro R
    induction R with
    | nil => intro _; rw [cx_sm_nil, cx_sm_nil]; constructor <;> grind
    | cons b R ih =>
      intro hb
      have ih := ih (fun z hz => hb z (by simp [hz]))
      rw [cx_sm_cons, cx_sm_cons, hmo b]
      have h2 := cx_zp_mono hT1 (hb b (by simp))
      have h3 : 0 < T ^ cx_wd w b := Rat.zpow_pos hT0
      have h4 := cx_natR_nonneg (c b).natAbs
      have h5 : (c b : Rat) ≤ ((c b).natAbs : Rat) := by
        have : c b ≤ ((c b).natAbs : Int) := Int.le_natAbs
        exact_mod_cast this
      have h6 : -((c b).natAbs : Rat) ≤ (c b : Rat) := by
        have : -((c b).natAbs : Int) ≤ c b := by omega
        have e : (-((c b).natAbs : Int) : Rat) = ((-((c b).natAbs : Int) : Int) : Rat) := by exact_mod_cast rfl
        have h7 : ((-((c b).natAbs : Int) : Int) : Rat) ≤ ((c b : Int) : Rat) := by exact_mod_cast this
        have e2 : ((-((c b).natAbs : Int) : Int) : Rat) = -((c b).natAbs : Rat) := by exact_mod_cast rfl
        rw [e2] at h7
        exact h7
      have m1 := Rat.mul_nonneg (by grind : 0 ≤ ((c b).natAbs : Rat) - (c b : Rat)) (by grind : 0 ≤ T ^ cx_wd w b)
      have m2 := Rat.mul_nonneg (by grind : 0 ≤ ((c b).natAbs : Rat) + (c b : Rat)) (by grind : 0 ≤ T ^ cx_wd w b)
      have m3 := Rat.mul_nonneg h4 (by grind : 0 ≤ T ^ (cx_wd w a - 1) - T ^ cx_wd w b)
      constructor <;> grind
  have hRb : ∀ b ∈ R, cx_wd w b ≤ cx_wd w a - 1 := by
    intro b hb
    have hb := List.mem_filter.1 hb
    have hne : b ≠ a := by simpa using hb.2
    have h2 := hmax b hb.1
    have h3 := hw' a ha b hb.1 hne
    omega
  have hb := hR R hRb
  rw [hmo a] at h1
  have e5 : T ^ cx_wd w a = T ^ (cx_wd w a - 1) * T := by
    have : cx_wd w a = (cx_wd w a - 1) + 1 := by omega
    rw [this, cx_zp_add hT0, Rat.zpow_one]
    congr 2
    omega
  have hp : 0 < T ^ (cx_wd w a - 1) := Rat.zpow_pos hT0
  have hca : c a ≠ 0 := ((hmem a).1 ha).2
  have hh : cx_sm R (fun b => (c b : Rat) * cx_mo x.1 b) = - ((c a : Rat) * (T ^ (cx_wd w a - 1) * T)) := by
    rw [e5] at h1
    have h1 : (c a : Rat) * (T ^ (cx_wd w a - 1) * T) + cx_sm R (fun b => (c b : Rat) * cx_mo x.1 b) = 0 := h1
    grind
  rw [hh] at hb
  have hb1 : -(C * T ^ (cx_wd w a - 1)) ≤ -((c a : Rat) * (T ^ (cx_wd w a - 1) * T)) := hb.1
  have hb2 : -((c a : Rat) * (T ^ (cx_wd w a - 1) * T)) ≤ C * T ^ (cx_wd w a - 1) := hb.2
  have hTC : T = C + 1 := rfl
  by_cases hs : 0 < c a
  · have h7 : (1 : Rat) ≤ (c a : Rat) := by exact_mod_cast hs
    have m1 := Rat.mul_nonneg (by grind : 0 ≤ (c a : Rat) - 1) (by have := Rat.mul_pos hp hT0; grind : 0 ≤ T ^ (cx_wd w a - 1) * T)
    rw [hTC] at m1 hb1 hp
    grind
  · have h7 : (c a : Rat) ≤ -1 := by
      have h8 : c a ≤ -1 := by omega
      have h9 : ((c a : Int) : Rat) ≤ ((-1 : Int) : Rat) := by exact_mod_cast h8
      have e9 : ((-1 : Int) : Rat) = -1 := by exact_mod_cast rfl
      rw [e9] at h9
      exact h9
    have m1 := Rat.mul_nonneg (by grind : 0 ≤ -1 - (c a : Rat)) (by have := Rat.mul_pos hp hT0; grind : 0 ≤ T ^ (cx_wd w a - 1) * T)
    rw [hTC] at m1 hb2 hp
    grind
theorem cx_vl_unique [Mul (cx_S Nat)] [One (cx_S Nat)] [Add (cx_S Nat)] [Zero (cx_S Nat)] [Inhabited (cx_Idx Nat)] [Inhabited (PLift cx_Natl)] {n : Nat} [Zero (cx_Ex n)] [Add (cx_Ex n)] [Mul (cx_S (cx_Ex n))] [One (cx_S (cx_Ex n))] [Add (cx_S (cx_Ex n))] [Zero (cx_S (cx_Ex n))] [Inhabited (cx_Idx (cx_Ex n))] [Inhabited (PLift (cx_Exl n))] [∀ s : cx_Sd n, Add (cx_MM s)] [∀ s : cx_Sd n, Inhabited (PLift (cx_MGl (cx_MM s)))] [∀ s : cx_Sd n, Inhabited (cx_Tord (cx_Ex n) (cx_MM s))] [Inhabited (PLift (cx_MMl n))] {l l' : cx_Pl_ n} (h : ∀ x : cx_Pv n, cx_vl x.1 l = cx_vl x.1 l') : ∀ a, cx_co l a = cx_co l' a := by
  classical
  obtain ⟨U, hn, hm⟩ := cx_nodup_list ((l ++ l').map (·.2))
  have hl : ∀ y ∈ l, y.2 ∈ U := fun y hy => (hm _).2 (List.mem_map.2 ⟨y, by simp [hy], rfl⟩)
  have hl' : ∀ y ∈ l', y.2 ∈ U := fun y hy => (hm _).2 (List.mem_map.2 ⟨y, by simp [hy], rfl⟩)
  have hv := cx_vanish hn (fun a => cx_co l a - cx_co l' a) (fun x => by
    have h1 := h x
    rw [cx_vl_list hn x.1 l hl, cx_vl_list hn x.1 l' hl'] at h1
    have e : cx_sm U (fun a => ((cx_co l a - cx_co l' a : Int) : Rat) * cx_mo x.1 a) = cx_sm U (fun a => (cx_co l a : Rat) * cx_mo x.1 a) + (-1) * cx_sm U (fun a => (cx_co l' a : Rat) * cx_mo x.1 a) := by
      rw [← cx_sm_mulL, ← cx_sm_add]
      refine cx_sm_congr (fun a _ => ?_)
      have : ((cx_co l a - cx_co l' a : Int) : Rat) = (cx_co l a : Rat) - (cx_co l' a : Rat) := by exact_mod_cast rfl
      rw [this]; grind
    rw [e, h1]; grind)
  intro a
  by_cases ha : a ∈ U
  · have := hv a ha; omega
  · have z : ∀ l : cx_Pl_ n, (∀ y ∈ l, y.2 ∈ U) → cx_co l a = 0 := by
      intro l hl
      induction l with
      | nil => rfl
      | cons y l ih => rw [cx_co_cons, if_neg (fun e : y.2 = a => ha (by rw [← e]; exact hl y (by simp))), ih (fun z hz => hl z (by simp [hz]))]; omega
    rw [z l hl, z l' hl']
