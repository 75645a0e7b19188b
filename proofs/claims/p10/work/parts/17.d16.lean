def cx_iz [Mul (cx_S Nat)] [One (cx_S Nat)] [Add (cx_S Nat)] [Zero (cx_S Nat)] [Inhabited (cx_Idx Nat)] [Inhabited (PLift cx_Natl)]  (r : Rat) : Int := r.num
theorem cx_iz_cast [Mul (cx_S Nat)] [One (cx_S Nat)] [Add (cx_S Nat)] [Zero (cx_S Nat)] [Inhabited (cx_Idx Nat)] [Inhabited (PLift cx_Natl)]  (z : Int) : cx_iz (z : Rat) = z := by unfold cx_iz; simp
theorem cx_iz_eq [Mul (cx_S Nat)] [One (cx_S Nat)] [Add (cx_S Nat)] [Zero (cx_S Nat)] [Inhabited (cx_Idx Nat)] [Inhabited (PLift cx_Natl)]  {r : Rat} (h : cx_IsI r) : ((cx_iz r : Int) : Rat) = r := by obtain ⟨z, rfl⟩ := h; rw [cx_iz_cast]
theorem cx_iz_inj [Mul (cx_S Nat)] [One (cx_S Nat)] [Add (cx_S Nat)] [Zero (cx_S Nat)] [Inhabited (cx_Idx Nat)] [Inhabited (PLift cx_Natl)]  {r : Rat} {z : Int} (h : r = (z : Rat)) : cx_iz r = z := by rw [h, cx_iz_cast]
theorem cx_iz_add [Mul (cx_S Nat)] [One (cx_S Nat)] [Add (cx_S Nat)] [Zero (cx_S Nat)] [Inhabited (cx_Idx Nat)] [Inhabited (PLift cx_Natl)]  {r r' : Rat} (h : cx_IsI r) (h' : cx_IsI r') : cx_iz (r + r') = cx_iz r + cx_iz r' := by
  obtain ⟨z, rfl⟩ := h
  obtain ⟨z', rfl⟩ := h'
  have : (z : Rat) + (z' : Rat) = ((z + z' : Int) : Rat) := by exact_mod_cast rfl
  rw [this, cx_iz_cast, cx_iz_cast, cx_iz_cast]
theorem cx_iz_neg [Mul (cx_S Nat)] [One (cx_S Nat)] [Add (cx_S Nat)] [Zero (cx_S Nat)] [Inhabited (cx_Idx Nat)] [Inhabited (PLift cx_Natl)]  {r : Rat} (h : cx_IsI r) : cx_iz (- r) = - cx_iz r := by
  obtain ⟨z, rfl⟩ := h
  have : -(z : Rat) = ((-z : Int) : Rat) := by exact_mod_cast rfl
  rw [this, cx_iz_cast, cx_iz_cast]
theorem cx_IsI.neg [Mul (cx_S Nat)] [One (cx_S Nat)] [Add (cx_S Nat)] [Zero (cx_S Nat)] [Inhabited (cx_Idx Nat)] [Inhabited (PLift cx_Natl)]  {r : Rat} (h : cx_IsI r) : cx_IsI (- r) := by
  obtain ⟨z, rfl⟩ := h
  exact ⟨-z, by exact_mod_cast rfl⟩
theorem cx_ZZ.add [Mul (cx_S Nat)] [One (cx_S Nat)] [Add (cx_S Nat)] [Zero (cx_S Nat)] [Inhabited (cx_Idx Nat)] [Inhabited (PLift cx_Natl)] {n : Nat} [Zero (cx_Ex n)] [Add (cx_Ex n)] [Mul (cx_S (cx_Ex n))] [One (cx_S (cx_Ex n))] [Add (cx_S (cx_Ex n))] [Zero (cx_S (cx_Ex n))] [Inhabited (cx_Idx (cx_Ex n))] [Inhabited (PLift (cx_Exl n))] [∀ s : cx_Sd n, Add (cx_MM s)] [∀ s : cx_Sd n, Inhabited (PLift (cx_MGl (cx_MM s)))] [∀ s : cx_Sd n, Inhabited (cx_Tord (cx_Ex n) (cx_MM s))] [Inhabited (PLift (cx_MMl n))] {s : cx_Sd n} {m m' : cx_MM s} (h : cx_ZZ s m) (h' : cx_ZZ s m') : cx_ZZ s (m + m') := fun i => by rw [cx_mm_add]; exact (h i).add (h' i)
theorem cx_neg_v {n : Nat} [Zero (cx_Ex n)] [Add (cx_Ex n)] [Mul (cx_S (cx_Ex n))] [One (cx_S (cx_Ex n))] [Add (cx_S (cx_Ex n))] [Zero (cx_S (cx_Ex n))] [Inhabited (cx_Idx (cx_Ex n))] [Inhabited (PLift (cx_Exl n))] [∀ s : cx_Sd n, Add (cx_MM s)] [∀ s : cx_Sd n, Inhabited (PLift (cx_MGl (cx_MM s)))] [∀ s : cx_Sd n, Inhabited (cx_Tord (cx_Ex n) (cx_MM s))] [Inhabited (PLift (cx_MMl n))] (s : cx_Sd n) (m : cx_MM s) (i : Fin n) : (cx_neg (B := cx_Ex n) m).v i = - m.v i := ((default : PLift (cx_MMl n)).down s).2.2.2 m i
theorem cx_ZZ.neg [Mul (cx_S Nat)] [One (cx_S Nat)] [Add (cx_S Nat)] [Zero (cx_S Nat)] [Inhabited (cx_Idx Nat)] [Inhabited (PLift cx_Natl)] {n : Nat} [Zero (cx_Ex n)] [Add (cx_Ex n)] [Mul (cx_S (cx_Ex n))] [One (cx_S (cx_Ex n))] [Add (cx_S (cx_Ex n))] [Zero (cx_S (cx_Ex n))] [Inhabited (cx_Idx (cx_Ex n))] [Inhabited (PLift (cx_Exl n))] [∀ s : cx_Sd n, Add (cx_MM s)] [∀ s : cx_Sd n, Inhabited (PLift (cx_MGl (cx_MM s)))] [∀ s : cx_Sd n, Inhabited (cx_Tord (cx_Ex n) (cx_MM s))] [Inhabited (PLift (cx_MMl n))] {s : cx_Sd n} {m : cx_MM s} (h : cx_ZZ s m) : cx_ZZ s (cx_neg (B := cx_Ex n) m) := fun i => by rw [cx_neg_v]; exact (h i).neg
theorem cx_p0_v [Mul (cx_S Nat)] [One (cx_S Nat)] [Add (cx_S Nat)] [Zero (cx_S Nat)] [Inhabited (cx_Idx Nat)] [Inhabited (PLift cx_Natl)] {n : Nat} [Zero (cx_Ex n)] [Add (cx_Ex n)] [Mul (cx_S (cx_Ex n))] [One (cx_S (cx_Ex n))] [Add (cx_S (cx_Ex n))] [Zero (cx_S (cx_Ex n))] [Inhabited (cx_Idx (cx_Ex n))] [Inhabited (PLift (cx_Exl n))] [∀ s : cx_Sd n, Add (cx_MM s)] [∀ s : cx_Sd n, Inhabited (PLift (cx_MGl (cx_MM s)))] [∀ s : cx_Sd n, Inhabited (cx_Tord (cx_Ex n) (cx_MM s))] [Inhabited (PLift (cx_MMl n))] (s : cx_Sd n) (i : Fin n) : (cx_p (0 : cx_Ex n) : cx_MM s).v i = 0 := by
  rw [cx_p_def]
  exact cx_sm_zero (fun j _ => by rw [cx_ex_zero, show ((0 : Nat) : Rat) = 0 from rfl, Rat.mul_zero])
abbrev cx_MulZ [Mul (cx_S Nat)] [One (cx_S Nat)] [Add (cx_S Nat)] [Zero (cx_S Nat)] [Inhabited (cx_Idx Nat)] [Inhabited (PLift cx_Natl)] {n : Nat} {ι : Type} [Zero (cx_Ex n)] [Add (cx_Ex n)] [Mul (cx_S (cx_Ex n))] [One (cx_S (cx_Ex n))] [Add (cx_S (cx_Ex n))] [Zero (cx_S (cx_Ex n))] [Inhabited (cx_Idx (cx_Ex n))] [Inhabited (PLift (cx_Exl n))] [∀ s : cx_Sd n, Add (cx_MM s)] [∀ s : cx_Sd n, Inhabited (PLift (cx_MGl (cx_MM s)))] [∀ s : cx_Sd n, Inhabited (cx_Tord (cx_Ex n) (cx_MM s))] [Inhabited (PLift (cx_MMl n))] (s : cx_Sd n) (X : ι → cx_MM s → Rat) : Prop := (∀ i m, cx_ZZ s m → 0 < X i m) ∧ (∀ i m m', cx_ZZ s m → cx_ZZ s m' → X i (m + m') = X i m * X i m')
theorem cx_MulZ.pos [Mul (cx_S Nat)] [One (cx_S Nat)] [Add (cx_S Nat)] [Zero (cx_S Nat)] [Inhabited (cx_Idx Nat)] [Inhabited (PLift cx_Natl)] {n : Nat} {ι : Type} [Zero (cx_Ex n)] [Add (cx_Ex n)] [Mul (cx_S (cx_Ex n))] [One (cx_S (cx_Ex n))] [Add (cx_S (cx_Ex n))] [Zero (cx_S (cx_Ex n))] [Inhabited (cx_Idx (cx_Ex n))] [Inhabited (PLift (cx_Exl n))] [∀ s : cx_Sd n, Add (cx_MM s)] [∀ s : cx_Sd n, Inhabited (PLift (cx_MGl (cx_MM s)))] [∀ s : cx_Sd n, Inhabited (cx_Tord (cx_Ex n) (cx_MM s))] [Inhabited (PLift (cx_MMl n))] {s : cx_Sd n} {X : ι → cx_MM s → Rat} (hh_ : cx_MulZ s X) : ∀ i m, cx_ZZ s m → 0 < X i m := hh_.1
theorem cx_MulZ.add [Mul (cx_S Nat)] [One (cx_S Nat)] [Add (cx_S Nat)] [Zero (cx_S Nat)] [Inhabited (cx_Idx Nat)] [Inhabited (PLift cx_Natl)] {n : Nat} {ι : Type} [Zero (cx_Ex n)] [Add (cx_Ex n)] [Mul (cx_S (cx_Ex n))] [One (cx_S (cx_Ex n))] [Add (cx_S (cx_Ex n))] [Zero (cx_S (cx_Ex n))] [Inhabited (cx_Idx (cx_Ex n))] [Inhabited (PLift (cx_Exl n))] [∀ s : cx_Sd n, Add (cx_MM s)] [∀ s : cx_Sd n, Inhabited (PLift (cx_MGl (cx_MM s)))] [∀ s : cx_Sd n, Inhabited (cx_Tord (cx_Ex n) (cx_MM s))] [Inhabited (PLift (cx_MMl n))] {s : cx_Sd n} {X : ι → cx_MM s → Rat} (hh_ : cx_MulZ s X) : ∀ i m m', cx_ZZ s m → cx_ZZ s m' → X i (m + m') = X i m * X i m' := hh_.2
theorem cx_zp_add [Mul (cx_S Nat)] [One (cx_S Nat)] [Add (cx_S Nat)] [Zero (cx_S Nat)] [Inhabited (cx_Idx Nat)] [Inhabited (PLift cx_Natl)]  {x : Rat} (h : 0 < x) (a b : Int) : x ^ (a + b) = x ^ a * x ^ b := Rat.zpow_add (by grind) a b
theorem cx_pow_RR [Mul (cx_S Nat)] [One (cx_S Nat)] [Add (cx_S Nat)] [Zero (cx_S Nat)] [Inhabited (cx_Idx Nat)] [Inhabited (PLift cx_Natl)] {n : Nat} {ι : Type} [Zero (cx_Ex n)] [Add (cx_Ex n)] [Mul (cx_S (cx_Ex n))] [One (cx_S (cx_Ex n))] [Add (cx_S (cx_Ex n))] [Zero (cx_S (cx_Ex n))] [Inhabited (cx_Idx (cx_Ex n))] [Inhabited (PLift (cx_Exl n))] [∀ s : cx_Sd n, Add (cx_MM s)] [∀ s : cx_Sd n, Inhabited (PLift (cx_MGl (cx_MM s)))] [∀ s : cx_Sd n, Inhabited (cx_Tord (cx_Ex n) (cx_MM s))] [Inhabited (PLift (cx_MMl n))] {s : cx_Sd n} {k : Fin n} {c : Rat} {F : cx_MM s → cx_S (cx_Ex n)} (gF : cx_Good F) {e : cx_MM s} (ze : cx_ZZ s e) (he : c * cx_pr (cx_ee k) e = 1) (hc : ∀ m, cx_ZZ s m → cx_IsI (c * cx_pr (cx_ee k) m))
    {y : ι → cx_Ex n → Rat} (hy : cx_Mul1 y) {vF : ι → cx_MM s → Rat} (hv : cx_MulZ s vF) (hF : ∀ m, cx_ZZ s m → cx_RR y (F m) (fun i => vF i m)) :
    ∀ m, cx_ZZ s m → cx_RR y (cx_comp F (cx_E (cx_ee k) c) m) (fun i => vF i m * (1 + y i (cx_ee k) * vF i (cx_p (cx_ee k))) ^ cx_iz (c * cx_pr (cx_ee k) m)) := by
  let A : ι → Rat := fun i => 1 + y i (cx_ee k) * vF i (cx_p (cx_ee k))
  have hA : ∀ i, 0 < A i := fun i => by
    have := Rat.mul_pos (hy.pos i (cx_ee k)) (hv.pos i _ (cx_ZZ_p s (cx_ee k)))
    show 0 < 1 + _
    grind
  let f := cx_comp F (cx_E (cx_ee k) c)
  have gf : cx_Good f := gF.comp (cx_E_good (cx_ee_nz k) c)
  have f0 : ∀ m, c * cx_pr (cx_ee k) m = 0 → f m = F m := by
    intro m hm
    show cx_comp F (cx_E (cx_ee k) c) m = _
    rw [cx_comp_lin]
    have : (cx_E (cx_ee k) c : cx_MM s → cx_S (cx_Ex n)) m = 1 := by
      show cx_sub (cx_ee k) (cx_bin (c * cx_pr (cx_ee k) m)) = 1
      rw [hm, cx_sub_zero (cx_ee_nz k)]
    rw [this, cx_one_act]
  have fe : f e = F e * (1 + cx_mon (cx_ee k) * F (cx_p (cx_ee k))) := by
    show cx_comp F (cx_E (cx_ee k) c) e = _
    rw [cx_comp_lin]
    have : (cx_E (cx_ee k) c : cx_MM s → cx_S (cx_Ex n)) e = 1 + cx_mon (cx_ee k) := by
      show cx_sub (cx_ee k) (cx_bin (c * cx_pr (cx_ee k) e)) = _
      rw [he, cx_sub_one (cx_ee_nz k)]
    rw [this, cx_lin_add, cx_one_act, cx_mon_act, gF.hom, cx_mulD, cx_mul1]
    congr 1
    rw [← cx_mulA, cx_mulC (cx_mon (cx_ee k)), cx_mulA]
  let ne : cx_MM s := cx_neg (B := cx_Ex n) e
  have zne : cx_ZZ s ne := ze.neg
  have hene : e + ne = cx_p (0 : cx_Ex n) := cx_neg_add e
  have Fne : F ne * F e = 1 := by rw [cx_mulC, ← gF.hom, hene, gF.zero]
  have fne : f e * f ne = 1 := by rw [← gf.hom, hene, gf.zero]
  have hpl := cx_RR.plus hy (hF _ (cx_ZZ_p s (cx_ee k))) (cx_ee k)
  have rfe : cx_RR y (f e) (fun i => vF i e * A i) := by rw [fe]; exact (hF e ze).mul hy hpl.1
  have rfne : cx_RR y (f ne) (fun i => vF i ne * (A i)⁻¹) := by
    have h1 : (1 + cx_mon (cx_ee k) * F (cx_p (cx_ee k))) * (F e * f ne) = 1 := by
      rw [← cx_mulA, cx_mulC _ (F e), ← fe, fne]
    have h2 := (hF ne zne).mul hy (hpl.2 _ h1)
    refine h2.congr ?_ (fun i => rfl)
    rw [← cx_mulA, Fne, cx_one_mul']
  have hne1 : c * cx_pr (cx_ee k) ne = -1 := by
    show c * cx_pr (cx_ee k) (cx_neg (B := cx_Ex n) e) = -1
    rw [cx_pr_neg]; grind
  have eqv : ∀ m : cx_MM s, (m + ne) + e = m := fun m => cx_MM.ext fun i => by rw [cx_mm_add, cx_mm_add, cx_neg_v]; grind
  have eqv2 : ∀ m : cx_MM s, (m + e) + ne = m := fun m => cx_MM.ext fun i => by rw [cx_mm_add, cx_mm_add, cx_neg_v]; grind
  have up : ∀ j : Nat, ∀ m, cx_ZZ s m → c * cx_pr (cx_ee k) m = (j : Rat) → cx_RR y (f m) (fun i => vF i m * A i ^ (j : Int)) := by
    intro j
    induction j with
    | zero =>
      intro m zm hm
      rw [f0 m hm]
      refine (hF m zm).congr rfl (fun i => ?_)
      show _ = vF i m * A i ^ (0 : Int)
      rw [Rat.zpow_zero]; grind
    | succ j ih =>
      intro m zm hm
      have h1 := ih (m + ne) (zm.add zne) (by rw [cx_pr_addR, Rat.mul_add, hm, hne1, cx_castR]; show _ + ((1 : Nat) : Rat) + -1 = _; rw [show ((1 : Nat) : Rat) = 1 from rfl]; grind)
      refine (h1.mul hy rfe).congr ?_ (fun i => ?_)
      · rw [← gf.hom, eqv]
      · have e1 : ((j + 1 : Nat) : Int) = (j : Int) + 1 := by omega
        rw [e1, cx_zp_add (hA i), Rat.zpow_one]
        have e2 := hv.add i (m + ne) e (zm.add zne) ze
        rw [eqv] at e2
        rw [e2]; grind
  have down : ∀ j : Nat, ∀ m, cx_ZZ s m → c * cx_pr (cx_ee k) m = -(j : Rat) → cx_RR y (f m) (fun i => vF i m * A i ^ (-(j : Int))) := by
    intro j
    induction j with
    | zero =>
      intro m zm hm
      rw [f0 m (by rw [hm]; rfl)]
      refine (hF m zm).congr rfl (fun i => ?_)
      show _ = vF i m * A i ^ (-(0 : Int))
      rw [Int.neg_zero, Rat.zpow_zero]; grind
    | succ j ih =>
      intro m zm hm
      have h1 := ih (m + e) (zm.add ze) (by rw [cx_pr_addR, Rat.mul_add, hm, he, cx_castR, show ((1 : Nat) : Rat) = 1 from rfl]; grind)
      refine (h1.mul hy rfne).congr ?_ (fun i => ?_)
      · rw [← gf.hom, eqv2]
      · have e1 : -((j + 1 : Nat) : Int) = -(j : Int) + (-1) := by omega
        rw [e1, cx_zp_add (hA i), Rat.zpow_neg _ 1, Rat.zpow_one]
        have e2 := hv.add i (m + e) ne (zm.add ze) zne
        rw [eqv2] at e2
        rw [e2]; grind
  intro m zm
  obtain ⟨z, hz⟩ := hc m zm
  rw [cx_iz_inj hz]
  rcases Int.eq_nat_or_neg z with ⟨j, rfl | rfl⟩
  · exact up j m zm (by rw [hz]; exact_mod_cast rfl)
  · exact down j m zm (by rw [hz]; exact_mod_cast rfl)
def cx_St [Mul (cx_S Nat)] [One (cx_S Nat)] [Add (cx_S Nat)] [Zero (cx_S Nat)] [Inhabited (cx_Idx Nat)] [Inhabited (PLift cx_Natl)] {n : Nat} {ι : Type} [Zero (cx_Ex n)] [Add (cx_Ex n)] [Mul (cx_S (cx_Ex n))] [One (cx_S (cx_Ex n))] [Add (cx_S (cx_Ex n))] [Zero (cx_S (cx_Ex n))] [Inhabited (cx_Idx (cx_Ex n))] [Inhabited (PLift (cx_Exl n))] [∀ s : cx_Sd n, Add (cx_MM s)] [∀ s : cx_Sd n, Inhabited (PLift (cx_MGl (cx_MM s)))] [∀ s : cx_Sd n, Inhabited (cx_Tord (cx_Ex n) (cx_MM s))] [Inhabited (PLift (cx_MMl n))] (s : cx_Sd n) (V X : ι → cx_MM s → Rat) (t : cx_Ex n → Rat) : Prop := ∃ g f, cx_IsG s g ∧ cx_MnT cx_All g t f ∧ cx_Good f ∧ ∀ m, cx_ZZ s m → cx_RR (fun i b => X i (cx_p b)) (f m) (fun i => V i m * (X i m)⁻¹)
theorem cx_MulZ.mul1 [Mul (cx_S Nat)] [One (cx_S Nat)] [Add (cx_S Nat)] [Zero (cx_S Nat)] [Inhabited (cx_Idx Nat)] [Inhabited (PLift cx_Natl)] {n : Nat} {ι : Type} [Zero (cx_Ex n)] [Add (cx_Ex n)] [Mul (cx_S (cx_Ex n))] [One (cx_S (cx_Ex n))] [Add (cx_S (cx_Ex n))] [Zero (cx_S (cx_Ex n))] [Inhabited (cx_Idx (cx_Ex n))] [Inhabited (PLift (cx_Exl n))] [∀ s : cx_Sd n, Add (cx_MM s)] [∀ s : cx_Sd n, Inhabited (PLift (cx_MGl (cx_MM s)))] [∀ s : cx_Sd n, Inhabited (cx_Tord (cx_Ex n) (cx_MM s))] [Inhabited (PLift (cx_MMl n))] {s : cx_Sd n} {X : ι → cx_MM s → Rat} (h : cx_MulZ s X) : cx_Mul1 (fun i (b : cx_Ex n) => X i (cx_p b)) := ⟨(fun i a b => by show X i (cx_p (a + b)) = X i (cx_p a) * X i (cx_p b); rw [cx_p_add]; exact h.add i _ _ (cx_ZZ_p s a) (cx_ZZ_p s b)),
  (fun i a => h.pos i _ (cx_ZZ_p s a))⟩
theorem cx_MulZ.quot [Mul (cx_S Nat)] [One (cx_S Nat)] [Add (cx_S Nat)] [Zero (cx_S Nat)] [Inhabited (cx_Idx Nat)] [Inhabited (PLift cx_Natl)] {n : Nat} {ι : Type} [Zero (cx_Ex n)] [Add (cx_Ex n)] [Mul (cx_S (cx_Ex n))] [One (cx_S (cx_Ex n))] [Add (cx_S (cx_Ex n))] [Zero (cx_S (cx_Ex n))] [Inhabited (cx_Idx (cx_Ex n))] [Inhabited (PLift (cx_Exl n))] [∀ s : cx_Sd n, Add (cx_MM s)] [∀ s : cx_Sd n, Inhabited (PLift (cx_MGl (cx_MM s)))] [∀ s : cx_Sd n, Inhabited (cx_Tord (cx_Ex n) (cx_MM s))] [Inhabited (PLift (cx_MMl n))] {s : cx_Sd n} {V X : ι → cx_MM s → Rat} (hV : cx_MulZ s V) (hX : cx_MulZ s X) : cx_MulZ s (fun i m => V i m * (X i m)⁻¹) := ⟨(fun i m hm => Rat.mul_pos (hV.pos i m hm) (Rat.inv_pos.2 (hX.pos i m hm))),
  (fun i m m' hm hm' => by
    show V i (m + m') * (X i (m + m'))⁻¹ = V i m * (X i m)⁻¹ * (V i m' * (X i m')⁻¹)
    rw [hV.add i m m' hm hm', hX.add i m m' hm hm', Rat.inv_mul_rev]; grind)⟩
theorem cx_mu_add [Mul (cx_S Nat)] [One (cx_S Nat)] [Add (cx_S Nat)] [Zero (cx_S Nat)] [Inhabited (cx_Idx Nat)] [Inhabited (PLift cx_Natl)] {n : Nat} [Zero (cx_Ex n)] [Add (cx_Ex n)] [Mul (cx_S (cx_Ex n))] [One (cx_S (cx_Ex n))] [Add (cx_S (cx_Ex n))] [Zero (cx_S (cx_Ex n))] [Inhabited (cx_Idx (cx_Ex n))] [Inhabited (PLift (cx_Exl n))] [∀ s : cx_Sd n, Add (cx_MM s)] [∀ s : cx_Sd n, Inhabited (PLift (cx_MGl (cx_MM s)))] [∀ s : cx_Sd n, Inhabited (cx_Tord (cx_Ex n) (cx_MM s))] [Inhabited (PLift (cx_MMl n))] (s s2 : cx_Sd n) (k : Fin n) (ρ : Fin n → Nat) (m m' : cx_MM s) : cx_mu s s2 k ρ (m + m') = cx_mu s s2 k ρ m + cx_mu s s2 k ρ m' := cx_MM.ext fun i => by
  rw [cx_mm_add]
  by_cases hi : i = k
  · subst hi; rw [cx_mu_k, cx_mu_k, cx_mu_k, cx_mm_add]; grind
  · rw [cx_mu_ne _ _ hi, cx_mu_ne _ _ hi, cx_mu_ne _ _ hi, cx_mm_add, cx_mm_add]; grind
theorem cx_zz_mu' [Mul (cx_S Nat)] [One (cx_S Nat)] [Add (cx_S Nat)] [Zero (cx_S Nat)] [Inhabited (cx_Idx Nat)] [Inhabited (PLift cx_Natl)] {n : Nat} [Zero (cx_Ex n)] [Add (cx_Ex n)] [Mul (cx_S (cx_Ex n))] [One (cx_S (cx_Ex n))] [Add (cx_S (cx_Ex n))] [Zero (cx_S (cx_Ex n))] [Inhabited (cx_Idx (cx_Ex n))] [Inhabited (PLift (cx_Exl n))] [∀ s : cx_Sd n, Add (cx_MM s)] [∀ s : cx_Sd n, Inhabited (PLift (cx_MGl (cx_MM s)))] [∀ s : cx_Sd n, Inhabited (cx_Tord (cx_Ex n) (cx_MM s))] [Inhabited (PLift (cx_MMl n))] {s : cx_Sd n} {k : Fin n} {ρ : Fin n → Nat} (hc : ∀ i, cx_IsI (cx_cc s k ρ i)) {m : cx_MM s} (hm : cx_ZZ s m) : cx_ZZ (cx_turn s k) (cx_mu s (cx_turn s k) k ρ m) := fun i => by
  by_cases hi : i = k
  · subst hi; rw [cx_mu_k]; exact (hm i).neg
  · rw [cx_mu_ne _ _ hi]; exact (hm i).add ((hc i).mul (hm k))
theorem cx_MulZ.mu [Mul (cx_S Nat)] [One (cx_S Nat)] [Add (cx_S Nat)] [Zero (cx_S Nat)] [Inhabited (cx_Idx Nat)] [Inhabited (PLift cx_Natl)] {n : Nat} {ι : Type} [Zero (cx_Ex n)] [Add (cx_Ex n)] [Mul (cx_S (cx_Ex n))] [One (cx_S (cx_Ex n))] [Add (cx_S (cx_Ex n))] [Zero (cx_S (cx_Ex n))] [Inhabited (cx_Idx (cx_Ex n))] [Inhabited (PLift (cx_Exl n))] [∀ s : cx_Sd n, Add (cx_MM s)] [∀ s : cx_Sd n, Inhabited (PLift (cx_MGl (cx_MM s)))] [∀ s : cx_Sd n, Inhabited (cx_Tord (cx_Ex n) (cx_MM s))] [Inhabited (PLift (cx_MMl n))] {s : cx_Sd n} {k : Fin n} {ρ : Fin n → Nat} (hc : ∀ i, cx_IsI (cx_cc s k ρ i)) {X : ι → cx_MM (cx_turn s k) → Rat} (h : cx_MulZ (cx_turn s k) X) : cx_MulZ s (fun i m => X i (cx_mu s (cx_turn s k) k ρ m)) := ⟨(fun i m hm => h.pos i _ (cx_zz_mu' hc hm)),
  (fun i m m' hm hm' => by show X i (cx_mu s (cx_turn s k) k ρ (m + m')) = X i (cx_mu s (cx_turn s k) k ρ m) * X i (cx_mu s (cx_turn s k) k ρ m'); rw [cx_mu_add]; exact h.add i _ _ (cx_zz_mu' hc hm) (cx_zz_mu' hc hm'))⟩
theorem cx_tN_fun [Mul (cx_S Nat)] [One (cx_S Nat)] [Add (cx_S Nat)] [Zero (cx_S Nat)] [Inhabited (cx_Idx Nat)] [Inhabited (PLift cx_Natl)] {n : Nat} [Zero (cx_Ex n)] [Add (cx_Ex n)] [Mul (cx_S (cx_Ex n))] [One (cx_S (cx_Ex n))] [Add (cx_S (cx_Ex n))] [Zero (cx_S (cx_Ex n))] [Inhabited (cx_Idx (cx_Ex n))] [Inhabited (PLift (cx_Exl n))] [∀ s : cx_Sd n, Add (cx_MM s)] [∀ s : cx_Sd n, Inhabited (PLift (cx_MGl (cx_MM s)))] [∀ s : cx_Sd n, Inhabited (cx_Tord (cx_Ex n) (cx_MM s))] [Inhabited (PLift (cx_MMl n))] {ρ : Fin n → Nat} {k : Fin n} (hk : ρ k = 0) {t : cx_Ex n → Rat} (ht : cx_Fun t) (N : Nat) {a : cx_Ex n} (ha : a k ≤ cx_rw_ ρ a + N) : t (cx_tN ρ k N a) = (N : Rat) * t (cx_ee k) + cx_pull ρ k t a := by
  rw [cx_fun_dt ht (cx_tN ρ k N a)]
  unfold cx_pull cx_dt
  have e0 : ((cx_tN ρ k N a) k : Rat) = (cx_rw_ ρ a : Rat) + (N : Rat) - (a k : Rat) := by
    unfold cx_tN; rw [cx_dn_k]
    have : ((cx_rw_ ρ a + N - a k + a k : Nat) : Rat) = ((cx_rw_ ρ a + N : Nat) : Rat) := by rw [Nat.sub_add_cancel ha]
    rw [cx_castR, cx_castR] at this
    grind
  rw [cx_fr_split k, cx_fr_split k (fun i => (if i = k then - t (cx_ee k) else t (cx_ee i) + (ρ i : Rat) * t (cx_ee k)) * (a i : Rat)), e0, if_pos rfl, cx_rw_cast]
  have : cx_sm (cx_fr n) (fun i => if i = k then 0 else (if i = k then - t (cx_ee k) else t (cx_ee i) + (ρ i : Rat) * t (cx_ee k)) * (a i : Rat))
      = cx_sm (cx_fr n) (fun i => if i = k then 0 else t (cx_ee i) * (cx_tN ρ k N a i : Rat)) + cx_sm (cx_fr n) (fun i => (ρ i : Rat) * (a i : Rat)) * t (cx_ee k) := by
    rw [← cx_sm_mulR, ← cx_sm_add]
    refine cx_sm_congr (fun i _ => ?_)
    by_cases hi : i = k
    · subst hi; rw [if_pos rfl, if_pos rfl, hk, show ((0 : Nat) : Rat) = 0 from rfl]; grind
    · rw [if_neg hi, if_neg hi, if_neg hi]
      have e2 : cx_tN ρ k N a i = a i := cx_dn_ne _ _ hi
      rw [e2]; grind
  rw [this]; grind
theorem cx_p_ee [Mul (cx_S Nat)] [One (cx_S Nat)] [Add (cx_S Nat)] [Zero (cx_S Nat)] [Inhabited (cx_Idx Nat)] [Inhabited (PLift cx_Natl)] {n : Nat} [Zero (cx_Ex n)] [Add (cx_Ex n)] [Mul (cx_S (cx_Ex n))] [One (cx_S (cx_Ex n))] [Add (cx_S (cx_Ex n))] [Zero (cx_S (cx_Ex n))] [Inhabited (cx_Idx (cx_Ex n))] [Inhabited (PLift (cx_Exl n))] [∀ s : cx_Sd n, Add (cx_MM s)] [∀ s : cx_Sd n, Inhabited (PLift (cx_MGl (cx_MM s)))] [∀ s : cx_Sd n, Inhabited (cx_Tord (cx_Ex n) (cx_MM s))] [Inhabited (PLift (cx_MMl n))] (s : cx_Sd n) (i j : Fin n) : (cx_p (cx_ee j) : cx_MM s).v i = (s.b i j : Rat) := by
  rw [cx_p_def]; exact cx_dt_ee (fun l => (s.b i l : Rat)) j
theorem cx_mu_tN [Mul (cx_S Nat)] [One (cx_S Nat)] [Add (cx_S Nat)] [Zero (cx_S Nat)] [Inhabited (cx_Idx Nat)] [Inhabited (PLift cx_Natl)] {n : Nat} [Zero (cx_Ex n)] [Add (cx_Ex n)] [Mul (cx_S (cx_Ex n))] [One (cx_S (cx_Ex n))] [Add (cx_S (cx_Ex n))] [Zero (cx_S (cx_Ex n))] [Inhabited (cx_Idx (cx_Ex n))] [Inhabited (PLift (cx_Exl n))] [∀ s : cx_Sd n, Add (cx_MM s)] [∀ s : cx_Sd n, Inhabited (PLift (cx_MGl (cx_MM s)))] [∀ s : cx_Sd n, Inhabited (cx_Tord (cx_Ex n) (cx_MM s))] [Inhabited (PLift (cx_MMl n))] {s : cx_Sd n} {k : Fin n} {ρ : Fin n → Nat} (hρ : cx_Rho s k ρ) (N : Nat) {a : cx_Ex n} (ha : a k ≤ cx_rw_ ρ a + N) :
    cx_mu s (cx_turn s k) k ρ (cx_p (cx_tN ρ k N a)) = cx_mu s (cx_turn s k) k ρ (cx_p (cx_nsm N (cx_ee k))) + cx_p a := cx_MM.ext fun i => by
  let G : cx_Ex n → Rat := fun b => (cx_mu s (cx_turn s k) k ρ (cx_p b)).v i
  have hG : cx_Fun G := ⟨fun x y => by show (cx_mu s (cx_turn s k) k ρ (cx_p (x + y))).v i = _; rw [cx_p_add, cx_mu_add, cx_mm_add]⟩
  have h1 := cx_tN_fun hρ.k0 hG N ha
  have h2 : G (cx_nsm N (cx_ee k)) = (N : Rat) * G (cx_ee k) := hG.nsm N (cx_ee k)
  rw [cx_mm_add]
  show G (cx_tN ρ k N a) = G (cx_nsm N (cx_ee k)) + _
  rw [h1, h2]
  congr 1
  rw [cx_p_def]
  show cx_dt _ a = cx_dt (fun j => ((cx_turn s k).b i j : Rat)) a
  refine cx_dt_congr (fun j => ?_) a
  have g : ∀ j, G (cx_ee j) = if i = k then - (s.b k j : Rat) else (s.b i j : Rat) + cx_cc s k ρ i * (s.b k j : Rat) := by
    intro j
    show (cx_mu s (cx_turn s k) k ρ (cx_p (cx_ee j))).v i = _
    by_cases hi : i = k
    · subst hi; rw [cx_mu_k, cx_p_ee, if_pos rfl]
    · rw [cx_mu_ne _ _ hi, cx_p_ee, cx_p_ee, if_neg hi]
  have z : (s.b k k : Rat) = 0 := by rw [s.self k]; rfl
  by_cases hj : j = k
  · subst hj
    rw [if_pos rfl, g, cx_turn_col]
    have e3 : ((- s.b i j : Int) : Rat) = - (s.b i j : Rat) := by exact_mod_cast rfl
    rw [e3]
    by_cases hi : i = j
    · subst hi; rw [if_pos rfl, z]; grind
    · rw [if_neg hi, z]; grind
  · rw [if_neg hj, g, g]
    by_cases hi : i = k
    · subst hi
      rw [if_pos rfl, if_pos rfl, z, cx_turn_row]
      have e3 : ((- s.b i j : Int) : Rat) = - (s.b i j : Rat) := by exact_mod_cast rfl
      rw [e3]; grind
    · rw [if_neg hi, if_neg hi, hρ.b' i j hi hj, z]
      unfold cx_cc
      grind
theorem cx_hyy_of [Mul (cx_S Nat)] [One (cx_S Nat)] [Add (cx_S Nat)] [Zero (cx_S Nat)] [Inhabited (cx_Idx Nat)] [Inhabited (PLift cx_Natl)] {n : Nat} {ι : Type} [Zero (cx_Ex n)] [Add (cx_Ex n)] [Mul (cx_S (cx_Ex n))] [One (cx_S (cx_Ex n))] [Add (cx_S (cx_Ex n))] [Zero (cx_S (cx_Ex n))] [Inhabited (cx_Idx (cx_Ex n))] [Inhabited (PLift (cx_Exl n))] [∀ s : cx_Sd n, Add (cx_MM s)] [∀ s : cx_Sd n, Inhabited (PLift (cx_MGl (cx_MM s)))] [∀ s : cx_Sd n, Inhabited (cx_Tord (cx_Ex n) (cx_MM s))] [Inhabited (PLift (cx_MMl n))] {s : cx_Sd n} {k : Fin n} {ρ : Fin n → Nat} (hρ : cx_Rho s k ρ) (hc : ∀ i, cx_IsI (cx_cc s k ρ i)) {X : ι → cx_MM (cx_turn s k) → Rat} (h : cx_MulZ (cx_turn s k) X) (i : ι) (N : Nat) (a : cx_Ex n) (ha : a k ≤ cx_rw_ ρ a + N) :
    X i (cx_mu s (cx_turn s k) k ρ (cx_p (cx_tN ρ k N a))) = X i (cx_mu s (cx_turn s k) k ρ (cx_p (cx_nsm N (cx_ee k)))) * X i (cx_p a) := by
  rw [cx_mu_tN hρ N ha]
  exact h.add i _ _ (cx_zz_mu' hc (cx_ZZ_p s _)) (cx_ZZ_p _ a)
def cx_un [Mul (cx_S Nat)] [One (cx_S Nat)] [Add (cx_S Nat)] [Zero (cx_S Nat)] [Inhabited (cx_Idx Nat)] [Inhabited (PLift cx_Natl)] {n : Nat} [Zero (cx_Ex n)] [Add (cx_Ex n)] [Mul (cx_S (cx_Ex n))] [One (cx_S (cx_Ex n))] [Add (cx_S (cx_Ex n))] [Zero (cx_S (cx_Ex n))] [Inhabited (cx_Idx (cx_Ex n))] [Inhabited (PLift (cx_Exl n))] [∀ s : cx_Sd n, Add (cx_MM s)] [∀ s : cx_Sd n, Inhabited (PLift (cx_MGl (cx_MM s)))] [∀ s : cx_Sd n, Inhabited (cx_Tord (cx_Ex n) (cx_MM s))] [Inhabited (PLift (cx_MMl n))] (s : cx_Sd n) (k : Fin n) (c : Rat) : cx_MM s := ⟨fun i => if i = k then c else 0, rfl⟩
theorem cx_un_k [Mul (cx_S Nat)] [One (cx_S Nat)] [Add (cx_S Nat)] [Zero (cx_S Nat)] [Inhabited (cx_Idx Nat)] [Inhabited (PLift cx_Natl)] {n : Nat} [Zero (cx_Ex n)] [Add (cx_Ex n)] [Mul (cx_S (cx_Ex n))] [One (cx_S (cx_Ex n))] [Add (cx_S (cx_Ex n))] [Zero (cx_S (cx_Ex n))] [Inhabited (cx_Idx (cx_Ex n))] [Inhabited (PLift (cx_Exl n))] [∀ s : cx_Sd n, Add (cx_MM s)] [∀ s : cx_Sd n, Inhabited (PLift (cx_MGl (cx_MM s)))] [∀ s : cx_Sd n, Inhabited (cx_Tord (cx_Ex n) (cx_MM s))] [Inhabited (PLift (cx_MMl n))] (s : cx_Sd n) (k : Fin n) (c : Rat) : (cx_un s k c).v k = c := if_pos rfl
theorem cx_un_ne [Mul (cx_S Nat)] [One (cx_S Nat)] [Add (cx_S Nat)] [Zero (cx_S Nat)] [Inhabited (cx_Idx Nat)] [Inhabited (PLift cx_Natl)] {n : Nat} [Zero (cx_Ex n)] [Add (cx_Ex n)] [Mul (cx_S (cx_Ex n))] [One (cx_S (cx_Ex n))] [Add (cx_S (cx_Ex n))] [Zero (cx_S (cx_Ex n))] [Inhabited (cx_Idx (cx_Ex n))] [Inhabited (PLift (cx_Exl n))] [∀ s : cx_Sd n, Add (cx_MM s)] [∀ s : cx_Sd n, Inhabited (PLift (cx_MGl (cx_MM s)))] [∀ s : cx_Sd n, Inhabited (cx_Tord (cx_Ex n) (cx_MM s))] [Inhabited (PLift (cx_MMl n))] (s : cx_Sd n) {k i : Fin n} (h : i ≠ k) (c : Rat) : (cx_un s k c).v i = 0 := if_neg h
theorem cx_un_zz [Mul (cx_S Nat)] [One (cx_S Nat)] [Add (cx_S Nat)] [Zero (cx_S Nat)] [Inhabited (cx_Idx Nat)] [Inhabited (PLift cx_Natl)] {n : Nat} [Zero (cx_Ex n)] [Add (cx_Ex n)] [Mul (cx_S (cx_Ex n))] [One (cx_S (cx_Ex n))] [Add (cx_S (cx_Ex n))] [Zero (cx_S (cx_Ex n))] [Inhabited (cx_Idx (cx_Ex n))] [Inhabited (PLift (cx_Exl n))] [∀ s : cx_Sd n, Add (cx_MM s)] [∀ s : cx_Sd n, Inhabited (PLift (cx_MGl (cx_MM s)))] [∀ s : cx_Sd n, Inhabited (cx_Tord (cx_Ex n) (cx_MM s))] [Inhabited (PLift (cx_MMl n))] (s : cx_Sd n) (k : Fin n) {c : Rat} (hc : cx_IsI c) : cx_ZZ s (cx_un s k c) := fun i => by
  by_cases hi : i = k
  · subst hi; rw [cx_un_k]; exact hc
  · rw [cx_un_ne s hi]; exact cx_IsI.zero
theorem cx_step_A [Mul (cx_S Nat)] [One (cx_S Nat)] [Add (cx_S Nat)] [Zero (cx_S Nat)] [Inhabited (cx_Idx Nat)] [Inhabited (PLift cx_Natl)] {n : Nat} {ι : Type} [Zero (cx_Ex n)] [Add (cx_Ex n)] [Mul (cx_S (cx_Ex n))] [One (cx_S (cx_Ex n))] [Add (cx_S (cx_Ex n))] [Zero (cx_S (cx_Ex n))] [Inhabited (cx_Idx (cx_Ex n))] [Inhabited (PLift (cx_Exl n))] [∀ s : cx_Sd n, Add (cx_MM s)] [∀ s : cx_Sd n, Inhabited (PLift (cx_MGl (cx_MM s)))] [∀ s : cx_Sd n, Inhabited (cx_Tord (cx_Ex n) (cx_MM s))] [Inhabited (PLift (cx_MMl n))] {s : cx_Sd n} {k : Fin n} {V' X' : ι → cx_MM (cx_turn s k) → Rat} (hV : cx_MulZ _ V') (hX : cx_MulZ _ X') {t' : cx_Ex n → Rat} (ht' : cx_Fun t') (hk : 0 < t' (cx_ee k)) (h : cx_St (cx_turn s k) V' X' t') :
    cx_St s (fun i m => V' i (cx_mu s (cx_turn s k) k (cx_rp s k) m) * (1 + V' i (cx_mu s (cx_turn s k) k (cx_rp s k) (cx_p (cx_ee k)))) ^ cx_iz (m.v k)) (fun i m => X' i (cx_mu s (cx_turn s k) k (cx_rp s k) m)) (cx_pull (cx_rp s k) k t') := by
  obtain ⟨g', f', hg', hm', gf', hr⟩ := h
  obtain ⟨h, h2, hp, hg⟩ := cx_IsG.exists s k
  have hgt := cx_isG_turn hp hg
  have eg := hg'.unique hgt
  subst eg
  obtain ⟨F, gF, sF, m1, m2⟩ := cx_mn_A hp ht' hk
  have ef := hm'.unique ht' m1
  subst ef
  refine ⟨_, _, hg, m2, gF.comp (cx_E_good (cx_ee_nz k) _), fun m zm => ?_⟩
  have hXm : cx_MulZ s (fun i m => X' i (cx_mu s (cx_turn s k) k (cx_rp s k) m)) := hX.mu (cx_cc_p s k)
  have hVm : cx_MulZ s (fun i m => V' i (cx_mu s (cx_turn s k) k (cx_rp s k) m)) := hV.mu (cx_cc_p s k)
  have T0 := cx_trn (cx_rho_p s k)
  have hF : ∀ m, cx_ZZ s m → cx_RR (fun i b => X' i (cx_mu s (cx_turn s k) k (cx_rp s k) (cx_p b))) (F m) (fun i => V' i (cx_mu s (cx_turn s k) k (cx_rp s k) m) * (X' i (cx_mu s (cx_turn s k) k (cx_rp s k) m))⁻¹) := by
    intro m zm
    have h1 := hr (cx_mu s (cx_turn s k) k (cx_rp s k) m) (cx_zz_mu' (cx_cc_p s k) zm)
    have h2 := cx_RR.back (cx_rho_p s k) sF gF.unit (cx_mu s (cx_turn s k) k (cx_rp s k) m) (y := fun i b => X' i (cx_mu s (cx_turn s k) k (cx_rp s k) (cx_p b))) hXm.mul1 (fun i N a ha => cx_hyy_of (cx_rho_p s k) (cx_cc_p s k) hX i N a ha) h1
    rw [T0.ml m] at h2
    exact h2
  have hpow := cx_pow_RR (c := cx_qq s k) gF (cx_un_zz s k cx_IsI.one) (by rw [cx_qq_pr, cx_un_k]) (fun m zm => by rw [cx_qq_pr]; exact zm k) hXm.mul1 (hVm.quot hXm) hF m zm
  refine hpow.congr rfl (fun i => ?_)
  rw [cx_qq_pr]
  have hx := hXm.pos i _ (cx_ZZ_p s (cx_ee k))
  have e : X' i (cx_mu s (cx_turn s k) k (cx_rp s k) (cx_p (cx_ee k))) * (V' i (cx_mu s (cx_turn s k) k (cx_rp s k) (cx_p (cx_ee k))) * (X' i (cx_mu s (cx_turn s k) k (cx_rp s k) (cx_p (cx_ee k))))⁻¹) = V' i (cx_mu s (cx_turn s k) k (cx_rp s k) (cx_p (cx_ee k))) := by
    have : (X' i (cx_mu s (cx_turn s k) k (cx_rp s k) (cx_p (cx_ee k))))⁻¹ * X' i (cx_mu s (cx_turn s k) k (cx_rp s k) (cx_p (cx_ee k))) = 1 := Rat.inv_mul_cancel _ (by grind)
    grind
  rw [e]; grind
theorem cx_step_B [Mul (cx_S Nat)] [One (cx_S Nat)] [Add (cx_S Nat)] [Zero (cx_S Nat)] [Inhabited (cx_Idx Nat)] [Inhabited (PLift cx_Natl)] {n : Nat} {ι : Type} [Zero (cx_Ex n)] [Add (cx_Ex n)] [Mul (cx_S (cx_Ex n))] [One (cx_S (cx_Ex n))] [Add (cx_S (cx_Ex n))] [Zero (cx_S (cx_Ex n))] [Inhabited (cx_Idx (cx_Ex n))] [Inhabited (PLift (cx_Exl n))] [∀ s : cx_Sd n, Add (cx_MM s)] [∀ s : cx_Sd n, Inhabited (PLift (cx_MGl (cx_MM s)))] [∀ s : cx_Sd n, Inhabited (cx_Tord (cx_Ex n) (cx_MM s))] [Inhabited (PLift (cx_MMl n))] {s : cx_Sd n} {k : Fin n} {V' X' : ι → cx_MM (cx_turn s k) → Rat} (hV : cx_MulZ _ V') (hX : cx_MulZ _ X') {t' : cx_Ex n → Rat} (ht' : cx_Fun t') (hk : t' (cx_ee k) < 0) (h : cx_St (cx_turn s k) V' X' t') :
    cx_St s (fun i m => V' i (cx_mu s (cx_turn s k) k (cx_rm s k) m) * (1 + V' i (cx_p (cx_ee k))) ^ cx_iz (m.v k)) (fun i m => X' i (cx_mu s (cx_turn s k) k (cx_rm s k) m)) (cx_pull (cx_rm s k) k t') := by
  obtain ⟨g', f', hg', hm', gf', hr⟩ := h
  obtain ⟨h, h2, hp, hg⟩ := cx_IsG.exists s k
  have hgt := cx_isG_turn hp hg
  have eg := hg'.unique hgt
  subst eg
  obtain ⟨F, gF, sF, m1, m2⟩ := cx_mn_B hp ht' hk
  have ef := hm'.unique ht' m1
  refine ⟨_, _, hg, m2, gF, fun m zm => ?_⟩
  have hXm : cx_MulZ s (fun i m => X' i (cx_mu s (cx_turn s k) k (cx_rm s k) m)) := hX.mu (cx_cc_m s k)
  have T0 := cx_trn (cx_rho_m s k)
  have eF : cx_trS s k (cx_rm s k) F = cx_comp f' (cx_E (cx_ee k) (- cx_qq (cx_turn s k) k)) := by
    rw [ef, cx_comp_assoc, cx_E_add (cx_ee_nz k), show cx_qq (cx_turn s k) k + - cx_qq (cx_turn s k) k = 0 by grind, cx_E_zero (cx_ee_nz k), cx_comp_I]
  have hq : ∀ m : cx_MM (cx_turn s k), (- cx_qq (cx_turn s k) k) * cx_pr (cx_ee k) m = - m.v k := fun m => by
    have := cx_qq_pr (cx_turn s k) k m
    grind
  have hpow := cx_pow_RR (c := - cx_qq (cx_turn s k) k) gf' (cx_un_zz (cx_turn s k) k (c := -1) ⟨-1, by exact_mod_cast rfl⟩) (by rw [hq, cx_un_k]; grind) (fun m zm => by rw [hq]; exact (zm k).neg) hX.mul1 (hV.quot hX) hr
    (cx_mu s (cx_turn s k) k (cx_rm s k) m) (cx_zz_mu' (cx_cc_m s k) zm)
  rw [← eF] at hpow
  have h2 := cx_RR.back (cx_rho_m s k) sF gF.unit (cx_mu s (cx_turn s k) k (cx_rm s k) m) (y := fun i b => X' i (cx_mu s (cx_turn s k) k (cx_rm s k) (cx_p b))) hXm.mul1 (fun i N a ha => cx_hyy_of (cx_rho_m s k) (cx_cc_m s k) hX i N a ha) hpow
  rw [T0.ml m] at h2
  refine h2.congr rfl (fun i => ?_)
  rw [hq, cx_mu_k, Rat.neg_neg]
  have hx := hX.pos i _ (cx_ZZ_p (cx_turn s k) (cx_ee k))
  have e : X' i (cx_p (cx_ee k)) * (V' i (cx_p (cx_ee k)) * (X' i (cx_p (cx_ee k)))⁻¹) = V' i (cx_p (cx_ee k)) := by
    have : (X' i (cx_p (cx_ee k)))⁻¹ * X' i (cx_p (cx_ee k)) = 1 := Rat.inv_mul_cancel _ (by grind)
    grind
  rw [e]; grind
theorem cx_St.congr [Mul (cx_S Nat)] [One (cx_S Nat)] [Add (cx_S Nat)] [Zero (cx_S Nat)] [Inhabited (cx_Idx Nat)] [Inhabited (PLift cx_Natl)] {n : Nat} {ι : Type} [Zero (cx_Ex n)] [Add (cx_Ex n)] [Mul (cx_S (cx_Ex n))] [One (cx_S (cx_Ex n))] [Add (cx_S (cx_Ex n))] [Zero (cx_S (cx_Ex n))] [Inhabited (cx_Idx (cx_Ex n))] [Inhabited (PLift (cx_Exl n))] [∀ s : cx_Sd n, Add (cx_MM s)] [∀ s : cx_Sd n, Inhabited (PLift (cx_MGl (cx_MM s)))] [∀ s : cx_Sd n, Inhabited (cx_Tord (cx_Ex n) (cx_MM s))] [Inhabited (PLift (cx_MMl n))] {s : cx_Sd n} {V V2 X : ι → cx_MM s → Rat} {t : cx_Ex n → Rat} (h : cx_St s V X t) (hV : ∀ i m, cx_ZZ s m → V i m = V2 i m) : cx_St s V2 X t := by
  obtain ⟨g, f, h1, h2, h3, h4⟩ := h
  exact ⟨g, f, h1, h2, h3, fun m zm => (h4 m zm).congr rfl (fun i => by rw [hV i m zm])⟩
