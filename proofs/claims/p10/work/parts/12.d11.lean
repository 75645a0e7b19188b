abbrev cx_Natl [Mul (cx_S Nat)] [One (cx_S Nat)] [Add (cx_S Nat)] [Zero (cx_S Nat)] [Inhabited (cx_Idx Nat)] : Prop := ∀ j : Nat, cx_dec j = (List.range (j + 1)).map fun i => (j - i, i)
def cx_bs [Mul (cx_S Nat)] [One (cx_S Nat)] [Add (cx_S Nat)] [Zero (cx_S Nat)] [Inhabited (cx_Idx Nat)] [Inhabited (PLift cx_Natl)]  (x : Rat) : cx_S Nat := cx_bin x
theorem cx_nat_mul [Mul (cx_S Nat)] [One (cx_S Nat)] [Add (cx_S Nat)] [Zero (cx_S Nat)] [Inhabited (cx_Idx Nat)] [Inhabited (PLift cx_Natl)]  (X Y : cx_S Nat) (j : Nat) : (X * Y) j = cx_sm (List.range (j + 1)) (fun i => X (j - i) * Y i) := by
  rw [cx_mul_def, (default : PLift cx_Natl).down j, cx_sm_map]
theorem cx_bs_mul [Mul (cx_S Nat)] [One (cx_S Nat)] [Add (cx_S Nat)] [Zero (cx_S Nat)] [Inhabited (cx_Idx Nat)] [Inhabited (PLift cx_Natl)]  (x y : Rat) : cx_bs x * cx_bs y = cx_bs (x + y) := by
  refine cx_S.ext (fun k => ?_)
  rw [cx_mulC, cx_nat_mul]
  show _ = cx_bin (x + y) k
  rw [← cx_vand x y k]
  show _ = cx_sm (List.range (k + 1)) _
  exact cx_sm_congr (fun i _ => Rat.mul_comm _ _)
theorem cx_bs_zero [Mul (cx_S Nat)] [One (cx_S Nat)] [Add (cx_S Nat)] [Zero (cx_S Nat)] [Inhabited (cx_Idx Nat)] [Inhabited (PLift cx_Natl)]  : cx_bs 0 = 1 := by
  refine cx_S.ext (fun k => ?_)
  cases k with
  | zero => exact (cx_one_zero (B := Nat)).symm
  | succ k => show cx_bin 0 (k + 1) = _; rw [cx_bin_z]; exact (cx_one_ne (B := Nat) (by omega : k + 1 ≠ 0)).symm
theorem cx_bs_one [Mul (cx_S Nat)] [One (cx_S Nat)] [Add (cx_S Nat)] [Zero (cx_S Nat)] [Inhabited (cx_Idx Nat)] [Inhabited (PLift cx_Natl)]  (X : cx_S Nat) (j : Nat) : (X * cx_bs 1) j = X j + (if j = 0 then 0 else X (j - 1)) := by
  rw [cx_nat_mul]
  have big : ∀ i, 2 ≤ i → cx_bs 1 i = 0 := by
    intro i hi
    have := cx_bin_big 1 i (by omega)
    rw [show ((1 : Nat) : Rat) = 1 from rfl] at this
    exact this
  have b0 : cx_bs 1 0 = 1 := rfl
  have b1 : cx_bs 1 1 = 1 := cx_bin_one 1
  cases j with
  | zero =>
    show X 0 * cx_bs 1 0 + 0 = _
    rw [if_pos rfl, b0]; grind
  | succ j =>
    rw [if_neg (by omega), List.range_succ_eq_map, cx_sm_cons, cx_sm_map, List.range_succ_eq_map, cx_sm_cons, cx_sm_map, cx_sm_zero (fun i _ => by rw [big _ (by omega), Rat.mul_zero])]
    show X (j + 1 - 0) * cx_bs 1 0 + (X (j + 1 - (0 + 1)) * cx_bs 1 (0 + 1) + 0) = _
    rw [b0, show cx_bs 1 (0 + 1) = 1 from b1, show j + 1 - 0 = j + 1 by omega, show j + 1 - (0 + 1) = j by omega]
    show X (j + 1) * 1 + (X j * 1 + 0) = X (j + 1) + X j
    grind
def cx_rv [Mul (cx_S Nat)] [One (cx_S Nat)] [Add (cx_S Nat)] [Zero (cx_S Nat)] [Inhabited (cx_Idx Nat)] [Inhabited (PLift cx_Natl)]  (T : Nat) (X : cx_S Nat) : cx_S Nat := fun j => if j ≤ T then X (T - j) else 0
theorem cx_rv_step [Mul (cx_S Nat)] [One (cx_S Nat)] [Add (cx_S Nat)] [Zero (cx_S Nat)] [Inhabited (cx_Idx Nat)] [Inhabited (PLift cx_Natl)]  (T : Nat) (X : cx_S Nat) (h : ∀ j, T < j → X j = 0) : cx_rv (T + 1) (X * cx_bs 1) = cx_rv T X * cx_bs 1 := by
  refine cx_S.ext (fun j => ?_)
  rw [cx_bs_one]
  unfold cx_rv
  by_cases h1 : j ≤ T + 1
  · rw [if_pos h1, cx_bs_one]
    by_cases h2 : j ≤ T
    · rw [if_pos h2, if_neg (by omega)]
      by_cases h0 : j = 0
      · subst h0
        rw [if_pos rfl, h _ (by omega : T < T + 1 - 0), show T + 1 - 0 - 1 = T - 0 by omega]; grind
      · rw [if_neg h0, if_pos (by omega), show T - (j - 1) = T + 1 - j by omega, show T + 1 - j - 1 = T - j by omega]; grind
    · rw [if_neg h2, if_pos (by omega), if_neg (by omega), if_pos (by omega), show T - (j - 1) = T + 1 - j by omega]; grind
  · rw [if_neg h1, if_neg (by omega), if_neg (by omega), if_neg (by omega)]; grind
theorem cx_rv_mul [Mul (cx_S Nat)] [One (cx_S Nat)] [Add (cx_S Nat)] [Zero (cx_S Nat)] [Inhabited (cx_Idx Nat)] [Inhabited (PLift cx_Natl)]  (N T : Nat) (X : cx_S Nat) (h : ∀ j, T < j → X j = 0) : cx_rv (T + N) (X * cx_bs (N : Rat)) = cx_rv T X * cx_bs (N : Rat) ∧ ∀ j, T + N < j → (X * cx_bs (N : Rat)) j = 0 := by
  induction N with
  | zero =>
    rw [show ((0 : Nat) : Rat) = 0 from rfl, cx_bs_zero, cx_mul1, cx_mul1]
    exact ⟨rfl, h⟩
  | succ N ih =>
    have e : cx_bs ((N + 1 : Nat) : Rat) = cx_bs (N : Rat) * cx_bs 1 := by rw [cx_bs_mul, cx_castR]; rfl
    rw [e, ← cx_mulA, ← cx_mulA]
    refine ⟨?_, fun j hj => ?_⟩
    · rw [show T + (N + 1) = T + N + 1 by omega, cx_rv_step (T + N) _ ih.2, ih.1]
    · rw [cx_bs_one, ih.2 j (by omega), if_neg (by omega), ih.2 (j - 1) (by omega)]; grind
theorem cx_rv_rv [Mul (cx_S Nat)] [One (cx_S Nat)] [Add (cx_S Nat)] [Zero (cx_S Nat)] [Inhabited (cx_Idx Nat)] [Inhabited (PLift cx_Natl)]  (T : Nat) (X : cx_S Nat) (h : ∀ j, T < j → X j = 0) : cx_rv T (cx_rv T X) = X := by
  refine cx_S.ext (fun j => ?_)
  unfold cx_rv
  by_cases h1 : j ≤ T
  · rw [if_pos h1, if_pos (by omega), show T - (T - j) = j by omega]
  · rw [if_neg h1, h j (by omega)]
theorem cx_rev_main [Mul (cx_S Nat)] [One (cx_S Nat)] [Add (cx_S Nat)] [Zero (cx_S Nat)] [Inhabited (cx_Idx Nat)] [Inhabited (PLift cx_Natl)]  {r : Rat} (hr : cx_IsI r) {top top2 : Nat} (ht : (top2 : Rat) = (top : Rat) + r) {X Y : cx_S Nat} (hX : ∀ j, top < j → X j = 0) (hY : ∀ j, top2 < j → Y j = 0)
    (h : Y = X * cx_bs r) : cx_rv top2 Y * cx_bs (-r) = cx_rv top X := by
  by_cases h0 : 0 ≤ r
  · obtain ⟨N, rfl⟩ := cx_nat_of hr h0
    have e : top2 = top + N := by
      have : ((top2 : Nat) : Rat) = ((top + N : Nat) : Rat) := by rw [ht, cx_castR]
      exact_mod_cast this
    subst e
    rw [h, (cx_rv_mul N top X hX).1, cx_mulA, cx_bs_mul, show (N : Rat) + - (N : Rat) = 0 by grind, cx_bs_zero, cx_mul1]
  · have hr' : cx_IsI (-r) := by
      obtain ⟨z, hz⟩ := hr
      refine ⟨-z, ?_⟩
      have h1 : ((-z : Int) : Rat) = -(z : Rat) := by exact_mod_cast rfl
      rw [h1, ← hz]
    obtain ⟨N, hN⟩ := cx_nat_of hr' (by grind)
    have e : top = top2 + N := by
      have : ((top : Nat) : Rat) = ((top2 + N : Nat) : Rat) := by rw [cx_castR, ← hN]; grind
      exact_mod_cast this
    subst e
    have hXY : X = Y * cx_bs (-r) := by rw [h, cx_mulA, cx_bs_mul, show r + -r = 0 by grind, cx_bs_zero, cx_mul1]
    rw [hXY, hN, (cx_rv_mul N top2 Y hY).1]
def cx_dn [Mul (cx_S Nat)] [One (cx_S Nat)] [Add (cx_S Nat)] [Zero (cx_S Nat)] [Inhabited (cx_Idx Nat)] [Inhabited (PLift cx_Natl)] {n : Nat} [Zero (cx_Ex n)] [Add (cx_Ex n)] [Mul (cx_S (cx_Ex n))] [One (cx_S (cx_Ex n))] [Add (cx_S (cx_Ex n))] [Zero (cx_S (cx_Ex n))] [Inhabited (cx_Idx (cx_Ex n))] [Inhabited (PLift (cx_Exl n))] [∀ s : cx_Sd n, Add (cx_MM s)] [∀ s : cx_Sd n, Inhabited (PLift (cx_MGl (cx_MM s)))] [∀ s : cx_Sd n, Inhabited (cx_Tord (cx_Ex n) (cx_MM s))] [Inhabited (PLift (cx_MMl n))] (b : cx_Ex n) (k : Fin n) (j : Nat) : cx_Ex n := fun i => if i = k then j else b i
theorem cx_dn_k [Mul (cx_S Nat)] [One (cx_S Nat)] [Add (cx_S Nat)] [Zero (cx_S Nat)] [Inhabited (cx_Idx Nat)] [Inhabited (PLift cx_Natl)] {n : Nat} [Zero (cx_Ex n)] [Add (cx_Ex n)] [Mul (cx_S (cx_Ex n))] [One (cx_S (cx_Ex n))] [Add (cx_S (cx_Ex n))] [Zero (cx_S (cx_Ex n))] [Inhabited (cx_Idx (cx_Ex n))] [Inhabited (PLift (cx_Exl n))] [∀ s : cx_Sd n, Add (cx_MM s)] [∀ s : cx_Sd n, Inhabited (PLift (cx_MGl (cx_MM s)))] [∀ s : cx_Sd n, Inhabited (cx_Tord (cx_Ex n) (cx_MM s))] [Inhabited (PLift (cx_MMl n))] (b : cx_Ex n) (k : Fin n) (j : Nat) : cx_dn b k j k = j := if_pos rfl
theorem cx_dn_ne [Mul (cx_S Nat)] [One (cx_S Nat)] [Add (cx_S Nat)] [Zero (cx_S Nat)] [Inhabited (cx_Idx Nat)] [Inhabited (PLift cx_Natl)] {n : Nat} [Zero (cx_Ex n)] [Add (cx_Ex n)] [Mul (cx_S (cx_Ex n))] [One (cx_S (cx_Ex n))] [Add (cx_S (cx_Ex n))] [Zero (cx_S (cx_Ex n))] [Inhabited (cx_Idx (cx_Ex n))] [Inhabited (PLift (cx_Exl n))] [∀ s : cx_Sd n, Add (cx_MM s)] [∀ s : cx_Sd n, Inhabited (PLift (cx_MGl (cx_MM s)))] [∀ s : cx_Sd n, Inhabited (cx_Tord (cx_Ex n) (cx_MM s))] [Inhabited (PLift (cx_MMl n))] (b : cx_Ex n) {k i : Fin n} (j : Nat) (h : i ≠ k) : cx_dn b k j i = b i := if_neg h
theorem cx_dn_self [Mul (cx_S Nat)] [One (cx_S Nat)] [Add (cx_S Nat)] [Zero (cx_S Nat)] [Inhabited (cx_Idx Nat)] [Inhabited (PLift cx_Natl)] {n : Nat} [Zero (cx_Ex n)] [Add (cx_Ex n)] [Mul (cx_S (cx_Ex n))] [One (cx_S (cx_Ex n))] [Add (cx_S (cx_Ex n))] [Zero (cx_S (cx_Ex n))] [Inhabited (cx_Idx (cx_Ex n))] [Inhabited (PLift (cx_Exl n))] [∀ s : cx_Sd n, Add (cx_MM s)] [∀ s : cx_Sd n, Inhabited (PLift (cx_MGl (cx_MM s)))] [∀ s : cx_Sd n, Inhabited (cx_Tord (cx_Ex n) (cx_MM s))] [Inhabited (PLift (cx_MMl n))] (b : cx_Ex n) (k : Fin n) : cx_dn b k (b k) = b := funext fun i => by
  by_cases h : i = k
  · subst h; exact cx_dn_k _ _ _
  · exact cx_dn_ne _ _ h
theorem cx_dn_dn [Mul (cx_S Nat)] [One (cx_S Nat)] [Add (cx_S Nat)] [Zero (cx_S Nat)] [Inhabited (cx_Idx Nat)] [Inhabited (PLift cx_Natl)] {n : Nat} [Zero (cx_Ex n)] [Add (cx_Ex n)] [Mul (cx_S (cx_Ex n))] [One (cx_S (cx_Ex n))] [Add (cx_S (cx_Ex n))] [Zero (cx_S (cx_Ex n))] [Inhabited (cx_Idx (cx_Ex n))] [Inhabited (PLift (cx_Exl n))] [∀ s : cx_Sd n, Add (cx_MM s)] [∀ s : cx_Sd n, Inhabited (PLift (cx_MGl (cx_MM s)))] [∀ s : cx_Sd n, Inhabited (cx_Tord (cx_Ex n) (cx_MM s))] [Inhabited (PLift (cx_MMl n))] (b : cx_Ex n) (k : Fin n) (j j' : Nat) : cx_dn (cx_dn b k j) k j' = cx_dn b k j' := funext fun i => by
  by_cases h : i = k
  · subst h; rw [cx_dn_k, cx_dn_k]
  · rw [cx_dn_ne _ _ h, cx_dn_ne _ _ h, cx_dn_ne _ _ h]
theorem cx_ray_at [Mul (cx_S Nat)] [One (cx_S Nat)] [Add (cx_S Nat)] [Zero (cx_S Nat)] [Inhabited (cx_Idx Nat)] [Inhabited (PLift cx_Natl)] {n : Nat} [Zero (cx_Ex n)] [Add (cx_Ex n)] [Mul (cx_S (cx_Ex n))] [One (cx_S (cx_Ex n))] [Add (cx_S (cx_Ex n))] [Zero (cx_S (cx_Ex n))] [Inhabited (cx_Idx (cx_Ex n))] [Inhabited (PLift (cx_Exl n))] [∀ s : cx_Sd n, Add (cx_MM s)] [∀ s : cx_Sd n, Inhabited (PLift (cx_MGl (cx_MM s)))] [∀ s : cx_Sd n, Inhabited (cx_Tord (cx_Ex n) (cx_MM s))] [Inhabited (PLift (cx_MMl n))] (i : Nat) (k j : Fin n) : (cx_nsm i (cx_ee k) : cx_Ex n) j = if j = k then i else 0 := by
  rw [cx_nsm_at]
  by_cases h : j = k
  · subst h; rw [cx_ee_self, if_pos rfl]; omega
  · rw [cx_ee_ne h, if_neg h]; omega
theorem cx_D_ray [Mul (cx_S Nat)] [One (cx_S Nat)] [Add (cx_S Nat)] [Zero (cx_S Nat)] [Inhabited (cx_Idx Nat)] [Inhabited (PLift cx_Natl)] {n : Nat} [Zero (cx_Ex n)] [Add (cx_Ex n)] [Mul (cx_S (cx_Ex n))] [One (cx_S (cx_Ex n))] [Add (cx_S (cx_Ex n))] [Zero (cx_S (cx_Ex n))] [Inhabited (cx_Idx (cx_Ex n))] [Inhabited (PLift (cx_Exl n))] [∀ s : cx_Sd n, Add (cx_MM s)] [∀ s : cx_Sd n, Inhabited (PLift (cx_MGl (cx_MM s)))] [∀ s : cx_Sd n, Inhabited (cx_Tord (cx_Ex n) (cx_MM s))] [Inhabited (PLift (cx_MMl n))] (k : Fin n) (b : cx_Ex n) (F : cx_Ex n → cx_Ex n → Rat) (h : ∀ u s, (∀ i, cx_nsm i (cx_ee k) ≠ s) → F u s = 0) :
    cx_D b F = cx_sm (List.range (b k + 1)) (fun i => F (cx_dn b k (b k - i)) (cx_nsm i (cx_ee k))) := by
  classical
  let P : cx_Ex n × cx_Ex n → Bool := fun x => decide (∃ i, cx_nsm i (cx_ee k) = x.2)
  have e1 : cx_D b F = cx_sm ((cx_dec b).filter P) (fun x => F x.1 x.2) := cx_sm_filter _ P _ (fun x _ hx => h x.1 x.2 (fun i e => by
    have : ¬ ∃ i, cx_nsm i (cx_ee k) = x.2 := by simpa [P] using hx
    exact this ⟨i, e⟩))
  have hp : ((cx_dec b).filter P).Perm ((List.range (b k + 1)).map fun i => (cx_dn b k (b k - i), cx_nsm i (cx_ee k))) := by
    refine cx_perm_of ((cx_nodup_dec _).sublist List.filter_sublist) ?_ ?_
    · have h1 : (List.range (b k + 1)).Nodup := List.nodup_range
      rw [List.nodup_iff_pairwise_ne] at h1 ⊢
      rw [List.pairwise_map]
      refine h1.imp (fun {i j} hne e => hne ?_)
      simp only [Prod.mk.injEq] at e
      exact cx_nsm_inj (cx_ee_nz k) e.2
    · rintro ⟨u, s⟩
      rw [List.mem_filter, cx_mem_dec, List.mem_map]
      simp only [P, decide_eq_true_eq]
      constructor
      · rintro ⟨hus, i, rfl⟩
        have hk := congrFun hus k
        rw [cx_ex_add, cx_ray_at, if_pos rfl] at hk
        refine ⟨i, List.mem_range.2 (by omega), ?_⟩
        simp only [Prod.mk.injEq, and_true]
        funext j
        have hj := congrFun hus j
        rw [cx_ex_add, cx_ray_at] at hj
        by_cases hjk : j = k
        · subst hjk; rw [cx_dn_k]; omega
        · rw [cx_dn_ne _ _ hjk]
          rw [if_neg hjk] at hj
          omega
      · rintro ⟨i, hi, e⟩
        rw [List.mem_range] at hi
        simp only [Prod.mk.injEq] at e
        obtain ⟨rfl, rfl⟩ := e
        refine ⟨funext fun j => ?_, i, rfl⟩
        rw [cx_ex_add, cx_ray_at]
        by_cases hjk : j = k
        · subst hjk; rw [cx_dn_k, if_pos rfl]; omega
        · rw [cx_dn_ne _ _ hjk, if_neg hjk]; omega
  rw [e1, cx_sm_perm hp, cx_sm_map]
abbrev cx_Rho [Mul (cx_S Nat)] [One (cx_S Nat)] [Add (cx_S Nat)] [Zero (cx_S Nat)] [Inhabited (cx_Idx Nat)] [Inhabited (PLift cx_Natl)] {n : Nat} [Zero (cx_Ex n)] [Add (cx_Ex n)] [Mul (cx_S (cx_Ex n))] [One (cx_S (cx_Ex n))] [Add (cx_S (cx_Ex n))] [Zero (cx_S (cx_Ex n))] [Inhabited (cx_Idx (cx_Ex n))] [Inhabited (PLift (cx_Exl n))] [∀ s : cx_Sd n, Add (cx_MM s)] [∀ s : cx_Sd n, Inhabited (PLift (cx_MGl (cx_MM s)))] [∀ s : cx_Sd n, Inhabited (cx_Tord (cx_Ex n) (cx_MM s))] [Inhabited (PLift (cx_MMl n))] (s : cx_Sd n) (k : Fin n) (ρ : Fin n → Nat) : Prop := (ρ k = 0) ∧ (∀ i j, i ≠ k → j ≠ k → ((cx_turn s k).b i j : Rat) = (s.b i j : Rat) + (ρ i : Rat) * (s.d k : Rat) * (s.d i : Rat)⁻¹ * (s.b k j : Rat) + (s.b i k : Rat) * (ρ j : Rat))
theorem cx_Rho.k0 [Mul (cx_S Nat)] [One (cx_S Nat)] [Add (cx_S Nat)] [Zero (cx_S Nat)] [Inhabited (cx_Idx Nat)] [Inhabited (PLift cx_Natl)] {n : Nat} [Zero (cx_Ex n)] [Add (cx_Ex n)] [Mul (cx_S (cx_Ex n))] [One (cx_S (cx_Ex n))] [Add (cx_S (cx_Ex n))] [Zero (cx_S (cx_Ex n))] [Inhabited (cx_Idx (cx_Ex n))] [Inhabited (PLift (cx_Exl n))] [∀ s : cx_Sd n, Add (cx_MM s)] [∀ s : cx_Sd n, Inhabited (PLift (cx_MGl (cx_MM s)))] [∀ s : cx_Sd n, Inhabited (cx_Tord (cx_Ex n) (cx_MM s))] [Inhabited (PLift (cx_MMl n))] {s : cx_Sd n} {k : Fin n} {ρ : Fin n → Nat} (hh_ : cx_Rho s k ρ) : ρ k = 0 := hh_.1
theorem cx_Rho.b' [Mul (cx_S Nat)] [One (cx_S Nat)] [Add (cx_S Nat)] [Zero (cx_S Nat)] [Inhabited (cx_Idx Nat)] [Inhabited (PLift cx_Natl)] {n : Nat} [Zero (cx_Ex n)] [Add (cx_Ex n)] [Mul (cx_S (cx_Ex n))] [One (cx_S (cx_Ex n))] [Add (cx_S (cx_Ex n))] [Zero (cx_S (cx_Ex n))] [Inhabited (cx_Idx (cx_Ex n))] [Inhabited (PLift (cx_Exl n))] [∀ s : cx_Sd n, Add (cx_MM s)] [∀ s : cx_Sd n, Inhabited (PLift (cx_MGl (cx_MM s)))] [∀ s : cx_Sd n, Inhabited (cx_Tord (cx_Ex n) (cx_MM s))] [Inhabited (PLift (cx_MMl n))] {s : cx_Sd n} {k : Fin n} {ρ : Fin n → Nat} (hh_ : cx_Rho s k ρ) : ∀ i j, i ≠ k → j ≠ k → ((cx_turn s k).b i j : Rat) = (s.b i j : Rat) + (ρ i : Rat) * (s.d k : Rat) * (s.d i : Rat)⁻¹ * (s.b k j : Rat) + (s.b i k : Rat) * (ρ j : Rat) := hh_.2
theorem cx_nat_int [Mul (cx_S Nat)] [One (cx_S Nat)] [Add (cx_S Nat)] [Zero (cx_S Nat)] [Inhabited (cx_Idx Nat)] [Inhabited (PLift cx_Natl)]  (x : Nat) : (((x : Nat) : Int) : Rat) = (x : Rat) := by exact_mod_cast rfl
theorem cx_turn_bR [Mul (cx_S Nat)] [One (cx_S Nat)] [Add (cx_S Nat)] [Zero (cx_S Nat)] [Inhabited (cx_Idx Nat)] [Inhabited (PLift cx_Natl)] {n : Nat} [Zero (cx_Ex n)] [Add (cx_Ex n)] [Mul (cx_S (cx_Ex n))] [One (cx_S (cx_Ex n))] [Add (cx_S (cx_Ex n))] [Zero (cx_S (cx_Ex n))] [Inhabited (cx_Idx (cx_Ex n))] [Inhabited (PLift (cx_Exl n))] [∀ s : cx_Sd n, Add (cx_MM s)] [∀ s : cx_Sd n, Inhabited (PLift (cx_MGl (cx_MM s)))] [∀ s : cx_Sd n, Inhabited (cx_Tord (cx_Ex n) (cx_MM s))] [Inhabited (PLift (cx_MMl n))] (s : cx_Sd n) {k i j : Fin n} (hi : i ≠ k) (hj : j ≠ k) :
    ((cx_turn s k).b i j : Rat) = (s.b i j : Rat) + ((cx_pos (s.b i k) : Rat) * (s.b k j : Rat) + (s.b i k : Rat) * (cx_pos (- s.b k j) : Rat)) := by
  show ((cx_turnB s k i j : Int) : Rat) = _
  unfold cx_turnB
  rw [if_neg (fun h => by rcases h with h | h; exact hi h; exact hj h)]
  exact_mod_cast rfl
theorem cx_posR [Mul (cx_S Nat)] [One (cx_S Nat)] [Add (cx_S Nat)] [Zero (cx_S Nat)] [Inhabited (cx_Idx Nat)] [Inhabited (PLift cx_Natl)] {n : Nat} [Zero (cx_Ex n)] [Add (cx_Ex n)] [Mul (cx_S (cx_Ex n))] [One (cx_S (cx_Ex n))] [Add (cx_S (cx_Ex n))] [Zero (cx_S (cx_Ex n))] [Inhabited (cx_Idx (cx_Ex n))] [Inhabited (PLift (cx_Exl n))] [∀ s : cx_Sd n, Add (cx_MM s)] [∀ s : cx_Sd n, Inhabited (PLift (cx_MGl (cx_MM s)))] [∀ s : cx_Sd n, Inhabited (cx_Tord (cx_Ex n) (cx_MM s))] [Inhabited (PLift (cx_MMl n))] (s : cx_Sd n) (i k : Fin n) : (cx_rm s k i : Rat) * (s.d k : Rat) * (s.d i : Rat)⁻¹ = (cx_pos (s.b i k) : Rat) := by
  have h := cx_pos_sk s i k
  have h1 : (((s.d i : Int) * (cx_pos (s.b i k) : Int) : Int) : Rat) = (((s.d k : Int) * (cx_pos (- s.b k i) : Int) : Int) : Rat) := by rw [h]
  have e1 : (((s.d i : Int) * (cx_pos (s.b i k) : Int) : Int) : Rat) = (s.d i : Rat) * (cx_pos (s.b i k) : Rat) := by exact_mod_cast rfl
  have e2 : (((s.d k : Int) * (cx_pos (- s.b k i) : Int) : Int) : Rat) = (s.d k : Rat) * (cx_pos (- s.b k i) : Rat) := by exact_mod_cast rfl
  rw [e1, e2] at h1
  have h2 : (s.d i : Rat)⁻¹ * (s.d i : Rat) = 1 := Rat.inv_mul_cancel _ (by have := cx_d_pos s i; grind)
  unfold cx_rm
  generalize (cx_pos (s.b i k) : Rat) = A at *
  generalize (cx_pos (- s.b k i) : Rat) = C at *
  have : C * (s.d k : Rat) * (s.d i : Rat)⁻¹ = (s.d i : Rat) * A * (s.d i : Rat)⁻¹ := by rw [h1]; grind
  rw [this]; grind
theorem cx_posR' [Mul (cx_S Nat)] [One (cx_S Nat)] [Add (cx_S Nat)] [Zero (cx_S Nat)] [Inhabited (cx_Idx Nat)] [Inhabited (PLift cx_Natl)] {n : Nat} [Zero (cx_Ex n)] [Add (cx_Ex n)] [Mul (cx_S (cx_Ex n))] [One (cx_S (cx_Ex n))] [Add (cx_S (cx_Ex n))] [Zero (cx_S (cx_Ex n))] [Inhabited (cx_Idx (cx_Ex n))] [Inhabited (PLift (cx_Exl n))] [∀ s : cx_Sd n, Add (cx_MM s)] [∀ s : cx_Sd n, Inhabited (PLift (cx_MGl (cx_MM s)))] [∀ s : cx_Sd n, Inhabited (cx_Tord (cx_Ex n) (cx_MM s))] [Inhabited (PLift (cx_MMl n))] (s : cx_Sd n) (i k : Fin n) : (cx_rp s k i : Rat) * (s.d k : Rat) * (s.d i : Rat)⁻¹ = (cx_pos (- s.b i k) : Rat) := by
  have h := cx_pos_sk' s i k
  have h1 : (((s.d i : Int) * (cx_pos (- s.b i k) : Int) : Int) : Rat) = (((s.d k : Int) * (cx_pos (s.b k i) : Int) : Int) : Rat) := by rw [h]
  have e1 : (((s.d i : Int) * (cx_pos (- s.b i k) : Int) : Int) : Rat) = (s.d i : Rat) * (cx_pos (- s.b i k) : Rat) := by exact_mod_cast rfl
  have e2 : (((s.d k : Int) * (cx_pos (s.b k i) : Int) : Int) : Rat) = (s.d k : Rat) * (cx_pos (s.b k i) : Rat) := by exact_mod_cast rfl
  rw [e1, e2] at h1
  have h2 : (s.d i : Rat)⁻¹ * (s.d i : Rat) = 1 := Rat.inv_mul_cancel _ (by have := cx_d_pos s i; grind)
  unfold cx_rp
  generalize (cx_pos (- s.b i k) : Rat) = A at *
  generalize (cx_pos (s.b k i) : Rat) = C at *
  have : C * (s.d k : Rat) * (s.d i : Rat)⁻¹ = (s.d i : Rat) * A * (s.d i : Rat)⁻¹ := by rw [h1]; grind
  rw [this]; grind
theorem cx_rho_m [Mul (cx_S Nat)] [One (cx_S Nat)] [Add (cx_S Nat)] [Zero (cx_S Nat)] [Inhabited (cx_Idx Nat)] [Inhabited (PLift cx_Natl)] {n : Nat} [Zero (cx_Ex n)] [Add (cx_Ex n)] [Mul (cx_S (cx_Ex n))] [One (cx_S (cx_Ex n))] [Add (cx_S (cx_Ex n))] [Zero (cx_S (cx_Ex n))] [Inhabited (cx_Idx (cx_Ex n))] [Inhabited (PLift (cx_Exl n))] [∀ s : cx_Sd n, Add (cx_MM s)] [∀ s : cx_Sd n, Inhabited (PLift (cx_MGl (cx_MM s)))] [∀ s : cx_Sd n, Inhabited (cx_Tord (cx_Ex n) (cx_MM s))] [Inhabited (PLift (cx_MMl n))] (s : cx_Sd n) (k : Fin n) : cx_Rho s k (cx_rm s k) := ⟨(by unfold cx_rm cx_pos; rw [s.self k]; rfl),
  (fun i j hi hj => by
    rw [cx_turn_bR s hi hj, cx_posR]; unfold cx_rm; grind)⟩
theorem cx_rho_p [Mul (cx_S Nat)] [One (cx_S Nat)] [Add (cx_S Nat)] [Zero (cx_S Nat)] [Inhabited (cx_Idx Nat)] [Inhabited (PLift cx_Natl)] {n : Nat} [Zero (cx_Ex n)] [Add (cx_Ex n)] [Mul (cx_S (cx_Ex n))] [One (cx_S (cx_Ex n))] [Add (cx_S (cx_Ex n))] [Zero (cx_S (cx_Ex n))] [Inhabited (cx_Idx (cx_Ex n))] [Inhabited (PLift (cx_Exl n))] [∀ s : cx_Sd n, Add (cx_MM s)] [∀ s : cx_Sd n, Inhabited (PLift (cx_MGl (cx_MM s)))] [∀ s : cx_Sd n, Inhabited (cx_Tord (cx_Ex n) (cx_MM s))] [Inhabited (PLift (cx_MMl n))] (s : cx_Sd n) (k : Fin n) : cx_Rho s k (cx_rp s k) := ⟨(by unfold cx_rp cx_pos; rw [s.self k]; rfl),
  (fun i j hi hj => by
    rw [cx_turn_bR s hi hj, cx_posR']
    have h1 := cx_pos_sub (s.b i k)
    have h2 := cx_pos_sub (s.b k j)
    unfold cx_rp
    rw [h2, h1]; grind)⟩
def cx_th [Mul (cx_S Nat)] [One (cx_S Nat)] [Add (cx_S Nat)] [Zero (cx_S Nat)] [Inhabited (cx_Idx Nat)] [Inhabited (PLift cx_Natl)] {n : Nat} [Zero (cx_Ex n)] [Add (cx_Ex n)] [Mul (cx_S (cx_Ex n))] [One (cx_S (cx_Ex n))] [Add (cx_S (cx_Ex n))] [Zero (cx_S (cx_Ex n))] [Inhabited (cx_Idx (cx_Ex n))] [Inhabited (PLift (cx_Exl n))] [∀ s : cx_Sd n, Add (cx_MM s)] [∀ s : cx_Sd n, Inhabited (PLift (cx_MGl (cx_MM s)))] [∀ s : cx_Sd n, Inhabited (cx_Tord (cx_Ex n) (cx_MM s))] [Inhabited (PLift (cx_MMl n))] (ρ : Fin n → Nat) (k : Fin n) (b : cx_Ex n) : cx_Ex n := cx_dn b k (cx_rw_ ρ b - b k)
noncomputable def cx_cc [Mul (cx_S Nat)] [One (cx_S Nat)] [Add (cx_S Nat)] [Zero (cx_S Nat)] [Inhabited (cx_Idx Nat)] [Inhabited (PLift cx_Natl)] {n : Nat} [Zero (cx_Ex n)] [Add (cx_Ex n)] [Mul (cx_S (cx_Ex n))] [One (cx_S (cx_Ex n))] [Add (cx_S (cx_Ex n))] [Zero (cx_S (cx_Ex n))] [Inhabited (cx_Idx (cx_Ex n))] [Inhabited (PLift (cx_Exl n))] [∀ s : cx_Sd n, Add (cx_MM s)] [∀ s : cx_Sd n, Inhabited (PLift (cx_MGl (cx_MM s)))] [∀ s : cx_Sd n, Inhabited (cx_Tord (cx_Ex n) (cx_MM s))] [Inhabited (PLift (cx_MMl n))] (s : cx_Sd n) (k : Fin n) (ρ : Fin n → Nat) (i : Fin n) : Rat := (ρ i : Rat) * (s.d k : Rat) * (s.d i : Rat)⁻¹
noncomputable def cx_mu [Mul (cx_S Nat)] [One (cx_S Nat)] [Add (cx_S Nat)] [Zero (cx_S Nat)] [Inhabited (cx_Idx Nat)] [Inhabited (PLift cx_Natl)] {n : Nat} [Zero (cx_Ex n)] [Add (cx_Ex n)] [Mul (cx_S (cx_Ex n))] [One (cx_S (cx_Ex n))] [Add (cx_S (cx_Ex n))] [Zero (cx_S (cx_Ex n))] [Inhabited (cx_Idx (cx_Ex n))] [Inhabited (PLift (cx_Exl n))] [∀ s : cx_Sd n, Add (cx_MM s)] [∀ s : cx_Sd n, Inhabited (PLift (cx_MGl (cx_MM s)))] [∀ s : cx_Sd n, Inhabited (cx_Tord (cx_Ex n) (cx_MM s))] [Inhabited (PLift (cx_MMl n))] (s s2 : cx_Sd n) (k : Fin n) (ρ : Fin n → Nat) (m : cx_MM s) : cx_MM s2 := ⟨fun i => if i = k then - m.v k else m.v i + cx_cc s k ρ i * m.v k, rfl⟩
theorem cx_mu_k [Mul (cx_S Nat)] [One (cx_S Nat)] [Add (cx_S Nat)] [Zero (cx_S Nat)] [Inhabited (cx_Idx Nat)] [Inhabited (PLift cx_Natl)] {n : Nat} [Zero (cx_Ex n)] [Add (cx_Ex n)] [Mul (cx_S (cx_Ex n))] [One (cx_S (cx_Ex n))] [Add (cx_S (cx_Ex n))] [Zero (cx_S (cx_Ex n))] [Inhabited (cx_Idx (cx_Ex n))] [Inhabited (PLift (cx_Exl n))] [∀ s : cx_Sd n, Add (cx_MM s)] [∀ s : cx_Sd n, Inhabited (PLift (cx_MGl (cx_MM s)))] [∀ s : cx_Sd n, Inhabited (cx_Tord (cx_Ex n) (cx_MM s))] [Inhabited (PLift (cx_MMl n))] (s s2 : cx_Sd n) (k : Fin n) (ρ : Fin n → Nat) (m : cx_MM s) : (cx_mu s s2 k ρ m).v k = - m.v k := if_pos rfl
theorem cx_mu_ne [Mul (cx_S Nat)] [One (cx_S Nat)] [Add (cx_S Nat)] [Zero (cx_S Nat)] [Inhabited (cx_Idx Nat)] [Inhabited (PLift cx_Natl)] {n : Nat} [Zero (cx_Ex n)] [Add (cx_Ex n)] [Mul (cx_S (cx_Ex n))] [One (cx_S (cx_Ex n))] [Add (cx_S (cx_Ex n))] [Zero (cx_S (cx_Ex n))] [Inhabited (cx_Idx (cx_Ex n))] [Inhabited (PLift (cx_Exl n))] [∀ s : cx_Sd n, Add (cx_MM s)] [∀ s : cx_Sd n, Inhabited (PLift (cx_MGl (cx_MM s)))] [∀ s : cx_Sd n, Inhabited (cx_Tord (cx_Ex n) (cx_MM s))] [Inhabited (PLift (cx_MMl n))] (s s2 : cx_Sd n) {k i : Fin n} (h : i ≠ k) (ρ : Fin n → Nat) (m : cx_MM s) : (cx_mu s s2 k ρ m).v i = m.v i + cx_cc s k ρ i * m.v k := if_neg h
theorem cx_rw_dn [Mul (cx_S Nat)] [One (cx_S Nat)] [Add (cx_S Nat)] [Zero (cx_S Nat)] [Inhabited (cx_Idx Nat)] [Inhabited (PLift cx_Natl)] {n : Nat} [Zero (cx_Ex n)] [Add (cx_Ex n)] [Mul (cx_S (cx_Ex n))] [One (cx_S (cx_Ex n))] [Add (cx_S (cx_Ex n))] [Zero (cx_S (cx_Ex n))] [Inhabited (cx_Idx (cx_Ex n))] [Inhabited (PLift (cx_Exl n))] [∀ s : cx_Sd n, Add (cx_MM s)] [∀ s : cx_Sd n, Inhabited (PLift (cx_MGl (cx_MM s)))] [∀ s : cx_Sd n, Inhabited (cx_Tord (cx_Ex n) (cx_MM s))] [Inhabited (PLift (cx_MMl n))] {ρ : Fin n → Nat} {k : Fin n} (h : ρ k = 0) (b : cx_Ex n) (j : Nat) : cx_rw_ ρ (cx_dn b k j) = cx_rw_ ρ b := by
  unfold cx_rw_
  congr 1
  funext i
  by_cases hi : i = k
  · subst hi; rw [h]; omega
  · rw [cx_dn_ne _ _ hi]
theorem cx_dl_dn [Mul (cx_S Nat)] [One (cx_S Nat)] [Add (cx_S Nat)] [Zero (cx_S Nat)] [Inhabited (cx_Idx Nat)] [Inhabited (PLift cx_Natl)] {n : Nat} [Zero (cx_Ex n)] [Add (cx_Ex n)] [Mul (cx_S (cx_Ex n))] [One (cx_S (cx_Ex n))] [Add (cx_S (cx_Ex n))] [Zero (cx_S (cx_Ex n))] [Inhabited (cx_Idx (cx_Ex n))] [Inhabited (PLift (cx_Exl n))] [∀ s : cx_Sd n, Add (cx_MM s)] [∀ s : cx_Sd n, Inhabited (PLift (cx_MGl (cx_MM s)))] [∀ s : cx_Sd n, Inhabited (cx_Tord (cx_Ex n) (cx_MM s))] [Inhabited (PLift (cx_MMl n))] (k : Fin n) (b : cx_Ex n) (j : Nat) : cx_dl k (cx_dn b k j) = cx_dl k b := by
  rw [cx_dl_sm, cx_dl_sm]
  refine cx_sm_congr (fun i _ => ?_)
  by_cases hi : i = k
  · rw [if_pos hi, if_pos hi]
  · rw [if_neg hi, if_neg hi, cx_dn_ne _ _ hi]
theorem cx_sv_iff [Mul (cx_S Nat)] [One (cx_S Nat)] [Add (cx_S Nat)] [Zero (cx_S Nat)] [Inhabited (cx_Idx Nat)] [Inhabited (PLift cx_Natl)] {n : Nat} [Zero (cx_Ex n)] [Add (cx_Ex n)] [Mul (cx_S (cx_Ex n))] [One (cx_S (cx_Ex n))] [Add (cx_S (cx_Ex n))] [Zero (cx_S (cx_Ex n))] [Inhabited (cx_Idx (cx_Ex n))] [Inhabited (PLift (cx_Exl n))] [∀ s : cx_Sd n, Add (cx_MM s)] [∀ s : cx_Sd n, Inhabited (PLift (cx_MGl (cx_MM s)))] [∀ s : cx_Sd n, Inhabited (cx_Tord (cx_Ex n) (cx_MM s))] [Inhabited (PLift (cx_MMl n))] (ρ : Fin n → Nat) (k : Fin n) (b : cx_Ex n) : cx_Sv (cx_dl k) (cx_vv ρ k) b ↔ 0 < cx_dl k b ∧ b k ≤ cx_rw_ ρ b := by
  unfold cx_Sv cx_vv
  constructor
  · rintro ⟨h1, h2⟩
    refine ⟨h1, ?_⟩
    have : ((b k : Nat) : Rat) ≤ ((cx_rw_ ρ b : Nat) : Rat) := by grind
    exact_mod_cast this
  · rintro ⟨h1, h2⟩
    refine ⟨h1, ?_⟩
    have : ((b k : Nat) : Rat) ≤ ((cx_rw_ ρ b : Nat) : Rat) := by exact_mod_cast h2
    grind
theorem cx_d_inv [Mul (cx_S Nat)] [One (cx_S Nat)] [Add (cx_S Nat)] [Zero (cx_S Nat)] [Inhabited (cx_Idx Nat)] [Inhabited (PLift cx_Natl)] {n : Nat} [Zero (cx_Ex n)] [Add (cx_Ex n)] [Mul (cx_S (cx_Ex n))] [One (cx_S (cx_Ex n))] [Add (cx_S (cx_Ex n))] [Zero (cx_S (cx_Ex n))] [Inhabited (cx_Idx (cx_Ex n))] [Inhabited (PLift (cx_Exl n))] [∀ s : cx_Sd n, Add (cx_MM s)] [∀ s : cx_Sd n, Inhabited (PLift (cx_MGl (cx_MM s)))] [∀ s : cx_Sd n, Inhabited (cx_Tord (cx_Ex n) (cx_MM s))] [Inhabited (PLift (cx_MMl n))] (s : cx_Sd n) (i : Fin n) : (s.d i : Rat)⁻¹ * (s.d i : Rat) = 1 := Rat.inv_mul_cancel _ (by have := cx_d_pos s i; grind)
theorem cx_cc_d [Mul (cx_S Nat)] [One (cx_S Nat)] [Add (cx_S Nat)] [Zero (cx_S Nat)] [Inhabited (cx_Idx Nat)] [Inhabited (PLift cx_Natl)] {n : Nat} [Zero (cx_Ex n)] [Add (cx_Ex n)] [Mul (cx_S (cx_Ex n))] [One (cx_S (cx_Ex n))] [Add (cx_S (cx_Ex n))] [Zero (cx_S (cx_Ex n))] [Inhabited (cx_Idx (cx_Ex n))] [Inhabited (PLift (cx_Exl n))] [∀ s : cx_Sd n, Add (cx_MM s)] [∀ s : cx_Sd n, Inhabited (PLift (cx_MGl (cx_MM s)))] [∀ s : cx_Sd n, Inhabited (cx_Tord (cx_Ex n) (cx_MM s))] [Inhabited (PLift (cx_MMl n))] (s : cx_Sd n) (k : Fin n) (ρ : Fin n → Nat) (i : Fin n) : cx_cc s k ρ i * (s.d i : Rat) = (ρ i : Rat) * (s.d k : Rat) := by
  unfold cx_cc
  have := cx_d_inv s i
  grind
theorem cx_dn_zero [Mul (cx_S Nat)] [One (cx_S Nat)] [Add (cx_S Nat)] [Zero (cx_S Nat)] [Inhabited (cx_Idx Nat)] [Inhabited (PLift cx_Natl)] {n : Nat} [Zero (cx_Ex n)] [Add (cx_Ex n)] [Mul (cx_S (cx_Ex n))] [One (cx_S (cx_Ex n))] [Add (cx_S (cx_Ex n))] [Zero (cx_S (cx_Ex n))] [Inhabited (cx_Idx (cx_Ex n))] [Inhabited (PLift (cx_Exl n))] [∀ s : cx_Sd n, Add (cx_MM s)] [∀ s : cx_Sd n, Inhabited (PLift (cx_MGl (cx_MM s)))] [∀ s : cx_Sd n, Inhabited (cx_Tord (cx_Ex n) (cx_MM s))] [Inhabited (PLift (cx_MMl n))] (k : Fin n) : cx_dn (0 : cx_Ex n) k 0 = 0 := funext fun i => by
  by_cases h : i = k
  · subst h; rw [cx_dn_k, cx_ex_zero]
  · rw [cx_dn_ne _ _ h]
theorem cx_rw_zero [Mul (cx_S Nat)] [One (cx_S Nat)] [Add (cx_S Nat)] [Zero (cx_S Nat)] [Inhabited (cx_Idx Nat)] [Inhabited (PLift cx_Natl)] {n : Nat} [Zero (cx_Ex n)] [Add (cx_Ex n)] [Mul (cx_S (cx_Ex n))] [One (cx_S (cx_Ex n))] [Add (cx_S (cx_Ex n))] [Zero (cx_S (cx_Ex n))] [Inhabited (cx_Idx (cx_Ex n))] [Inhabited (PLift (cx_Exl n))] [∀ s : cx_Sd n, Add (cx_MM s)] [∀ s : cx_Sd n, Inhabited (PLift (cx_MGl (cx_MM s)))] [∀ s : cx_Sd n, Inhabited (cx_Tord (cx_Ex n) (cx_MM s))] [Inhabited (PLift (cx_MMl n))] (ρ : Fin n → Nat) : cx_rw_ ρ (0 : cx_Ex n) = 0 := by
  unfold cx_rw_
  exact cx_nsum_zero (fun i => by rw [cx_ex_zero]; omega)
theorem cx_th_th [Mul (cx_S Nat)] [One (cx_S Nat)] [Add (cx_S Nat)] [Zero (cx_S Nat)] [Inhabited (cx_Idx Nat)] [Inhabited (PLift cx_Natl)] {n : Nat} [Zero (cx_Ex n)] [Add (cx_Ex n)] [Mul (cx_S (cx_Ex n))] [One (cx_S (cx_Ex n))] [Add (cx_S (cx_Ex n))] [Zero (cx_S (cx_Ex n))] [Inhabited (cx_Idx (cx_Ex n))] [Inhabited (PLift (cx_Exl n))] [∀ s : cx_Sd n, Add (cx_MM s)] [∀ s : cx_Sd n, Inhabited (PLift (cx_MGl (cx_MM s)))] [∀ s : cx_Sd n, Inhabited (cx_Tord (cx_Ex n) (cx_MM s))] [Inhabited (PLift (cx_MMl n))] {ρ : Fin n → Nat} {k : Fin n} (h : ρ k = 0) {b : cx_Ex n} (hb : b k ≤ cx_rw_ ρ b) : cx_th ρ k (cx_th ρ k b) = b := by
  unfold cx_th
  rw [cx_rw_dn h, cx_dn_dn, cx_dn_k, show cx_rw_ ρ b - (cx_rw_ ρ b - b k) = b k by omega, cx_dn_self]
theorem cx_th_sv [Mul (cx_S Nat)] [One (cx_S Nat)] [Add (cx_S Nat)] [Zero (cx_S Nat)] [Inhabited (cx_Idx Nat)] [Inhabited (PLift cx_Natl)] {n : Nat} [Zero (cx_Ex n)] [Add (cx_Ex n)] [Mul (cx_S (cx_Ex n))] [One (cx_S (cx_Ex n))] [Add (cx_S (cx_Ex n))] [Zero (cx_S (cx_Ex n))] [Inhabited (cx_Idx (cx_Ex n))] [Inhabited (PLift (cx_Exl n))] [∀ s : cx_Sd n, Add (cx_MM s)] [∀ s : cx_Sd n, Inhabited (PLift (cx_MGl (cx_MM s)))] [∀ s : cx_Sd n, Inhabited (cx_Tord (cx_Ex n) (cx_MM s))] [Inhabited (PLift (cx_MMl n))] {ρ : Fin n → Nat} {k : Fin n} (h : ρ k = 0) {b : cx_Ex n} (hb : cx_Sv (cx_dl k) (cx_vv ρ k) b) : cx_Sv (cx_dl k) (cx_vv ρ k) (cx_th ρ k b) := by
  rw [cx_sv_iff] at hb ⊢
  unfold cx_th
  rw [cx_dl_dn, cx_rw_dn h, cx_dn_k]
  exact ⟨hb.1, by omega⟩
theorem cx_trn [Mul (cx_S Nat)] [One (cx_S Nat)] [Add (cx_S Nat)] [Zero (cx_S Nat)] [Inhabited (cx_Idx Nat)] [Inhabited (PLift cx_Natl)] {n : Nat} [Zero (cx_Ex n)] [Add (cx_Ex n)] [Mul (cx_S (cx_Ex n))] [One (cx_S (cx_Ex n))] [Add (cx_S (cx_Ex n))] [Zero (cx_S (cx_Ex n))] [Inhabited (cx_Idx (cx_Ex n))] [Inhabited (PLift (cx_Exl n))] [∀ s : cx_Sd n, Add (cx_MM s)] [∀ s : cx_Sd n, Inhabited (PLift (cx_MGl (cx_MM s)))] [∀ s : cx_Sd n, Inhabited (cx_Tord (cx_Ex n) (cx_MM s))] [Inhabited (PLift (cx_MMl n))] {s : cx_Sd n} {k : Fin n} {ρ : Fin n → Nat} (h : cx_Rho s k ρ) :
    cx_Trn (M := cx_MM s) (M' := cx_MM (cx_turn s k)) (cx_Sv (cx_dl k) (cx_vv ρ k)) (cx_Sv (cx_dl k) (cx_vv ρ k)) (cx_th ρ k) (cx_th ρ k) (cx_mu s (cx_turn s k) k ρ) (cx_mu (cx_turn s k) s k ρ) := ⟨(by unfold cx_th; rw [cx_rw_zero, cx_ex_zero, Nat.sub_zero, cx_dn_zero]),
  (by unfold cx_th; rw [cx_rw_zero, cx_ex_zero, Nat.sub_zero, cx_dn_zero]),
  (fun b hb => cx_th_sv h.k0 hb),
  (fun b hb => cx_th_sv h.k0 hb),
  (fun b hb => cx_th_th h.k0 ((cx_sv_iff ρ k b).1 hb).2),
  (fun b hb => cx_th_th h.k0 ((cx_sv_iff ρ k b).1 hb).2),
  (fun a b ha hb => by
    have h1 := ((cx_sv_iff ρ k a).1 ha).2
    have h2 := ((cx_sv_iff ρ k b).1 hb).2
    unfold cx_th
    funext i
    refine Eq.trans ?_ (cx_ex_add _ _ i).symm
    by_cases hi : i = k
    · subst hi
      rw [cx_dn_k, cx_dn_k, cx_dn_k, cx_rw_add, cx_ex_add]; omega
    · rw [cx_dn_ne _ _ hi, cx_dn_ne _ _ hi, cx_dn_ne _ _ hi, cx_ex_add]),
  (cx_Sv.clo (cx_dl_fun k) (cx_vv_fun ρ k)),
  (cx_Sv.clo (cx_dl_fun k) (cx_vv_fun ρ k)),
  (fun b hb e => by have := hb.1; rw [e, (cx_dl_fun k).zero] at this; grind),
  (fun b hb e => by have := hb.1; rw [e, (cx_dl_fun k).zero] at this; grind),
  (fun m => cx_MM.ext fun i => by
    by_cases hi : i = k
    · subst hi; rw [cx_mu_k, cx_mu_k]; grind
    · rw [cx_mu_ne _ _ hi, cx_mu_ne _ _ hi, cx_mu_k]
      show m.v i + cx_cc s k ρ i * m.v k + cx_cc s k ρ i * - m.v k = m.v i
      grind),
  (fun m => cx_MM.ext fun i => by
    by_cases hi : i = k
    · subst hi; rw [cx_mu_k, cx_mu_k]; grind
    · rw [cx_mu_ne _ _ hi, cx_mu_ne _ _ hi, cx_mu_k]
      show m.v i + cx_cc s k ρ i * m.v k + cx_cc s k ρ i * - m.v k = m.v i
      grind),
  (fun a m ha => by
    have h1 := ((cx_sv_iff ρ k a).1 ha).2
    rw [cx_pr_def, cx_pr_def, cx_fr_split k, cx_fr_split k (fun i => (a i : Rat) * (s.d i : Rat) * m.v i)]
    have e0 : ((cx_th ρ k a) k : Rat) = (cx_rw_ ρ a : Rat) - (a k : Rat) := by
      unfold cx_th; rw [cx_dn_k]
      have : ((cx_rw_ ρ a - a k + a k : Nat) : Rat) = (cx_rw_ ρ a : Rat) := by rw [Nat.sub_add_cancel h1]
      rw [cx_castR] at this
      grind
    have e1 : cx_sm (cx_fr n) (fun i => if i = k then 0 else (cx_th ρ k a i : Rat) * ((cx_turn s k).d i : Rat) * (cx_mu s (cx_turn s k) k ρ m).v i)
        = cx_sm (cx_fr n) (fun i => if i = k then 0 else (a i : Rat) * (s.d i : Rat) * m.v i) + cx_sm (cx_fr n) (fun i => (ρ i : Rat) * (a i : Rat)) * ((s.d k : Rat) * m.v k) := by
      rw [← cx_sm_mulR, ← cx_sm_add]
      refine cx_sm_congr (fun i _ => ?_)
      by_cases hi : i = k
      · subst hi; rw [if_pos rfl, if_pos rfl, h.k0, show ((0 : Nat) : Rat) = 0 from rfl]; grind
      · rw [if_neg hi, if_neg hi, cx_mu_ne _ _ hi]
        have e2 : cx_th ρ k a i = a i := cx_dn_ne _ _ hi
        rw [e2]
        have := cx_cc_d s k ρ i
        show (a i : Rat) * (s.d i : Rat) * (m.v i + cx_cc s k ρ i * m.v k) = _
        grind
    rw [e1, cx_mu_k, ← cx_rw_cast, e0]
    show ((cx_rw_ ρ a : Rat) - (a k : Rat)) * (s.d k : Rat) * - m.v k + _ = _
    grind),
  (fun a m ha => cx_MM.ext fun i => by
    have h1 := ((cx_sv_iff ρ k a).1 ha).2
    have e0 : ((cx_th ρ k a) k : Rat) = (cx_rw_ ρ a : Rat) - (a k : Rat) := by
      unfold cx_th; rw [cx_dn_k]
      have : ((cx_rw_ ρ a - a k + a k : Nat) : Rat) = (cx_rw_ ρ a : Rat) := by rw [Nat.sub_add_cancel h1]
      rw [cx_castR] at this
      grind
    have ek : (cx_p a : cx_MM s).v k = cx_sm (cx_fr n) (fun j => if j = k then 0 else (s.b k j : Rat) * (a j : Rat)) := by
      rw [cx_p_def, cx_fr_split k, s.self k, show ((0 : Int) : Rat) = 0 from rfl]; grind
    rw [cx_mm_add, cx_p_def]
    by_cases hi : i = k
    · subst hi
      rw [cx_mu_k, cx_mu_k, cx_mm_add, ek, cx_fr_split i (fun j => ((cx_turn s i).b i j : Rat) * (cx_th ρ i a j : Rat)), cx_turn_col, s.self i]
      have : cx_sm (cx_fr n) (fun j => if j = i then 0 else ((cx_turn s i).b i j : Rat) * (cx_th ρ i a j : Rat)) = (-1) * cx_sm (cx_fr n) (fun j => if j = i then 0 else (s.b i j : Rat) * (a j : Rat)) := by
        rw [← cx_sm_mulL]
        refine cx_sm_congr (fun j _ => ?_)
        by_cases hj : j = i
        · rw [if_pos hj, if_pos hj]; grind
        · rw [if_neg hj, if_neg hj, cx_turn_row]
          have e2 : cx_th ρ i a j = a j := cx_dn_ne _ _ hj
          have e3 : ((- s.b i j : Int) : Rat) = - (s.b i j : Rat) := by exact_mod_cast rfl
          rw [e2, e3]; grind
      rw [this, show ((-0 : Int) : Rat) = 0 from rfl]; grind
    · rw [cx_mu_ne _ _ hi, cx_mu_ne _ _ hi, cx_mm_add, cx_mm_add, ek, cx_p_def, cx_fr_split k (fun j => (s.b i j : Rat) * (a j : Rat)), cx_fr_split k (fun j => ((cx_turn s k).b i j : Rat) * (cx_th ρ k a j : Rat)), cx_turn_col, e0, cx_rw_cast]
      have : cx_sm (cx_fr n) (fun j => if j = k then 0 else ((cx_turn s k).b i j : Rat) * (cx_th ρ k a j : Rat))
          = cx_sm (cx_fr n) (fun j => if j = k then 0 else (s.b i j : Rat) * (a j : Rat)) + cx_cc s k ρ i * cx_sm (cx_fr n) (fun j => if j = k then 0 else (s.b k j : Rat) * (a j : Rat))
            + (s.b i k : Rat) * cx_sm (cx_fr n) (fun j => (ρ j : Rat) * (a j : Rat)) := by
        rw [← cx_sm_mulL, ← cx_sm_mulL, ← cx_sm_add, ← cx_sm_add]
        refine cx_sm_congr (fun j _ => ?_)
        by_cases hj : j = k
        · subst hj; rw [if_pos rfl, if_pos rfl, if_pos rfl, h.k0, show ((0 : Nat) : Rat) = 0 from rfl]; grind
        · rw [if_neg hj, if_neg hj, if_neg hj, h.b' i j hi hj]
          have e2 : cx_th ρ k a j = a j := cx_dn_ne _ _ hj
          rw [e2]
          unfold cx_cc
          grind
      have e3 : ((- s.b i k : Int) : Rat) = - (s.b i k : Rat) := by exact_mod_cast rfl
      rw [this, e3]; grind)⟩
theorem cx_nsum_mono [Mul (cx_S Nat)] [One (cx_S Nat)] [Add (cx_S Nat)] [Zero (cx_S Nat)] [Inhabited (cx_Idx Nat)] [Inhabited (PLift cx_Natl)] {n : Nat} [Zero (cx_Ex n)] [Add (cx_Ex n)] [Mul (cx_S (cx_Ex n))] [One (cx_S (cx_Ex n))] [Add (cx_S (cx_Ex n))] [Zero (cx_S (cx_Ex n))] [Inhabited (cx_Idx (cx_Ex n))] [Inhabited (PLift (cx_Exl n))] [∀ s : cx_Sd n, Add (cx_MM s)] [∀ s : cx_Sd n, Inhabited (PLift (cx_MGl (cx_MM s)))] [∀ s : cx_Sd n, Inhabited (cx_Tord (cx_Ex n) (cx_MM s))] [Inhabited (PLift (cx_MMl n))] {f g : Fin n → Nat} (h : ∀ i, f i ≤ g i) : cx_nsum f ≤ cx_nsum g := by
  unfold cx_nsum
  generalize List.finRange n = l
  induction l with
  | nil => exact Nat.le_refl _
  | cons x l ih => rw [List.foldr_cons, List.foldr_cons]; have := h x; omega
theorem cx_nsum_mulR [Mul (cx_S Nat)] [One (cx_S Nat)] [Add (cx_S Nat)] [Zero (cx_S Nat)] [Inhabited (cx_Idx Nat)] [Inhabited (PLift cx_Natl)] {n : Nat} [Zero (cx_Ex n)] [Add (cx_Ex n)] [Mul (cx_S (cx_Ex n))] [One (cx_S (cx_Ex n))] [Add (cx_S (cx_Ex n))] [Zero (cx_S (cx_Ex n))] [Inhabited (cx_Idx (cx_Ex n))] [Inhabited (PLift (cx_Exl n))] [∀ s : cx_Sd n, Add (cx_MM s)] [∀ s : cx_Sd n, Inhabited (PLift (cx_MGl (cx_MM s)))] [∀ s : cx_Sd n, Inhabited (cx_Tord (cx_Ex n) (cx_MM s))] [Inhabited (PLift (cx_MMl n))] (f : Fin n → Nat) (c : Nat) : cx_nsum (fun i => f i * c) = cx_nsum f * c := by
  unfold cx_nsum
  generalize List.finRange n = l
  induction l with
  | nil => simp
  | cons x l ih => rw [List.foldr_cons, List.foldr_cons, ih, Nat.add_mul]
theorem cx_rw_le [Mul (cx_S Nat)] [One (cx_S Nat)] [Add (cx_S Nat)] [Zero (cx_S Nat)] [Inhabited (cx_Idx Nat)] [Inhabited (PLift cx_Natl)] {n : Nat} [Zero (cx_Ex n)] [Add (cx_Ex n)] [Mul (cx_S (cx_Ex n))] [One (cx_S (cx_Ex n))] [Add (cx_S (cx_Ex n))] [Zero (cx_S (cx_Ex n))] [Inhabited (cx_Idx (cx_Ex n))] [Inhabited (PLift (cx_Exl n))] [∀ s : cx_Sd n, Add (cx_MM s)] [∀ s : cx_Sd n, Inhabited (PLift (cx_MGl (cx_MM s)))] [∀ s : cx_Sd n, Inhabited (cx_Tord (cx_Ex n) (cx_MM s))] [Inhabited (PLift (cx_MMl n))] (ρ : Fin n → Nat) (b : cx_Ex n) : cx_rw_ ρ b ≤ cx_nsum ρ * cx_deg b := by
  unfold cx_rw_
  rw [← cx_nsum_mulR]
  exact cx_nsum_mono (fun i => Nat.mul_le_mul_left _ (by rw [cx_ex_deg]; exact cx_nsum_ge b i))
theorem cx_th_deg [Mul (cx_S Nat)] [One (cx_S Nat)] [Add (cx_S Nat)] [Zero (cx_S Nat)] [Inhabited (cx_Idx Nat)] [Inhabited (PLift cx_Natl)] {n : Nat} [Zero (cx_Ex n)] [Add (cx_Ex n)] [Mul (cx_S (cx_Ex n))] [One (cx_S (cx_Ex n))] [Add (cx_S (cx_Ex n))] [Zero (cx_S (cx_Ex n))] [Inhabited (cx_Idx (cx_Ex n))] [Inhabited (PLift (cx_Exl n))] [∀ s : cx_Sd n, Add (cx_MM s)] [∀ s : cx_Sd n, Inhabited (PLift (cx_MGl (cx_MM s)))] [∀ s : cx_Sd n, Inhabited (cx_Tord (cx_Ex n) (cx_MM s))] [Inhabited (PLift (cx_MMl n))] (ρ : Fin n → Nat) (k : Fin n) (b : cx_Ex n) : cx_deg (cx_th ρ k b) ≤ cx_deg b + cx_nsum ρ * cx_deg b := by
  have h1 : cx_deg (cx_th ρ k b) ≤ cx_deg (b + cx_nsm (cx_rw_ ρ b) (cx_ee k)) := by
    rw [cx_ex_deg, cx_ex_deg]
    refine cx_nsum_mono (fun i => ?_)
    rw [cx_ex_add, cx_ray_at]
    unfold cx_th
    by_cases hi : i = k
    · subst hi; rw [cx_dn_k, if_pos rfl]; omega
    · rw [cx_dn_ne _ _ hi]; omega
  have h2 := cx_rw_le ρ b
  rw [cx_deg_add, cx_nsm_deg, cx_ee_deg] at h1
  omega
theorem cx_th_bnd [Mul (cx_S Nat)] [One (cx_S Nat)] [Add (cx_S Nat)] [Zero (cx_S Nat)] [Inhabited (cx_Idx Nat)] [Inhabited (PLift cx_Natl)] {n : Nat} [Zero (cx_Ex n)] [Add (cx_Ex n)] [Mul (cx_S (cx_Ex n))] [One (cx_S (cx_Ex n))] [Add (cx_S (cx_Ex n))] [Zero (cx_S (cx_Ex n))] [Inhabited (cx_Idx (cx_Ex n))] [Inhabited (PLift (cx_Exl n))] [∀ s : cx_Sd n, Add (cx_MM s)] [∀ s : cx_Sd n, Inhabited (PLift (cx_MGl (cx_MM s)))] [∀ s : cx_Sd n, Inhabited (cx_Tord (cx_Ex n) (cx_MM s))] [Inhabited (PLift (cx_MMl n))] (ρ : Fin n → Nat) (k : Fin n) (T : cx_Ex n → Prop) : cx_Bnd T (cx_th ρ k) := fun d' => ⟨d' + cx_nsum ρ * d', fun b _ hb => by
  have h1 := cx_th_deg ρ k b
  have h2 := Nat.mul_le_mul_left (cx_nsum ρ) hb
  omega⟩
