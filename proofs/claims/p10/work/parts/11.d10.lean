def cx_pos (x : Int) : Nat := x.toNat
theorem cx_pos_sub (x : Int) : (cx_pos x : Rat) = (cx_pos (-x) : Rat) + (x : Rat) := by
  have h : ((cx_pos x : Nat) : Int) = ((cx_pos (-x) : Nat) : Int) + x := by unfold cx_pos; omega
  have h2 : (((cx_pos x : Nat) : Int) : Rat) = ((((cx_pos (-x) : Nat) : Int) + x : Int) : Rat) := by rw [h]
  have e1 : (((cx_pos x : Nat) : Int) : Rat) = (cx_pos x : Rat) := by exact_mod_cast rfl
  have e2 : ((((cx_pos (-x) : Nat) : Int) + x : Int) : Rat) = (cx_pos (-x) : Rat) + (x : Rat) := by exact_mod_cast rfl
  rw [e1, e2] at h2
  exact h2
def cx_rw_ {n : Nat} [Zero (cx_Ex n)] [Add (cx_Ex n)] [Mul (cx_S (cx_Ex n))] [One (cx_S (cx_Ex n))] [Add (cx_S (cx_Ex n))] [Zero (cx_S (cx_Ex n))] [Inhabited (cx_Idx (cx_Ex n))] [Inhabited (PLift (cx_Exl n))] [∀ s : cx_Sd n, Add (cx_MM s)] [∀ s : cx_Sd n, Inhabited (PLift (cx_MGl (cx_MM s)))] [∀ s : cx_Sd n, Inhabited (cx_Tord (cx_Ex n) (cx_MM s))] [Inhabited (PLift (cx_MMl n))] (ρ : Fin n → Nat) (b : cx_Ex n) : Nat := cx_nsum (fun i => ρ i * b i)
theorem cx_rw_add {n : Nat} [Zero (cx_Ex n)] [Add (cx_Ex n)] [Mul (cx_S (cx_Ex n))] [One (cx_S (cx_Ex n))] [Add (cx_S (cx_Ex n))] [Zero (cx_S (cx_Ex n))] [Inhabited (cx_Idx (cx_Ex n))] [Inhabited (PLift (cx_Exl n))] [∀ s : cx_Sd n, Add (cx_MM s)] [∀ s : cx_Sd n, Inhabited (PLift (cx_MGl (cx_MM s)))] [∀ s : cx_Sd n, Inhabited (cx_Tord (cx_Ex n) (cx_MM s))] [Inhabited (PLift (cx_MMl n))] (ρ : Fin n → Nat) (a b : cx_Ex n) : cx_rw_ ρ (a + b) = cx_rw_ ρ a + cx_rw_ ρ b := by
  unfold cx_rw_
  rw [← cx_nsum_add]
  congr 1
  funext i
  rw [cx_ex_add, Nat.mul_add]
theorem cx_rw_cast {n : Nat} [Zero (cx_Ex n)] [Add (cx_Ex n)] [Mul (cx_S (cx_Ex n))] [One (cx_S (cx_Ex n))] [Add (cx_S (cx_Ex n))] [Zero (cx_S (cx_Ex n))] [Inhabited (cx_Idx (cx_Ex n))] [Inhabited (PLift (cx_Exl n))] [∀ s : cx_Sd n, Add (cx_MM s)] [∀ s : cx_Sd n, Inhabited (PLift (cx_MGl (cx_MM s)))] [∀ s : cx_Sd n, Inhabited (cx_Tord (cx_Ex n) (cx_MM s))] [Inhabited (PLift (cx_MMl n))] (ρ : Fin n → Nat) (b : cx_Ex n) : ((cx_rw_ ρ b : Nat) : Rat) = cx_sm (cx_fr n) (fun i => (ρ i : Rat) * (b i : Rat)) := by
  unfold cx_rw_
  rw [cx_nsum_cast]
  exact cx_sm_congr (fun i _ => by exact_mod_cast rfl)
def cx_vv {n : Nat} [Zero (cx_Ex n)] [Add (cx_Ex n)] [Mul (cx_S (cx_Ex n))] [One (cx_S (cx_Ex n))] [Add (cx_S (cx_Ex n))] [Zero (cx_S (cx_Ex n))] [Inhabited (cx_Idx (cx_Ex n))] [Inhabited (PLift (cx_Exl n))] [∀ s : cx_Sd n, Add (cx_MM s)] [∀ s : cx_Sd n, Inhabited (PLift (cx_MGl (cx_MM s)))] [∀ s : cx_Sd n, Inhabited (cx_Tord (cx_Ex n) (cx_MM s))] [Inhabited (PLift (cx_MMl n))] (ρ : Fin n → Nat) (k : Fin n) (b : cx_Ex n) : Rat := (cx_rw_ ρ b : Rat) + (-1) * (b k : Rat)
theorem cx_vv_fun {n : Nat} [Zero (cx_Ex n)] [Add (cx_Ex n)] [Mul (cx_S (cx_Ex n))] [One (cx_S (cx_Ex n))] [Add (cx_S (cx_Ex n))] [Zero (cx_S (cx_Ex n))] [Inhabited (cx_Idx (cx_Ex n))] [Inhabited (PLift (cx_Exl n))] [∀ s : cx_Sd n, Add (cx_MM s)] [∀ s : cx_Sd n, Inhabited (PLift (cx_MGl (cx_MM s)))] [∀ s : cx_Sd n, Inhabited (cx_Tord (cx_Ex n) (cx_MM s))] [Inhabited (PLift (cx_MMl n))] (ρ : Fin n → Nat) (k : Fin n) : cx_Fun (cx_vv ρ k) := ⟨fun a b => by
  unfold cx_vv
  rw [cx_rw_add, cx_ex_add, cx_castR, cx_castR]; grind⟩
def cx_dl {n : Nat} [Zero (cx_Ex n)] [Add (cx_Ex n)] [Mul (cx_S (cx_Ex n))] [One (cx_S (cx_Ex n))] [Add (cx_S (cx_Ex n))] [Zero (cx_S (cx_Ex n))] [Inhabited (cx_Idx (cx_Ex n))] [Inhabited (PLift (cx_Exl n))] [∀ s : cx_Sd n, Add (cx_MM s)] [∀ s : cx_Sd n, Inhabited (PLift (cx_MGl (cx_MM s)))] [∀ s : cx_Sd n, Inhabited (cx_Tord (cx_Ex n) (cx_MM s))] [Inhabited (PLift (cx_MMl n))] (k : Fin n) (b : cx_Ex n) : Rat := cx_dg b + (-1) * (b k : Rat)
theorem cx_dl_fun {n : Nat} [Zero (cx_Ex n)] [Add (cx_Ex n)] [Mul (cx_S (cx_Ex n))] [One (cx_S (cx_Ex n))] [Add (cx_S (cx_Ex n))] [Zero (cx_S (cx_Ex n))] [Inhabited (cx_Idx (cx_Ex n))] [Inhabited (PLift (cx_Exl n))] [∀ s : cx_Sd n, Add (cx_MM s)] [∀ s : cx_Sd n, Inhabited (PLift (cx_MGl (cx_MM s)))] [∀ s : cx_Sd n, Inhabited (cx_Tord (cx_Ex n) (cx_MM s))] [Inhabited (PLift (cx_MMl n))] (k : Fin n) : cx_Fun (cx_dl k) := cx_fun_dg.plus (cx_coord_fun k) (-1)
theorem cx_dg_sm {n : Nat} [Zero (cx_Ex n)] [Add (cx_Ex n)] [Mul (cx_S (cx_Ex n))] [One (cx_S (cx_Ex n))] [Add (cx_S (cx_Ex n))] [Zero (cx_S (cx_Ex n))] [Inhabited (cx_Idx (cx_Ex n))] [Inhabited (PLift (cx_Exl n))] [∀ s : cx_Sd n, Add (cx_MM s)] [∀ s : cx_Sd n, Inhabited (PLift (cx_MGl (cx_MM s)))] [∀ s : cx_Sd n, Inhabited (cx_Tord (cx_Ex n) (cx_MM s))] [Inhabited (PLift (cx_MMl n))] (b : cx_Ex n) : cx_dg b = cx_sm (cx_fr n) (fun i => (b i : Rat)) := by
  show ((cx_deg b : Nat) : Rat) = _
  rw [cx_ex_deg, cx_nsum_cast]; rfl
theorem cx_dl_sm {n : Nat} [Zero (cx_Ex n)] [Add (cx_Ex n)] [Mul (cx_S (cx_Ex n))] [One (cx_S (cx_Ex n))] [Add (cx_S (cx_Ex n))] [Zero (cx_S (cx_Ex n))] [Inhabited (cx_Idx (cx_Ex n))] [Inhabited (PLift (cx_Exl n))] [∀ s : cx_Sd n, Add (cx_MM s)] [∀ s : cx_Sd n, Inhabited (PLift (cx_MGl (cx_MM s)))] [∀ s : cx_Sd n, Inhabited (cx_Tord (cx_Ex n) (cx_MM s))] [Inhabited (PLift (cx_MMl n))] (k : Fin n) (b : cx_Ex n) : cx_dl k b = cx_sm (cx_fr n) (fun i => if i = k then 0 else (b i : Rat)) := by
  unfold cx_dl
  rw [cx_dg_sm, cx_fr_split k]; grind
theorem cx_rw_ee {n : Nat} [Zero (cx_Ex n)] [Add (cx_Ex n)] [Mul (cx_S (cx_Ex n))] [One (cx_S (cx_Ex n))] [Add (cx_S (cx_Ex n))] [Zero (cx_S (cx_Ex n))] [Inhabited (cx_Idx (cx_Ex n))] [Inhabited (PLift (cx_Exl n))] [∀ s : cx_Sd n, Add (cx_MM s)] [∀ s : cx_Sd n, Inhabited (PLift (cx_MGl (cx_MM s)))] [∀ s : cx_Sd n, Inhabited (cx_Tord (cx_Ex n) (cx_MM s))] [Inhabited (PLift (cx_MMl n))] (ρ : Fin n → Nat) (i : Fin n) : cx_rw_ ρ (cx_ee i) = ρ i := by
  have h : ((cx_rw_ ρ (cx_ee i) : Nat) : Rat) = ((ρ i : Nat) : Rat) := by
    rw [cx_rw_cast]
    have := cx_dt_ee (fun i => (ρ i : Rat)) i
    exact this
  exact_mod_cast h
theorem cx_natR_nonneg (x : Nat) : (0 : Rat) ≤ (x : Rat) := by exact_mod_cast Nat.zero_le x
theorem cx_sm_nonneg_zero {α : Type} {l : List α} {f : α → Rat} (h : ∀ a ∈ l, 0 ≤ f a) (hz : cx_sm l f = 0) : ∀ a ∈ l, f a = 0 := by
  induction l with
  | nil => intro a ha; simp at ha
  | cons x l ih =>
    rw [cx_sm_cons] at hz
    have h1 := h x (by simp)
    have h2 := cx_sm_nonneg (fun a ha => h a (List.mem_cons_of_mem x ha))
    intro a ha
    rcases List.mem_cons.1 ha with rfl | ha
    · grind
    · exact ih (fun a ha => h a (by simp [ha])) (by grind) a ha
def cx_rm {n : Nat} [Zero (cx_Ex n)] [Add (cx_Ex n)] [Mul (cx_S (cx_Ex n))] [One (cx_S (cx_Ex n))] [Add (cx_S (cx_Ex n))] [Zero (cx_S (cx_Ex n))] [Inhabited (cx_Idx (cx_Ex n))] [Inhabited (PLift (cx_Exl n))] [∀ s : cx_Sd n, Add (cx_MM s)] [∀ s : cx_Sd n, Inhabited (PLift (cx_MGl (cx_MM s)))] [∀ s : cx_Sd n, Inhabited (cx_Tord (cx_Ex n) (cx_MM s))] [Inhabited (PLift (cx_MMl n))] (s : cx_Sd n) (k : Fin n) : Fin n → Nat := fun i => cx_pos (- s.b k i)
def cx_rp {n : Nat} [Zero (cx_Ex n)] [Add (cx_Ex n)] [Mul (cx_S (cx_Ex n))] [One (cx_S (cx_Ex n))] [Add (cx_S (cx_Ex n))] [Zero (cx_S (cx_Ex n))] [Inhabited (cx_Idx (cx_Ex n))] [Inhabited (PLift (cx_Exl n))] [∀ s : cx_Sd n, Add (cx_MM s)] [∀ s : cx_Sd n, Inhabited (PLift (cx_MGl (cx_MM s)))] [∀ s : cx_Sd n, Inhabited (cx_Tord (cx_Ex n) (cx_MM s))] [Inhabited (PLift (cx_MMl n))] (s : cx_Sd n) (k : Fin n) : Fin n → Nat := fun i => cx_pos (s.b k i)
noncomputable def cx_qq {n : Nat} [Zero (cx_Ex n)] [Add (cx_Ex n)] [Mul (cx_S (cx_Ex n))] [One (cx_S (cx_Ex n))] [Add (cx_S (cx_Ex n))] [Zero (cx_S (cx_Ex n))] [Inhabited (cx_Idx (cx_Ex n))] [Inhabited (PLift (cx_Exl n))] [∀ s : cx_Sd n, Add (cx_MM s)] [∀ s : cx_Sd n, Inhabited (PLift (cx_MGl (cx_MM s)))] [∀ s : cx_Sd n, Inhabited (cx_Tord (cx_Ex n) (cx_MM s))] [Inhabited (PLift (cx_MMl n))] (s : cx_Sd n) (k : Fin n) : Rat := (s.d k : Rat)⁻¹
theorem cx_qq_d {n : Nat} [Zero (cx_Ex n)] [Add (cx_Ex n)] [Mul (cx_S (cx_Ex n))] [One (cx_S (cx_Ex n))] [Add (cx_S (cx_Ex n))] [Zero (cx_S (cx_Ex n))] [Inhabited (cx_Idx (cx_Ex n))] [Inhabited (PLift (cx_Exl n))] [∀ s : cx_Sd n, Add (cx_MM s)] [∀ s : cx_Sd n, Inhabited (PLift (cx_MGl (cx_MM s)))] [∀ s : cx_Sd n, Inhabited (cx_Tord (cx_Ex n) (cx_MM s))] [Inhabited (PLift (cx_MMl n))] (s : cx_Sd n) (k : Fin n) : cx_qq s k * (s.d k : Rat) = 1 := Rat.inv_mul_cancel _ (by have := cx_d_pos s k; grind)
theorem cx_qq_pr {n : Nat} [Zero (cx_Ex n)] [Add (cx_Ex n)] [Mul (cx_S (cx_Ex n))] [One (cx_S (cx_Ex n))] [Add (cx_S (cx_Ex n))] [Zero (cx_S (cx_Ex n))] [Inhabited (cx_Idx (cx_Ex n))] [Inhabited (PLift (cx_Exl n))] [∀ s : cx_Sd n, Add (cx_MM s)] [∀ s : cx_Sd n, Inhabited (PLift (cx_MGl (cx_MM s)))] [∀ s : cx_Sd n, Inhabited (cx_Tord (cx_Ex n) (cx_MM s))] [Inhabited (PLift (cx_MMl n))] (s : cx_Sd n) (k : Fin n) (m : cx_MM s) : cx_qq s k * cx_pr (cx_ee k) m = m.v k := by
  rw [cx_pr_ee]
  have := cx_qq_d s k
  grind
theorem cx_kd {n : Nat} [Zero (cx_Ex n)] [Add (cx_Ex n)] [Mul (cx_S (cx_Ex n))] [One (cx_S (cx_Ex n))] [Add (cx_S (cx_Ex n))] [Zero (cx_S (cx_Ex n))] [Inhabited (cx_Idx (cx_Ex n))] [Inhabited (PLift (cx_Exl n))] [∀ s : cx_Sd n, Add (cx_MM s)] [∀ s : cx_Sd n, Inhabited (PLift (cx_MGl (cx_MM s)))] [∀ s : cx_Sd n, Inhabited (cx_Tord (cx_Ex n) (cx_MM s))] [Inhabited (PLift (cx_MMl n))] (s : cx_Sd n) (k : Fin n) : cx_Kd (cx_MM s) (cx_ee k) (cx_qq s k) (cx_vv (cx_rm s k) k) (cx_vv (cx_rp s k) k) (cx_dl k) := ⟨(cx_ee_nz k),
  (cx_ee_deg k),
  (cx_vv_fun _ k),
  (cx_vv_fun _ k),
  (cx_dl_fun k),
  (fun a => by
    rw [cx_qq_pr, cx_p_def]
    unfold cx_vv
    rw [cx_rw_cast, cx_rw_cast]
    have : cx_sm (cx_fr n) (fun i => (cx_rp s k i : Rat) * (a i : Rat)) = cx_sm (cx_fr n) (fun i => (cx_rm s k i : Rat) * (a i : Rat)) + cx_sm (cx_fr n) (fun j => (s.b k j : Rat) * (a j : Rat)) := by
      rw [← cx_sm_add]
      refine cx_sm_congr (fun i _ => ?_)
      have := cx_pos_sub (s.b k i)
      unfold cx_rp cx_rm
      grind
    rw [this]; grind),
  (by
    unfold cx_vv
    rw [cx_rw_ee, cx_ee_self]
    have : cx_rm s k k = 0 := by unfold cx_rm cx_pos; rw [s.self k]; rfl
    rw [this, show ((0 : Nat) : Rat) = 0 from rfl, show ((1 : Nat) : Rat) = 1 from rfl]; grind),
  (by
    unfold cx_dl
    have : cx_dg (cx_ee k) = 1 := by show ((cx_deg (cx_ee k) : Nat) : Rat) = 1; rw [cx_ee_deg]; rfl
    rw [this, cx_ee_self, show ((1 : Nat) : Rat) = 1 from rfl]; grind),
  (fun a => by
    rw [cx_dl_sm]
    refine cx_sm_nonneg (fun i _ => ?_)
    by_cases h : i = k
    · rw [if_pos h]; grind
    · rw [if_neg h]; exact cx_natR_nonneg _),
  (fun a h => by
    rw [cx_dl_sm] at h
    have h1 := cx_sm_nonneg_zero (fun i _ => by
      by_cases h : i = k
      · rw [if_pos h]; grind
      · rw [if_neg h]; exact cx_natR_nonneg _) h
    refine ⟨a k, funext fun i => ?_⟩
    rw [cx_nsm_at]
    by_cases hi : i = k
    · subst hi; rw [cx_ee_self]; omega
    · rw [cx_ee_ne hi]
      have := h1 i (List.mem_finRange i)
      rw [if_neg hi] at this
      have h2 : a i = 0 := by exact_mod_cast this
      rw [h2]; omega),
  (fun a => by rw [cx_qq_pr]; exact cx_ZZ_p s a k),
  (fun a h => by
    rw [cx_dl_sm] at h
    have : ∃ i, i ≠ k ∧ a i ≠ 0 := by
      refine Classical.byContradiction (fun hno => h (cx_sm_zero (fun i _ => ?_)))
      by_cases hi : i = k
      · rw [if_pos hi]
      · rw [if_neg hi]
        have : a i = 0 := Classical.byContradiction (fun h => hno ⟨i, hi, h⟩)
        rw [this]; rfl
    obtain ⟨i, hi, hai⟩ := this
    refine ⟨⟨fun j => if j = i then 1 else 0, rfl⟩, ?_, ?_⟩
    · rw [cx_pr_ee]
      show _ * (if k = i then (1 : Rat) else 0) = 0
      rw [if_neg (fun e => hi e.symm), Rat.mul_zero]
    · rw [cx_pr_def]
      have e := cx_fr_only i (fun j => (a j : Rat) * (s.d j : Rat) * (if j = i then (1 : Rat) else 0)) (fun j hj => by rw [if_neg hj, Rat.mul_zero])
      have e2 : cx_sm (cx_fr n) (fun j => (a j : Rat) * (s.d j : Rat) * cx_MM.v (s := s) ⟨fun j => if j = i then (1 : Rat) else 0, rfl⟩ j) = (a i : Rat) * (s.d i : Rat) := by
        refine Eq.trans e ?_
        rw [if_pos rfl, Rat.mul_one]
      rw [e2]
      have h1 : (0 : Rat) < (a i : Rat) := by exact_mod_cast Nat.pos_of_ne_zero hai
      have := Rat.mul_pos h1 (cx_d_pos s i)
      grind)⟩
noncomputable def cx_sd {n : Nat} [Zero (cx_Ex n)] [Add (cx_Ex n)] [Mul (cx_S (cx_Ex n))] [One (cx_S (cx_Ex n))] [Add (cx_S (cx_Ex n))] [Zero (cx_S (cx_Ex n))] [Inhabited (cx_Idx (cx_Ex n))] [Inhabited (PLift (cx_Exl n))] [∀ s : cx_Sd n, Add (cx_MM s)] [∀ s : cx_Sd n, Inhabited (PLift (cx_MGl (cx_MM s)))] [∀ s : cx_Sd n, Inhabited (cx_Tord (cx_Ex n) (cx_MM s))] [Inhabited (PLift (cx_MMl n))] (s : cx_Sd n) (a : cx_Ex n) : Rat := @dite _ (∃ i, a = cx_ee i) (Classical.propDecidable _) (fun h => (s.d (Classical.choose h) : Rat)⁻¹) (fun _ => 0)
theorem cx_ee_inj {n : Nat} [Zero (cx_Ex n)] [Add (cx_Ex n)] [Mul (cx_S (cx_Ex n))] [One (cx_S (cx_Ex n))] [Add (cx_S (cx_Ex n))] [Zero (cx_S (cx_Ex n))] [Inhabited (cx_Idx (cx_Ex n))] [Inhabited (PLift (cx_Exl n))] [∀ s : cx_Sd n, Add (cx_MM s)] [∀ s : cx_Sd n, Inhabited (PLift (cx_MGl (cx_MM s)))] [∀ s : cx_Sd n, Inhabited (cx_Tord (cx_Ex n) (cx_MM s))] [Inhabited (PLift (cx_MMl n))] {i j : Fin n} (h : cx_ee i = cx_ee j) : i = j := by
  have := congrFun h i
  rw [cx_ee_self] at this
  by_cases hij : i = j
  · exact hij
  · rw [cx_ee_ne hij] at this; omega
theorem cx_sd_ee {n : Nat} [Zero (cx_Ex n)] [Add (cx_Ex n)] [Mul (cx_S (cx_Ex n))] [One (cx_S (cx_Ex n))] [Add (cx_S (cx_Ex n))] [Zero (cx_S (cx_Ex n))] [Inhabited (cx_Idx (cx_Ex n))] [Inhabited (PLift (cx_Exl n))] [∀ s : cx_Sd n, Add (cx_MM s)] [∀ s : cx_Sd n, Inhabited (PLift (cx_MGl (cx_MM s)))] [∀ s : cx_Sd n, Inhabited (cx_Tord (cx_Ex n) (cx_MM s))] [Inhabited (PLift (cx_MMl n))] (s : cx_Sd n) (i : Fin n) : cx_sd s (cx_ee i) = (s.d i : Rat)⁻¹ := by
  unfold cx_sd
  have h : ∃ j, (cx_ee i : cx_Ex n) = cx_ee j := ⟨i, rfl⟩
  rw [dif_pos h]
  have := Classical.choose_spec h
  rw [← cx_ee_inj this]
theorem cx_sd_no {n : Nat} [Zero (cx_Ex n)] [Add (cx_Ex n)] [Mul (cx_S (cx_Ex n))] [One (cx_S (cx_Ex n))] [Add (cx_S (cx_Ex n))] [Zero (cx_S (cx_Ex n))] [Inhabited (cx_Idx (cx_Ex n))] [Inhabited (PLift (cx_Exl n))] [∀ s : cx_Sd n, Add (cx_MM s)] [∀ s : cx_Sd n, Inhabited (PLift (cx_MGl (cx_MM s)))] [∀ s : cx_Sd n, Inhabited (cx_Tord (cx_Ex n) (cx_MM s))] [Inhabited (PLift (cx_MMl n))] (s : cx_Sd n) {a : cx_Ex n} (h : ∀ i, a ≠ cx_ee i) : cx_sd s a = 0 := by
  unfold cx_sd
  rw [dif_neg (fun ⟨i, e⟩ => h i e)]
theorem cx_sd_nonneg {n : Nat} [Zero (cx_Ex n)] [Add (cx_Ex n)] [Mul (cx_S (cx_Ex n))] [One (cx_S (cx_Ex n))] [Add (cx_S (cx_Ex n))] [Zero (cx_S (cx_Ex n))] [Inhabited (cx_Idx (cx_Ex n))] [Inhabited (PLift (cx_Exl n))] [∀ s : cx_Sd n, Add (cx_MM s)] [∀ s : cx_Sd n, Inhabited (PLift (cx_MGl (cx_MM s)))] [∀ s : cx_Sd n, Inhabited (cx_Tord (cx_Ex n) (cx_MM s))] [Inhabited (PLift (cx_MMl n))] (s : cx_Sd n) (a : cx_Ex n) : 0 ≤ cx_sd s a := by
  by_cases h : ∃ i, a = cx_ee i
  · obtain ⟨i, rfl⟩ := h
    rw [cx_sd_ee]
    have := Rat.inv_pos.2 (cx_d_pos s i)
    grind
  · rw [cx_sd_no s (fun i e => h ⟨i, e⟩)]; grind
theorem cx_std {n : Nat} [Zero (cx_Ex n)] [Add (cx_Ex n)] [Mul (cx_S (cx_Ex n))] [One (cx_S (cx_Ex n))] [Add (cx_S (cx_Ex n))] [Zero (cx_S (cx_Ex n))] [Inhabited (cx_Idx (cx_Ex n))] [Inhabited (PLift (cx_Exl n))] [∀ s : cx_Sd n, Add (cx_MM s)] [∀ s : cx_Sd n, Inhabited (PLift (cx_MGl (cx_MM s)))] [∀ s : cx_Sd n, Inhabited (cx_Tord (cx_Ex n) (cx_MM s))] [Inhabited (PLift (cx_MMl n))] (s : cx_Sd n) (k : Fin n) : cx_Std (cx_MM s) (cx_ee k) (cx_qq s k) (cx_vv (cx_rm s k) k) (cx_vv (cx_rp s k) k) (cx_dl k) (cx_ZZ s) (cx_sd s) := ⟨(fun a ha hd => by
    obtain ⟨j, rfl⟩ := (cx_kd s k).ray a hd
    by_cases h : cx_nsm j (cx_ee k) = cx_ee k
    · rw [if_pos h, h, cx_sd_ee]; rfl
    · rw [if_neg h]
      refine cx_sd_no s (fun i e => h ?_)
      by_cases hik : i = k
      · rw [e, hik]
      · exfalso
        have := congrFun e i
        rw [cx_nsm_at, cx_ee_self, cx_ee_ne hik] at this
        omega),
  (fun a hd h => by
    have : ∃ i, a = cx_ee i := Classical.byContradiction (fun hno => h (cx_sd_no s (fun i e => hno ⟨i, e⟩)))
    obtain ⟨i, rfl⟩ := this
    have hik : i ≠ k := fun e => by subst e; rw [(cx_kd s i).dlk] at hd; grind
    unfold cx_vv
    rw [cx_rw_ee, cx_rw_ee, cx_ee_ne (fun e => hik e.symm)]
    have h1 := cx_natR_nonneg (cx_rm s k i)
    have h2 := cx_natR_nonneg (cx_rp s k i)
    have h3 : ((0 : Nat) : Rat) = 0 := rfl
    constructor <;> grind),
  (fun a => by
    intro m hm
    show cx_IsI (cx_sd s a * cx_pr a m)
    by_cases h : ∃ i, a = cx_ee i
    · obtain ⟨i, rfl⟩ := h
      rw [cx_sd_ee]
      have := cx_qq_pr s i m
      unfold cx_qq at this
      rw [this]; exact hm i
    · rw [cx_sd_no s (fun i e => h ⟨i, e⟩), Rat.zero_mul]; exact cx_IsI.zero),
  (cx_ZZ_add s),
  (cx_ZZ_p s),
  (by
    intro m hm
    show cx_IsI (cx_qq s k * cx_pr (cx_ee k) m)
    rw [cx_qq_pr]; exact hm k),
  (Rat.inv_pos.2 (cx_d_pos s k))⟩
def cx_turnB {n : Nat} [Zero (cx_Ex n)] [Add (cx_Ex n)] [Mul (cx_S (cx_Ex n))] [One (cx_S (cx_Ex n))] [Add (cx_S (cx_Ex n))] [Zero (cx_S (cx_Ex n))] [Inhabited (cx_Idx (cx_Ex n))] [Inhabited (PLift (cx_Exl n))] [∀ s : cx_Sd n, Add (cx_MM s)] [∀ s : cx_Sd n, Inhabited (PLift (cx_MGl (cx_MM s)))] [∀ s : cx_Sd n, Inhabited (cx_Tord (cx_Ex n) (cx_MM s))] [Inhabited (PLift (cx_MMl n))] (s : cx_Sd n) (k : Fin n) (i j : Fin n) : Int := if i = k ∨ j = k then - s.b i j else s.b i j + ((cx_pos (s.b i k) : Int) * s.b k j + s.b i k * (cx_pos (- s.b k j) : Int))
theorem cx_pos_mul (c : Nat) (x : Int) : (cx_pos ((c : Int) * x) : Int) = (c : Int) * (cx_pos x : Int) := by
  unfold cx_pos
  by_cases h : 0 ≤ x
  · have h1 := Int.mul_nonneg (Int.natCast_nonneg c) h
    rw [Int.toNat_of_nonneg h1, Int.toNat_of_nonneg h]
  · have h2 : x.toNat = 0 := by omega
    have h3 : 0 ≤ (c : Int) * (-x) := Int.mul_nonneg (Int.natCast_nonneg c) (by omega)
    have h4 : (c : Int) * (-x) = -((c : Int) * x) := by rw [Int.mul_neg]
    have h5 : ((c : Int) * x).toNat = 0 := by omega
    rw [h2, h5]; simp
theorem cx_pos_sk {n : Nat} [Zero (cx_Ex n)] [Add (cx_Ex n)] [Mul (cx_S (cx_Ex n))] [One (cx_S (cx_Ex n))] [Add (cx_S (cx_Ex n))] [Zero (cx_S (cx_Ex n))] [Inhabited (cx_Idx (cx_Ex n))] [Inhabited (PLift (cx_Exl n))] [∀ s : cx_Sd n, Add (cx_MM s)] [∀ s : cx_Sd n, Inhabited (PLift (cx_MGl (cx_MM s)))] [∀ s : cx_Sd n, Inhabited (cx_Tord (cx_Ex n) (cx_MM s))] [Inhabited (PLift (cx_MMl n))] (s : cx_Sd n) (i k : Fin n) : (s.d i : Int) * (cx_pos (s.b i k) : Int) = (s.d k : Int) * (cx_pos (- s.b k i) : Int) := by
  rw [← cx_pos_mul, ← cx_pos_mul, s.sk i k, Int.mul_neg]
theorem cx_pos_sk' {n : Nat} [Zero (cx_Ex n)] [Add (cx_Ex n)] [Mul (cx_S (cx_Ex n))] [One (cx_S (cx_Ex n))] [Add (cx_S (cx_Ex n))] [Zero (cx_S (cx_Ex n))] [Inhabited (cx_Idx (cx_Ex n))] [Inhabited (PLift (cx_Exl n))] [∀ s : cx_Sd n, Add (cx_MM s)] [∀ s : cx_Sd n, Inhabited (PLift (cx_MGl (cx_MM s)))] [∀ s : cx_Sd n, Inhabited (cx_Tord (cx_Ex n) (cx_MM s))] [Inhabited (PLift (cx_MMl n))] (s : cx_Sd n) (i k : Fin n) : (s.d i : Int) * (cx_pos (- s.b i k) : Int) = (s.d k : Int) * (cx_pos (s.b k i) : Int) := by
  rw [← cx_pos_mul, ← cx_pos_mul, Int.mul_neg, s.sk i k, Int.neg_neg]
theorem cx_posI (x : Int) : (cx_pos x : Int) = (cx_pos (-x) : Int) + x := by unfold cx_pos; omega
def cx_turn {n : Nat} [Zero (cx_Ex n)] [Add (cx_Ex n)] [Mul (cx_S (cx_Ex n))] [One (cx_S (cx_Ex n))] [Add (cx_S (cx_Ex n))] [Zero (cx_S (cx_Ex n))] [Inhabited (cx_Idx (cx_Ex n))] [Inhabited (PLift (cx_Exl n))] [∀ s : cx_Sd n, Add (cx_MM s)] [∀ s : cx_Sd n, Inhabited (PLift (cx_MGl (cx_MM s)))] [∀ s : cx_Sd n, Inhabited (cx_Tord (cx_Ex n) (cx_MM s))] [Inhabited (PLift (cx_MMl n))] (s : cx_Sd n) (k : Fin n) : cx_Sd n := ⟨(cx_turnB s k, s.d), s.dpos, fun i j => by
    show (s.d i : Int) * cx_turnB s k i j = - ((s.d j : Int) * cx_turnB s k j i)
    unfold cx_turnB
    by_cases h : i = k ∨ j = k
    · rw [if_pos h, if_pos (by rcases h with h | h; exact .inr h; exact .inl h)]
      have := s.sk i j
      rw [Int.mul_neg, Int.mul_neg, this]
    · rw [if_neg h, if_neg (fun h2 => h (by rcases h2 with h2 | h2; exact .inr h2; exact .inl h2))]
      have e1 := s.sk i j
      have e2 := s.sk i k
      have e3 := s.sk j k
      have e4 := cx_pos_sk s i k
      have e5 := cx_pos_sk s j k
      have e6 := cx_posI (s.b k i)
      have e7 := cx_posI (s.b k j)

      have f1 : (s.d i : Int) * ((cx_pos (s.b i k) : Int) * s.b k j) = (s.d k : Int) * ((cx_pos (- s.b k i) : Int) * s.b k j) := by
        rw [← Int.mul_assoc, e4, Int.mul_assoc]
      have f2 : (s.d i : Int) * (s.b i k * (cx_pos (- s.b k j) : Int)) = - ((s.d k : Int) * (s.b k i * (cx_pos (- s.b k j) : Int))) := by
        rw [← Int.mul_assoc, e2, Int.neg_mul, Int.mul_assoc]
      have f3 : (s.d j : Int) * ((cx_pos (s.b j k) : Int) * s.b k i) = (s.d k : Int) * ((cx_pos (- s.b k j) : Int) * s.b k i) := by
        rw [← Int.mul_assoc, e5, Int.mul_assoc]
      have f4 : (s.d j : Int) * (s.b j k * (cx_pos (- s.b k i) : Int)) = - ((s.d k : Int) * (s.b k j * (cx_pos (- s.b k i) : Int))) := by
        rw [← Int.mul_assoc, e3, Int.neg_mul, Int.mul_assoc]
      rw [Int.mul_add, Int.mul_add, Int.mul_add, Int.mul_add, f1, f2, f3, f4, e1]
      rw [Int.mul_comm (cx_pos (- s.b k i) : Int) (s.b k j), Int.mul_comm (cx_pos (- s.b k j) : Int) (s.b k i)]
      omega⟩
theorem cx_turn_d {n : Nat} [Zero (cx_Ex n)] [Add (cx_Ex n)] [Mul (cx_S (cx_Ex n))] [One (cx_S (cx_Ex n))] [Add (cx_S (cx_Ex n))] [Zero (cx_S (cx_Ex n))] [Inhabited (cx_Idx (cx_Ex n))] [Inhabited (PLift (cx_Exl n))] [∀ s : cx_Sd n, Add (cx_MM s)] [∀ s : cx_Sd n, Inhabited (PLift (cx_MGl (cx_MM s)))] [∀ s : cx_Sd n, Inhabited (cx_Tord (cx_Ex n) (cx_MM s))] [Inhabited (PLift (cx_MMl n))] (s : cx_Sd n) (k : Fin n) : (cx_turn s k).d = s.d := rfl
theorem cx_turn_row {n : Nat} [Zero (cx_Ex n)] [Add (cx_Ex n)] [Mul (cx_S (cx_Ex n))] [One (cx_S (cx_Ex n))] [Add (cx_S (cx_Ex n))] [Zero (cx_S (cx_Ex n))] [Inhabited (cx_Idx (cx_Ex n))] [Inhabited (PLift (cx_Exl n))] [∀ s : cx_Sd n, Add (cx_MM s)] [∀ s : cx_Sd n, Inhabited (PLift (cx_MGl (cx_MM s)))] [∀ s : cx_Sd n, Inhabited (cx_Tord (cx_Ex n) (cx_MM s))] [Inhabited (PLift (cx_MMl n))] (s : cx_Sd n) (k j : Fin n) : (cx_turn s k).b k j = - s.b k j := if_pos (.inl rfl)
theorem cx_turn_col {n : Nat} [Zero (cx_Ex n)] [Add (cx_Ex n)] [Mul (cx_S (cx_Ex n))] [One (cx_S (cx_Ex n))] [Add (cx_S (cx_Ex n))] [Zero (cx_S (cx_Ex n))] [Inhabited (cx_Idx (cx_Ex n))] [Inhabited (PLift (cx_Exl n))] [∀ s : cx_Sd n, Add (cx_MM s)] [∀ s : cx_Sd n, Inhabited (PLift (cx_MGl (cx_MM s)))] [∀ s : cx_Sd n, Inhabited (cx_Tord (cx_Ex n) (cx_MM s))] [Inhabited (PLift (cx_MMl n))] (s : cx_Sd n) (k i : Fin n) : (cx_turn s k).b i k = - s.b i k := if_pos (.inr rfl)
theorem cx_rm_turn {n : Nat} [Zero (cx_Ex n)] [Add (cx_Ex n)] [Mul (cx_S (cx_Ex n))] [One (cx_S (cx_Ex n))] [Add (cx_S (cx_Ex n))] [Zero (cx_S (cx_Ex n))] [Inhabited (cx_Idx (cx_Ex n))] [Inhabited (PLift (cx_Exl n))] [∀ s : cx_Sd n, Add (cx_MM s)] [∀ s : cx_Sd n, Inhabited (PLift (cx_MGl (cx_MM s)))] [∀ s : cx_Sd n, Inhabited (cx_Tord (cx_Ex n) (cx_MM s))] [Inhabited (PLift (cx_MMl n))] (s : cx_Sd n) (k : Fin n) : cx_rm (cx_turn s k) k = cx_rp s k := by
  funext i; unfold cx_rm cx_rp; rw [cx_turn_row, Int.neg_neg]
theorem cx_rp_turn {n : Nat} [Zero (cx_Ex n)] [Add (cx_Ex n)] [Mul (cx_S (cx_Ex n))] [One (cx_S (cx_Ex n))] [Add (cx_S (cx_Ex n))] [Zero (cx_S (cx_Ex n))] [Inhabited (cx_Idx (cx_Ex n))] [Inhabited (PLift (cx_Exl n))] [∀ s : cx_Sd n, Add (cx_MM s)] [∀ s : cx_Sd n, Inhabited (PLift (cx_MGl (cx_MM s)))] [∀ s : cx_Sd n, Inhabited (cx_Tord (cx_Ex n) (cx_MM s))] [Inhabited (PLift (cx_MMl n))] (s : cx_Sd n) (k : Fin n) : cx_rp (cx_turn s k) k = cx_rm s k := by
  funext i; unfold cx_rm cx_rp; rw [cx_turn_row]
theorem cx_turn_turn {n : Nat} [Zero (cx_Ex n)] [Add (cx_Ex n)] [Mul (cx_S (cx_Ex n))] [One (cx_S (cx_Ex n))] [Add (cx_S (cx_Ex n))] [Zero (cx_S (cx_Ex n))] [Inhabited (cx_Idx (cx_Ex n))] [Inhabited (PLift (cx_Exl n))] [∀ s : cx_Sd n, Add (cx_MM s)] [∀ s : cx_Sd n, Inhabited (PLift (cx_MGl (cx_MM s)))] [∀ s : cx_Sd n, Inhabited (cx_Tord (cx_Ex n) (cx_MM s))] [Inhabited (PLift (cx_MMl n))] (s : cx_Sd n) (k : Fin n) : cx_turn (cx_turn s k) k = s := by
  have hb : (cx_turn (cx_turn s k) k).b = s.b := by
    funext i j
    show cx_turnB (cx_turn s k) k i j = s.b i j
    unfold cx_turnB
    by_cases h : i = k ∨ j = k
    · rw [if_pos h]
      show - cx_turnB s k i j = _
      unfold cx_turnB
      rw [if_pos h, Int.neg_neg]
    · rw [if_neg h, cx_turn_col, cx_turn_row]
      show cx_turnB s k i j + _ = _
      unfold cx_turnB
      rw [if_neg h, Int.neg_neg]
      have e1 := cx_posI (s.b i k)
      have e2 := cx_posI (s.b k j)
      generalize (cx_pos (s.b i k) : Int) = A at *
      generalize (cx_pos (- s.b i k) : Int) = A' at *
      generalize (cx_pos (s.b k j) : Int) = C at *
      generalize (cx_pos (- s.b k j) : Int) = C' at *
      generalize s.b i k = x at *
      generalize s.b k j = y at *
      subst e1; subst e2
      grind
  exact Subtype.ext (Prod.ext hb rfl)
