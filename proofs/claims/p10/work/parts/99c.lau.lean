def cr_pw {n : Nat} (l : cr_Pl_ n) : Nat → cr_Pl_ n
  | 0 => [(1, fun _ => 0)]
  | m + 1 => cr_pmz l (cr_pw l m)
theorem cr_mo_zero {n : Nat} (v : Fin n → Rat) : cr_mo v (fun _ => 0) = 1 := cr_mol_zero _ v _ (fun _ _ => rfl)
theorem cr_vl_sing {n : Nat} (x : Fin n → Rat) (a : cr_Xp n) : cr_vl x [(1, a)] = cr_mo x a := by
  rw [cr_vl_cons, cr_vl_nil, show ((1 : Int) : Rat) = 1 from rfl]; grind
theorem cr_vl_one {n : Nat} (x : Fin n → Rat) : cr_vl x [(1, fun _ => 0)] = 1 := by rw [cr_vl_sing, cr_mo_zero]
theorem cr_vl_pw {n : Nat} {x : Fin n → Rat} (hx : ∀ j, 0 < x j) {l : cr_Pl_ n} (hl : 0 < cr_vl x l) (m : Nat) : cr_vl x (cr_pw l m) = (cr_vl x l) ^ (m : Int) := by
  induction m with
  | zero => rw [show ((0 : Nat) : Int) = 0 from rfl, Rat.zpow_zero]; exact cr_vl_one x
  | succ m ih =>
    show cr_vl x (cr_pmz l (cr_pw l m)) = _
    rw [cr_vl_pmz hx, ih, show ((m + 1 : Nat) : Int) = 1 + (m : Int) by omega, cr_zp_add hl, Rat.zpow_one]
def cr_Pk {n : Nat} (b : Fin n → Fin n → Int) (k : Fin n) : cr_Pl_ n := [(1, fun i => (cx_pos (b i k) : Int)), (1, fun i => (cx_pos (- b i k) : Int))]
def cr_P {n : Nat} (b : Fin n → Fin n → Int) (k : Fin n) (x : Fin n → Rat) : Rat := cr_mo x (fun i => (cx_pos (b i k) : Int)) + cr_mo x (fun i => (cx_pos (- b i k) : Int))
theorem cr_vl_Pk {n : Nat} (b : Fin n → Fin n → Int) (k : Fin n) (x : Fin n → Rat) : cr_vl x (cr_Pk b k) = cr_P b k x := by
  unfold cr_Pk cr_P
  rw [cr_vl_cons, cr_vl_sing, show ((1 : Int) : Rat) = 1 from rfl]; grind
theorem cr_P_pos {n : Nat} (b : Fin n → Fin n → Int) (k : Fin n) {x : Fin n → Rat} (hx : ∀ j, 0 < x j) : 0 < cr_P b k x := by
  unfold cr_P
  have h1 := cr_mo_pos hx (fun i => (cx_pos (b i k) : Int))
  have h2 := cr_mo_pos hx (fun i => (cx_pos (- b i k) : Int))
  grind
theorem cr_step_k {n : Nat} (b : Fin n → Fin n → Int) (k : Fin n) (x : Fin n → Rat) : cr_stepv b k x k = cr_P b k x * (x k)⁻¹ := if_pos rfl
theorem cr_step_ne {n : Nat} (b : Fin n → Fin n → Int) {k j : Fin n} (x : Fin n → Rat) (h : j ≠ k) : cr_stepv b k x j = x j := if_neg h
def cr_up {n : Nat} (a : cr_Xp n) (k : Fin n) (c : Int) : cr_Xp n := fun i => if i = k then c else a i
theorem cr_up_k {n : Nat} (a : cr_Xp n) (k : Fin n) (c : Int) : cr_up a k c k = c := if_pos rfl
theorem cr_up_ne {n : Nat} (a : cr_Xp n) {k i : Fin n} (c : Int) (h : i ≠ k) : cr_up a k c i = a i := if_neg h
theorem cr_mo_up {n : Nat} (x : Fin n → Rat) (a : cr_Xp n) (k : Fin n) (c : Int) : cr_mo x (cr_up a k c) = x k ^ c * cr_mo x (cr_up a k 0) := by
  rw [cr_mo_split k, cr_up_k]
  congr 1
  refine cr_mo_congr (fun j => ?_)
  by_cases hj : j = k
  · rw [if_pos hj, hj, cr_up_k]
  · rw [if_neg hj, cr_up_ne _ _ hj, cr_up_ne _ _ hj]
theorem cr_mo_up0 {n : Nat} (x : Fin n → Rat) (a : cr_Xp n) (k : Fin n) : cr_mo x a = x k ^ a k * cr_mo x (cr_up a k 0) := by
  have : cr_up a k (a k) = a := funext fun i => by
    by_cases h : i = k
    · rw [h, cr_up_k]
    · rw [cr_up_ne _ _ h]
  rw [← cr_mo_up, this]
theorem cr_inv_zp {x : Rat} (h : 0 < x) (z : Int) : (x⁻¹) ^ z = x ^ (- z) := by
  have p3 : 0 < x⁻¹ := Rat.inv_pos.2 h
  have h1 : (x⁻¹) ^ z * x ^ z = 1 := by
    rw [← cr_mul_zp p3 h, Rat.inv_mul_cancel _ (by grind), cr_one_zp]
  have h2 : x ^ (- z) * x ^ z = 1 := by rw [← cr_zp_add h, Int.add_left_neg, Rat.zpow_zero]
  refine cx_canc_pos (Rat.zpow_pos h : 0 < x ^ z) ?_
  rw [h1, h2]
theorem cr_mo_agree {n : Nat} {x x' : Fin n → Rat} (k : Fin n) (h : ∀ j, j ≠ k → x j = x' j) (a : cr_Xp n) (ha : a k = 0) : cr_mo x a = cr_mo x' a :=
  cr_mo_congr (fun j => by
    by_cases hj : j = k
    · rw [hj, ha, Rat.zpow_zero, Rat.zpow_zero]
    · rw [h j hj])
theorem cr_mo_step {n : Nat} (b : Fin n → Fin n → Int) (k : Fin n) {x : Fin n → Rat} (hx : ∀ j, 0 < x j) (a : cr_Xp n) : cr_mo (cr_stepv b k x) a = (cr_P b k x) ^ a k * cr_mo x (cr_up a k (- a k)) := by
  rw [cr_mo_up0 (cr_stepv b k x) a k, cr_step_k, cr_mul_zp (cr_P_pos b k hx) (Rat.inv_pos.2 (hx k)), cr_inv_zp (hx k), cr_mo_up x a k (- a k),
    cr_mo_agree k (fun j hj => cr_step_ne b x hj) (cr_up a k 0) (cr_up_k a k 0)]
  grind
def cr_ex {n : Nat} (b : Fin n → Fin n → Int) (k : Fin n) (M : Nat) (y : Int × cr_Xp n) : cr_Pl_ n := cr_shz (y.1, cr_up y.2 k (- y.2 k)) (cr_pw (cr_Pk b k) ((M : Int) + y.2 k).toNat)
theorem cr_vl_ex {n : Nat} (b : Fin n → Fin n → Int) (k : Fin n) {x : Fin n → Rat} (hx : ∀ j, 0 < x j) (M : Nat) (y : Int × cr_Xp n) (h : 0 ≤ (M : Int) + y.2 k) :
    cr_vl x (cr_ex b k M y) = (y.1 : Rat) * cr_mo (cr_stepv b k x) y.2 * (cr_P b k x) ^ (M : Int) := by
  have hP := cr_P_pos b k hx
  unfold cr_ex
  rw [cr_vl_shz hx, cr_vl_pw hx (by rw [cr_vl_Pk]; exact hP), cr_vl_Pk, Int.toNat_of_nonneg h, cr_zp_add hP, cr_mo_step b k hx]
  grind
theorem cr_vl_flat {α : Type} {n : Nat} (x : Fin n → Rat) (l : List α) (f : α → cr_Pl_ n) : cr_vl x (l.flatMap f) = cx_sm l (fun y => cr_vl x (f y)) := by
  induction l with
  | nil => rfl
  | cons y l ih => rw [List.flatMap_cons, cr_vl_app, ih, cx_sm_cons]
theorem cr_vl_exs {n : Nat} (b : Fin n → Fin n → Int) (k : Fin n) {x : Fin n → Rat} (hx : ∀ j, 0 < x j) (M : Nat) (l : cr_Pl_ n) (h : ∀ y ∈ l, 0 ≤ (M : Int) + y.2 k) :
    cr_vl x (l.flatMap (cr_ex b k M)) = cr_vl (cr_stepv b k x) l * (cr_P b k x) ^ (M : Int) := by
  rw [cr_vl_flat]
  induction l with
  | nil => rw [cx_sm_nil, cr_vl_nil]; grind
  | cons y l ih => rw [cx_sm_cons, cr_vl_cons, cr_vl_ex b k hx M y (h y (by simp)), ih (fun z hz => h z (by simp [hz]))]; grind
def cr_fl {n : Nat} (p : cr_Xp n → Bool) (l : cr_Pl_ n) : cr_Pl_ n := l.filter (fun y => p y.2)
theorem cr_mem_fl {n : Nat} {p : cr_Xp n → Bool} {l : cr_Pl_ n} {y : Int × cr_Xp n} : y ∈ cr_fl p l ↔ y ∈ l ∧ p y.2 = true := by
  unfold cr_fl
  rw [List.mem_filter]
theorem cr_co_fl {n : Nat} (p : cr_Xp n → Bool) (l : cr_Pl_ n) (a : cr_Xp n) : cr_co (cr_fl p l) a = if p a = true then cr_co l a else 0 := by
  classical
  induction l with
  | nil => by_cases h : p a = true; rw [if_pos h]; rfl; rw [if_neg h]; rfl
  | cons y l ih =>
    unfold cr_fl at ih ⊢
    by_cases hy : p y.2 = true
    · rw [List.filter_cons_of_pos (p := fun y : Int × cr_Xp n => p y.2) hy, cr_co_cons, ih, cr_co_cons]
      by_cases e : y.2 = a
      · rw [if_pos e, if_pos (by rw [← e]; exact hy), if_pos (by rw [← e]; exact hy)]
      · rw [if_neg e]
        by_cases h : p a = true
        · rw [if_pos h, if_pos h]
        · rw [if_neg h, if_neg h]; rfl
    · rw [List.filter_cons_of_neg (p := fun y : Int × cr_Xp n => p y.2) hy, ih, cr_co_cons]
      by_cases e : y.2 = a
      · rw [if_neg (by rw [← e]; exact hy), if_neg (by rw [← e]; exact hy)]
      · rw [if_neg e]
        by_cases h : p a = true
        · rw [if_pos h, if_pos h]; omega
        · rw [if_neg h, if_neg h]
theorem cr_fl_unique {n : Nat} {l l' : cr_Pl_ n} (h : ∀ x : cr_Pv n, cr_vl x.1 l = cr_vl x.1 l') (p : cr_Xp n → Bool) (x : Fin n → Rat) : cr_vl x (cr_fl p l) = cr_vl x (cr_fl p l') :=
  cr_vl_co x (fun a => by rw [cr_co_fl, cr_co_fl, cr_vl_unique h a])
theorem cr_fl_flat {α : Type} {n : Nat} (l : List α) (f : α → cr_Pl_ n) (p : cr_Xp n → Bool) (q : α → Bool) (h : ∀ y ∈ l, ∀ z ∈ f y, p z.2 = q y) : cr_fl p (l.flatMap f) = (l.filter q).flatMap f := by
  unfold cr_fl
  induction l with
  | nil => rfl
  | cons y l ih =>
    rw [List.flatMap_cons, List.filter_append, ih (fun z hz => h z (by simp [hz]))]
    have hy := h y (by simp)
    by_cases hq : q y = true
    · rw [List.filter_cons_of_pos hq, List.flatMap_cons, List.filter_eq_self.2 (fun z hz => by rw [hy z hz]; exact hq)]
    · rw [List.filter_cons_of_neg hq, List.filter_eq_nil_iff.2 (fun z hz => by rw [hy z hz]; exact hq), List.nil_append]
theorem cr_fl_split {n : Nat} (x : Fin n → Rat) (p : cr_Xp n → Bool) (l : cr_Pl_ n) : cr_vl x l = cr_vl x (cr_fl p l) + cr_vl x (cr_fl (fun a => !p a) l) := by
  unfold cr_fl
  induction l with
  | nil => rw [List.filter_nil, List.filter_nil, cr_vl_nil]; grind
  | cons y l ih =>
    rw [cr_vl_cons, ih]
    cases hy : p y.2
    · rw [List.filter_cons_of_neg (by simp [hy]), List.filter_cons_of_pos (by simp [hy]), cr_vl_cons]; grind
    · rw [List.filter_cons_of_pos (by simp [hy]), List.filter_cons_of_neg (by simp [hy]), cr_vl_cons]; grind
theorem cr_mem_shz {n : Nat} {y z : Int × cr_Xp n} {l : cr_Pl_ n} (h : z ∈ cr_shz y l) : ∃ u ∈ l, z = (y.1 * u.1, fun i => y.2 i + u.2 i) := by
  obtain ⟨u, hu, e⟩ := List.mem_map.1 h
  exact ⟨u, hu, e.symm⟩
theorem cr_mem_pmz {n : Nat} {z : Int × cr_Xp n} {l l' : cr_Pl_ n} (h : z ∈ cr_pmz l l') : ∃ y ∈ l, ∃ u ∈ l', z = (y.1 * u.1, fun i => y.2 i + u.2 i) := by
  obtain ⟨y, hy, e⟩ := List.mem_flatMap.1 h
  exact ⟨y, hy, cr_mem_shz e⟩
theorem cr_pw_all {n : Nat} (φ : cr_Xp n → Int) (h0 : φ (fun _ => 0) = 0) (ha : ∀ a c : cr_Xp n, φ (fun i => a i + c i) = φ a + φ c) {l : cr_Pl_ n} (h : ∀ u ∈ l, φ u.2 = 0) : ∀ m, ∀ u ∈ cr_pw l m, φ u.2 = 0
  | 0, u, hu => by
    have : u = (1, fun _ => 0) := by simpa [cr_pw] using hu
    rw [this]; exact h0
  | m + 1, u, hu => by
    obtain ⟨y, hy, w, hw, rfl⟩ := cr_mem_pmz hu
    show φ (fun i => y.2 i + w.2 i) = 0
    rw [ha, h y hy, cr_pw_all φ h0 ha h m w hw]; rfl
theorem cr_pw_pos {n : Nat} {l : cr_Pl_ n} (h : ∀ u ∈ l, 0 < u.1) : ∀ m, ∀ u ∈ cr_pw l m, 0 < u.1
  | 0, u, hu => by
    have : u = (1, fun _ => 0) := by simpa [cr_pw] using hu
    rw [this]; show (0 : Int) < 1; omega
  | m + 1, u, hu => by
    obtain ⟨y, hy, w, hw, rfl⟩ := cr_mem_pmz hu
    exact Int.mul_pos (h y hy) (cr_pw_pos h m w hw)
theorem cr_Pk_at {n : Nat} {b : Fin n → Fin n → Int} {i k : Fin n} (h : b i k = 0) : ∀ u ∈ cr_Pk b k, u.2 i = 0 := by
  intro u hu
  unfold cr_Pk at hu
  simp only [List.mem_cons, List.not_mem_nil, or_false] at hu
  rcases hu with rfl | rfl
  · show ((cx_pos (b i k) : Nat) : Int) = 0; rw [h]; rfl
  · show ((cx_pos (- b i k) : Nat) : Int) = 0; rw [h]; rfl
theorem cr_ex_at {n : Nat} {b : Fin n → Fin n → Int} {i k : Fin n} (h : b i k = 0) (M : Nat) (y : Int × cr_Xp n) : ∀ z ∈ cr_ex b k M y, z.2 i = cr_up y.2 k (- y.2 k) i := by
  intro z hz
  obtain ⟨u, hu, rfl⟩ := cr_mem_shz hz
  have := cr_pw_all (fun a => a i) rfl (fun _ _ => rfl) (cr_Pk_at h) _ u hu
  show cr_up y.2 k (- y.2 k) i + u.2 i = _
  rw [this]; omega
theorem cr_bound {n : Nat} (l : cr_Pl_ n) (k : Fin n) : ∃ M : Nat, ∀ y ∈ l, 0 ≤ (M : Int) + y.2 k := by
  induction l with
  | nil => exact ⟨0, fun y hy => by simp at hy⟩
  | cons y l ih =>
    obtain ⟨M, h⟩ := ih
    refine ⟨M + (y.2 k).natAbs, fun z hz => ?_⟩
    rcases List.mem_cons.1 hz with rfl | hz
    · omega
    · have := h z hz; omega
theorem cr_row {n : Nat} {b : Fin n → Fin n → Int} {i k : Fin n} (hb : b i k = 0) {l0 l1 : cr_Pl_ n} (h : ∀ x : cr_Pv n, cr_vl x.1 l0 = cr_vl (cr_stepv b k x.1) l1) (p : Int → Bool) (x : cr_Pv n) :
    cr_vl x.1 (cr_fl (fun a => p (a i)) l0) = cr_vl (cr_stepv b k x.1) (cr_fl (fun a => p (cr_up a k (- a k) i)) l1) := by
  obtain ⟨M, hM⟩ := cr_bound l1 k
  have e : ∀ x : cr_Pv n, cr_vl x.1 (l0.flatMap (fun y => cr_shz y (cr_pw (cr_Pk b k) M))) = cr_vl x.1 (l1.flatMap (cr_ex b k M)) := fun x => by
    rw [cr_vl_exs b k x.2 M l1 hM, ← h x]
    show cr_vl x.1 (cr_pmz l0 (cr_pw (cr_Pk b k) M)) = _
    rw [cr_vl_pmz x.2, cr_vl_pw x.2 (by rw [cr_vl_Pk]; exact cr_P_pos b k x.2), cr_vl_Pk]
  have e2 := cr_fl_unique e (fun a => p (a i)) x.1
  rw [cr_fl_flat l0 _ _ (fun y => p (y.2 i)) (fun y _ z hz => by
    obtain ⟨u, hu, rfl⟩ := cr_mem_shz hz
    have := cr_pw_all (fun a => a i) rfl (fun _ _ => rfl) (cr_Pk_at hb) _ u hu
    show p (y.2 i + u.2 i) = p (y.2 i)
    have h2 : u.2 i = 0 := this
    rw [h2, Int.add_zero]), cr_fl_flat l1 _ _ (fun y => p (cr_up y.2 k (- y.2 k) i)) (fun y _ z hz => by
    show p (z.2 i) = _
    rw [cr_ex_at hb M y z hz])] at e2
  have e3 : cr_vl x.1 (cr_pmz (cr_fl (fun a => p (a i)) l0) (cr_pw (cr_Pk b k) M)) = cr_vl x.1 ((cr_fl (fun a => p (cr_up a k (- a k) i)) l1).flatMap (cr_ex b k M)) := e2
  rw [cr_vl_pmz x.2, cr_vl_pw x.2 (by rw [cr_vl_Pk]; exact cr_P_pos b k x.2), cr_vl_Pk, cr_vl_exs b k x.2 M _ (fun y hy => hM y (cr_mem_fl.1 hy).1)] at e3
  exact cx_canc_pos (Rat.zpow_pos (cr_P_pos b k x.2)) e3
theorem cr_P_step {n : Nat} (b : Fin n → Fin n → Int) {k : Fin n} (hb : b k k = 0) (x : Fin n → Rat) : cr_P b k (cr_stepv b k x) = cr_P b k x := by
  unfold cr_P
  rw [cr_mo_agree k (fun j hj => cr_step_ne b x hj) (fun i => (cx_pos (b i k) : Int)) (by rw [hb]; rfl), cr_mo_agree k (fun j hj => cr_step_ne b x hj) (fun i => (cx_pos (- b i k) : Int)) (by rw [hb]; rfl)]
theorem cr_step_step {n : Nat} (b : Fin n → Fin n → Int) {k : Fin n} (hb : b k k = 0) {x : Fin n → Rat} (hx : ∀ j, 0 < x j) : cr_stepv b k (cr_stepv b k x) = x := by
  funext j
  by_cases hj : j = k
  · subst hj
    rw [cr_step_k, cr_P_step b hb, cr_step_k, Rat.inv_mul_rev, Rat.inv_inv]
    have hP := cr_P_pos b j hx
    have : cr_P b j x * (cr_P b j x)⁻¹ = 1 := Rat.mul_inv_cancel _ (by grind)
    grind
  · rw [cr_step_ne b _ hj, cr_step_ne b _ hj]
def cr_sp {n : Nat} (b : Fin n → Fin n → Int) (k : Fin n) (x : cr_Pv n) : cr_Pv n := ⟨cr_stepv b k x.1, cr_stepv_pos b k x.2⟩
theorem cr_sp_sp {n : Nat} (b : Fin n → Fin n → Int) {k : Fin n} (hb : b k k = 0) (x : cr_Pv n) : cr_sp b k (cr_sp b k x) = x := Subtype.ext (cr_step_step b hb x.2)
def cr_Lau {n m : Nat} (q : cr_Pv n → cr_Pv m) (f : cr_Pv n → Rat) : Prop := ∃ l : cr_Pl_ m, ∀ x, f x = cr_vl (q x).1 l
theorem cr_Lau.add {n m : Nat} {q : cr_Pv n → cr_Pv m} {f g : cr_Pv n → Rat} (hf : cr_Lau q f) (hg : cr_Lau q g) : cr_Lau q (fun x => f x + g x) := by
  obtain ⟨l, hl⟩ := hf
  obtain ⟨l', hl'⟩ := hg
  exact ⟨l ++ l', fun x => by show f x + g x = _; rw [cr_vl_app, hl, hl']⟩
theorem cr_Lau.mul {n m : Nat} {q : cr_Pv n → cr_Pv m} {f g : cr_Pv n → Rat} (hf : cr_Lau q f) (hg : cr_Lau q g) : cr_Lau q (fun x => f x * g x) := by
  obtain ⟨l, hl⟩ := hf
  obtain ⟨l', hl'⟩ := hg
  exact ⟨cr_pmz l l', fun x => by show f x * g x = _; rw [cr_vl_pmz (q x).2, hl, hl']⟩
theorem cr_Lau.mono {n m : Nat} (q : cr_Pv n → cr_Pv m) (a : cr_Xp m) : cr_Lau q (fun x => cr_mo (q x).1 a) := ⟨[(1, a)], fun x => (cr_vl_sing _ a).symm⟩
theorem cr_Lau.int {n m : Nat} (q : cr_Pv n → cr_Pv m) (c : Int) : cr_Lau q (fun _ => (c : Rat)) := ⟨[(c, fun _ => 0)], fun x => by rw [cr_vl_cons, cr_vl_nil, cr_mo_zero]; grind⟩
theorem cr_Lau.congr {n m : Nat} {q : cr_Pv n → cr_Pv m} {f g : cr_Pv n → Rat} (hf : cr_Lau q f) (h : ∀ x, g x = f x) : cr_Lau q g := by
  obtain ⟨l, hl⟩ := hf
  exact ⟨l, fun x => by rw [h, hl]⟩
theorem cr_Lau.neg {n m : Nat} {q : cr_Pv n → cr_Pv m} {f : cr_Pv n → Rat} (hf : cr_Lau q f) : cr_Lau q (fun x => - f x) :=
  ((cr_Lau.int q (-1)).mul hf).congr (fun x => by rw [show ((-1 : Int) : Rat) = -1 from rfl]; grind)
theorem cr_Lau.pow {n m : Nat} {q : cr_Pv n → cr_Pv m} {f : cr_Pv n → Rat} (hf : cr_Lau q f) (hp : ∀ x, 0 < f x) : ∀ e : Nat, cr_Lau q (fun x => f x ^ (e : Int))
  | 0 => (cr_Lau.int q 1).congr (fun x => by rw [show ((0 : Nat) : Int) = 0 from rfl, Rat.zpow_zero]; rfl)
  | e + 1 => (hf.mul (cr_Lau.pow hf hp e)).congr (fun x => by rw [show ((e + 1 : Nat) : Int) = 1 + (e : Int) by omega, cr_zp_add (hp x), Rat.zpow_one])
theorem cr_Lau.sum {α : Type} {n m : Nat} {q : cr_Pv n → cr_Pv m} {f : α → cr_Pv n → Rat} : ∀ l : List α, (∀ y ∈ l, cr_Lau q (f y)) → cr_Lau q (fun x => cx_sm l (fun y => f y x))
  | [], _ => (cr_Lau.int q 0).congr (fun x => rfl)
  | y :: l, h => ((h y (by simp)).add (cr_Lau.sum l (fun z hz => h z (by simp [hz])))).congr (fun x => by rw [cx_sm_cons])
theorem cr_Lau.nonneg {n : Nat} (b : Fin n → Fin n → Int) {k : Fin n} (hb : b k k = 0) {l : cr_Pl_ n} (h : ∀ y ∈ l, 0 ≤ y.2 k) : cr_Lau (cr_sp b k) (fun x => cr_vl x.1 l) :=
  ⟨l.flatMap (cr_ex b k 0), fun x => by
    show cr_vl x.1 l = cr_vl (cr_stepv b k x.1) _
    rw [cr_vl_exs b k (cr_stepv_pos b k x.2) 0 l (fun y hy => by have := h y hy; omega), cr_step_step b hb x.2, show ((0 : Nat) : Int) = 0 from rfl, Rat.zpow_zero, Rat.mul_one]⟩
