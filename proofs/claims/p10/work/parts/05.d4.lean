theorem cx_split_sorted {B : Type} [Zero B] [Add B] [Mul (cx_S B)] [One (cx_S B)] [Add (cx_S B)] [Zero (cx_S B)] [Inhabited (cx_Idx B)] {l : List B} {κ : B → Rat} (h : l.Pairwise (fun x y => κ x ≤ κ y)) (σ : Rat) :
    l = l.filter (fun x => decide (κ x < σ)) ++ l.filter (fun x => decide (κ x = σ)) ++ l.filter (fun x => decide (σ < κ x)) := by
  induction l with
  | nil => rfl
  | cons x l ih =>
    rw [List.pairwise_cons] at h
    have ih := ih h.2
    by_cases h1 : κ x < σ
    · rw [List.filter_cons_of_pos (by simpa using h1), List.filter_cons_of_neg (by simp; grind), List.filter_cons_of_neg (by simp; grind)]
      rw [List.cons_append, List.cons_append, ← ih]
    · have e1 : l.filter (fun x => decide (κ x < σ)) = [] := by
        rw [List.filter_eq_nil_iff]; intro y hy; have := h.1 y hy; simp; grind
      rw [e1, List.nil_append] at ih
      by_cases h2 : κ x = σ
      · rw [List.filter_cons_of_neg (by simpa using h1), List.filter_cons_of_pos (by simpa using h2), List.filter_cons_of_neg (by simp; grind)]
        rw [e1, List.nil_append, List.cons_append, ← ih]
      · have e2 : l.filter (fun x => decide (κ x = σ)) = [] := by
          rw [List.filter_eq_nil_iff]; intro y hy; have := h.1 y hy; simp; grind
        rw [e2, List.nil_append] at ih
        rw [List.filter_cons_of_neg (by simpa using h1), List.filter_cons_of_neg (by simpa using h2), List.filter_cons_of_pos (by simp; grind)]
        rw [e1, e2, List.nil_append, List.nil_append, ← ih]
theorem cx_suf_pair {B : Type} [Zero B] [Add B] [Mul (cx_S B)] [One (cx_S B)] [Add (cx_S B)] [Zero (cx_S B)] [Inhabited (cx_Idx B)] {M : Type} [Add M] [Inhabited (PLift (cx_MGl M))] [Inhabited (cx_Tord B M)] {T : B → Prop} {e : Nat} (r : List B) (hs : cx_Suf M T e r) : r.Pairwise (fun x y => 0 ≤ cx_pr y (cx_p x : M)) := by
  induction r with
  | nil => exact List.Pairwise.nil
  | cons x r ih =>
    obtain ⟨_, h2, _, h4⟩ := hs
    exact List.Pairwise.cons h2 (ih h4)
def cx_Ta {B : Type} [Zero B] [Add B] [Mul (cx_S B)] [One (cx_S B)] [Add (cx_S B)] [Zero (cx_S B)] [Inhabited (cx_Idx B)] (M : Type) [Add M] [Inhabited (PLift (cx_MGl M))] [Inhabited (cx_Tord B M)] (a : B) : B → Rat := fun b => cx_pr b (cx_p a : M)
theorem cx_Ta_fun {B : Type} [Zero B] [Add B] [Mul (cx_S B)] [One (cx_S B)] [Add (cx_S B)] [Zero (cx_S B)] [Inhabited (cx_Idx B)] {M : Type} [Add M] [Inhabited (PLift (cx_MGl M))] [Inhabited (cx_Tord B M)] (a : B) : cx_Fun (cx_Ta M a) := cx_fun_pr (cx_p a : M)
theorem cx_Ta_van {B : Type} [Zero B] [Add B] [Mul (cx_S B)] [One (cx_S B)] [Add (cx_S B)] [Zero (cx_S B)] [Inhabited (cx_Idx B)] {M : Type} [Add M] [Inhabited (PLift (cx_MGl M))] [Inhabited (cx_Tord B M)] {a : B} (ha : a ≠ 0) : cx_Van (cx_Par a) (cx_Ta M a) := cx_Van.par ha (cx_Ta_fun a) (cx_pr_self a)
theorem cx_joint_coord {B : Type} [Zero B] [Add B] [Mul (cx_S B)] [One (cx_S B)] [Add (cx_S B)] [Zero (cx_S B)] [Inhabited (cx_Idx B)] {a b0 : B} {T : B → Rat} (hT : cx_Van (cx_Par a) T) (ha : a ≠ 0) (hT0 : T b0 ≠ 0) (v : B → Rat) (hv : cx_Fun v) :
    ∃ α β : Rat, ∀ x, cx_Sp (cx_Par a) b0 x → v x = α * cx_dg x + β * T x := by
  have hda := cx_dg_pos ha
  have e1 : v a / cx_dg a * cx_dg a = v a := Rat.div_mul_cancel (by grind)
  generalize v a / cx_dg a = α at e1
  have e2 : (v b0 - α * cx_dg b0) / T b0 * T b0 = v b0 - α * cx_dg b0 := Rat.div_mul_cancel hT0
  generalize (v b0 - α * cx_dg b0) / T b0 = β at e2
  refine ⟨α, β, fun x hx => ?_⟩
  have hTa : T a = 0 := hT.2 a (cx_Par.refl a)
  have fw : cx_Fun (fun b => v b + (-1) * (α * cx_dg b + β * T b)) := hv.plus (cx_fun_dg.lin hT.1 α β) (-1)
  have h1 := hx _ (cx_Van.par ha fw (by show v a + (-1) * (α * cx_dg a + β * T a) = 0; rw [hTa]; grind)) (by show v b0 + (-1) * (α * cx_dg b0 + β * T b0) = 0; grind)
  grind
theorem cx_joint_form {B : Type} [Zero B] [Add B] [Mul (cx_S B)] [One (cx_S B)] [Add (cx_S B)] [Zero (cx_S B)] [Inhabited (cx_Idx B)] {M : Type} [Add M] [Inhabited (PLift (cx_MGl M))] [Inhabited (cx_Tord B M)] {a b0 : B} (ha : a ≠ 0) (x y : B) (hx : cx_Sp (cx_Par a) b0 x) (hy : cx_Sp (cx_Par a) b0 y) :
    cx_pr y (cx_p x : M) * cx_dg a = cx_Ta M a y * cx_dg x - cx_Ta M a x * cx_dg y := by
  have w1 : ∀ x, cx_Sp (cx_Par a) b0 x → cx_pr b0 (cx_p x : M) * cx_dg a = cx_Ta M a b0 * cx_dg x - cx_Ta M a x * cx_dg b0 := by
    intro x hx
    have fw : cx_Fun (fun z : B => (-(cx_dg a)) * cx_pr z (cx_p b0 : M) + (-1) * (cx_Ta M a b0 * cx_dg z + (-(cx_dg b0)) * cx_Ta M a z)) :=
      (cx_fun_pr (cx_p b0 : M)).lin (cx_fun_dg.lin (cx_Ta_fun a) (cx_Ta M a b0) (-(cx_dg b0))) (-(cx_dg a)) (-1)
    have h := hx _ (cx_Van.par ha fw (by
      show (-(cx_dg a)) * cx_pr a (cx_p b0 : M) + (-1) * (cx_Ta M a b0 * cx_dg a + (-(cx_dg b0)) * cx_Ta M a a) = 0
      have e1 : cx_Ta M a a = 0 := cx_pr_self a
      have e2 : cx_pr a (cx_p b0 : M) = - cx_Ta M a b0 := cx_skew a b0
      rw [e1, e2]; grind)) (by
      show (-(cx_dg a)) * cx_pr b0 (cx_p b0 : M) + (-1) * (cx_Ta M a b0 * cx_dg b0 + (-(cx_dg b0)) * cx_Ta M a b0) = 0
      rw [cx_pr_self]; grind)
    have e3 : cx_pr b0 (cx_p x : M) = - cx_pr x (cx_p b0 : M) := cx_skew b0 x
    rw [e3]; grind
  have fw : cx_Fun (fun z : B => cx_dg a * cx_pr z (cx_p x : M) + (-1) * (cx_dg x * cx_Ta M a z + (- cx_Ta M a x) * cx_dg z)) :=
    (cx_fun_pr (cx_p x : M)).lin ((cx_Ta_fun a).lin cx_fun_dg (cx_dg x) (- cx_Ta M a x)) (cx_dg a) (-1)
  have h := hy _ (cx_Van.par ha fw (by
    show cx_dg a * cx_pr a (cx_p x : M) + (-1) * (cx_dg x * cx_Ta M a a + (- cx_Ta M a x) * cx_dg a) = 0
    have e1 : cx_Ta M a a = 0 := cx_pr_self a
    have e2 : cx_pr a (cx_p x : M) = - cx_Ta M a x := cx_skew a x
    rw [e1, e2]; grind)) (by
    show cx_dg a * cx_pr b0 (cx_p x : M) + (-1) * (cx_dg x * cx_Ta M a b0 + (- cx_Ta M a x) * cx_dg b0) = 0
    have := w1 x hx
    grind)
  grind
theorem cx_div_eq {x y c d : Rat} (hc : 0 < c) (hd : 0 < d) : x / c = y / d ↔ x * d = y * c := by
  have e1 : x / c * c = x := Rat.div_mul_cancel (by grind)
  have e2 : y / d * d = y := Rat.div_mul_cancel (by grind)
  generalize x / c = u at *
  generalize y / d = v at *
  constructor
  · intro h; subst h; grind
  · intro h
    refine cx_canc_pos (Rat.mul_pos hc hd) ?_
    grind
def cx_PosAt {B : Type} [Zero B] [Add B] [Mul (cx_S B)] [One (cx_S B)] [Add (cx_S B)] [Zero (cx_S B)] [Inhabited (cx_Idx B)] {M : Type} [Add M] [Inhabited (PLift (cx_MGl M))] [Inhabited (cx_Tord B M)] (g : M → cx_S B) (a : B) : Prop := ∀ t, cx_Gen (cx_Par a) (cx_deg a) t → ∀ f, cx_Lam g a (cx_deg a) t f → 0 ≤ f a
def cx_Inc {B : Type} [Zero B] [Add B] [Mul (cx_S B)] [One (cx_S B)] [Add (cx_S B)] [Zero (cx_S B)] [Inhabited (cx_Idx B)] {M : Type} [Add M] [Inhabited (PLift (cx_MGl M))] [Inhabited (cx_Tord B M)] (g : M → cx_S B) (cx_std : B → Rat) : Prop := ∀ a, a ≠ 0 → ∀ t, cx_Gen (cx_Par a) (cx_deg a) t → (∀ b, cx_deg b ≤ cx_deg a → 0 ≤ t b * cx_pr b (cx_p a : M)) →
  ∀ f, cx_Lam g a (cx_deg a) t f → f a = cx_std a
theorem cx_wall_step {B : Type} [Zero B] [Add B] [Mul (cx_S B)] [One (cx_S B)] [Add (cx_S B)] [Zero (cx_S B)] [Inhabited (cx_Idx B)] {M : Type} [Add M] [Inhabited (PLift (cx_MGl M))] [Inhabited (cx_Tord B M)] {Z : M → Prop} {g : M → cx_S B} (h : cx_Wh Z g) {a b0 : B} (ha : a ≠ 0) (hlow : ∀ x : B, x ≠ 0 → cx_deg x < cx_deg a → cx_PosAt g x)
    {t t' t1 : B → Rat} (ht : cx_Gen (cx_Par a) (cx_deg a) t) (ht' : cx_Gen (cx_Par a) (cx_deg a) t') (hj : cx_Joint (cx_Par a) (cx_deg a) (cx_Ta M a) t1 b0)
    (hn : cx_Near cx_All (cx_deg a) t1 (fun b => - cx_Ta M a b) t) (hn' : cx_Near cx_All (cx_deg a) t1 (cx_Ta M a) t')
    (hp : ∀ f, cx_Lam g a (cx_deg a) t' f → 0 ≤ f a) : ∀ f, cx_Lam g a (cx_deg a) t f → 0 ≤ f a := by
  classical
  let T := cx_Ta M a
  have hT : cx_Van (cx_Par a) T := cx_Ta_van ha
  let J : B → Prop := fun x => x ≠ 0 ∧ cx_Sp (cx_Par a) b0 x
  have cJ : cx_Clo J := ⟨fun x y hx hy => ⟨fun e => hx.1 (cx_deg_pos x (by have := congrArg cx_deg e; rw [cx_deg_add, cx_deg_zero] at this; omega)),
    fun v hv h0 => by rw [hv.1.add, hx.2 v hv h0, hy.2 v hv h0]; grind⟩⟩
  have J1 : ∀ b, b ≠ 0 → cx_deg b ≤ cx_deg a → t1 b = 0 → J b := fun b h1 h2 h3 => ⟨h1, hj.sp b h1 h2 h3⟩
  have J2 : ∀ b, J b → t1 b = 0 := fun b hb => hb.2 t1 hj.van hj.zr
  let κ : B → Rat := fun x => T x / cx_dg x
  have hform : ∀ x y, J x → J y → cx_pr y (cx_p x : M) * cx_dg a = T y * cx_dg x - T x * cx_dg y := fun x y hx hy => cx_joint_form ha x y hx.2 hy.2
  have hda := cx_dg_pos ha
  have hκ : ∀ x y, J x → J y → (0 < cx_pr y (cx_p x : M) ↔ κ x < κ y) := by
    intro x y hx hy
    show _ ↔ T x / cx_dg x < T y / cx_dg y
    rw [cx_div_lt (cx_dg_pos hx.1) (cx_dg_pos hy.1)]
    have h1 := hform x y hx hy
    constructor
    · intro h2; have := Rat.mul_pos h2 hda; grind
    · intro h2
      by_cases h3 : 0 < cx_pr y (cx_p x : M)
      · exact h3
      · have := Rat.mul_nonneg (by grind : 0 ≤ - cx_pr y (cx_p x : M)) (by grind : 0 ≤ cx_dg a); grind
  obtain ⟨ord, hnod, hmem, hsuf⟩ := cx_suf_of M (T := J) κ (cx_deg a) hκ
  have hmem' : ∀ x, x ∈ ord ↔ x ≠ 0 ∧ cx_deg x ≤ cx_deg a ∧ J x := fun x => by rw [hmem]; exact ⟨fun h => ⟨h.1, h.2.2, h.2.1⟩, fun h => ⟨h.1, h.2.2, h.2.1⟩⟩
  have hsort : ord.Pairwise (fun x y => κ x ≤ κ y) := by
    refine (List.Pairwise.and_mem.1 (cx_suf_pair ord hsuf)).imp ?_
    rintro x y ⟨hx, hy, h0⟩
    have jx := ((hmem x).1 hx).2.1
    have jy := ((hmem y).1 hy).2.1
    by_cases hk : κ x ≤ κ y
    · exact hk
    · have := (hκ y x jy jx).2 (by grind)
      rw [cx_skew] at this
      grind
  have hrev : ord.reverse.Pairwise (fun x y => (fun z => - κ z) x ≤ (fun z => - κ z) y) := by
    rw [List.pairwise_reverse]
    exact hsort.imp (fun h => by grind)
  obtain ⟨wp, w0, wm, hf, hw⟩ := h.fac t1 (cx_deg a)
  have hnodr : ord.reverse.Nodup := by
    rw [List.nodup_iff_pairwise_ne, List.pairwise_reverse]
    exact (List.nodup_iff_pairwise_ne.1 hnod).imp (fun h => h.symm)
  obtain ⟨c, hc, hcw⟩ := cx_zero_nf h hf (fun x hx => hw x (by simp [hx])) cJ J1 hnodr (fun x => by rw [List.mem_reverse]; exact hmem' x)
  have hzz : ∀ x ∈ ord, x ≠ 0 ∧ cx_deg x ≤ cx_deg a ∧ t1 x = 0 := fun x hx => by have := (hmem' x).1 hx; exact ⟨this.1, this.2.1, J2 x this.2.2⟩
  have hzzr : ∀ x ∈ ord.reverse, x ≠ 0 ∧ cx_deg x ≤ cx_deg a ∧ t1 x = 0 := fun x hx => hzz x (List.mem_reverse.1 hx)

  have slope : ∀ x y, J x → J y → κ x = κ y → cx_Par x y := by
    intro x y hx hy hk v hv
    obtain ⟨α, β, hc⟩ := cx_joint_coord hT ha hj.tr v hv
    rw [hc x hx.2, hc y hy.2]
    have := (cx_div_eq (cx_dg_pos hx.1) (cx_dg_pos hy.1)).1 hk
    have h2 : T x * cx_dg y = T y * cx_dg x := this
    show (α * cx_dg y + β * T y) * cx_dg x = (α * cx_dg x + β * T x) * cx_dg y
    grind
  have par_slope : ∀ x y, J x → y ≠ 0 → cx_Par x y → J y ∧ κ y = κ x := by
    intro x y hx hy0 hp
    refine ⟨⟨hy0, fun v hv h0 => hp.zero hx.1 hv.1 (hx.2 v hv h0)⟩, ?_⟩
    refine (cx_div_eq (cx_dg_pos hy0) (cx_dg_pos hx.1)).2 ?_
    exact hp T hT.1

  have hpos : ∀ x ∈ ord, cx_deg x < cx_deg a → 0 ≤ c x := by
    intro x hx hd
    have hx' := (hmem' x).1 hx
    let u : B → Rat := fun b => T b + (- κ x) * cx_dg b
    have fu : cx_Fun u := hT.1.plus cx_fun_dg _
    have hu : ∀ y, J y → u y = (κ y - κ x) * cx_dg y := by
      intro y hy
      have : κ y * cx_dg y = T y := Rat.div_mul_cancel (by have := cx_dg_pos hy.1; grind)
      show T y + (- κ x) * cx_dg y = _
      rw [← this]; grind
    obtain ⟨ε, hε, hns⟩ := cx_near_small (cx_deg a) t1 u
    have hns := hns ε hε (by grind)
    have ftx : cx_Fun (fun b => t1 b + ε * u b) := hj.van.1.plus fu ε
    have gx : cx_Gen (cx_Par x) (cx_deg x) (fun b => t1 b + ε * u b) := by
      refine ⟨ftx, fun b hb hdb => ⟨fun h0 => ?_, fun hpb => ?_⟩⟩
      · have h0 : t1 b + ε * u b = 0 := h0
        have ht1 : t1 b = 0 := by
          by_cases h1 : 0 < t1 b
          · have h2 : 0 < t1 b + ε * u b := hns.pos b trivial (by omega) h1
            grind
          · by_cases h2 : t1 b < 0
            · have h2 : t1 b + ε * u b < 0 := hns.neg b trivial (by omega) h2
              grind
            · grind
        have jb := J1 b hb (by omega) ht1
        have hub : u b = 0 := by
          rw [ht1, Rat.zero_add] at h0
          rcases Rat.mul_eq_zero.1 h0 with h | h
          · grind
          · exact h
        rw [hu b jb] at hub
        rcases Rat.mul_eq_zero.1 hub with h | h
        · exact slope x b hx'.2.2 jb (by grind)
        · have := cx_dg_pos hb; grind
      · have ⟨jb, hk⟩ := par_slope x b hx'.2.2 hb hpb
        show t1 b + ε * u b = 0
        rw [J2 b jb, hu b jb, hk]; grind
    have hsp := cx_split_sorted hrev (- κ x)
    rw [hsp] at hc hzzr
    have hl := cx_joint_lam (u := u) hf hzzr hc (by
      intro y hy
      have h1 := List.mem_filter.1 hy
      have h2 := (hmem' y).1 (List.mem_reverse.1 h1.1)
      have h3 : - κ y < - κ x := by simpa using h1.2
      rw [hu y h2.2.2]
      exact Rat.mul_pos (by grind) (cx_dg_pos h2.1)) (by
      intro y hy
      have h1 := List.mem_filter.1 hy
      have h2 := (hmem' y).1 (List.mem_reverse.1 h1.1)
      have h3 : - κ y = - κ x := by simpa using h1.2
      rw [hu y h2.2.2, show κ y - κ x = 0 by grind, Rat.zero_mul]) (by
      intro y hy
      have h1 := List.mem_filter.1 hy
      have h2 := (hmem' y).1 (List.mem_reverse.1 h1.1)
      have h3 : - κ x < - κ y := by simpa using h1.2
      rw [hu y h2.2.2]
      have := Rat.mul_pos (by grind : 0 < κ x - κ y) (cx_dg_pos h2.1)
      grind) hns (x := x) ⟨hnodr.sublist List.filter_sublist, fun y => by
        rw [List.mem_filter, List.mem_reverse, decide_eq_true_eq]
        constructor
        · rintro ⟨h1, h2⟩
          have h3 := (hmem' y).1 h1
          exact ⟨h3.1, h3.2.1, slope x y hx'.2.2 h3.2.2 (by grind)⟩
        · rintro ⟨h1, h2, h3⟩
          have h4 := par_slope x y hx'.2.2 h1 h3
          exact ⟨(hmem' y).2 ⟨h1, h2, h4.1⟩, by rw [h4.2]⟩⟩
    exact hlow x hx'.1 hd _ gx c (hl.cut (by omega))

  have hTdg : ∀ y, J y → T y = κ y * cx_dg y := fun y hy => (Rat.div_mul_cancel (by have := cx_dg_pos hy.1; grind)).symm
  have hTk : ∀ y, J y → (κ y = 0 ↔ cx_Par a y) := by
    intro y hy
    constructor
    · intro hk v hv
      obtain ⟨α, β, hc⟩ := cx_joint_coord hT ha hj.tr v hv
      have hTa : T a = 0 := hT.2 a (cx_Par.refl a)
      have e1 := hc a (fun v hv _ => hv.2 a (cx_Par.refl a))
      have e2 := hc y hy.2
      rw [hTdg y hy, hk] at e2
      rw [hTa] at e1
      rw [e1, e2]; grind
    · intro hp
      have h0 : T y = 0 := hT.2 y hp
      show T y / cx_dg y = 0
      rw [h0, Rat.div_def, Rat.zero_mul]
  have aJ : ∀ y, y ≠ 0 → cx_Par a y → J y := fun y hy hp => ⟨hy, fun v hv _ => hv.2 y hp⟩
  have lam' : cx_Lam g a (cx_deg a) t' c := by
    have hsp := cx_split_sorted hrev 0
    rw [hsp] at hc hzzr
    refine cx_joint_lam (u := T) hf hzzr hc (fun y hy => ?_) (fun y hy => ?_) (fun y hy => ?_) hn' ⟨hnodr.sublist List.filter_sublist, fun y => ?_⟩
    · have h1 := List.mem_filter.1 hy
      have h2 := (hmem' y).1 (List.mem_reverse.1 h1.1)
      have h3 : - κ y < 0 := by simpa using h1.2
      rw [hTdg y h2.2.2]
      exact Rat.mul_pos (by grind) (cx_dg_pos h2.1)
    · have h1 := List.mem_filter.1 hy
      have h2 := (hmem' y).1 (List.mem_reverse.1 h1.1)
      have h3 : - κ y = 0 := by simpa using h1.2
      rw [hTdg y h2.2.2, show κ y = 0 by grind, Rat.zero_mul]
    · have h1 := List.mem_filter.1 hy
      have h2 := (hmem' y).1 (List.mem_reverse.1 h1.1)
      have h3 : 0 < - κ y := by simpa using h1.2
      rw [hTdg y h2.2.2]
      have := Rat.mul_pos h3 (cx_dg_pos h2.1)
      grind
    · rw [List.mem_filter, List.mem_reverse, decide_eq_true_eq]
      constructor
      · rintro ⟨h1, h2⟩
        have h3 := (hmem' y).1 h1
        exact ⟨h3.1, h3.2.1, (hTk y h3.2.2).1 (by grind)⟩
      · rintro ⟨h1, h2, h3⟩
        have h4 := aJ y h1 h3
        exact ⟨(hmem' y).2 ⟨h1, h2, h4⟩, by rw [(hTk y h4).2 h3]; grind⟩
  have hca := hp c lam'

  let c1 : B → Rat := fun x => if cx_deg x < cx_deg a then c x else 0
  have hc1 : ∀ x ∈ ord, cx_Pl J Z (cx_deg a) (x, c1 x) := by
    intro x hx
    have hx' := (hmem' x).1 hx
    refine ⟨hx'.1, hx'.2.2, ?_, ?_, hx'.2.1⟩
    · show 0 ≤ if cx_deg x < cx_deg a then c x else 0
      by_cases hd : cx_deg x < cx_deg a
      · rw [if_pos hd]; exact hpos x hx hd
      · rw [if_neg hd]; grind
    · show cx_Wl Z (x, if cx_deg x < cx_deg a then c x else 0)
      by_cases hd : cx_deg x < cx_deg a
      · rw [if_pos hd]; exact hcw x (List.mem_reverse.2 hx)
      · rw [if_neg hd]; intro m _; show cx_IsI (0 * _); rw [Rat.zero_mul]; exact cx_IsI.zero
  obtain ⟨c2, hc2, hec2⟩ := cx_sortW (M := M) (T := J) (Z := Z) (e := cx_deg a) ord hsuf (by
    intro z hz x hx hzx q1 c1 hq1 hc1
    have mz := (hmem' z).1 hz
    have mx := (hmem' x).1 hx
    obtain ⟨X, hX, hXe⟩ := cx_swap (M := M) (cx_deg a) (cx_deg a + 1) J Z z x cJ (fun m u hm _ => h.hZ m u hm) (fun u _ => h.hp u) mz.1 mx.1 mz.2.2 mx.2.2 hzx (by omega) q1 c1 hq1 hc1
    refine ⟨X, fun y hy => ⟨(hX y hy).1, ?_⟩, hXe⟩
    obtain ⟨i, j, hij⟩ := (hX y hy).2
    rw [hij, cx_pr_addL, cx_pr_nsm, cx_pr_nsm, cx_pr_self, Rat.mul_zero, Rat.add_zero]
    have h1 : (0 : Rat) ≤ (i : Rat) := by exact_mod_cast Nat.zero_le i
    have e1 : ((i + 1 : Nat) : Rat) = (i : Rat) + 1 := by exact_mod_cast rfl
    rw [e1]
    have h3 : 0 ≤ (i : Rat) * cx_pr z (cx_p x : M) := Rat.mul_nonneg h1 (by grind)
    grind) (ord.reverse.map fun x => (x, c1 x)) (by
    intro y hy
    obtain ⟨x, hx, rfl⟩ := List.mem_map.1 hy
    exact ⟨hc1 x (List.mem_reverse.1 hx), List.mem_reverse.1 hx⟩) (fun _ => 0) (by
    intro x hx
    have h := (hmem' x).1 hx
    exact ⟨h.1, h.2.2, by show (0 : Rat) ≤ 0; grind, fun m _ => by show cx_IsI (0 * _); rw [Rat.zero_mul]; exact cx_IsI.zero, h.2.1⟩)
  rw [cx_nf_zero (fun x hx => ((hmem x).1 hx).1), cx_comp_I] at hec2
  have hec2 : cx_Eqd (cx_deg a) (cx_nf ord.reverse c1 : M → cx_S B) (cx_nf ord c2) := hec2
  let c3 : B → Rat := fun x => if cx_deg x < cx_deg a then c2 x else c2 x + c x
  have hda0 : 0 < cx_deg a := by
    rcases Nat.eq_zero_or_pos (cx_deg a) with h | h
    · exact absurd (cx_deg_pos a h) ha
    · exact h
  have h0ord : ∀ x ∈ ord, x ≠ 0 := fun x hx => ((hmem x).1 hx).1
  have h0rev : ∀ x ∈ ord.reverse, x ≠ 0 := fun x hx => h0ord x (List.mem_reverse.1 hx)
  have final : cx_Eqd (cx_deg a) (cx_ev w0 : M → cx_S B) (cx_nf ord c3) := by
    intro m b hb
    rw [hc m b hb]
    rw [cx_nf_low (M := M) hnodr h0rev c c1 (cx_deg a) hda0 (fun x _ hd => by show _ = if _ then _ else _; rw [if_pos hd]) (fun x _ hd => by show (if _ then _ else _) = _; rw [if_neg (by omega)]) m b hb]
    rw [hec2 m b hb]
    let c4 : B → Rat := fun x => if cx_deg x < cx_deg a then c2 x else 0
    rw [cx_nf_low (M := M) hnod h0ord c2 c4 (cx_deg a) hda0 (fun x _ hd => by show _ = if _ then _ else _; rw [if_pos hd]) (fun x _ hd => by show (if _ then _ else _) = _; rw [if_neg (by omega)]) m b hb]
    rw [cx_nf_low (M := M) hnod h0ord c3 c4 (cx_deg a) hda0 (fun x _ hd => by show (if _ then _ else _) = if _ then _ else _; rw [if_pos hd, if_pos hd]) (fun x _ hd => by show (if _ then _ else _) = _; rw [if_neg (by omega)]) m b hb]
    by_cases hcond : cx_deg b = cx_deg a ∧ b ∈ ord
    · rw [if_pos hcond, if_pos hcond, if_pos ⟨hcond.1, List.mem_reverse.2 hcond.2⟩]
      have : c3 b = c2 b + c b := by show (if _ then _ else _) = _; rw [if_neg (by omega)]
      rw [this]; grind
    · rw [if_neg hcond, if_neg hcond, if_neg (fun h => hcond ⟨h.1, List.mem_reverse.1 h.2⟩)]; grind
  have lam : cx_Lam g a (cx_deg a) t c3 := by
    have hsp := cx_split_sorted hsort 0
    rw [hsp] at final hzz
    refine cx_joint_lam (u := fun b => - T b) hf hzz final (fun y hy => ?_) (fun y hy => ?_) (fun y hy => ?_) hn ⟨hnod.sublist List.filter_sublist, fun y => ?_⟩
    · have h1 := List.mem_filter.1 hy
      have h2 := (hmem' y).1 h1.1
      have h3 : κ y < 0 := by simpa using h1.2
      show 0 < - T y
      rw [hTdg y h2.2.2]
      have := Rat.mul_pos (by grind : 0 < - κ y) (cx_dg_pos h2.1)
      grind
    · have h1 := List.mem_filter.1 hy
      have h2 := (hmem' y).1 h1.1
      have h3 : κ y = 0 := by simpa using h1.2
      show - T y = 0
      rw [hTdg y h2.2.2, h3]; grind
    · have h1 := List.mem_filter.1 hy
      have h2 := (hmem' y).1 h1.1
      have h3 : 0 < κ y := by simpa using h1.2
      show - T y < 0
      rw [hTdg y h2.2.2]
      have := Rat.mul_pos h3 (cx_dg_pos h2.1)
      grind
    · rw [List.mem_filter, decide_eq_true_eq]
      constructor
      · rintro ⟨h1, h2⟩
        have h3 := (hmem' y).1 h1
        exact ⟨h3.1, h3.2.1, (hTk y h3.2.2).1 h2⟩
      · rintro ⟨h1, h2, h3⟩
        have h4 := aJ y h1 h3
        exact ⟨(hmem' y).2 ⟨h1, h2, h4⟩, (hTk y h4).2 h3⟩
  intro f lf
  rw [lf.unique ha ht.f lam cx_Eqd.rfl' a ha (Nat.le_refl _) (cx_Par.refl a)]
  have e3 : c3 a = c2 a + c a := by show (if _ then _ else _) = _; rw [if_neg (by omega)]
  rw [e3]
  have := (hc2 a ((hmem' a).2 ⟨ha, Nat.le_refl _, aJ a ha (cx_Par.refl a)⟩)).1.pos
  have h5 : 0 ≤ c2 a := this
  grind
theorem cx_walls {B : Type} [Zero B] [Add B] [Mul (cx_S B)] [One (cx_S B)] [Add (cx_S B)] [Zero (cx_S B)] [Inhabited (cx_Idx B)] {M : Type} [Add M] [Inhabited (PLift (cx_MGl M))] [Inhabited (cx_Tord B M)] {Z : M → Prop} {g : M → cx_S B} (h : cx_Wh Z g) {cx_std : B → Rat} (hstd : ∀ a, 0 ≤ cx_std a) (hi : cx_Inc g cx_std) : ∀ a : B, a ≠ 0 → cx_PosAt g a := by
  have main : ∀ n, ∀ a : B, a ≠ 0 → cx_deg a < n → cx_PosAt g a := by
    intro n
    induction n with
    | zero => intro a _ h; omega
    | succ n ih =>
      intro a ha hd t ht
      have hT := cx_Ta_van (M := M) ha
      refine cx_path_ind (K := cx_Par a) (d := cx_deg a) hT (fun t => ∀ f, cx_Lam g a (cx_deg a) t f → 0 ≤ f a) ?_ ?_ ?_ t ht (ht.van ha (Nat.le_refl _))
      · intro t t' _ _ _ _ hs hq f lf
        exact hq f (lf.sgn hs)
      · intro t gt _ hc f lf
        rw [hi a ha t gt hc f lf]
        exact hstd a
      · intro t t' s b0 gt _ gt' _ _ hj _ hn hn' _ hq
        exact cx_wall_step h ha (fun x hx hdx => ih x hx (by omega)) gt gt' hj hn hn' hq
  intro a ha
  exact main (cx_deg a + 1) a ha (Nat.lt_succ_self _)
