theorem cx_sm_filter {α : Type} (l : List α) (P : α → Bool) (f : α → Rat) (h : ∀ a ∈ l, P a = false → f a = 0) : cx_sm l f = cx_sm (l.filter P) f := by
  induction l with
  | nil => rfl
  | cons x l ih =>
    have ih := ih (fun a ha => h a (by simp [ha]))
    by_cases hx : P x = true
    · rw [List.filter_cons_of_pos hx, cx_sm_cons, cx_sm_cons, ih]
    · rw [List.filter_cons_of_neg hx, cx_sm_cons, h x (by simp) (by simpa using hx), ih, Rat.zero_add]
theorem cx_comp_unit {B : Type} [Zero B] [Add B] [Mul (cx_S B)] [One (cx_S B)] [Add (cx_S B)] [Zero (cx_S B)] [Inhabited (cx_Idx B)] {M : Type} [Add M] [Inhabited (PLift (cx_MGl M))] [Inhabited (cx_Tord B M)] {f g : M → cx_S B} (hf : ∀ m, f m 0 = 1) (hg : ∀ m, g m 0 = 1) (m : M) : cx_comp f g m 0 = 1 := by
  rw [cx_comp_def, cx_D_right]
  · rw [hg, hf, Rat.mul_one]
  · intro u v h0 hv
    have := cx_deg_add u v
    rw [h0, cx_deg_zero] at this
    exact absurd (cx_deg_pos v (by omega)) hv
abbrev cx_Trn {B : Type} [Zero B] [Add B] [Mul (cx_S B)] [One (cx_S B)] [Add (cx_S B)] [Zero (cx_S B)] [Inhabited (cx_Idx B)] {M : Type} [Add M] [Inhabited (PLift (cx_MGl M))] [Inhabited (cx_Tord B M)] {B' : Type} [Zero B'] [Add B'] [Mul (cx_S B')] [One (cx_S B')] [Add (cx_S B')] [Zero (cx_S B')] [Inhabited (cx_Idx B')] {M' : Type} [Add M'] [Inhabited (PLift (cx_MGl M'))] [Inhabited (cx_Tord B' M')] (T : B → Prop) (T' : B' → Prop) (θ : B → B') (θ' : B' → B) (μ : M → M') (μ' : M' → M) : Prop := (θ 0 = 0) ∧ (θ' 0 = 0) ∧ (∀ b, T b → T' (θ b)) ∧ (∀ b, T' b → T (θ' b)) ∧ (∀ b, T b → θ' (θ b) = b) ∧ (∀ b, T' b → θ (θ' b) = b) ∧ (∀ a b, T a → T b → θ (a + b) = θ a + θ b) ∧ (cx_Clo T) ∧ (cx_Clo T') ∧ (∀ b, T b → b ≠ 0) ∧ (∀ b, T' b → b ≠ 0) ∧ (∀ m, μ' (μ m) = m) ∧ (∀ m, μ (μ' m) = m) ∧ (∀ a m, T a → cx_pr (θ a) (μ m) = cx_pr a m) ∧ (∀ a m, T a → μ (m + cx_p a) = μ m + cx_p (θ a))
theorem cx_Trn.z0 {B : Type} [Zero B] [Add B] [Mul (cx_S B)] [One (cx_S B)] [Add (cx_S B)] [Zero (cx_S B)] [Inhabited (cx_Idx B)] {M : Type} [Add M] [Inhabited (PLift (cx_MGl M))] [Inhabited (cx_Tord B M)] {B' : Type} [Zero B'] [Add B'] [Mul (cx_S B')] [One (cx_S B')] [Add (cx_S B')] [Zero (cx_S B')] [Inhabited (cx_Idx B')] {M' : Type} [Add M'] [Inhabited (PLift (cx_MGl M'))] [Inhabited (cx_Tord B' M')] {T : B → Prop} {T' : B' → Prop} {θ : B → B'} {θ' : B' → B} {μ : M → M'} {μ' : M' → M} (hh_ : cx_Trn T T' θ θ' μ μ') : θ 0 = 0 := hh_.1
theorem cx_Trn.z0' {B : Type} [Zero B] [Add B] [Mul (cx_S B)] [One (cx_S B)] [Add (cx_S B)] [Zero (cx_S B)] [Inhabited (cx_Idx B)] {M : Type} [Add M] [Inhabited (PLift (cx_MGl M))] [Inhabited (cx_Tord B M)] {B' : Type} [Zero B'] [Add B'] [Mul (cx_S B')] [One (cx_S B')] [Add (cx_S B')] [Zero (cx_S B')] [Inhabited (cx_Idx B')] {M' : Type} [Add M'] [Inhabited (PLift (cx_MGl M'))] [Inhabited (cx_Tord B' M')] {T : B → Prop} {T' : B' → Prop} {θ : B → B'} {θ' : B' → B} {μ : M → M'} {μ' : M' → M} (hh_ : cx_Trn T T' θ θ' μ μ') : θ' 0 = 0 := hh_.2.1
theorem cx_Trn.to {B : Type} [Zero B] [Add B] [Mul (cx_S B)] [One (cx_S B)] [Add (cx_S B)] [Zero (cx_S B)] [Inhabited (cx_Idx B)] {M : Type} [Add M] [Inhabited (PLift (cx_MGl M))] [Inhabited (cx_Tord B M)] {B' : Type} [Zero B'] [Add B'] [Mul (cx_S B')] [One (cx_S B')] [Add (cx_S B')] [Zero (cx_S B')] [Inhabited (cx_Idx B')] {M' : Type} [Add M'] [Inhabited (PLift (cx_MGl M'))] [Inhabited (cx_Tord B' M')] {T : B → Prop} {T' : B' → Prop} {θ : B → B'} {θ' : B' → B} {μ : M → M'} {μ' : M' → M} (hh_ : cx_Trn T T' θ θ' μ μ') : ∀ b, T b → T' (θ b) := hh_.2.2.1
theorem cx_Trn.fro {B : Type} [Zero B] [Add B] [Mul (cx_S B)] [One (cx_S B)] [Add (cx_S B)] [Zero (cx_S B)] [Inhabited (cx_Idx B)] {M : Type} [Add M] [Inhabited (PLift (cx_MGl M))] [Inhabited (cx_Tord B M)] {B' : Type} [Zero B'] [Add B'] [Mul (cx_S B')] [One (cx_S B')] [Add (cx_S B')] [Zero (cx_S B')] [Inhabited (cx_Idx B')] {M' : Type} [Add M'] [Inhabited (PLift (cx_MGl M'))] [Inhabited (cx_Tord B' M')] {T : B → Prop} {T' : B' → Prop} {θ : B → B'} {θ' : B' → B} {μ : M → M'} {μ' : M' → M} (hh_ : cx_Trn T T' θ θ' μ μ') : ∀ b, T' b → T (θ' b) := hh_.2.2.2.1
theorem cx_Trn.l {B : Type} [Zero B] [Add B] [Mul (cx_S B)] [One (cx_S B)] [Add (cx_S B)] [Zero (cx_S B)] [Inhabited (cx_Idx B)] {M : Type} [Add M] [Inhabited (PLift (cx_MGl M))] [Inhabited (cx_Tord B M)] {B' : Type} [Zero B'] [Add B'] [Mul (cx_S B')] [One (cx_S B')] [Add (cx_S B')] [Zero (cx_S B')] [Inhabited (cx_Idx B')] {M' : Type} [Add M'] [Inhabited (PLift (cx_MGl M'))] [Inhabited (cx_Tord B' M')] {T : B → Prop} {T' : B' → Prop} {θ : B → B'} {θ' : B' → B} {μ : M → M'} {μ' : M' → M} (hh_ : cx_Trn T T' θ θ' μ μ') : ∀ b, T b → θ' (θ b) = b := hh_.2.2.2.2.1
theorem cx_Trn.r {B : Type} [Zero B] [Add B] [Mul (cx_S B)] [One (cx_S B)] [Add (cx_S B)] [Zero (cx_S B)] [Inhabited (cx_Idx B)] {M : Type} [Add M] [Inhabited (PLift (cx_MGl M))] [Inhabited (cx_Tord B M)] {B' : Type} [Zero B'] [Add B'] [Mul (cx_S B')] [One (cx_S B')] [Add (cx_S B')] [Zero (cx_S B')] [Inhabited (cx_Idx B')] {M' : Type} [Add M'] [Inhabited (PLift (cx_MGl M'))] [Inhabited (cx_Tord B' M')] {T : B → Prop} {T' : B' → Prop} {θ : B → B'} {θ' : B' → B} {μ : M → M'} {μ' : M' → M} (hh_ : cx_Trn T T' θ θ' μ μ') : ∀ b, T' b → θ (θ' b) = b := hh_.2.2.2.2.2.1
theorem cx_Trn.add {B : Type} [Zero B] [Add B] [Mul (cx_S B)] [One (cx_S B)] [Add (cx_S B)] [Zero (cx_S B)] [Inhabited (cx_Idx B)] {M : Type} [Add M] [Inhabited (PLift (cx_MGl M))] [Inhabited (cx_Tord B M)] {B' : Type} [Zero B'] [Add B'] [Mul (cx_S B')] [One (cx_S B')] [Add (cx_S B')] [Zero (cx_S B')] [Inhabited (cx_Idx B')] {M' : Type} [Add M'] [Inhabited (PLift (cx_MGl M'))] [Inhabited (cx_Tord B' M')] {T : B → Prop} {T' : B' → Prop} {θ : B → B'} {θ' : B' → B} {μ : M → M'} {μ' : M' → M} (hh_ : cx_Trn T T' θ θ' μ μ') : ∀ a b, T a → T b → θ (a + b) = θ a + θ b := hh_.2.2.2.2.2.2.1
theorem cx_Trn.c {B : Type} [Zero B] [Add B] [Mul (cx_S B)] [One (cx_S B)] [Add (cx_S B)] [Zero (cx_S B)] [Inhabited (cx_Idx B)] {M : Type} [Add M] [Inhabited (PLift (cx_MGl M))] [Inhabited (cx_Tord B M)] {B' : Type} [Zero B'] [Add B'] [Mul (cx_S B')] [One (cx_S B')] [Add (cx_S B')] [Zero (cx_S B')] [Inhabited (cx_Idx B')] {M' : Type} [Add M'] [Inhabited (PLift (cx_MGl M'))] [Inhabited (cx_Tord B' M')] {T : B → Prop} {T' : B' → Prop} {θ : B → B'} {θ' : B' → B} {μ : M → M'} {μ' : M' → M} (hh_ : cx_Trn T T' θ θ' μ μ') : cx_Clo T := hh_.2.2.2.2.2.2.2.1
theorem cx_Trn.c' {B : Type} [Zero B] [Add B] [Mul (cx_S B)] [One (cx_S B)] [Add (cx_S B)] [Zero (cx_S B)] [Inhabited (cx_Idx B)] {M : Type} [Add M] [Inhabited (PLift (cx_MGl M))] [Inhabited (cx_Tord B M)] {B' : Type} [Zero B'] [Add B'] [Mul (cx_S B')] [One (cx_S B')] [Add (cx_S B')] [Zero (cx_S B')] [Inhabited (cx_Idx B')] {M' : Type} [Add M'] [Inhabited (PLift (cx_MGl M'))] [Inhabited (cx_Tord B' M')] {T : B → Prop} {T' : B' → Prop} {θ : B → B'} {θ' : B' → B} {μ : M → M'} {μ' : M' → M} (hh_ : cx_Trn T T' θ θ' μ μ') : cx_Clo T' := hh_.2.2.2.2.2.2.2.2.1
theorem cx_Trn.nz {B : Type} [Zero B] [Add B] [Mul (cx_S B)] [One (cx_S B)] [Add (cx_S B)] [Zero (cx_S B)] [Inhabited (cx_Idx B)] {M : Type} [Add M] [Inhabited (PLift (cx_MGl M))] [Inhabited (cx_Tord B M)] {B' : Type} [Zero B'] [Add B'] [Mul (cx_S B')] [One (cx_S B')] [Add (cx_S B')] [Zero (cx_S B')] [Inhabited (cx_Idx B')] {M' : Type} [Add M'] [Inhabited (PLift (cx_MGl M'))] [Inhabited (cx_Tord B' M')] {T : B → Prop} {T' : B' → Prop} {θ : B → B'} {θ' : B' → B} {μ : M → M'} {μ' : M' → M} (hh_ : cx_Trn T T' θ θ' μ μ') : ∀ b, T b → b ≠ 0 := hh_.2.2.2.2.2.2.2.2.2.1
theorem cx_Trn.nz' {B : Type} [Zero B] [Add B] [Mul (cx_S B)] [One (cx_S B)] [Add (cx_S B)] [Zero (cx_S B)] [Inhabited (cx_Idx B)] {M : Type} [Add M] [Inhabited (PLift (cx_MGl M))] [Inhabited (cx_Tord B M)] {B' : Type} [Zero B'] [Add B'] [Mul (cx_S B')] [One (cx_S B')] [Add (cx_S B')] [Zero (cx_S B')] [Inhabited (cx_Idx B')] {M' : Type} [Add M'] [Inhabited (PLift (cx_MGl M'))] [Inhabited (cx_Tord B' M')] {T : B → Prop} {T' : B' → Prop} {θ : B → B'} {θ' : B' → B} {μ : M → M'} {μ' : M' → M} (hh_ : cx_Trn T T' θ θ' μ μ') : ∀ b, T' b → b ≠ 0 := hh_.2.2.2.2.2.2.2.2.2.2.1
theorem cx_Trn.ml {B : Type} [Zero B] [Add B] [Mul (cx_S B)] [One (cx_S B)] [Add (cx_S B)] [Zero (cx_S B)] [Inhabited (cx_Idx B)] {M : Type} [Add M] [Inhabited (PLift (cx_MGl M))] [Inhabited (cx_Tord B M)] {B' : Type} [Zero B'] [Add B'] [Mul (cx_S B')] [One (cx_S B')] [Add (cx_S B')] [Zero (cx_S B')] [Inhabited (cx_Idx B')] {M' : Type} [Add M'] [Inhabited (PLift (cx_MGl M'))] [Inhabited (cx_Tord B' M')] {T : B → Prop} {T' : B' → Prop} {θ : B → B'} {θ' : B' → B} {μ : M → M'} {μ' : M' → M} (hh_ : cx_Trn T T' θ θ' μ μ') : ∀ m, μ' (μ m) = m := hh_.2.2.2.2.2.2.2.2.2.2.2.1
theorem cx_Trn.mr {B : Type} [Zero B] [Add B] [Mul (cx_S B)] [One (cx_S B)] [Add (cx_S B)] [Zero (cx_S B)] [Inhabited (cx_Idx B)] {M : Type} [Add M] [Inhabited (PLift (cx_MGl M))] [Inhabited (cx_Tord B M)] {B' : Type} [Zero B'] [Add B'] [Mul (cx_S B')] [One (cx_S B')] [Add (cx_S B')] [Zero (cx_S B')] [Inhabited (cx_Idx B')] {M' : Type} [Add M'] [Inhabited (PLift (cx_MGl M'))] [Inhabited (cx_Tord B' M')] {T : B → Prop} {T' : B' → Prop} {θ : B → B'} {θ' : B' → B} {μ : M → M'} {μ' : M' → M} (hh_ : cx_Trn T T' θ θ' μ μ') : ∀ m, μ (μ' m) = m := hh_.2.2.2.2.2.2.2.2.2.2.2.2.1
theorem cx_Trn.pr_ {B : Type} [Zero B] [Add B] [Mul (cx_S B)] [One (cx_S B)] [Add (cx_S B)] [Zero (cx_S B)] [Inhabited (cx_Idx B)] {M : Type} [Add M] [Inhabited (PLift (cx_MGl M))] [Inhabited (cx_Tord B M)] {B' : Type} [Zero B'] [Add B'] [Mul (cx_S B')] [One (cx_S B')] [Add (cx_S B')] [Zero (cx_S B')] [Inhabited (cx_Idx B')] {M' : Type} [Add M'] [Inhabited (PLift (cx_MGl M'))] [Inhabited (cx_Tord B' M')] {T : B → Prop} {T' : B' → Prop} {θ : B → B'} {θ' : B' → B} {μ : M → M'} {μ' : M' → M} (hh_ : cx_Trn T T' θ θ' μ μ') : ∀ a m, T a → cx_pr (θ a) (μ m) = cx_pr a m := hh_.2.2.2.2.2.2.2.2.2.2.2.2.2.1
theorem cx_Trn.p_ {B : Type} [Zero B] [Add B] [Mul (cx_S B)] [One (cx_S B)] [Add (cx_S B)] [Zero (cx_S B)] [Inhabited (cx_Idx B)] {M : Type} [Add M] [Inhabited (PLift (cx_MGl M))] [Inhabited (cx_Tord B M)] {B' : Type} [Zero B'] [Add B'] [Mul (cx_S B')] [One (cx_S B')] [Add (cx_S B')] [Zero (cx_S B')] [Inhabited (cx_Idx B')] {M' : Type} [Add M'] [Inhabited (PLift (cx_MGl M'))] [Inhabited (cx_Tord B' M')] {T : B → Prop} {T' : B' → Prop} {θ : B → B'} {θ' : B' → B} {μ : M → M'} {μ' : M' → M} (hh_ : cx_Trn T T' θ θ' μ μ') : ∀ a m, T a → μ (m + cx_p a) = μ m + cx_p (θ a) := hh_.2.2.2.2.2.2.2.2.2.2.2.2.2.2
theorem cx_Trn.p' {B : Type} [Zero B] [Add B] [Mul (cx_S B)] [One (cx_S B)] [Add (cx_S B)] [Zero (cx_S B)] [Inhabited (cx_Idx B)] {M : Type} [Add M] [Inhabited (PLift (cx_MGl M))] [Inhabited (cx_Tord B M)] {B' : Type} [Zero B'] [Add B'] [Mul (cx_S B')] [One (cx_S B')] [Add (cx_S B')] [Zero (cx_S B')] [Inhabited (cx_Idx B')] {M' : Type} [Add M'] [Inhabited (PLift (cx_MGl M'))] [Inhabited (cx_Tord B' M')] {T : B → Prop} {T' : B' → Prop} {θ : B → B'} {θ' : B' → B} {μ : M → M'} {μ' : M' → M} (h : cx_Trn T T' θ θ' μ μ') (a : B') (m : M') (ha : T' a) : μ' (m + cx_p a) = μ' m + cx_p (θ' a) := by
  have h1 := h.p_ (θ' a) (μ' m) (h.fro a ha)
  rw [h.mr, h.r a ha] at h1
  rw [← h1, h.ml]
theorem cx_Trn.addz {B : Type} [Zero B] [Add B] [Mul (cx_S B)] [One (cx_S B)] [Add (cx_S B)] [Zero (cx_S B)] [Inhabited (cx_Idx B)] {M : Type} [Add M] [Inhabited (PLift (cx_MGl M))] [Inhabited (cx_Tord B M)] {B' : Type} [Zero B'] [Add B'] [Mul (cx_S B')] [One (cx_S B')] [Add (cx_S B')] [Zero (cx_S B')] [Inhabited (cx_Idx B')] {M' : Type} [Add M'] [Inhabited (PLift (cx_MGl M'))] [Inhabited (cx_Tord B' M')] {T : B → Prop} {T' : B' → Prop} {θ : B → B'} {θ' : B' → B} {μ : M → M'} {μ' : M' → M} (h : cx_Trn T T' θ θ' μ μ') {a b : B} (ha : a = 0 ∨ T a) (hb : b = 0 ∨ T b) : θ (a + b) = θ a + θ b := by
  rcases ha with rfl | ha
  · rw [cx_zadd, h.z0, cx_zadd]
  · rcases hb with rfl | hb
    · rw [cx_addZ, h.z0, cx_addZ]
    · exact h.add a b ha hb
theorem cx_Trn.symm {B : Type} [Zero B] [Add B] [Mul (cx_S B)] [One (cx_S B)] [Add (cx_S B)] [Zero (cx_S B)] [Inhabited (cx_Idx B)] {M : Type} [Add M] [Inhabited (PLift (cx_MGl M))] [Inhabited (cx_Tord B M)] {B' : Type} [Zero B'] [Add B'] [Mul (cx_S B')] [One (cx_S B')] [Add (cx_S B')] [Zero (cx_S B')] [Inhabited (cx_Idx B')] {M' : Type} [Add M'] [Inhabited (PLift (cx_MGl M'))] [Inhabited (cx_Tord B' M')] {T : B → Prop} {T' : B' → Prop} {θ : B → B'} {θ' : B' → B} {μ : M → M'} {μ' : M' → M} (h : cx_Trn T T' θ θ' μ μ') : cx_Trn T' T θ' θ μ' μ := ⟨(h.z0'),
  (h.z0),
  (h.fro),
  (h.to),
  (h.r),
  (h.l),
  (fun a b ha hb => by
    have h1 := h.add (θ' a) (θ' b) (h.fro a ha) (h.fro b hb)
    rw [h.r a ha, h.r b hb] at h1
    rw [← h1, h.l _ (h.c.add _ _ (h.fro a ha) (h.fro b hb))]),
  (h.c'),
  (h.c),
  (h.nz'),
  (h.nz),
  (h.mr),
  (h.ml),
  (fun a m ha => by
    have := h.pr_ (θ' a) (μ' m) (h.fro a ha)
    rw [h.r a ha, h.mr] at this
    exact this.symm),
  (fun a m ha => h.p' a m ha)⟩
noncomputable def cx_tr {B : Type} [Zero B] [Add B] [Mul (cx_S B)] [One (cx_S B)] [Add (cx_S B)] [Zero (cx_S B)] [Inhabited (cx_Idx B)] {M : Type} [Add M] [Inhabited (PLift (cx_MGl M))] [Inhabited (cx_Tord B M)] {B' : Type} [Zero B'] [Add B'] [Mul (cx_S B')] [One (cx_S B')] [Add (cx_S B')] [Zero (cx_S B')] [Inhabited (cx_Idx B')] {M' : Type} [Add M'] [Inhabited (PLift (cx_MGl M'))] [Inhabited (cx_Tord B' M')] (T' : B' → Prop) (θ' : B' → B) (μ' : M' → M) (f : M → cx_S B) : M' → cx_S B' :=
  fun m b => @ite _ (b = 0) (Classical.propDecidable _) 1 (@ite _ (T' b) (Classical.propDecidable _) (f (μ' m) (θ' b)) 0)
theorem cx_tr_zero {B : Type} [Zero B] [Add B] [Mul (cx_S B)] [One (cx_S B)] [Add (cx_S B)] [Zero (cx_S B)] [Inhabited (cx_Idx B)] {M : Type} [Add M] [Inhabited (PLift (cx_MGl M))] [Inhabited (cx_Tord B M)] {B' : Type} [Zero B'] [Add B'] [Mul (cx_S B')] [One (cx_S B')] [Add (cx_S B')] [Zero (cx_S B')] [Inhabited (cx_Idx B')] {M' : Type} [Add M'] [Inhabited (PLift (cx_MGl M'))] [Inhabited (cx_Tord B' M')] {T' : B' → Prop} {θ' : B' → B} {μ' : M' → M} (f : M → cx_S B) (m : M') : cx_tr T' θ' μ' f m 0 = 1 := by unfold cx_tr; rw [if_pos rfl]
theorem cx_tr_in {B : Type} [Zero B] [Add B] [Mul (cx_S B)] [One (cx_S B)] [Add (cx_S B)] [Zero (cx_S B)] [Inhabited (cx_Idx B)] {M : Type} [Add M] [Inhabited (PLift (cx_MGl M))] [Inhabited (cx_Tord B M)] {B' : Type} [Zero B'] [Add B'] [Mul (cx_S B')] [One (cx_S B')] [Add (cx_S B')] [Zero (cx_S B')] [Inhabited (cx_Idx B')] {M' : Type} [Add M'] [Inhabited (PLift (cx_MGl M'))] [Inhabited (cx_Tord B' M')] {T : B → Prop} {T' : B' → Prop} {θ : B → B'} {θ' : B' → B} {μ : M → M'} {μ' : M' → M} (h : cx_Trn T T' θ θ' μ μ') (f : M → cx_S B) (m : M') {b : B'} (hb : T' b) : cx_tr T' θ' μ' f m b = f (μ' m) (θ' b) := by
  unfold cx_tr; rw [if_neg (h.nz' b hb), if_pos hb]
theorem cx_tr_out {B : Type} [Zero B] [Add B] [Mul (cx_S B)] [One (cx_S B)] [Add (cx_S B)] [Zero (cx_S B)] [Inhabited (cx_Idx B)] {M : Type} [Add M] [Inhabited (PLift (cx_MGl M))] [Inhabited (cx_Tord B M)] {B' : Type} [Zero B'] [Add B'] [Mul (cx_S B')] [One (cx_S B')] [Add (cx_S B')] [Zero (cx_S B')] [Inhabited (cx_Idx B')] {M' : Type} [Add M'] [Inhabited (PLift (cx_MGl M'))] [Inhabited (cx_Tord B' M')] {T' : B' → Prop} {θ' : B' → B} {μ' : M' → M} (f : M → cx_S B) (m : M') {b : B'} (h0 : b ≠ 0) (hb : ¬ T' b) : cx_tr T' θ' μ' f m b = 0 := by
  unfold cx_tr; rw [if_neg h0, if_neg hb]
theorem cx_tr_ok {B : Type} [Zero B] [Add B] [Mul (cx_S B)] [One (cx_S B)] [Add (cx_S B)] [Zero (cx_S B)] [Inhabited (cx_Idx B)] {M : Type} [Add M] [Inhabited (PLift (cx_MGl M))] [Inhabited (cx_Tord B M)] {B' : Type} [Zero B'] [Add B'] [Mul (cx_S B')] [One (cx_S B')] [Add (cx_S B')] [Zero (cx_S B')] [Inhabited (cx_Idx B')] {M' : Type} [Add M'] [Inhabited (PLift (cx_MGl M'))] [Inhabited (cx_Tord B' M')] {T : B → Prop} {T' : B' → Prop} {θ : B → B'} {θ' : B' → B} {μ : M → M'} {μ' : M' → M} (h : cx_Trn T T' θ θ' μ μ') {f : M → cx_S B} (hf : ∀ m, f m 0 = 1) (m : M') {b : B'} (hb : b = 0 ∨ T' b) : cx_tr T' θ' μ' f m b = f (μ' m) (θ' b) := by
  rcases hb with rfl | hb
  · rw [cx_tr_zero, h.z0', hf]
  · exact cx_tr_in h f m hb
theorem cx_tr_sup {B : Type} [Zero B] [Add B] [Mul (cx_S B)] [One (cx_S B)] [Add (cx_S B)] [Zero (cx_S B)] [Inhabited (cx_Idx B)] {M : Type} [Add M] [Inhabited (PLift (cx_MGl M))] [Inhabited (cx_Tord B M)] {B' : Type} [Zero B'] [Add B'] [Mul (cx_S B')] [One (cx_S B')] [Add (cx_S B')] [Zero (cx_S B')] [Inhabited (cx_Idx B')] {M' : Type} [Add M'] [Inhabited (PLift (cx_MGl M'))] [Inhabited (cx_Tord B' M')] {T' : B' → Prop} {θ' : B' → B} {μ' : M' → M} (f : M → cx_S B) : cx_Sup T' (cx_tr T' θ' μ' f) := fun m b h0 hb => cx_tr_out f m h0 hb
theorem cx_D_tr {B : Type} [Zero B] [Add B] [Mul (cx_S B)] [One (cx_S B)] [Add (cx_S B)] [Zero (cx_S B)] [Inhabited (cx_Idx B)] {M : Type} [Add M] [Inhabited (PLift (cx_MGl M))] [Inhabited (cx_Tord B M)] {B' : Type} [Zero B'] [Add B'] [Mul (cx_S B')] [One (cx_S B')] [Add (cx_S B')] [Zero (cx_S B')] [Inhabited (cx_Idx B')] {M' : Type} [Add M'] [Inhabited (PLift (cx_MGl M'))] [Inhabited (cx_Tord B' M')] {T : B → Prop} {T' : B' → Prop} {θ : B → B'} {θ' : B' → B} {μ : M → M'} {μ' : M' → M} (h : cx_Trn T T' θ θ' μ μ') {b : B'} (hb : T' b) (F : B → B → Rat) (F' : B' → B' → Rat)
    (h0 : ∀ u s, ¬ ((u = 0 ∨ T u) ∧ (s = 0 ∨ T s)) → F u s = 0) (h0' : ∀ u s, ¬ ((u = 0 ∨ T' u) ∧ (s = 0 ∨ T' s)) → F' u s = 0)
    (he : ∀ u s, (u = 0 ∨ T' u) → (s = 0 ∨ T' s) → F' u s = F (θ' u) (θ' s)) : cx_D b F' = cx_D (θ' b) F := by
  classical
  let P : B × B → Bool := fun x => decide ((x.1 = 0 ∨ T x.1) ∧ (x.2 = 0 ∨ T x.2))
  let P' : B' × B' → Bool := fun x => decide ((x.1 = 0 ∨ T' x.1) ∧ (x.2 = 0 ∨ T' x.2))
  have ok : ∀ u : B', (u = 0 ∨ T' u) → (θ' u = 0 ∨ T (θ' u)) ∧ θ (θ' u) = u := by
    rintro u (rfl | hu)
    · exact ⟨.inl h.z0', by rw [h.z0', h.z0]⟩
    · exact ⟨.inr (h.fro u hu), h.r u hu⟩
  have ok2 : ∀ u : B, (u = 0 ∨ T u) → (θ u = 0 ∨ T' (θ u)) ∧ θ' (θ u) = u := by
    rintro u (rfl | hu)
    · exact ⟨.inl h.z0, by rw [h.z0, h.z0']⟩
    · exact ⟨.inr (h.to u hu), h.l u hu⟩
  have e1 : cx_D b F' = cx_sm ((cx_dec b).filter P') (fun x => F' x.1 x.2) := cx_sm_filter _ P' _ (fun x _ hx => h0' x.1 x.2 (by simpa [P'] using hx))
  have e2 : cx_D (θ' b) F = cx_sm ((cx_dec (θ' b)).filter P) (fun x => F x.1 x.2) := cx_sm_filter _ P _ (fun x _ hx => h0 x.1 x.2 (by simpa [P] using hx))
  have hP' : ∀ x, x ∈ (cx_dec b).filter P' ↔ x.1 + x.2 = b ∧ (x.1 = 0 ∨ T' x.1) ∧ (x.2 = 0 ∨ T' x.2) := by
    rintro ⟨u, s⟩
    rw [List.mem_filter, cx_mem_dec]; simp [P']
  have hP : ∀ x, x ∈ (cx_dec (θ' b)).filter P ↔ x.1 + x.2 = θ' b ∧ (x.1 = 0 ∨ T x.1) ∧ (x.2 = 0 ∨ T x.2) := by
    rintro ⟨u, s⟩
    rw [List.mem_filter, cx_mem_dec]; simp [P]
  have hp : ((cx_dec (θ' b)).filter P).Perm (((cx_dec b).filter P').map fun x => (θ' x.1, θ' x.2)) := by
    refine cx_perm_of ((cx_nodup_dec _).sublist List.filter_sublist) ?_ ?_
    · have hn := (cx_nodup_dec b).sublist (show List.Sublist ((cx_dec b).filter P') (cx_dec b) from List.filter_sublist)
      rw [List.nodup_iff_pairwise_ne] at hn ⊢
      rw [List.pairwise_map]
      refine (List.Pairwise.and_mem.1 hn).imp ?_
      rintro ⟨u, s⟩ ⟨u', s'⟩ ⟨hx, hy, hne⟩ e
      have hx := (hP' _).1 hx
      have hy := (hP' _).1 hy
      simp only [Prod.mk.injEq] at e
      apply hne
      rw [← (ok u hx.2.1).2, ← (ok s hx.2.2).2, ← (ok u' hy.2.1).2, ← (ok s' hy.2.2).2, e.1, e.2]
    · rintro ⟨u, s⟩
      rw [hP, List.mem_map]
      constructor
      · rintro ⟨h1, h2, h3⟩
        refine ⟨(θ u, θ s), (hP' _).2 ⟨?_, (ok2 u h2).1, (ok2 s h3).1⟩, by rw [(ok2 u h2).2, (ok2 s h3).2]⟩
        show θ u + θ s = b
        rw [← h.addz h2 h3]
        have h1 : u + s = θ' b := h1
        rw [h1, h.r b hb]
      · rintro ⟨⟨u', s'⟩, hx, e⟩
        have hx := (hP' _).1 hx
        simp only [Prod.mk.injEq] at e
        obtain ⟨rfl, rfl⟩ := e
        refine ⟨?_, (ok u' hx.2.1).1, (ok s' hx.2.2).1⟩
        show θ' u' + θ' s' = θ' b
        rw [← h.symm.addz hx.2.1 hx.2.2]
        have h1 : u' + s' = b := hx.1
        rw [h1]
  rw [e1, e2, cx_sm_perm hp, cx_sm_map]
  exact cx_sm_congr (fun x hx => by have hx := (hP' x).1 hx; exact he x.1 x.2 hx.2.1 hx.2.2)
theorem cx_tr_comp {B : Type} [Zero B] [Add B] [Mul (cx_S B)] [One (cx_S B)] [Add (cx_S B)] [Zero (cx_S B)] [Inhabited (cx_Idx B)] {M : Type} [Add M] [Inhabited (PLift (cx_MGl M))] [Inhabited (cx_Tord B M)] {B' : Type} [Zero B'] [Add B'] [Mul (cx_S B')] [One (cx_S B')] [Add (cx_S B')] [Zero (cx_S B')] [Inhabited (cx_Idx B')] {M' : Type} [Add M'] [Inhabited (PLift (cx_MGl M'))] [Inhabited (cx_Tord B' M')] {T : B → Prop} {T' : B' → Prop} {θ : B → B'} {θ' : B' → B} {μ : M → M'} {μ' : M' → M} (h : cx_Trn T T' θ θ' μ μ') {f g : M → cx_S B} (hf : cx_Sup T f) (hg : cx_Sup T g) (uf : ∀ m, f m 0 = 1) (ug : ∀ m, g m 0 = 1) :
    cx_tr T' θ' μ' (cx_comp f g) = cx_comp (cx_tr T' θ' μ' f) (cx_tr T' θ' μ' g) := by
  classical
  funext m
  refine cx_S.ext (fun b => ?_)
  by_cases hb0 : b = 0
  · subst hb0
    rw [cx_tr_zero, cx_comp_unit (fun m => cx_tr_zero f m) (fun m => cx_tr_zero g m)]
  by_cases hb : T' b
  · rw [cx_tr_in h _ m hb, cx_comp_def, cx_comp_def]
    symm
    refine cx_D_tr h hb (fun u s => g (μ' m) u * f (μ' m + cx_p u) s) _ ?_ ?_ ?_
    · intro u s hn
      by_cases hu : u = 0 ∨ T u
      · have hs : ¬ (s = 0 ∨ T s) := fun hs => hn ⟨hu, hs⟩
        rw [hf _ s (fun e => hs (.inl e)) (fun e => hs (.inr e)), Rat.mul_zero]
      · rw [hg _ u (fun e => hu (.inl e)) (fun e => hu (.inr e)), Rat.zero_mul]
    · intro u s hn
      by_cases hu : u = 0 ∨ T' u
      · have hs : ¬ (s = 0 ∨ T' s) := fun hs => hn ⟨hu, hs⟩
        rw [cx_tr_out f _ (fun e => hs (.inl e)) (fun e => hs (.inr e)), Rat.mul_zero]
      · rw [cx_tr_out g _ (fun e => hu (.inl e)) (fun e => hu (.inr e)), Rat.zero_mul]
    · intro u s hu hs
      rw [cx_tr_ok h ug m hu, cx_tr_ok h uf _ hs]
      rcases hu with rfl | hu
      · rw [h.z0', cx_p_zero, cx_p_zero]
      · rw [h.p' u m hu]
  · rw [cx_tr_out _ m hb0 hb, cx_comp_def]
    symm
    refine cx_D_zero (fun u s hus => ?_)
    by_cases hu : u = 0 ∨ T' u
    · by_cases hs : s = 0 ∨ T' s
      · exfalso
        rcases hu with rfl | hu
        · rw [cx_zadd] at hus
          subst hus
          rcases hs with hs | hs
          · exact hb0 hs
          · exact hb hs
        · rcases hs with rfl | hs
          · rw [cx_addZ] at hus; subst hus; exact hb hu
          · exact hb (hus ▸ h.c'.add u s hu hs)
      · rw [cx_tr_out f _ (fun e => hs (.inl e)) (fun e => hs (.inr e)), Rat.mul_zero]
    · rw [cx_tr_out g _ (fun e => hu (.inl e)) (fun e => hu (.inr e)), Rat.zero_mul]
theorem cx_tr_nsm {B : Type} [Zero B] [Add B] [Mul (cx_S B)] [One (cx_S B)] [Add (cx_S B)] [Zero (cx_S B)] [Inhabited (cx_Idx B)] {M : Type} [Add M] [Inhabited (PLift (cx_MGl M))] [Inhabited (cx_Tord B M)] {B' : Type} [Zero B'] [Add B'] [Mul (cx_S B')] [One (cx_S B')] [Add (cx_S B')] [Zero (cx_S B')] [Inhabited (cx_Idx B')] {M' : Type} [Add M'] [Inhabited (PLift (cx_MGl M'))] [Inhabited (cx_Tord B' M')] {T : B → Prop} {T' : B' → Prop} {θ : B → B'} {θ' : B' → B} {μ : M → M'} {μ' : M' → M} (h : cx_Trn T T' θ θ' μ μ') {a : B} (ha : T a) (j : Nat) : θ (cx_nsm j a) = cx_nsm j (θ a) := by
  induction j with
  | zero => exact h.z0
  | succ j ih =>
    show θ (cx_nsm j a + a) = cx_nsm j (θ a) + θ a
    rw [h.addz ?_ (.inr ha), ih]
    cases j with
    | zero => exact .inl rfl
    | succ j => exact .inr (h.c.nsm ha j)
theorem cx_tr_E {B : Type} [Zero B] [Add B] [Mul (cx_S B)] [One (cx_S B)] [Add (cx_S B)] [Zero (cx_S B)] [Inhabited (cx_Idx B)] {M : Type} [Add M] [Inhabited (PLift (cx_MGl M))] [Inhabited (cx_Tord B M)] {B' : Type} [Zero B'] [Add B'] [Mul (cx_S B')] [One (cx_S B')] [Add (cx_S B')] [Zero (cx_S B')] [Inhabited (cx_Idx B')] {M' : Type} [Add M'] [Inhabited (PLift (cx_MGl M'))] [Inhabited (cx_Tord B' M')] {T : B → Prop} {T' : B' → Prop} {θ : B → B'} {θ' : B' → B} {μ : M → M'} {μ' : M' → M} (h : cx_Trn T T' θ θ' μ μ') {a : B} (ha : T a) (c : Rat) : cx_tr T' θ' μ' (cx_E a c : M → cx_S B) = cx_E (θ a) c := by
  classical
  funext m
  refine cx_S.ext (fun b => ?_)
  have ha' := h.to a ha
  have hpr : cx_pr (θ a) m = cx_pr a (μ' m) := by
    have := h.pr_ a (μ' m) ha
    rw [h.mr] at this
    exact this
  by_cases hb : ∃ j, cx_nsm j (θ a) = b
  · obtain ⟨j, rfl⟩ := hb
    have e1 : (cx_E (θ a) c : M' → cx_S B') m (cx_nsm j (θ a)) = cx_bin (c * cx_pr a (μ' m)) j := by
      show cx_sub (θ a) (cx_bin (c * cx_pr (θ a) m)) _ = _
      rw [cx_sub_at (h.nz' _ ha'), hpr]
    rw [e1]
    cases j with
    | zero => exact cx_tr_zero _ m
    | succ j =>
      rw [cx_tr_in h _ m (h.c'.nsm ha' j), ← cx_tr_nsm h ha, h.l _ (h.c.nsm ha j)]
      show cx_sub a (cx_bin (c * cx_pr a (μ' m))) _ = _
      rw [cx_sub_at (h.nz _ ha)]
  · have e1 : (cx_E (θ a) c : M' → cx_S B') m b = 0 := cx_sub_off _ (fun j e => hb ⟨j, e⟩)
    rw [e1]
    have hb0 : b ≠ 0 := fun e => hb ⟨0, e.symm⟩
    by_cases hT : T' b
    · rw [cx_tr_in h _ m hT]
      refine cx_sub_off _ (fun j e => hb ⟨j, ?_⟩)
      rw [← cx_tr_nsm h ha, e, h.r b hT]
    · exact cx_tr_out _ m hb0 hT
theorem cx_tr_I {B : Type} [Zero B] [Add B] [Mul (cx_S B)] [One (cx_S B)] [Add (cx_S B)] [Zero (cx_S B)] [Inhabited (cx_Idx B)] {M : Type} [Add M] [Inhabited (PLift (cx_MGl M))] [Inhabited (cx_Tord B M)] {B' : Type} [Zero B'] [Add B'] [Mul (cx_S B')] [One (cx_S B')] [Add (cx_S B')] [Zero (cx_S B')] [Inhabited (cx_Idx B')] {M' : Type} [Add M'] [Inhabited (PLift (cx_MGl M'))] [Inhabited (cx_Tord B' M')] {T : B → Prop} {T' : B' → Prop} {θ : B → B'} {θ' : B' → B} {μ : M → M'} {μ' : M' → M} (h : cx_Trn T T' θ θ' μ μ') : cx_tr T' θ' μ' (cx_I : M → cx_S B) = cx_I := by
  classical
  funext m
  refine cx_S.ext (fun b => ?_)
  show _ = (1 : cx_S B') b
  by_cases hb0 : b = 0
  · rw [hb0, cx_tr_zero, cx_one_zero]
  · rw [cx_one_ne hb0]
    by_cases hT : T' b
    · rw [cx_tr_in h _ m hT]; exact cx_one_ne (h.nz _ (h.fro b hT))
    · exact cx_tr_out _ m hb0 hT
def cx_mapw {B : Type} [Zero B] [Add B] [Mul (cx_S B)] [One (cx_S B)] [Add (cx_S B)] [Zero (cx_S B)] [Inhabited (cx_Idx B)] {B' : Type} [Zero B'] [Add B'] [Mul (cx_S B')] [One (cx_S B')] [Add (cx_S B')] [Zero (cx_S B')] [Inhabited (cx_Idx B')] (θ : B → B') (w : List (B × Rat)) : List (B' × Rat) := w.map fun x => (θ x.1, x.2)
theorem cx_tr_ev {B : Type} [Zero B] [Add B] [Mul (cx_S B)] [One (cx_S B)] [Add (cx_S B)] [Zero (cx_S B)] [Inhabited (cx_Idx B)] {M : Type} [Add M] [Inhabited (PLift (cx_MGl M))] [Inhabited (cx_Tord B M)] {B' : Type} [Zero B'] [Add B'] [Mul (cx_S B')] [One (cx_S B')] [Add (cx_S B')] [Zero (cx_S B')] [Inhabited (cx_Idx B')] {M' : Type} [Add M'] [Inhabited (PLift (cx_MGl M'))] [Inhabited (cx_Tord B' M')] {T : B → Prop} {T' : B' → Prop} {θ : B → B'} {θ' : B' → B} {μ : M → M'} {μ' : M' → M} (h : cx_Trn T T' θ θ' μ μ') {w : List (B × Rat)} (hw : ∀ x ∈ w, T x.1) : cx_tr T' θ' μ' (cx_ev w : M → cx_S B) = cx_ev (cx_mapw θ w) := by
  induction w with
  | nil => exact cx_tr_I h
  | cons x w ih =>
    have hx := hw x (by simp)
    have hw' : ∀ y ∈ w, T y.1 := fun y hy => hw y (by simp [hy])
    rw [cx_ev_cons, cx_tr_comp h (cx_E_sup h.c hx x.2) (cx_ev_sup h.c hw') (cx_E_good (h.nz _ hx) x.2).unit (cx_ev_good (fun y hy => h.nz _ (hw' y hy))).unit, cx_tr_E h hx, ih hw']
    rfl
theorem cx_tr_eqd {B : Type} [Zero B] [Add B] [Mul (cx_S B)] [One (cx_S B)] [Add (cx_S B)] [Zero (cx_S B)] [Inhabited (cx_Idx B)] {M : Type} [Add M] [Inhabited (PLift (cx_MGl M))] [Inhabited (cx_Tord B M)] {B' : Type} [Zero B'] [Add B'] [Mul (cx_S B')] [One (cx_S B')] [Add (cx_S B')] [Zero (cx_S B')] [Inhabited (cx_Idx B')] {M' : Type} [Add M'] [Inhabited (PLift (cx_MGl M'))] [Inhabited (cx_Tord B' M')] {T : B → Prop} {T' : B' → Prop} {θ : B → B'} {θ' : B' → B} {μ : M → M'} {μ' : M' → M} (h : cx_Trn T T' θ θ' μ μ') {d d' : Nat} (hd : ∀ b, T' b → cx_deg b ≤ d' → cx_deg (θ' b) ≤ d) {f g : M → cx_S B} (he : cx_Eqd d f g) : cx_Eqd d' (cx_tr T' θ' μ' f) (cx_tr T' θ' μ' g) := by
  classical
  intro m b hb
  by_cases hb0 : b = 0
  · rw [hb0, cx_tr_zero, cx_tr_zero]
  · by_cases hT : T' b
    · rw [cx_tr_in h _ m hT, cx_tr_in h _ m hT]; exact he _ _ (hd b hT hb)
    · rw [cx_tr_out _ m hb0 hT, cx_tr_out _ m hb0 hT]
theorem cx_word_approx {B : Type} [Zero B] [Add B] [Mul (cx_S B)] [One (cx_S B)] [Add (cx_S B)] [Zero (cx_S B)] [Inhabited (cx_Idx B)] {M : Type} [Add M] [Inhabited (PLift (cx_MGl M))] [Inhabited (cx_Tord B M)] {T : B → Prop} {f : M → cx_S B} (hf : cx_Good f) (hT : cx_Clo T) (hs : cx_Sup T f) (d : Nat) : ∃ w : List (B × Rat), (∀ x ∈ w, x.1 ≠ 0 ∧ T x.1) ∧ cx_Eqd d f (cx_ev w) := by
  obtain ⟨wp, w0, wm, h, _⟩ := cx_Fac.exists (t := fun _ => 0) hT (Z := fun _ => False) (fun _ _ h _ => h) hf hs (fun _ _ h => h.elim) d
  refine ⟨wp ++ (w0 ++ wm), fun x hx => ?_, by rw [cx_ev_append, cx_ev_append]; exact h.eq⟩
  rcases List.mem_append.1 hx with hx | hx
  · have := h.pos.all x hx; exact ⟨this.1, this.2.1.1⟩
  · rcases List.mem_append.1 hx with hx | hx
    · have := h.nul.all x hx; exact ⟨this.1, this.2.1.1⟩
    · have := h.neg.all x hx; exact ⟨this.1, this.2.1.1⟩
def cx_Bnd {B : Type} [Zero B] [Add B] [Mul (cx_S B)] [One (cx_S B)] [Add (cx_S B)] [Zero (cx_S B)] [Inhabited (cx_Idx B)] {B' : Type} [Zero B'] [Add B'] [Mul (cx_S B')] [One (cx_S B')] [Add (cx_S B')] [Zero (cx_S B')] [Inhabited (cx_Idx B')] (T' : B' → Prop) (θ' : B' → B) : Prop := ∀ d', ∃ d, ∀ b, T' b → cx_deg b ≤ d' → cx_deg (θ' b) ≤ d
theorem cx_tr_good {B : Type} [Zero B] [Add B] [Mul (cx_S B)] [One (cx_S B)] [Add (cx_S B)] [Zero (cx_S B)] [Inhabited (cx_Idx B)] {M : Type} [Add M] [Inhabited (PLift (cx_MGl M))] [Inhabited (cx_Tord B M)] {B' : Type} [Zero B'] [Add B'] [Mul (cx_S B')] [One (cx_S B')] [Add (cx_S B')] [Zero (cx_S B')] [Inhabited (cx_Idx B')] {M' : Type} [Add M'] [Inhabited (PLift (cx_MGl M'))] [Inhabited (cx_Tord B' M')] {T : B → Prop} {T' : B' → Prop} {θ : B → B'} {θ' : B' → B} {μ : M → M'} {μ' : M' → M} (h : cx_Trn T T' θ θ' μ μ') (hb : cx_Bnd T' θ') {f : M → cx_S B} (hf : cx_Good f) (hs : cx_Sup T f) : cx_Good (cx_tr T' θ' μ' f) := by
  refine cx_good_lim (fun d' => ?_)
  obtain ⟨d, hd⟩ := hb d'
  obtain ⟨w, hw, he⟩ := cx_word_approx hf h.c hs d
  have e := cx_tr_eqd h hd he
  rw [cx_tr_ev h (fun x hx => (hw x hx).2)] at e
  refine ⟨_, cx_ev_good (fun x hx => ?_), e⟩
  obtain ⟨y, hy, rfl⟩ := List.mem_map.1 hx
  exact h.nz' _ (h.to _ (hw y hy).2)
theorem cx_tr_whole {B : Type} [Zero B] [Add B] [Mul (cx_S B)] [One (cx_S B)] [Add (cx_S B)] [Zero (cx_S B)] [Inhabited (cx_Idx B)] {M : Type} [Add M] [Inhabited (PLift (cx_MGl M))] [Inhabited (cx_Tord B M)] {B' : Type} [Zero B'] [Add B'] [Mul (cx_S B')] [One (cx_S B')] [Add (cx_S B')] [Zero (cx_S B')] [Inhabited (cx_Idx B')] {M' : Type} [Add M'] [Inhabited (PLift (cx_MGl M'))] [Inhabited (cx_Tord B' M')] {T : B → Prop} {T' : B' → Prop} {θ : B → B'} {θ' : B' → B} {μ : M → M'} {μ' : M' → M} (h : cx_Trn T T' θ θ' μ μ') {Z : M → Prop} {Z' : M' → Prop} (hZ : ∀ m, Z' m → Z (μ' m)) {f : M → cx_S B} (hw : ∀ d, cx_Whole d Z f) (d : Nat) : cx_Whole d Z' (cx_tr T' θ' μ' f) := by
  classical
  intro m hm b _
  by_cases hb0 : b = 0
  · rw [hb0, cx_tr_zero]; exact cx_IsI.one
  · by_cases hT : T' b
    · rw [cx_tr_in h _ m hT]; exact hw (cx_deg (θ' b)) _ (hZ m hm) _ (Nat.le_refl _)
    · rw [cx_tr_out _ m hb0 hT]; exact cx_IsI.zero
theorem cx_tr_fac {B : Type} [Zero B] [Add B] [Mul (cx_S B)] [One (cx_S B)] [Add (cx_S B)] [Zero (cx_S B)] [Inhabited (cx_Idx B)] {M : Type} [Add M] [Inhabited (PLift (cx_MGl M))] [Inhabited (cx_Tord B M)] {B' : Type} [Zero B'] [Add B'] [Mul (cx_S B')] [One (cx_S B')] [Add (cx_S B')] [Zero (cx_S B')] [Inhabited (cx_Idx B')] {M' : Type} [Add M'] [Inhabited (PLift (cx_MGl M'))] [Inhabited (cx_Tord B' M')] {T : B → Prop} {T' : B' → Prop} {θ : B → B'} {θ' : B' → B} {μ : M → M'} {μ' : M' → M} (h : cx_Trn T T' θ θ' μ μ') {d d' : Nat} (hd : ∀ b, T' b → cx_deg b ≤ d' → cx_deg (θ' b) ≤ d) {t : B → Rat} {t' : B' → Rat} (ht : ∀ b, T b → t' (θ b) = t b)
    {f : M → cx_S B} {wp w0 wm : List (B × Rat)} (hf : cx_Fac t T d f wp w0 wm) : cx_Fac t' T' d' (cx_tr T' θ' μ' f) (cx_cut d' (cx_mapw θ wp)) (cx_cut d' (cx_mapw θ w0)) (cx_cut d' (cx_mapw θ wm)) := by
  have key : ∀ {w : List (B × Rat)} {P : Rat → Prop}, cx_Lt (fun b => T b ∧ P (t b)) d w → cx_Lt (fun b => T' b ∧ P (t' b)) d' (cx_cut d' (cx_mapw θ w)) := by
    intro w P hl
    refine ⟨fun x hx => ?_⟩
    have hx := List.mem_filter.1 hx
    obtain ⟨y, hy, rfl⟩ := List.mem_map.1 hx.1
    have := hl.all y hy
    exact ⟨h.nz' _ (h.to _ this.2.1.1), ⟨h.to _ this.2.1.1, by rw [ht _ this.2.1.1]; exact this.2.1.2⟩, by simpa using hx.2⟩
  have nz : ∀ {w : List (B × Rat)} {P : Rat → Prop}, cx_Lt (fun b => T b ∧ P (t b)) d w → cx_NZ (cx_mapw θ w) := by
    intro w P hl x hx
    obtain ⟨y, hy, rfl⟩ := List.mem_map.1 hx
    exact h.nz' _ (h.to _ (hl.all y hy).2.1.1)
  have inT : ∀ {w : List (B × Rat)} {P : Rat → Prop}, cx_Lt (fun b => T b ∧ P (t b)) d w → ∀ x ∈ w, T x.1 := fun hl x hx => (hl.all x hx).2.1.1
  refine ⟨key (P := fun r => 0 < r) hf.pos, key (P := fun r => r = 0) hf.nul, key (P := fun r => r < 0) hf.neg, ?_⟩
  have e := cx_tr_eqd h hd hf.eq
  have tp := inT (P := fun r => 0 < r) hf.pos
  have t0 := inT (P := fun r => r = 0) hf.nul
  have tm := inT (P := fun r => r < 0) hf.neg
  have gp := (cx_ev_good (M := M) hf.pos.nz).unit
  have g0 := (cx_ev_good (M := M) hf.nul.nz).unit
  have gm := (cx_ev_good (M := M) hf.neg.nz).unit
  rw [cx_tr_comp h (cx_ev_sup h.c tp) ((cx_ev_sup h.c t0).comp h.c (cx_ev_sup h.c tm)) gp (cx_comp_unit g0 gm), cx_tr_comp h (cx_ev_sup h.c t0) (cx_ev_sup h.c tm) g0 gm,
    cx_tr_ev h tp, cx_tr_ev h t0, cx_tr_ev h tm] at e
  exact e.trans (cx_Eqd.comp (cx_ev_cut (nz (P := fun r => 0 < r) hf.pos)) (cx_Eqd.comp (cx_ev_cut (nz (P := fun r => r = 0) hf.nul)) (cx_ev_cut (nz (P := fun r => r < 0) hf.neg))))
