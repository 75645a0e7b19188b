theorem cx_least {α : Type} (l : List α) (f : α → Rat) (h : l ≠ []) : ∃ a ∈ l, ∀ b ∈ l, f a ≤ f b := by
  induction l with
  | nil => exact absurd rfl h
  | cons x l ih =>
    by_cases hl : l = []
    · subst hl; exact ⟨x, by simp, fun b hb => by simp at hb; subst hb; grind⟩
    · obtain ⟨a, ha, hm⟩ := ih hl
      by_cases hx : f x ≤ f a
      · exact ⟨x, by simp, fun b hb => by
          rcases List.mem_cons.1 hb with rfl | hb
          · grind
          · have := hm b hb; grind⟩
      · exact ⟨a, by simp [ha], fun b hb => by
          rcases List.mem_cons.1 hb with rfl | hb
          · grind
          · exact hm b hb⟩
noncomputable def cx_cnt {B : Type} [Zero B] [Add B] [Mul (cx_S B)] [One (cx_S B)] [Add (cx_S B)] [Zero (cx_S B)] [Inhabited (cx_Idx B)] (d : Nat) (T t : B → Rat) : Nat := ((cx_lst d : List B).filter (fun b => decide (t b * T b < 0))).length
theorem cx_filter_len_lt {α : Type} (l : List α) (P Q : α → Bool) (hPQ : ∀ a ∈ l, P a = true → Q a = true) (h : ∃ a ∈ l, P a = false ∧ Q a = true) :
    (l.filter P).length < (l.filter Q).length := by
  have mono : ∀ l : List α, (∀ a ∈ l, P a = true → Q a = true) → (l.filter P).length ≤ (l.filter Q).length := by
    intro l hl
    induction l with
    | nil => simp
    | cons x l ih =>
      have := ih (fun a ha => hl a (by simp [ha]))
      have hx := hl x (by simp)
      by_cases h1 : P x = true
      · rw [List.filter_cons_of_pos h1, List.filter_cons_of_pos (hx h1)]; simp; omega
      · rw [List.filter_cons_of_neg h1]
        by_cases h2 : Q x = true
        · rw [List.filter_cons_of_pos h2]; simp; omega
        · rw [List.filter_cons_of_neg h2]; omega
  induction l with
  | nil => obtain ⟨a, ha, _⟩ := h; simp at ha
  | cons x l ih =>
    have hm := mono l (fun a ha => hPQ a (by simp [ha]))
    have hx := hPQ x (by simp)
    obtain ⟨a, ha, h1, h2⟩ := h
    by_cases hP : P x = true
    · rw [List.filter_cons_of_pos hP, List.filter_cons_of_pos (hx hP)]
      have hax : a ≠ x := fun e => by subst e; rw [hP] at h1; exact absurd h1 (by simp)
      have hal : a ∈ l := by
        rcases List.mem_cons.1 ha with h | h
        · exact absurd h hax
        · exact h
      have := ih (fun a ha => hPQ a (by simp [ha])) ⟨a, hal, h1, h2⟩
      simp; omega
    · rw [List.filter_cons_of_neg hP]
      by_cases hQ : Q x = true
      · rw [List.filter_cons_of_pos hQ]; simp; omega
      · rw [List.filter_cons_of_neg hQ]
        have hax : a ≠ x := fun e => by subst e; exact hQ h2
        have hal : a ∈ l := by
          rcases List.mem_cons.1 ha with h | h
          · exact absurd h hax
          · exact h
        exact ih (fun a ha => hPQ a (by simp [ha])) ⟨a, hal, h1, h2⟩
theorem cx_mul_neg {x y : Rat} (h : x * y < 0) : (0 < x ∧ y < 0) ∨ (x < 0 ∧ 0 < y) := by
  by_cases hx : 0 < x
  · by_cases hy : y < 0
    · exact .inl ⟨hx, hy⟩
    · have := Rat.mul_nonneg (by grind : 0 ≤ x) (by grind : 0 ≤ y); grind
  · by_cases hy : 0 < y
    · by_cases hx' : x < 0
      · exact .inr ⟨hx', hy⟩
      · have : x = 0 := by grind
        subst this; grind
    · have := Rat.mul_nonneg (by grind : 0 ≤ -x) (by grind : 0 ≤ -y); grind
abbrev cx_Joint {B : Type} [Zero B] [Add B] [Mul (cx_S B)] [One (cx_S B)] [Add (cx_S B)] [Zero (cx_S B)] [Inhabited (cx_Idx B)] (K : B → Prop) (d : Nat) (T t1 : B → Rat) (b0 : B) : Prop := (cx_Van K t1) ∧ (b0 ≠ 0) ∧ (cx_deg b0 ≤ d) ∧ (T b0 ≠ 0) ∧ (t1 b0 = 0) ∧ (∀ b, b ≠ 0 → cx_deg b ≤ d → t1 b = 0 → cx_Sp K b0 b)
theorem cx_Joint.van {B : Type} [Zero B] [Add B] [Mul (cx_S B)] [One (cx_S B)] [Add (cx_S B)] [Zero (cx_S B)] [Inhabited (cx_Idx B)] {K : B → Prop} {d : Nat} {T t1 : B → Rat} {b0 : B} (hh_ : cx_Joint K d T t1 b0) : cx_Van K t1 := hh_.1
theorem cx_Joint.nz {B : Type} [Zero B] [Add B] [Mul (cx_S B)] [One (cx_S B)] [Add (cx_S B)] [Zero (cx_S B)] [Inhabited (cx_Idx B)] {K : B → Prop} {d : Nat} {T t1 : B → Rat} {b0 : B} (hh_ : cx_Joint K d T t1 b0) : b0 ≠ 0 := hh_.2.1
theorem cx_Joint.dg {B : Type} [Zero B] [Add B] [Mul (cx_S B)] [One (cx_S B)] [Add (cx_S B)] [Zero (cx_S B)] [Inhabited (cx_Idx B)] {K : B → Prop} {d : Nat} {T t1 : B → Rat} {b0 : B} (hh_ : cx_Joint K d T t1 b0) : cx_deg b0 ≤ d := hh_.2.2.1
theorem cx_Joint.tr {B : Type} [Zero B] [Add B] [Mul (cx_S B)] [One (cx_S B)] [Add (cx_S B)] [Zero (cx_S B)] [Inhabited (cx_Idx B)] {K : B → Prop} {d : Nat} {T t1 : B → Rat} {b0 : B} (hh_ : cx_Joint K d T t1 b0) : T b0 ≠ 0 := hh_.2.2.2.1
theorem cx_Joint.zr {B : Type} [Zero B] [Add B] [Mul (cx_S B)] [One (cx_S B)] [Add (cx_S B)] [Zero (cx_S B)] [Inhabited (cx_Idx B)] {K : B → Prop} {d : Nat} {T t1 : B → Rat} {b0 : B} (hh_ : cx_Joint K d T t1 b0) : t1 b0 = 0 := hh_.2.2.2.2.1
theorem cx_Joint.sp {B : Type} [Zero B] [Add B] [Mul (cx_S B)] [One (cx_S B)] [Add (cx_S B)] [Zero (cx_S B)] [Inhabited (cx_Idx B)] {K : B → Prop} {d : Nat} {T t1 : B → Rat} {b0 : B} (hh_ : cx_Joint K d T t1 b0) : ∀ b, b ≠ 0 → cx_deg b ≤ d → t1 b = 0 → cx_Sp K b0 b := hh_.2.2.2.2.2
theorem cx_step {B : Type} [Zero B] [Add B] [Mul (cx_S B)] [One (cx_S B)] [Add (cx_S B)] [Zero (cx_S B)] [Inhabited (cx_Idx B)] {K : B → Prop} {d : Nat} {T t : B → Rat} (ht : cx_Gen K d t) (hKd : cx_Van K t) (hT : cx_Van K T) (hL : cx_Lgen K d T t)
    (hc : ∃ b : B, cx_deg b ≤ d ∧ t b * T b < 0) :
    ∃ (s : Rat) (t' : B → Rat) (b0 : B), 0 < s ∧ cx_Gen K d t' ∧ cx_Van K t' ∧ cx_Lgen K d T t' ∧ cx_cnt d T t' < cx_cnt d T t ∧ cx_Joint K d T (fun b => t b + s * T b) b0 ∧ t b0 * T b0 < 0 ∧
      cx_Near cx_All d (fun b => t b + s * T b) (fun b => - T b) t ∧ cx_Near cx_All d (fun b => t b + s * T b) T t' ∧ (∃ s', 0 < s' ∧ ∀ b, t' b = t b + s' * T b) := by
  classical
  let C : List B := (cx_lst d).filter (fun b => decide (t b * T b < 0))
  have hC : ∀ b, b ∈ C ↔ cx_deg b ≤ d ∧ t b * T b < 0 := by
    intro b
    show b ∈ List.filter _ _ ↔ _
    rw [List.mem_filter, cx_mem_lst, decide_eq_true_eq]
  have hne : C ≠ [] := by
    obtain ⟨b, h1, h2⟩ := hc
    exact fun h => by have := (hC b).2 ⟨h1, h2⟩; rw [h] at this; simp at this
  obtain ⟨b0, hb0, hmin⟩ := cx_least C (fun b => - (t b / T b)) hne
  have hb0' := (hC b0).1 hb0
  generalize hs : - (t b0 / T b0) = s at hmin
  have hT0 : T b0 ≠ 0 := fun h => by have := hb0'.2; rw [h] at this; grind
  have hdiv : ∀ b, T b ≠ 0 → t b = - (- (t b / T b)) * T b := by
    intro b hb
    have : t b / T b * T b = t b := Rat.div_mul_cancel hb
    grind
  have hts : t b0 = - s * T b0 := by have := hdiv b0 hT0; rw [hs] at this; exact this
  have sq : ∀ b, T b ≠ 0 → 0 < T b * T b := by
    intro b hb
    by_cases h : 0 < T b
    · exact Rat.mul_pos h h
    · have : 0 < - T b := by grind
      have := Rat.mul_pos this this; grind
  have hspos : 0 < s := by
    have h1 := hb0'.2
    rw [hts] at h1
    have h2 := sq b0 hT0
    by_cases h : 0 < s
    · exact h
    · have := Rat.mul_nonneg (by grind : 0 ≤ - s) (by grind : 0 ≤ T b0 * T b0)
      grind

  have before : ∀ b, cx_deg b ≤ d → t b * T b < 0 → (0 < t b → 0 ≤ t b + s * T b) ∧ (t b < 0 → t b + s * T b ≤ 0) := by
    intro b hb hneg
    have hTb : T b ≠ 0 := fun h => by rw [h] at hneg; grind
    have h1 := hmin b ((hC b).2 ⟨hb, hneg⟩)
    have h2 := hdiv b hTb
    generalize - (t b / T b) = r at *
    rcases cx_mul_neg hneg with ⟨h3, h4⟩ | ⟨h3, h4⟩
    · refine ⟨fun _ => ?_, fun h => by grind⟩
      have := Rat.mul_nonneg (by grind : 0 ≤ r - s) (by grind : 0 ≤ - T b)
      grind
    · refine ⟨fun h => by grind, fun _ => ?_⟩
      have := Rat.mul_nonneg (by grind : 0 ≤ r - s) (by grind : 0 ≤ T b)
      grind
  let t1 : B → Rat := fun b => t b + s * T b
  have ft1 : cx_Fun t1 := ht.f.plus hT.1 s
  have vt1 : cx_Van K t1 := ⟨ft1, fun a ha => by show t a + s * T a = 0; rw [hKd.2 a ha, hT.2 a ha]; grind⟩
  have K0 : ∀ b, b ≠ 0 → cx_deg b ≤ d → t b = 0 → T b = 0 := fun b hb hd h => hT.2 b ((ht.z b hb hd).1 h)
  have near1 : cx_Near cx_All d t1 (fun b => - T b) t := by
    have nz : ∀ b, cx_deg b ≤ d → t1 b ≠ 0 → b ≠ 0 := fun b _ h e => h (by rw [e]; exact ft1.zero)
    refine ⟨fun b _ hb h => ?_, fun b _ hb h => ?_, fun b _ hb h h' => ?_, fun b _ hb h h' => ?_, fun b _ hb h h' => ?_⟩
    · have h : 0 < t b + s * T b := h
      by_cases h2 : 0 < t b
      · exact h2
      · by_cases h3 : t b < 0
        · by_cases h4 : 0 < T b
          · have h5 := (before b hb (by have := Rat.mul_pos (by grind : 0 < - t b) h4; grind)).2 h3
            grind
          · have := Rat.mul_nonneg (by grind : 0 ≤ s) (by grind : 0 ≤ - T b)
            grind
        · have h4 : t b = 0 := by grind
          have := K0 b (nz b hb (by show t b + s * T b ≠ 0; grind)) hb h4
          rw [h4, this] at h; grind
    · have h : t b + s * T b < 0 := h
      by_cases h2 : t b < 0
      · exact h2
      · by_cases h3 : 0 < t b
        · by_cases h4 : T b < 0
          · have h5 := (before b hb (by have := Rat.mul_pos h3 (by grind : 0 < - T b); grind)).1 h3
            grind
          · have := Rat.mul_nonneg (by grind : 0 ≤ s) (by grind : 0 ≤ T b)
            grind
        · have h4 : t b = 0 := by grind
          have := K0 b (nz b hb (by show t b + s * T b ≠ 0; grind)) hb h4
          rw [h4, this] at h; grind
    · have h : t b + s * T b = 0 := h
      have h' : 0 < - T b := h'
      have := Rat.mul_pos hspos h'; grind
    · have h : t b + s * T b = 0 := h
      have h' : - T b = 0 := h'
      have : T b = 0 := by grind
      rw [this] at h; grind
    · have h : t b + s * T b = 0 := h
      have h' : - T b < 0 := h'
      have := Rat.mul_pos hspos (by grind : 0 < T b); grind
  obtain ⟨ε, hε, hn⟩ := cx_near_small d t1 T
  have hn := hn ε hε (by grind)
  let t' : B → Rat := fun b => t1 b + ε * T b
  have et' : ∀ b, t' b = t b + (s + ε) * T b := fun b => by show t b + s * T b + ε * T b = _; grind
  have ft' : cx_Fun t' := ft1.plus hT.1 ε
  have vt' : cx_Van K t' := ⟨ft', fun a ha => by show t1 a + ε * T a = 0; rw [vt1.2 a ha, hT.2 a ha]; grind⟩
  have gt' : cx_Gen K d t' := by
    refine ⟨ft', fun b hb hd => ⟨fun h => ?_, fun h => vt'.2 b h⟩⟩
    by_cases h1 : t1 b = 0
    · by_cases h2 : T b = 0
      · refine (ht.z b hb hd).1 ?_
        have : t b + s * T b = 0 := h1
        rw [h2] at this; grind
      · have : t1 b + ε * T b = 0 := h
        rw [h1, Rat.zero_add] at this
        rcases Rat.mul_eq_zero.1 this with h | h
        · grind
        · exact absurd h h2
    · by_cases h2 : 0 < t1 b
      · have := hn.pos b trivial hd h2
        have h : t1 b + ε * T b = 0 := h
        grind
      · have := hn.neg b trivial hd (by grind)
        have h : t1 b + ε * T b = 0 := h
        grind
  refine ⟨s, t', b0, hspos, gt', vt', ?_, ?_, ⟨vt1, ?_, hb0'.1, hT0, ?_, ?_⟩, hb0'.2, near1, hn, ⟨s + ε, by grind, et'⟩⟩
  · intro x y hx hy hdx hdy hTx he
    refine hL x y hx hy hdx hdy hTx ?_
    rw [et', et'] at he
    grind
  · refine cx_filter_len_lt _ _ _ ?_ ⟨b0, (cx_mem_lst d b0).2 hb0'.1, ?_, ?_⟩
    · intro b hb h
      rw [decide_eq_true_eq] at h ⊢
      rw [et'] at h
      have h2 : 0 ≤ T b * T b := by
        by_cases h0 : T b = 0
        · rw [h0]; grind
        · have := sq b h0; grind
      have := Rat.mul_nonneg (by grind : 0 ≤ s + ε) h2
      grind
    · rw [decide_eq_false_iff_not]
      have h2 := sq b0 hT0
      rw [et', hts]
      have := Rat.mul_pos hε h2
      grind
    · rw [decide_eq_true_eq]; exact hb0'.2
  · intro e; rw [e, hT.1.zero] at hT0; exact hT0 rfl
  · show t b0 + s * T b0 = 0; rw [hts]; grind
  · intro b hb hd hz
    have hz : t b + s * T b = 0 := hz
    refine hL b0 b (fun e => hT0 (by rw [e]; exact hT.1.zero)) hb hb0'.1 hd hT0 ?_
    rw [hts]
    have : t b = - s * T b := by grind
    rw [this]; grind
theorem cx_path_ind {B : Type} [Zero B] [Add B] [Mul (cx_S B)] [One (cx_S B)] [Add (cx_S B)] [Zero (cx_S B)] [Inhabited (cx_Idx B)] {K : B → Prop} {d : Nat} {T : B → Rat} (hT : cx_Van K T) (Q : (B → Rat) → Prop)
    (hsgn : ∀ t t', cx_Gen K d t → cx_Van K t → cx_Gen K d t' → cx_Van K t' → cx_Sgn d t t' → Q t' → Q t)
    (hend : ∀ t, cx_Gen K d t → cx_Van K t → (∀ b, cx_deg b ≤ d → 0 ≤ t b * T b) → Q t)
    (hstep : ∀ t t' s b0, cx_Gen K d t → cx_Van K t → cx_Gen K d t' → cx_Van K t' → 0 < s → cx_Joint K d T (fun b => t b + s * T b) b0 → t b0 * T b0 < 0 →
      cx_Near cx_All d (fun b => t b + s * T b) (fun b => - T b) t → cx_Near cx_All d (fun b => t b + s * T b) T t' → (∃ s', 0 < s' ∧ ∀ b, t' b = t b + s' * T b) → Q t' → Q t) :
    ∀ t, cx_Gen K d t → cx_Van K t → Q t := by
  classical
  have main : ∀ n t, cx_Gen K d t → cx_Van K t → cx_Lgen K d T t → cx_cnt d T t < n → Q t := by
    intro n
    induction n with
    | zero => intro t _ _ _ h; omega
    | succ n ih =>
      intro t gt vt lt hc
      by_cases hx : ∃ b : B, cx_deg b ≤ d ∧ t b * T b < 0
      · obtain ⟨s, t', b0, h1, h2, h3, h4, h5, h6, h7, h8, h9, h10⟩ := cx_step gt vt hT lt hx
        exact hstep t t' s b0 gt vt h2 h3 h1 h6 h7 h8 h9 h10 (ih t' h2 h3 h4 (by omega))
      · refine hend t gt vt (fun b hb => ?_)
        by_cases h : 0 ≤ t b * T b
        · exact h
        · exact absurd ⟨b, hb, by grind⟩ hx
  intro t gt vt
  obtain ⟨t', g', v', s', l'⟩ := cx_perturb gt vt hT
  exact hsgn t t' gt vt g' v' s' (main _ t' g' v' l' (Nat.lt_succ_self _))
