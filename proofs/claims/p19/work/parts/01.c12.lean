section

def cx_sm {α : Type} (l : List α) (f : α → Rat) : Rat := l.foldr (fun a s => f a + s) 0
theorem cx_sm_nil {α : Type} (f : α → Rat) : cx_sm [] f = 0 := rfl
theorem cx_sm_cons {α : Type} (a : α) (l : List α) (f : α → Rat) : cx_sm (a :: l) f = f a + cx_sm l f := rfl
theorem cx_sm_append {α : Type} (l k : List α) (f : α → Rat) : cx_sm (l ++ k) f = cx_sm l f + cx_sm k f := by
  induction l with
  | nil => simp [cx_sm_nil, cx_sm_cons, Rat.zero_add]
  | cons a l ih => simp [cx_sm_nil, cx_sm_cons, ih, Rat.add_assoc]
theorem cx_sm_congr {α : Type} {l : List α} {f g : α → Rat} (h : ∀ a ∈ l, f a = g a) : cx_sm l f = cx_sm l g := by
  induction l with
  | nil => rfl
  | cons a l ih => simp [cx_sm_nil, cx_sm_cons, h a (by simp [cx_sm_nil, cx_sm_cons]), ih (fun b hb => h b (by simp [cx_sm_nil, cx_sm_cons, hb]))]
theorem cx_sm_perm {α : Type} {l k : List α} (h : l.Perm k) (f : α → Rat) : cx_sm l f = cx_sm k f := by
  induction h with
  | nil => rfl
  | cons a _ ih => simp [cx_sm_nil, cx_sm_cons, ih]
  | swap a b l => simp [cx_sm_nil, cx_sm_cons]; grind
  | trans _ _ h1 h2 => exact h1.trans h2
theorem cx_sm_add {α : Type} (l : List α) (f g : α → Rat) : cx_sm l (fun a => f a + g a) = cx_sm l f + cx_sm l g := by
  induction l with
  | nil => simp [cx_sm_nil, cx_sm_cons, Rat.zero_add]
  | cons a l ih => simp [cx_sm_nil, cx_sm_cons, ih]; grind
theorem cx_sm_mulL {α : Type} (l : List α) (c : Rat) (f : α → Rat) : cx_sm l (fun a => c * f a) = c * cx_sm l f := by
  induction l with
  | nil => simp [cx_sm_nil, cx_sm_cons, Rat.mul_zero]
  | cons a l ih => simp [cx_sm_nil, cx_sm_cons, ih]; grind
theorem cx_sm_mulR {α : Type} (l : List α) (c : Rat) (f : α → Rat) : cx_sm l (fun a => f a * c) = cx_sm l f * c := by
  induction l with
  | nil => simp [cx_sm_nil, cx_sm_cons, Rat.zero_mul]
  | cons a l ih => simp [cx_sm_nil, cx_sm_cons, ih]; grind
theorem cx_sm_zero {α : Type} {l : List α} {f : α → Rat} (h : ∀ a ∈ l, f a = 0) : cx_sm l f = 0 := by
  induction l with
  | nil => rfl
  | cons a l ih => simp [cx_sm_nil, cx_sm_cons, h a (by simp [cx_sm_nil, cx_sm_cons]), ih (fun b hb => h b (by simp [cx_sm_nil, cx_sm_cons, hb])), Rat.zero_add]
theorem cx_sm_nonneg {α : Type} {l : List α} {f : α → Rat} (h : ∀ a ∈ l, 0 ≤ f a) : 0 ≤ cx_sm l f := by
  induction l with
  | nil => simp [cx_sm_nil, cx_sm_cons]
  | cons a l ih =>
    have := h a (by simp [cx_sm_nil, cx_sm_cons])
    have := ih (fun b hb => h b (by simp [cx_sm_nil, cx_sm_cons, hb]))
    simp [cx_sm_nil, cx_sm_cons]; grind
theorem cx_sm_map {α : Type} {β : Type} (l : List α) (j : α → β) (f : β → Rat) : cx_sm (l.map j) f = cx_sm l (fun a => f (j a)) := by
  induction l with
  | nil => rfl
  | cons a l ih => simp [cx_sm_nil, cx_sm_cons, ih]
theorem cx_sm_flat {α : Type} {β : Type} (l : List α) (k : α → List β) (f : α → β → Rat) :
    cx_sm l (fun a => cx_sm (k a) (f a)) = cx_sm (l.flatMap fun a => (k a).map fun b => (a, b)) (fun cx_p => f cx_p.1 cx_p.2) := by
  induction l with
  | nil => rfl
  | cons a l ih => simp [cx_sm_nil, cx_sm_cons, List.flatMap_cons, cx_sm_append, cx_sm_map, ih]
theorem cx_nodup_flat {α : Type} {β : Type} {l : List α} {k : α → List β} (hl : l.Nodup) (hk : ∀ a ∈ l, (k a).Nodup) :
    (l.flatMap fun a => (k a).map fun b => (a, b)).Nodup := by
  induction l with
  | nil => simp [cx_sm_nil, cx_sm_cons]
  | cons a l ih =>
    rw [List.nodup_cons] at hl
    rw [List.flatMap_cons, List.nodup_append]
    refine ⟨?_, ih hl.2 (fun b hb => hk b (by simp [cx_sm_nil, cx_sm_cons, hb])), ?_⟩
    · have := hk a (by simp [cx_sm_nil, cx_sm_cons])
      rw [List.nodup_iff_pairwise_ne] at *
      rw [List.pairwise_map]
      exact this.imp (fun h e => h (Prod.mk.inj e).2)
    · intro x hx y hy e
      subst e
      simp only [List.mem_map, List.mem_flatMap] at hx hy
      obtain ⟨b, _, rfl⟩ := hx
      obtain ⟨a', ha', b', _, e⟩ := hy
      exact hl.1 ((Prod.mk.inj e).1 ▸ ha')
theorem cx_perm_of {α : Type} {l k : List α} (hl : l.Nodup) (hk : k.Nodup) (h : ∀ a, a ∈ l ↔ a ∈ k) : l.Perm k :=
  (List.perm_ext_iff_of_nodup hl hk).2 h
theorem cx_sm_swap {α : Type} {β : Type} {γ : Type} {δ : Type} {l : List α} {k : α → List β} {l' : List γ} {k' : γ → List δ}
    (f : α → β → Rat) (f' : γ → δ → Rat) (j : γ × δ → α × β)
    (hl : l.Nodup) (hk : ∀ a ∈ l, (k a).Nodup) (hl' : l'.Nodup) (hk' : ∀ a ∈ l', (k' a).Nodup)
    (hj : ∀ cx_p q, cx_p.1 ∈ l' → cx_p.2 ∈ k' cx_p.1 → q.1 ∈ l' → q.2 ∈ k' q.1 → j cx_p = j q → cx_p = q)
    (ho : ∀ a b, (a ∈ l ∧ b ∈ k a) ↔ ∃ cx_p, cx_p.1 ∈ l' ∧ cx_p.2 ∈ k' cx_p.1 ∧ j cx_p = (a, b))
    (hf : ∀ cx_p, cx_p.1 ∈ l' → cx_p.2 ∈ k' cx_p.1 → f (j cx_p).1 (j cx_p).2 = f' cx_p.1 cx_p.2) :
    cx_sm l (fun a => cx_sm (k a) (f a)) = cx_sm l' (fun a => cx_sm (k' a) (f' a)) := by
  rw [cx_sm_flat, cx_sm_flat]
  have hm : ∀ cx_p : γ × δ, cx_p ∈ (l'.flatMap fun a => (k' a).map fun b => (a, b)) ↔ cx_p.1 ∈ l' ∧ cx_p.2 ∈ k' cx_p.1 := by
    intro ⟨a, b⟩
    simp only [List.mem_flatMap, List.mem_map]
    constructor
    · rintro ⟨a', h1, b', h2, e⟩
      cases e; exact ⟨h1, h2⟩
    · rintro ⟨h1, h2⟩
      exact ⟨a, h1, b, h2, rfl⟩
  have hm' : ∀ cx_p : α × β, cx_p ∈ (l.flatMap fun a => (k a).map fun b => (a, b)) ↔ cx_p.1 ∈ l ∧ cx_p.2 ∈ k cx_p.1 := by
    intro ⟨a, b⟩
    simp only [List.mem_flatMap, List.mem_map]
    constructor
    · rintro ⟨a', h1, b', h2, e⟩
      cases e; exact ⟨h1, h2⟩
    · rintro ⟨h1, h2⟩
      exact ⟨a, h1, b, h2, rfl⟩
  have hn := cx_nodup_flat hl' hk'
  have hp : (l.flatMap fun a => (k a).map fun b => (a, b)).Perm ((l'.flatMap fun a => (k' a).map fun b => (a, b)).map j) := by
    refine cx_perm_of (cx_nodup_flat hl hk) ?_ ?_
    · rw [List.nodup_iff_pairwise_ne] at *
      rw [List.pairwise_map]
      refine List.Pairwise.imp_of_mem ?_ hn
      intro cx_p q hp hq hne e
      exact hne (hj cx_p q ((hm cx_p).1 hp).1 ((hm cx_p).1 hp).2 ((hm q).1 hq).1 ((hm q).1 hq).2 e)
    · intro ⟨a, b⟩
      rw [hm', List.mem_map]
      rw [ho]
      constructor
      · rintro ⟨cx_p, h1, h2, e⟩; exact ⟨cx_p, (hm cx_p).2 ⟨h1, h2⟩, e⟩
      · rintro ⟨cx_p, h1, e⟩; exact ⟨cx_p, ((hm cx_p).1 h1).1, ((hm cx_p).1 h1).2, e⟩
  rw [cx_sm_perm hp, cx_sm_map]
  exact cx_sm_congr (fun cx_p hp => hf cx_p ((hm cx_p).1 hp).1 ((hm cx_p).1 hp).2)
def cx_S (B : Type) := B → Rat
theorem cx_S.ext {B : Type} {f g : cx_S B} (h : ∀ b, f b = g b) : f = g := funext h
abbrev cx_Idx (B : Type) [Zero B] [Add B] [Mul (cx_S B)] [One (cx_S B)] [Add (cx_S B)] [Zero (cx_S B)] : Type := {x : (B → List (B × B)) × (B → Nat) × (Nat → List B) // (∀ a b c : B, a + b + c = a + (b + c)) ∧ (∀ a b : B, a + b = b + a) ∧ (∀ a : B, a + 0 = a) ∧ (∀ a b c : B, a + b = a + c → b = c) ∧ (∀ (b u v : B), (u, v) ∈ x.1 b ↔ u + v = b) ∧ (∀ b : B, (x.1 b).Nodup) ∧ (∀ a b : B, x.2.1 (a + b) = x.2.1 a + x.2.1 b) ∧ (∀ b : B, x.2.1 b = 0 → b = 0) ∧ (∀ (k : Nat) (b : B), b ∈ x.2.2 k ↔ x.2.1 b = k) ∧ (∀ k : Nat, (x.2.2 k : List B).Nodup) ∧ (∀ (f g : cx_S B) (b : B), (f * g) b = cx_sm (x.1 b) (fun q => f q.1 * g q.2)) ∧ (∀ b : B, (1 : cx_S B) b = if x.2.1 b = 0 then 1 else 0) ∧ (∀ (f g : cx_S B) (b : B), (f + g) b = f b + g b) ∧ (∀ b : B, (0 : cx_S B) b = 0)}
def cx_dec {B : Type} [Zero B] [Add B] [Mul (cx_S B)] [One (cx_S B)] [Add (cx_S B)] [Zero (cx_S B)] [Inhabited (cx_Idx B)] (b : B) : List (B × B) := (default : cx_Idx B).1.1 b
def cx_deg {B : Type} [Zero B] [Add B] [Mul (cx_S B)] [One (cx_S B)] [Add (cx_S B)] [Zero (cx_S B)] [Inhabited (cx_Idx B)] (b : B) : Nat := (default : cx_Idx B).1.2.1 b
def cx_lev {B : Type} [Zero B] [Add B] [Mul (cx_S B)] [One (cx_S B)] [Add (cx_S B)] [Zero (cx_S B)] [Inhabited (cx_Idx B)] (k : Nat) : List B := (default : cx_Idx B).1.2.2 k
theorem cx_addA {B : Type} [Zero B] [Add B] [Mul (cx_S B)] [One (cx_S B)] [Add (cx_S B)] [Zero (cx_S B)] [Inhabited (cx_Idx B)] : ∀ a b c : B, a + b + c = a + (b + c) := (default : cx_Idx B).2.1
theorem cx_addC {B : Type} [Zero B] [Add B] [Mul (cx_S B)] [One (cx_S B)] [Add (cx_S B)] [Zero (cx_S B)] [Inhabited (cx_Idx B)] : ∀ a b : B, a + b = b + a := (default : cx_Idx B).2.2.1
theorem cx_addZ {B : Type} [Zero B] [Add B] [Mul (cx_S B)] [One (cx_S B)] [Add (cx_S B)] [Zero (cx_S B)] [Inhabited (cx_Idx B)] : ∀ a : B, a + 0 = a := (default : cx_Idx B).2.2.2.1
theorem cx_canc {B : Type} [Zero B] [Add B] [Mul (cx_S B)] [One (cx_S B)] [Add (cx_S B)] [Zero (cx_S B)] [Inhabited (cx_Idx B)] : ∀ a b c : B, a + b = a + c → b = c := (default : cx_Idx B).2.2.2.2.1
theorem cx_mem_dec {B : Type} [Zero B] [Add B] [Mul (cx_S B)] [One (cx_S B)] [Add (cx_S B)] [Zero (cx_S B)] [Inhabited (cx_Idx B)] : ∀ (b u v : B), (u, v) ∈ cx_dec b ↔ u + v = b := (default : cx_Idx B).2.2.2.2.2.1
theorem cx_nodup_dec {B : Type} [Zero B] [Add B] [Mul (cx_S B)] [One (cx_S B)] [Add (cx_S B)] [Zero (cx_S B)] [Inhabited (cx_Idx B)] : ∀ b : B, (cx_dec b).Nodup := (default : cx_Idx B).2.2.2.2.2.2.1
theorem cx_deg_add {B : Type} [Zero B] [Add B] [Mul (cx_S B)] [One (cx_S B)] [Add (cx_S B)] [Zero (cx_S B)] [Inhabited (cx_Idx B)] : ∀ a b : B, cx_deg (a + b) = cx_deg a + cx_deg b := (default : cx_Idx B).2.2.2.2.2.2.2.1
theorem cx_deg_pos {B : Type} [Zero B] [Add B] [Mul (cx_S B)] [One (cx_S B)] [Add (cx_S B)] [Zero (cx_S B)] [Inhabited (cx_Idx B)] : ∀ b : B, cx_deg b = 0 → b = 0 := (default : cx_Idx B).2.2.2.2.2.2.2.2.1
theorem cx_mem_lev {B : Type} [Zero B] [Add B] [Mul (cx_S B)] [One (cx_S B)] [Add (cx_S B)] [Zero (cx_S B)] [Inhabited (cx_Idx B)] : ∀ (k : Nat) (b : B), b ∈ cx_lev k ↔ cx_deg b = k := (default : cx_Idx B).2.2.2.2.2.2.2.2.2.1
theorem cx_nodup_lev {B : Type} [Zero B] [Add B] [Mul (cx_S B)] [One (cx_S B)] [Add (cx_S B)] [Zero (cx_S B)] [Inhabited (cx_Idx B)] : ∀ k : Nat, (cx_lev k : List B).Nodup := (default : cx_Idx B).2.2.2.2.2.2.2.2.2.2.1
theorem cx_mul_def {B : Type} [Zero B] [Add B] [Mul (cx_S B)] [One (cx_S B)] [Add (cx_S B)] [Zero (cx_S B)] [Inhabited (cx_Idx B)] : ∀ (f g : cx_S B) (b : B), (f * g) b = cx_sm (cx_dec b) (fun q => f q.1 * g q.2) := (default : cx_Idx B).2.2.2.2.2.2.2.2.2.2.2.1
theorem cx_one_def {B : Type} [Zero B] [Add B] [Mul (cx_S B)] [One (cx_S B)] [Add (cx_S B)] [Zero (cx_S B)] [Inhabited (cx_Idx B)] : ∀ b : B, (1 : cx_S B) b = if cx_deg b = 0 then 1 else 0 := (default : cx_Idx B).2.2.2.2.2.2.2.2.2.2.2.2.1
theorem cx_add_def {B : Type} [Zero B] [Add B] [Mul (cx_S B)] [One (cx_S B)] [Add (cx_S B)] [Zero (cx_S B)] [Inhabited (cx_Idx B)] : ∀ (f g : cx_S B) (b : B), (f + g) b = f b + g b := (default : cx_Idx B).2.2.2.2.2.2.2.2.2.2.2.2.2.1
theorem cx_zero_def {B : Type} [Zero B] [Add B] [Mul (cx_S B)] [One (cx_S B)] [Add (cx_S B)] [Zero (cx_S B)] [Inhabited (cx_Idx B)] : ∀ b : B, (0 : cx_S B) b = 0 := (default : cx_Idx B).2.2.2.2.2.2.2.2.2.2.2.2.2.2
theorem cx_zadd {B : Type} [Zero B] [Add B] [Mul (cx_S B)] [One (cx_S B)] [Add (cx_S B)] [Zero (cx_S B)] [Inhabited (cx_Idx B)] (a : B) : 0 + a = a := by rw [cx_addC]; exact cx_addZ a
theorem cx_deg_zero {B : Type} [Zero B] [Add B] [Mul (cx_S B)] [One (cx_S B)] [Add (cx_S B)] [Zero (cx_S B)] [Inhabited (cx_Idx B)] : cx_deg (0 : B) = 0 := by have := cx_deg_add (0 : B) 0; rw [cx_addZ] at this; omega






theorem cx_one_zero {B : Type} [Zero B] [Add B] [Mul (cx_S B)] [One (cx_S B)] [Add (cx_S B)] [Zero (cx_S B)] [Inhabited (cx_Idx B)] : (1 : cx_S B) 0 = 1 := by rw [cx_one_def, cx_deg_zero, if_pos rfl]
theorem cx_one_ne {B : Type} [Zero B] [Add B] [Mul (cx_S B)] [One (cx_S B)] [Add (cx_S B)] [Zero (cx_S B)] [Inhabited (cx_Idx B)] {b : B} (h : b ≠ 0) : (1 : cx_S B) b = 0 := by rw [cx_one_def, if_neg (fun e => h (cx_deg_pos b e))]
theorem cx_mulC {B : Type} [Zero B] [Add B] [Mul (cx_S B)] [One (cx_S B)] [Add (cx_S B)] [Zero (cx_S B)] [Inhabited (cx_Idx B)] (f g : cx_S B) : f * g = g * f := by
  refine cx_S.ext (fun b => ?_)
  rw [cx_mul_def, cx_mul_def]
  have hp : (cx_dec b).Perm ((cx_dec b).map fun cx_p => (cx_p.2, cx_p.1)) := by
    refine cx_perm_of (cx_nodup_dec b) ?_ ?_
    · have := cx_nodup_dec b
      rw [List.nodup_iff_pairwise_ne] at *
      rw [List.pairwise_map]
      exact this.imp (fun {cx_p q} h e => h (by cases cx_p; cases q; simp at e; simp [e.1, e.2]))
    · intro ⟨u, v⟩
      rw [cx_mem_dec, List.mem_map]
      constructor
      · intro h; exact ⟨(v, u), (cx_mem_dec _ _ _).2 (by rw [cx_addC]; exact h), rfl⟩
      · rintro ⟨⟨x, y⟩, h, e⟩
        cases e; rw [cx_addC]; exact (cx_mem_dec _ _ _).1 h
  rw [cx_sm_perm hp, cx_sm_map]
  exact cx_sm_congr (fun cx_p _ => Rat.mul_comm _ _)
theorem cx_mulA {B : Type} [Zero B] [Add B] [Mul (cx_S B)] [One (cx_S B)] [Add (cx_S B)] [Zero (cx_S B)] [Inhabited (cx_Idx B)] (f g h : cx_S B) : f * g * h = f * (g * h) := by
  refine cx_S.ext (fun b => ?_)
  rw [cx_mul_def, cx_mul_def]
  have e1 : cx_sm (cx_dec b) (fun cx_p => (f * g) cx_p.1 * h cx_p.2) = cx_sm (cx_dec b) (fun cx_p => cx_sm (cx_dec cx_p.1) (fun q => f q.1 * g q.2 * h cx_p.2)) :=
    cx_sm_congr (fun cx_p _ => by rw [cx_mul_def, cx_sm_mulR])
  have e2 : cx_sm (cx_dec b) (fun cx_p => f cx_p.1 * (g * h) cx_p.2) = cx_sm (cx_dec b) (fun cx_p => cx_sm (cx_dec cx_p.2) (fun q => f cx_p.1 * (g q.1 * h q.2))) :=
    cx_sm_congr (fun cx_p _ => by rw [cx_mul_def, cx_sm_mulL])
  rw [e1, e2]
  refine cx_sm_swap _ _ (fun cx_p => ((cx_p.1.1 + cx_p.2.1, cx_p.2.2), (cx_p.1.1, cx_p.2.1))) (cx_nodup_dec b) (fun a _ => cx_nodup_dec _) (cx_nodup_dec b) (fun a _ => cx_nodup_dec _) ?_ ?_ ?_
  · rintro ⟨⟨a, b'⟩, ⟨c, d⟩⟩ ⟨⟨a1, b1⟩, ⟨c1, d1⟩⟩ _ h2 _ h4 e
    simp only [cx_mem_dec] at h2 h4
    simp only [Prod.mk.injEq] at e
    obtain ⟨⟨-, rfl⟩, rfl, rfl⟩ := e
    subst h2; subst h4; rfl
  · rintro ⟨u, v⟩ ⟨x, y⟩
    simp only [cx_mem_dec]
    constructor
    · rintro ⟨h1, h2⟩
      refine ⟨((x, y + v), (y, v)), ?_, ?_, ?_⟩
      · rw [cx_mem_dec, ← cx_addA, h2, h1]
      · rw [cx_mem_dec]
      · simp only [h2]
    · rintro ⟨⟨⟨a, b'⟩, ⟨c, d⟩⟩, h1, h2, e⟩
      simp only [cx_mem_dec] at h1 h2
      simp only [Prod.mk.injEq] at e
      obtain ⟨⟨rfl, rfl⟩, rfl, rfl⟩ := e
      exact ⟨by rw [cx_addA, h2, h1], rfl⟩
  · intro cx_p _ _
    exact Rat.mul_assoc _ _ _
theorem cx_mul1 {B : Type} [Zero B] [Add B] [Mul (cx_S B)] [One (cx_S B)] [Add (cx_S B)] [Zero (cx_S B)] [Inhabited (cx_Idx B)] (f : cx_S B) : f * 1 = f := by
  refine cx_S.ext (fun b => ?_)
  rw [cx_mul_def]
  have hp : ∃ l, (cx_dec b).Perm ((b, 0) :: l) ∧ ∀ cx_p ∈ l, cx_p.2 ≠ 0 := by
    classical
    have hm : (b, (0 : B)) ∈ cx_dec b := (cx_mem_dec _ _ _).2 (cx_addZ b)
    obtain ⟨s, t, e⟩ := List.append_of_mem hm
    refine ⟨s ++ t, by rw [e]; exact List.perm_middle, ?_⟩
    have hn := cx_nodup_dec b
    rw [e] at hn
    intro ⟨u, v⟩ hv h0
    have h0 : v = 0 := h0
    subst h0
    have hmem : (u, (0 : B)) ∈ cx_dec b := by rw [e]; simp at hv ⊢; rcases hv with h | h <;> simp [h]
    have := (cx_mem_dec _ _ _).1 hmem
    rw [cx_addZ] at this
    subst this
    have h2 := (List.perm_middle (a := (u, (0 : B))) (l₁ := s) (l₂ := t)).nodup_iff.1 hn
    rw [List.nodup_cons] at h2
    exact h2.1 hv
  obtain ⟨l, hp, hl⟩ := hp
  rw [cx_sm_perm hp, cx_sm_cons, cx_one_zero, cx_sm_zero (fun cx_p h => by rw [cx_one_ne (hl cx_p h), Rat.mul_zero]), Rat.mul_one, Rat.add_zero]
theorem cx_mulD {B : Type} [Zero B] [Add B] [Mul (cx_S B)] [One (cx_S B)] [Add (cx_S B)] [Zero (cx_S B)] [Inhabited (cx_Idx B)] (f g h : cx_S B) : f * (g + h) = f * g + f * h := by
  refine cx_S.ext (fun b => ?_)
  rw [cx_mul_def, cx_add_def, cx_mul_def, cx_mul_def, ← cx_sm_add]
  exact cx_sm_congr (fun cx_p _ => by rw [cx_add_def, Rat.mul_add])
def cx_D {B : Type} [Zero B] [Add B] [Mul (cx_S B)] [One (cx_S B)] [Add (cx_S B)] [Zero (cx_S B)] [Inhabited (cx_Idx B)] (b : B) (f : B → B → Rat) : Rat := cx_sm (cx_dec b) (fun cx_p => f cx_p.1 cx_p.2)
theorem cx_mul_D {B : Type} [Zero B] [Add B] [Mul (cx_S B)] [One (cx_S B)] [Add (cx_S B)] [Zero (cx_S B)] [Inhabited (cx_Idx B)] (f g : cx_S B) (b : B) : (f * g) b = cx_D b (fun u v => f u * g v) := cx_mul_def f g b
theorem cx_D_congr {B : Type} [Zero B] [Add B] [Mul (cx_S B)] [One (cx_S B)] [Add (cx_S B)] [Zero (cx_S B)] [Inhabited (cx_Idx B)] {b : B} {f g : B → B → Rat} (h : ∀ u v, u + v = b → f u v = g u v) : cx_D b f = cx_D b g :=
  cx_sm_congr (fun cx_p hp => h cx_p.1 cx_p.2 ((cx_mem_dec _ _ _).1 hp))
theorem cx_D_add {B : Type} [Zero B] [Add B] [Mul (cx_S B)] [One (cx_S B)] [Add (cx_S B)] [Zero (cx_S B)] [Inhabited (cx_Idx B)] (b : B) (f g : B → B → Rat) : cx_D b (fun u v => f u v + g u v) = cx_D b f + cx_D b g := cx_sm_add _ _ _
theorem cx_D_mulL {B : Type} [Zero B] [Add B] [Mul (cx_S B)] [One (cx_S B)] [Add (cx_S B)] [Zero (cx_S B)] [Inhabited (cx_Idx B)] (b : B) (c : Rat) (f : B → B → Rat) : cx_D b (fun u v => c * f u v) = c * cx_D b f := cx_sm_mulL _ _ _
theorem cx_D_mulR {B : Type} [Zero B] [Add B] [Mul (cx_S B)] [One (cx_S B)] [Add (cx_S B)] [Zero (cx_S B)] [Inhabited (cx_Idx B)] (b : B) (c : Rat) (f : B → B → Rat) : cx_D b (fun u v => f u v * c) = cx_D b f * c := cx_sm_mulR _ _ _
theorem cx_D_zero {B : Type} [Zero B] [Add B] [Mul (cx_S B)] [One (cx_S B)] [Add (cx_S B)] [Zero (cx_S B)] [Inhabited (cx_Idx B)] {b : B} {f : B → B → Rat} (h : ∀ u v, u + v = b → f u v = 0) : cx_D b f = 0 :=
  cx_sm_zero (fun cx_p hp => h cx_p.1 cx_p.2 ((cx_mem_dec _ _ _).1 hp))
theorem cx_D_comm {B : Type} [Zero B] [Add B] [Mul (cx_S B)] [One (cx_S B)] [Add (cx_S B)] [Zero (cx_S B)] [Inhabited (cx_Idx B)] (b : B) (f : B → B → Rat) : cx_D b f = cx_D b (fun u v => f v u) := by
  have hp : (cx_dec b).Perm ((cx_dec b).map fun cx_p => (cx_p.2, cx_p.1)) := by
    refine cx_perm_of (cx_nodup_dec b) ?_ ?_
    · have := cx_nodup_dec b
      rw [List.nodup_iff_pairwise_ne] at *
      rw [List.pairwise_map]
      exact this.imp (fun {cx_p q} h e => h (by cases cx_p; cases q; simp at e; simp [e.1, e.2]))
    · intro ⟨u, v⟩
      rw [cx_mem_dec, List.mem_map]
      constructor
      · intro h; exact ⟨(v, u), (cx_mem_dec _ _ _).2 (by rw [cx_addC]; exact h), rfl⟩
      · rintro ⟨⟨x, y⟩, h, e⟩
        cases e; rw [cx_addC]; exact (cx_mem_dec _ _ _).1 h
  show cx_sm (cx_dec b) _ = cx_sm (cx_dec b) _
  rw [cx_sm_perm hp, cx_sm_map]
theorem cx_D_assoc {B : Type} [Zero B] [Add B] [Mul (cx_S B)] [One (cx_S B)] [Add (cx_S B)] [Zero (cx_S B)] [Inhabited (cx_Idx B)] (b : B) (f : B → B → B → Rat) : cx_D b (fun u v => cx_D u (fun x y => f x y v)) = cx_D b (fun x w => cx_D w (fun y v => f x y v)) := by
  refine cx_sm_swap (fun cx_p q => f q.1 q.2 cx_p.2) (fun cx_p q => f cx_p.1 q.1 q.2) (fun cx_p => ((cx_p.1.1 + cx_p.2.1, cx_p.2.2), (cx_p.1.1, cx_p.2.1))) (cx_nodup_dec b) (fun a _ => cx_nodup_dec _) (cx_nodup_dec b) (fun a _ => cx_nodup_dec _) ?_ ?_ ?_
  · rintro ⟨⟨a, b'⟩, ⟨c, d⟩⟩ ⟨⟨a1, b1⟩, ⟨c1, d1⟩⟩ _ h2 _ h4 e
    simp only [cx_mem_dec] at h2 h4
    simp only [Prod.mk.injEq] at e
    obtain ⟨⟨-, rfl⟩, rfl, rfl⟩ := e
    subst h2; subst h4; rfl
  · rintro ⟨u, v⟩ ⟨x, y⟩
    simp only [cx_mem_dec]
    constructor
    · rintro ⟨h1, h2⟩
      refine ⟨((x, y + v), (y, v)), ?_, ?_, ?_⟩
      · rw [cx_mem_dec, ← cx_addA, h2, h1]
      · rw [cx_mem_dec]
      · simp only [h2]
    · rintro ⟨⟨⟨a, b'⟩, ⟨c, d⟩⟩, h1, h2, e⟩
      simp only [cx_mem_dec] at h1 h2
      simp only [Prod.mk.injEq] at e
      obtain ⟨⟨rfl, rfl⟩, rfl, rfl⟩ := e
      exact ⟨by rw [cx_addA, h2, h1], rfl⟩
  · intro cx_p _ _; rfl
theorem cx_D_four {B : Type} [Zero B] [Add B] [Mul (cx_S B)] [One (cx_S B)] [Add (cx_S B)] [Zero (cx_S B)] [Inhabited (cx_Idx B)] (b : B) (f : B → B → B → B → Rat) :
    cx_D b (fun u v => cx_D u (fun x y => cx_D v (fun z w => f x y z w))) = cx_D b (fun u v => cx_D u (fun x z => cx_D v (fun y w => f x y z w))) := by
  rw [cx_D_assoc b (fun x y v => cx_D v (fun z w => f x y z w)), cx_D_assoc b (fun x z v => cx_D v (fun y w => f x y z w))]
  refine cx_D_congr (fun x q _ => ?_)
  rw [← cx_D_assoc q (fun y z w => f x y z w), ← cx_D_assoc q (fun z y w => f x y z w)]
  exact cx_D_congr (fun s w _ => cx_D_comm s _)
theorem cx_D_right {B : Type} [Zero B] [Add B] [Mul (cx_S B)] [One (cx_S B)] [Add (cx_S B)] [Zero (cx_S B)] [Inhabited (cx_Idx B)] (b : B) (f : B → B → Rat) (h : ∀ u v, u + v = b → v ≠ 0 → f u v = 0) : cx_D b f = f b 0 := by
  classical
  have hm : (b, (0 : B)) ∈ cx_dec b := (cx_mem_dec _ _ _).2 (cx_addZ b)
  obtain ⟨s, t, e⟩ := List.append_of_mem hm
  have hn := cx_nodup_dec b
  rw [e] at hn
  have hp : (cx_dec b).Perm ((b, 0) :: (s ++ t)) := by rw [e]; exact List.perm_middle
  have hn2 := hp.nodup_iff.1 (cx_nodup_dec b)
  rw [List.nodup_cons] at hn2
  show cx_sm (cx_dec b) _ = _
  rw [cx_sm_perm hp, cx_sm_cons, cx_sm_zero, Rat.add_zero]
  intro ⟨u, v⟩ hv
  have hmem : (u, v) ∈ cx_dec b := hp.mem_iff.2 (List.mem_cons_of_mem _ hv)
  have hs := (cx_mem_dec _ _ _).1 hmem
  refine h u v hs (fun h0 => ?_)
  subst h0
  rw [cx_addZ] at hs
  subst hs
  exact hn2.1 hv
abbrev cx_MGl (M : Type) [Add M] : Prop := (∀ a b c : M, a + b + c = a + (b + c)) ∧ ∀ a b : M, a + b = b + a
theorem cx_maddA {M : Type} [Add M] [Inhabited (PLift (cx_MGl M))] (a b c : M) : a + b + c = a + (b + c) := (default : PLift (cx_MGl M)).down.1 a b c
theorem cx_maddC {M : Type} [Add M] [Inhabited (PLift (cx_MGl M))] (a b : M) : a + b = b + a := (default : PLift (cx_MGl M)).down.2 a b
abbrev cx_Tord (B : Type) (M : Type) [Zero B] [Add B] [Mul (cx_S B)] [One (cx_S B)] [Add (cx_S B)] [Zero (cx_S B)] [Inhabited (cx_Idx B)] [Add M] [Inhabited (PLift (cx_MGl M))] : Type := {x : (B → M → Rat) × (B → M) × (M → M) // (∀ (a b : B) (m : M), x.1 (a + b) m = x.1 a m + x.1 b m) ∧ (∀ (a : B) (m k : M), x.1 a (m + k) = x.1 a m + x.1 a k) ∧ (∀ a b : B, (x.2.1 (a + b) : M) = x.2.1 a + x.2.1 b) ∧ (∀ m : M, m + x.2.1 (0 : B) = m) ∧ (∀ a b : B, x.1 a (x.2.1 b : M) = - x.1 b (x.2.1 a : M)) ∧ (∀ a : B, a ≠ 0 → ∃ m : M, x.1 a m = 1) ∧ (∀ m : M, m + x.2.2 m = x.2.1 (0 : B))}
def cx_pr {B : Type} [Zero B] [Add B] [Mul (cx_S B)] [One (cx_S B)] [Add (cx_S B)] [Zero (cx_S B)] [Inhabited (cx_Idx B)] {M : Type} [Add M] [Inhabited (PLift (cx_MGl M))] [Inhabited (cx_Tord B M)] (a : B) (m : M) : Rat := (default : cx_Tord B M).1.1 a m
def cx_p {B : Type} [Zero B] [Add B] [Mul (cx_S B)] [One (cx_S B)] [Add (cx_S B)] [Zero (cx_S B)] [Inhabited (cx_Idx B)] {M : Type} [Add M] [Inhabited (PLift (cx_MGl M))] [Inhabited (cx_Tord B M)] (a : B) : M := (default : cx_Tord B M).1.2.1 a
def cx_neg {B : Type} [Zero B] [Add B] [Mul (cx_S B)] [One (cx_S B)] [Add (cx_S B)] [Zero (cx_S B)] [Inhabited (cx_Idx B)] {M : Type} [Add M] [Inhabited (PLift (cx_MGl M))] [Inhabited (cx_Tord B M)] (m : M) : M := (default : cx_Tord B M).1.2.2 m
theorem cx_pr_addL {B : Type} [Zero B] [Add B] [Mul (cx_S B)] [One (cx_S B)] [Add (cx_S B)] [Zero (cx_S B)] [Inhabited (cx_Idx B)] {M : Type} [Add M] [Inhabited (PLift (cx_MGl M))] [Inhabited (cx_Tord B M)] : ∀ (a b : B) (m : M), cx_pr (a + b) m = cx_pr a m + cx_pr b m := (default : cx_Tord B M).2.1
theorem cx_pr_addR {B : Type} [Zero B] [Add B] [Mul (cx_S B)] [One (cx_S B)] [Add (cx_S B)] [Zero (cx_S B)] [Inhabited (cx_Idx B)] {M : Type} [Add M] [Inhabited (PLift (cx_MGl M))] [Inhabited (cx_Tord B M)] : ∀ (a : B) (m k : M), cx_pr a (m + k) = cx_pr a m + cx_pr a k := (default : cx_Tord B M).2.2.1
theorem cx_p_add {B : Type} [Zero B] [Add B] [Mul (cx_S B)] [One (cx_S B)] [Add (cx_S B)] [Zero (cx_S B)] [Inhabited (cx_Idx B)] {M : Type} [Add M] [Inhabited (PLift (cx_MGl M))] [Inhabited (cx_Tord B M)] : ∀ a b : B, (cx_p (a + b) : M) = cx_p a + cx_p b := (default : cx_Tord B M).2.2.2.1
theorem cx_p_zero {B : Type} [Zero B] [Add B] [Mul (cx_S B)] [One (cx_S B)] [Add (cx_S B)] [Zero (cx_S B)] [Inhabited (cx_Idx B)] {M : Type} [Add M] [Inhabited (PLift (cx_MGl M))] [Inhabited (cx_Tord B M)] : ∀ m : M, m + cx_p (0 : B) = m := (default : cx_Tord B M).2.2.2.2.1
theorem cx_skew {B : Type} [Zero B] [Add B] [Mul (cx_S B)] [One (cx_S B)] [Add (cx_S B)] [Zero (cx_S B)] [Inhabited (cx_Idx B)] {M : Type} [Add M] [Inhabited (PLift (cx_MGl M))] [Inhabited (cx_Tord B M)] : ∀ a b : B, cx_pr a (cx_p b : M) = - cx_pr b (cx_p a : M) := (default : cx_Tord B M).2.2.2.2.2.1
theorem cx_sep {B : Type} [Zero B] [Add B] [Mul (cx_S B)] [One (cx_S B)] [Add (cx_S B)] [Zero (cx_S B)] [Inhabited (cx_Idx B)] {M : Type} [Add M] [Inhabited (PLift (cx_MGl M))] [Inhabited (cx_Tord B M)] : ∀ a : B, a ≠ 0 → ∃ m : M, cx_pr a m = 1 := (default : cx_Tord B M).2.2.2.2.2.2.1
theorem cx_neg_add {B : Type} [Zero B] [Add B] [Mul (cx_S B)] [One (cx_S B)] [Add (cx_S B)] [Zero (cx_S B)] [Inhabited (cx_Idx B)] {M : Type} [Add M] [Inhabited (PLift (cx_MGl M))] [Inhabited (cx_Tord B M)] : ∀ m : M, m + cx_neg (B := B) m = cx_p (0 : B) := (default : cx_Tord B M).2.2.2.2.2.2.2
def cx_Om {B : Type} [Zero B] [Add B] [Mul (cx_S B)] [One (cx_S B)] [Add (cx_S B)] [Zero (cx_S B)] [Inhabited (cx_Idx B)] {M : Type} [Add M] [Inhabited (PLift (cx_MGl M))] [Inhabited (cx_Tord B M)] (m k : M) (u v : B) : Rat := cx_pr u k - cx_pr v m + cx_pr u (cx_p v : M)
abbrev cx_Good {B : Type} [Zero B] [Add B] [Mul (cx_S B)] [One (cx_S B)] [Add (cx_S B)] [Zero (cx_S B)] [Inhabited (cx_Idx B)] {M : Type} [Add M] [Inhabited (PLift (cx_MGl M))] [Inhabited (cx_Tord B M)] (g : M → cx_S B) : Prop := (∀ m k, g (m + k) = g m * g k) ∧ (∀ m, g m 0 = 1) ∧ (∀ m k b, cx_D b (fun u v => cx_Om m k u v * (g m u * g k v)) = 0)
theorem cx_Good.hom {B : Type} [Zero B] [Add B] [Mul (cx_S B)] [One (cx_S B)] [Add (cx_S B)] [Zero (cx_S B)] [Inhabited (cx_Idx B)] {M : Type} [Add M] [Inhabited (PLift (cx_MGl M))] [Inhabited (cx_Tord B M)] {g : M → cx_S B} (hh_ : cx_Good g) : ∀ m k, g (m + k) = g m * g k := hh_.1
theorem cx_Good.unit {B : Type} [Zero B] [Add B] [Mul (cx_S B)] [One (cx_S B)] [Add (cx_S B)] [Zero (cx_S B)] [Inhabited (cx_Idx B)] {M : Type} [Add M] [Inhabited (PLift (cx_MGl M))] [Inhabited (cx_Tord B M)] {g : M → cx_S B} (hh_ : cx_Good g) : ∀ m, g m 0 = 1 := hh_.2.1
theorem cx_Good.poi {B : Type} [Zero B] [Add B] [Mul (cx_S B)] [One (cx_S B)] [Add (cx_S B)] [Zero (cx_S B)] [Inhabited (cx_Idx B)] {M : Type} [Add M] [Inhabited (PLift (cx_MGl M))] [Inhabited (cx_Tord B M)] {g : M → cx_S B} (hh_ : cx_Good g) : ∀ m k b, cx_D b (fun u v => cx_Om m k u v * (g m u * g k v)) = 0 := hh_.2.2
def cx_comp {B : Type} [Zero B] [Add B] [Mul (cx_S B)] [One (cx_S B)] [Add (cx_S B)] [Zero (cx_S B)] [Inhabited (cx_Idx B)] {M : Type} [Add M] [Inhabited (PLift (cx_MGl M))] [Inhabited (cx_Tord B M)] (g h : M → cx_S B) : M → cx_S B := fun m b => cx_D b (fun u s => h m u * g (m + (cx_p u)) s)
theorem cx_comp_def {B : Type} [Zero B] [Add B] [Mul (cx_S B)] [One (cx_S B)] [Add (cx_S B)] [Zero (cx_S B)] [Inhabited (cx_Idx B)] {M : Type} [Add M] [Inhabited (PLift (cx_MGl M))] [Inhabited (cx_Tord B M)] (g h : M → cx_S B) (m : M) (b : B) : cx_comp g h m b = cx_D b (fun u s => h m u * g (m + (cx_p u)) s) := rfl
theorem cx_comp_assoc {B : Type} [Zero B] [Add B] [Mul (cx_S B)] [One (cx_S B)] [Add (cx_S B)] [Zero (cx_S B)] [Inhabited (cx_Idx B)] {M : Type} [Add M] [Inhabited (PLift (cx_MGl M))] [Inhabited (cx_Tord B M)] (g h k : M → cx_S B) : cx_comp (cx_comp g h) k = cx_comp g (cx_comp h k) := by
  funext m
  refine cx_S.ext (fun b => ?_)
  simp only [cx_comp_def]
  have e1 : cx_D b (fun u s => k m u * cx_D s (fun u_1 s => h (m + (cx_p u)) u_1 * g ((m + (cx_p u)) + (cx_p u_1)) s)) = cx_D b (fun u s => cx_D s (fun v w => k m u * (h (m + (cx_p u)) v * g ((m + (cx_p u)) + (cx_p v)) w))) :=
    cx_D_congr (fun u s _ => (cx_D_mulL _ _ _).symm)
  have e2 : cx_D b (fun u s => cx_D u (fun u s => k m u * h (m + (cx_p u)) s) * g (m + (cx_p u)) s) = cx_D b (fun u w => cx_D u (fun x y => k m x * h (m + (cx_p x)) y * g (m + (cx_p (x + y))) w)) := by
    refine cx_D_congr (fun u s _ => ?_)
    rw [← cx_D_mulR]
    refine cx_D_congr (fun x y hxy => ?_)
    rw [hxy]
  rw [e1, e2, cx_D_assoc b (fun x y w => k m x * h (m + (cx_p x)) y * g (m + (cx_p (x + y))) w)]
  refine cx_D_congr (fun u s _ => cx_D_congr (fun v w _ => ?_))
  rw [cx_p_add, ← cx_maddA, Rat.mul_assoc]
theorem cx_comp_hom {B : Type} [Zero B] [Add B] [Mul (cx_S B)] [One (cx_S B)] [Add (cx_S B)] [Zero (cx_S B)] [Inhabited (cx_Idx B)] {M : Type} [Add M] [Inhabited (PLift (cx_MGl M))] [Inhabited (cx_Tord B M)] {g h : M → cx_S B} (hg : cx_Good g) (hh : cx_Good h) (m k : M) : cx_comp g h (m + k) = cx_comp g h m * cx_comp g h k := by
  refine cx_S.ext (fun b => ?_)
  rw [cx_mul_D]
  simp only [cx_comp_def]
  have e1 : cx_D b (fun u s => h (m + k) u * g ((m + k) + (cx_p u)) s) = cx_D b (fun u s => cx_D u (fun x y => cx_D s (fun z w => h m x * h k y * (g (m + (cx_p x)) z * g (k + (cx_p y)) w)))) := by
    refine cx_D_congr (fun u s _ => ?_)
    rw [hh.hom, cx_mul_D, ← cx_D_mulR]
    refine cx_D_congr (fun x y hxy => ?_)
    rw [cx_D_mulL]
    have e4 : (m + cx_p x) + (k + cx_p y) = (m + k) + cx_p u := by
      rw [← hxy, cx_p_add, cx_maddA, cx_maddA, ← cx_maddA (cx_p x), cx_maddC (cx_p x) k, cx_maddA]
    rw [← cx_mul_D, ← hg.hom, e4]
  have e2 : cx_D b (fun u v => cx_D u (fun u s => h m u * g (m + (cx_p u)) s) * cx_D v (fun u s => h k u * g (k + (cx_p u)) s)) = cx_D b (fun u v => cx_D u (fun x z => cx_D v (fun y w => h m x * h k y * (g (m + (cx_p x)) z * g (k + (cx_p y)) w)))) := by
    refine cx_D_congr (fun u v _ => ?_)
    rw [← cx_D_mulR]
    refine cx_D_congr (fun x z _ => ?_)
    rw [← cx_D_mulL]
    refine cx_D_congr (fun y w _ => ?_)
    grind
  rw [e1, e2, cx_D_four b (fun x y z w => h m x * h k y * (g (m + (cx_p x)) z * g (k + (cx_p y)) w))]
theorem cx_Om_shift {B : Type} [Zero B] [Add B] [Mul (cx_S B)] [One (cx_S B)] [Add (cx_S B)] [Zero (cx_S B)] [Inhabited (cx_Idx B)] {M : Type} [Add M] [Inhabited (PLift (cx_MGl M))] [Inhabited (cx_Tord B M)] (m k : M) (u v s t : B) : cx_Om m k (u + s) (v + t) = cx_Om (m + (cx_p u)) (k + (cx_p v)) s t + cx_Om m k u v := by
  unfold cx_Om
  rw [cx_pr_addL, cx_pr_addL, cx_pr_addL, cx_pr_addR, cx_pr_addR, cx_p_add, cx_pr_addR, cx_pr_addR]
  have := cx_skew (M := M) t u
  grind
theorem cx_comp_poi {B : Type} [Zero B] [Add B] [Mul (cx_S B)] [One (cx_S B)] [Add (cx_S B)] [Zero (cx_S B)] [Inhabited (cx_Idx B)] {M : Type} [Add M] [Inhabited (PLift (cx_MGl M))] [Inhabited (cx_Tord B M)] {g h : M → cx_S B} (hg : cx_Good g) (hh : cx_Good h) (m k : M) (b : B) :
    cx_D b (fun u v => cx_Om m k u v * (cx_comp g h m u * cx_comp g h k v)) = 0 := by
  simp only [cx_comp_def]
  have e1 : cx_D b (fun u v => cx_Om m k u v * (cx_D u (fun u s => h m u * g (m + (cx_p u)) s) * cx_D v (fun u s => h k u * g (k + (cx_p u)) s))) = cx_D b (fun u v => cx_D u (fun x z => cx_D v (fun y w => (h m x * h k y) * (cx_Om m k (x + z) (y + w) * (g (m + (cx_p x)) z * g (k + (cx_p y)) w))))) := by
    refine cx_D_congr (fun u v _ => ?_)
    rw [← cx_D_mulR, ← cx_D_mulL]
    refine cx_D_congr (fun x z hx => ?_)
    rw [← cx_D_mulL, ← cx_D_mulL]
    refine cx_D_congr (fun y w hy => ?_)
    rw [hx, hy]
    grind
  rw [e1, ← cx_D_four b (fun x y z w => (h m x * h k y) * (cx_Om m k (x + z) (y + w) * (g (m + (cx_p x)) z * g (k + (cx_p y)) w)))]
  have e2 : ∀ u s, u + s = b → cx_D u (fun x y => cx_D s (fun z w => (h m x * h k y) * (cx_Om m k (x + z) (y + w) * (g (m + (cx_p x)) z * g (k + (cx_p y)) w)))) = cx_D u (fun x y => cx_Om m k x y * (h m x * h k y)) * g ((m + k) + (cx_p u)) s := by
    intro u s _
    rw [← cx_D_mulR]
    refine cx_D_congr (fun x y hxy => ?_)
    rw [cx_D_mulL]
    have e3 : cx_D s (fun z w => cx_Om m k (x + z) (y + w) * (g (m + (cx_p x)) z * g (k + (cx_p y)) w)) = cx_D s (fun z w => cx_Om (m + (cx_p x)) (k + (cx_p y)) z w * (g (m + (cx_p x)) z * g (k + (cx_p y)) w)) + cx_Om m k x y * cx_D s (fun z w => g (m + (cx_p x)) z * g (k + (cx_p y)) w) := by
      rw [← cx_D_mulL, ← cx_D_add]
      refine cx_D_congr (fun z w _ => ?_)
      rw [cx_Om_shift]; grind
    rw [e3, hg.poi, ← cx_mul_D, ← hg.hom]
    have e4 : (m + (cx_p x)) + (k + (cx_p y)) = (m + k) + (cx_p u) := by
      rw [← hxy, cx_p_add, cx_maddA, cx_maddA, ← cx_maddA (cx_p x), cx_maddC (cx_p x) k, cx_maddA]
    rw [e4]
    grind
  rw [cx_D_congr e2]
  exact cx_D_zero (fun u s _ => by rw [hh.poi, Rat.zero_mul])
theorem cx_Good.comp {B : Type} [Zero B] [Add B] [Mul (cx_S B)] [One (cx_S B)] [Add (cx_S B)] [Zero (cx_S B)] [Inhabited (cx_Idx B)] {M : Type} [Add M] [Inhabited (PLift (cx_MGl M))] [Inhabited (cx_Tord B M)] {g h : M → cx_S B} (hg : cx_Good g) (hh : cx_Good h) : cx_Good (cx_comp g h) := ⟨(cx_comp_hom hg hh),
  (fun m => by
    rw [cx_comp_def, cx_D_right]
    · rw [hh.unit, hg.unit, Rat.mul_one]
    · intro u v h0 hv
      have := cx_deg_add u v
      rw [h0, cx_deg_zero] at this
      exact absurd (cx_deg_pos v (by omega)) hv),
  (cx_comp_poi hg hh)⟩
theorem cx_Good.lead {B : Type} [Zero B] [Add B] [Mul (cx_S B)] [One (cx_S B)] [Add (cx_S B)] [Zero (cx_S B)] [Inhabited (cx_Idx B)] {M : Type} [Add M] [Inhabited (PLift (cx_MGl M))] [Inhabited (cx_Tord B M)] {g h : M → cx_S B} (hg : cx_Good g) (hh : cx_Good h) (a : B) (ha : a ≠ 0)
    (hlow : ∀ m b, cx_deg b < cx_deg a → g m b = h m b) : ∃ c : Rat, ∀ m, g m a = h m a + c * cx_pr a m := by
  classical
  obtain ⟨m0, h0⟩ := cx_sep (M := M) a ha
  refine ⟨g m0 a - h m0 a, fun m => ?_⟩

  have key : ∀ k k' : M, cx_pr a k' * (g k a - h k a) - cx_pr a k * (g k' a - h k' a) = 0 := by
    intro k k'
    have e1 := hg.poi k k' a
    have e2 := hh.poi k k' a
    have e3 : cx_D a (fun u v => cx_Om k k' u v * (g k u * g k' v)) - cx_D a (fun u v => cx_Om k k' u v * (h k u * h k' v)) = cx_D a (fun u v => cx_Om k k' u v * (g k u * g k' v) + (-1) * (cx_Om k k' u v * (h k u * h k' v))) := by
      rw [cx_D_add, cx_D_mulL]; grind
    have e4 : cx_D a (fun u v => cx_Om k k' u v * (g k u * g k' v) + (-1) * (cx_Om k k' u v * (h k u * h k' v))) = cx_D a (fun u v => (if v = 0 then cx_pr a k' * (g k a - h k a) else 0) + (if u = 0 then - cx_pr a k * (g k' a - h k' a) else 0)) := by
      refine cx_D_congr (fun u v huv => ?_)
      have hd := cx_deg_add u v
      rw [huv] at hd
      by_cases hv : v = 0
      · subst hv
        rw [cx_addZ] at huv
        subst huv
        rw [if_pos rfl, if_neg ha, hg.unit, hh.unit]
        unfold cx_Om
        have z1 : ∀ k : M, cx_pr (0 : B) k = 0 := fun k => by have := cx_pr_addL (0 : B) 0 k; rw [cx_addZ] at this; grind
        have z2 : cx_pr u (cx_p (0 : B) : M) = 0 := by rw [cx_skew, z1]; rfl
        rw [z1, z2]; grind
      · by_cases hu : u = 0
        · subst hu
          rw [cx_zadd] at huv
          subst huv
          rw [if_neg ha, if_pos rfl, hg.unit, hh.unit]
          unfold cx_Om
          have z1 : ∀ k : M, cx_pr (0 : B) k = 0 := fun k => by have := cx_pr_addL (0 : B) 0 k; rw [cx_addZ] at this; grind
          rw [z1, z1]; grind
        · rw [if_neg hv, if_neg hu]
          have h1 : cx_deg u ≠ 0 := fun e => hu (cx_deg_pos u e)
          have h2 : cx_deg v ≠ 0 := fun e => hv (cx_deg_pos v e)
          rw [hlow k u (by omega), hlow k' v (by omega)]
          grind
    rw [e4, cx_D_add] at e3
    rw [cx_D_right a (fun u v => if v = 0 then cx_pr a k' * (g k a - h k a) else 0) (fun u v _ hv => if_neg hv)] at e3
    rw [cx_D_comm a (fun u v => if u = 0 then - cx_pr a k * (g k' a - h k' a) else 0), cx_D_right a (fun u v => if v = 0 then - cx_pr a k * (g k' a - h k' a) else 0) (fun u v _ hv => if_neg hv)] at e3
    simp only [if_true] at e3
    rw [e1, e2] at e3
    grind
  have := key m m0
  rw [h0] at this
  grind
def cx_bin (x : Rat) : Nat → Rat
  | 0 => 1
  | k + 1 => cx_bin x k * (x - k) / (k + 1)
theorem cx_bin_succ (x : Rat) (k : Nat) : cx_bin x (k + 1) * ((k : Rat) + 1) = cx_bin x k * (x - k) := by
  show cx_bin x k * (x - k) / (k + 1) * ((k : Rat) + 1) = _
  have h : ((k : Rat) + 1) ≠ 0 := by
    have : (0 : Rat) ≤ (k : Rat) := by exact_mod_cast Nat.zero_le k
    grind
  rw [Rat.div_mul_cancel h]
def cx_rs (k : Nat) (f : Nat → Nat → Rat) : Rat := cx_sm (List.range (k + 1)) (fun i => f i (k - i))
theorem cx_rs_congr {k : Nat} {f g : Nat → Nat → Rat} (h : ∀ i j, i + j = k → f i j = g i j) : cx_rs k f = cx_rs k g :=
  cx_sm_congr (fun i hi => h i (k - i) (by rw [List.mem_range] at hi; omega))
theorem cx_rs_add (k : Nat) (f g : Nat → Nat → Rat) : cx_rs k (fun i j => f i j + g i j) = cx_rs k f + cx_rs k g := cx_sm_add _ _ _
theorem cx_rs_mulL (k : Nat) (c : Rat) (f : Nat → Nat → Rat) : cx_rs k (fun i j => c * f i j) = c * cx_rs k f := cx_sm_mulL _ _ _
theorem cx_rs_first (k : Nat) (f : Nat → Nat → Rat) : cx_rs (k + 1) f = f 0 (k + 1) + cx_rs k (fun i j => f (i + 1) j) := by
  show cx_sm (List.range (k + 1 + 1)) _ = _
  rw [List.range_succ_eq_map, cx_sm_cons, cx_sm_map]
  congr 1
  refine cx_sm_congr (fun i hi => ?_)
  rw [List.mem_range] at hi
  have : k + 1 - (i + 1) = k - i := by omega
  rw [show k + 1 - i.succ = k - i from by omega]
theorem cx_rs_last (k : Nat) (f : Nat → Nat → Rat) : cx_rs (k + 1) f = cx_rs k (fun i j => f i (j + 1)) + f (k + 1) 0 := by
  show cx_sm (List.range (k + 1 + 1)) _ = _
  rw [List.range_succ, cx_sm_append, cx_sm_cons, cx_sm_nil, Rat.add_zero]
  congr 1
  · refine cx_sm_congr (fun i hi => ?_)
    rw [List.mem_range] at hi
    rw [show k + 1 - i = k - i + 1 from by omega]
  · rw [Nat.sub_self]
theorem cx_vand (x y : Rat) (k : Nat) : cx_rs k (fun i j => cx_bin x i * cx_bin y j) = cx_bin (x + y) k := by
  induction k with
  | zero => show cx_bin x 0 * cx_bin y 0 + 0 = 1; show (1 : Rat) * 1 + 0 = 1; grind
  | succ k ih =>
    have hk : ((k : Rat) + 1) ≠ 0 := by
      have : (0 : Rat) ≤ (k : Rat) := by exact_mod_cast Nat.zero_le k
      grind
    have e1 : ((k : Rat) + 1) * cx_rs (k + 1) (fun i j => cx_bin x i * cx_bin y j) = cx_rs (k + 1) (fun i j => (i : Rat) * (cx_bin x i * cx_bin y j)) + cx_rs (k + 1) (fun i j => (j : Rat) * (cx_bin x i * cx_bin y j)) := by
      rw [← cx_rs_mulL, ← cx_rs_add]
      refine cx_rs_congr (fun i j h => ?_)
      have : ((k : Rat) + 1) = (i : Rat) + (j : Rat) := by exact_mod_cast h.symm
      rw [this]; grind
    have e2 : cx_rs (k + 1) (fun i j => (i : Rat) * (cx_bin x i * cx_bin y j)) = cx_rs k (fun i j => (x - i) * (cx_bin x i * cx_bin y j)) := by
      rw [cx_rs_first]
      have : ((0 : Nat) : Rat) * (cx_bin x 0 * cx_bin y (k + 1)) = 0 := by rw [show ((0 : Nat) : Rat) = 0 from rfl, Rat.zero_mul]
      rw [this, Rat.zero_add]
      refine cx_rs_congr (fun i j _ => ?_)
      have := cx_bin_succ x i
      have h2 : ((i + 1 : Nat) : Rat) = (i : Rat) + 1 := by exact_mod_cast rfl
      rw [h2]; grind
    have e3 : cx_rs (k + 1) (fun i j => (j : Rat) * (cx_bin x i * cx_bin y j)) = cx_rs k (fun i j => (y - j) * (cx_bin x i * cx_bin y j)) := by
      rw [cx_rs_last]
      have : ((0 : Nat) : Rat) * (cx_bin x (k + 1) * cx_bin y 0) = 0 := by rw [show ((0 : Nat) : Rat) = 0 from rfl, Rat.zero_mul]
      rw [this, Rat.add_zero]
      refine cx_rs_congr (fun i j _ => ?_)
      have := cx_bin_succ y j
      have h2 : ((j + 1 : Nat) : Rat) = (j : Rat) + 1 := by exact_mod_cast rfl
      rw [h2]; grind
    have e4 : cx_rs k (fun i j => (x - i) * (cx_bin x i * cx_bin y j)) + cx_rs k (fun i j => (y - j) * (cx_bin x i * cx_bin y j)) = (x + y - k) * cx_bin (x + y) k := by
      rw [← cx_rs_add, ← ih, ← cx_rs_mulL]
      refine cx_rs_congr (fun i j h => ?_)
      have : (k : Rat) = (i : Rat) + (j : Rat) := by exact_mod_cast h.symm
      rw [this]; grind
    have e5 := cx_bin_succ (x + y) k
    rw [e2, e3, e4] at e1
    have : ((k : Rat) + 1) * (cx_rs (k + 1) (fun i j => cx_bin x i * cx_bin y j) - cx_bin (x + y) (k + 1)) = 0 := by grind
    rcases Rat.mul_eq_zero.1 this with h | h
    · exact absurd h hk
    · grind
theorem cx_vand_w (x y c d : Rat) (h : d * x = c * y) (k : Nat) : cx_rs k (fun i j => (i * d - j * c) * (cx_bin x i * cx_bin y j)) = 0 := by
  cases k with
  | zero =>
    show ((0 : Nat) * d - ((0 - 0 : Nat) : Rat) * c) * (cx_bin x 0 * cx_bin y 0) + 0 = 0
    rw [show ((0 : Nat) : Rat) = 0 from rfl]
    show ((0 : Rat) * d - ((0 : Nat) : Rat) * c) * _ + 0 = 0
    rw [show ((0 : Nat) : Rat) = 0 from rfl]; grind
  | succ k =>
    have e0 : cx_rs (k + 1) (fun i j => (i * d - j * c) * (cx_bin x i * cx_bin y j)) = d * cx_rs (k + 1) (fun i j => (i : Rat) * (cx_bin x i * cx_bin y j)) + (-c) * cx_rs (k + 1) (fun i j => (j : Rat) * (cx_bin x i * cx_bin y j)) := by
      rw [← cx_rs_mulL, ← cx_rs_mulL, ← cx_rs_add]
      exact cx_rs_congr (fun i j _ => by grind)
    have e2 : cx_rs (k + 1) (fun i j => (i : Rat) * (cx_bin x i * cx_bin y j)) = cx_rs k (fun i j => (x - i) * (cx_bin x i * cx_bin y j)) := by
      rw [cx_rs_first]
      have : ((0 : Nat) : Rat) * (cx_bin x 0 * cx_bin y (k + 1)) = 0 := by rw [show ((0 : Nat) : Rat) = 0 from rfl, Rat.zero_mul]
      rw [this, Rat.zero_add]
      refine cx_rs_congr (fun i j _ => ?_)
      have := cx_bin_succ x i
      have h2 : ((i + 1 : Nat) : Rat) = (i : Rat) + 1 := by exact_mod_cast rfl
      rw [h2]; grind
    have e3 : cx_rs (k + 1) (fun i j => (j : Rat) * (cx_bin x i * cx_bin y j)) = cx_rs k (fun i j => (y - j) * (cx_bin x i * cx_bin y j)) := by
      rw [cx_rs_last]
      have : ((0 : Nat) : Rat) * (cx_bin x (k + 1) * cx_bin y 0) = 0 := by rw [show ((0 : Nat) : Rat) = 0 from rfl, Rat.zero_mul]
      rw [this, Rat.add_zero]
      refine cx_rs_congr (fun i j _ => ?_)
      have := cx_bin_succ y j
      have h2 : ((j + 1 : Nat) : Rat) = (j : Rat) + 1 := by exact_mod_cast rfl
      rw [h2]; grind
    have e4 : d * cx_rs k (fun i j => (x - i) * (cx_bin x i * cx_bin y j)) + (-c) * cx_rs k (fun i j => (y - j) * (cx_bin x i * cx_bin y j)) = (-1) * cx_rs k (fun i j => (i * d - j * c) * (cx_bin x i * cx_bin y j)) := by
      rw [← cx_rs_mulL, ← cx_rs_mulL, ← cx_rs_mulL, ← cx_rs_add]
      exact cx_rs_congr (fun i j _ => by grind)
    have ih := cx_vand_w x y c d h k
    rw [e0, e2, e3, e4, ih]; grind
def cx_nsm {B : Type} [Zero B] [Add B] [Mul (cx_S B)] [One (cx_S B)] [Add (cx_S B)] [Zero (cx_S B)] [Inhabited (cx_Idx B)] : Nat → B → B
  | 0, _ => 0
  | j + 1, a => cx_nsm j a + a
theorem cx_nsm_deg {B : Type} [Zero B] [Add B] [Mul (cx_S B)] [One (cx_S B)] [Add (cx_S B)] [Zero (cx_S B)] [Inhabited (cx_Idx B)] (j : Nat) (a : B) : cx_deg (cx_nsm j a) = j * cx_deg a := by
  induction j with
  | zero => show cx_deg (0 : B) = _; rw [cx_deg_zero]; omega
  | succ j ih => show cx_deg (cx_nsm j a + a) = _; rw [cx_deg_add, ih, Nat.succ_mul]
theorem cx_nsm_add {B : Type} [Zero B] [Add B] [Mul (cx_S B)] [One (cx_S B)] [Add (cx_S B)] [Zero (cx_S B)] [Inhabited (cx_Idx B)] (i j : Nat) (a : B) : cx_nsm (i + j) a = cx_nsm i a + cx_nsm j a := by
  induction j with
  | zero => show cx_nsm i a = cx_nsm i a + 0; rw [cx_addZ]
  | succ j ih => show cx_nsm (i + j) a + a = cx_nsm i a + (cx_nsm j a + a); rw [ih, cx_addA]
theorem cx_nsm_inj {B : Type} [Zero B] [Add B] [Mul (cx_S B)] [One (cx_S B)] [Add (cx_S B)] [Zero (cx_S B)] [Inhabited (cx_Idx B)] {a : B} (ha : a ≠ 0) {i j : Nat} (h : cx_nsm i a = cx_nsm j a) : i = j := by
  have e := congrArg cx_deg h
  rw [cx_nsm_deg, cx_nsm_deg] at e
  have : cx_deg a ≠ 0 := fun e => ha (cx_deg_pos a e)
  exact Nat.eq_of_mul_eq_mul_right (by omega) e
noncomputable def cx_sub {B : Type} [Zero B] [Add B] [Mul (cx_S B)] [One (cx_S B)] [Add (cx_S B)] [Zero (cx_S B)] [Inhabited (cx_Idx B)] (a : B) (f : Nat → Rat) : cx_S B := fun b => @ite _ (cx_nsm (cx_deg b / cx_deg a) a = b) (Classical.propDecidable _) (f (cx_deg b / cx_deg a)) 0
theorem cx_sub_at {B : Type} [Zero B] [Add B] [Mul (cx_S B)] [One (cx_S B)] [Add (cx_S B)] [Zero (cx_S B)] [Inhabited (cx_Idx B)] {a : B} (ha : a ≠ 0) (f : Nat → Rat) (j : Nat) : cx_sub a f (cx_nsm j a) = f j := by
  unfold cx_sub
  have hd : cx_deg (cx_nsm j a) / cx_deg a = j := by
    rw [cx_nsm_deg]
    have : cx_deg a ≠ 0 := fun e => ha (cx_deg_pos a e)
    exact Nat.mul_div_cancel _ (by omega)
  rw [hd, if_pos rfl]
theorem cx_sub_off {B : Type} [Zero B] [Add B] [Mul (cx_S B)] [One (cx_S B)] [Add (cx_S B)] [Zero (cx_S B)] [Inhabited (cx_Idx B)] {a : B} (f : Nat → Rat) {b : B} (h : ∀ j, cx_nsm j a ≠ b) : cx_sub a f b = 0 := by
  unfold cx_sub
  exact if_neg (h _)
theorem cx_D_mult {B : Type} [Zero B] [Add B] [Mul (cx_S B)] [One (cx_S B)] [Add (cx_S B)] [Zero (cx_S B)] [Inhabited (cx_Idx B)] {a : B} (ha : a ≠ 0) (k : Nat) (f : B → B → Rat)
    (h1 : ∀ u v, (∀ j, cx_nsm j a ≠ u) → f u v = 0) : cx_D (cx_nsm k a) f = cx_rs k (fun i j => f (cx_nsm i a) (cx_nsm j a)) := by
  classical

  have hsplit : cx_sm (cx_dec (cx_nsm k a)) (fun cx_p => f cx_p.1 cx_p.2) = cx_sm ((cx_dec (cx_nsm k a)).filter (fun cx_p => decide (∃ j, cx_nsm j a = cx_p.1))) (fun cx_p => f cx_p.1 cx_p.2) := by
    generalize cx_dec (cx_nsm k a) = l
    induction l with
    | nil => rfl
    | cons q l ih =>
      by_cases hq : ∃ j, cx_nsm j a = q.1
      · rw [List.filter_cons_of_pos (by simpa using hq), cx_sm_cons, cx_sm_cons, ih]
      · rw [List.filter_cons_of_neg (by simpa using hq), cx_sm_cons, ih, h1 q.1 q.2 (fun j e => hq ⟨j, e⟩), Rat.zero_add]
  show cx_sm (cx_dec (cx_nsm k a)) (fun cx_p => f cx_p.1 cx_p.2) = _
  rw [hsplit]
  have hp : ((cx_dec (cx_nsm k a)).filter (fun cx_p => decide (∃ j, cx_nsm j a = cx_p.1))).Perm ((List.range (k + 1)).map fun i => (cx_nsm i a, cx_nsm (k - i) a)) := by
    refine cx_perm_of ((cx_nodup_dec _).filter _) ?_ ?_
    · have := List.nodup_range (n := k + 1)
      rw [List.nodup_iff_pairwise_ne] at *
      rw [List.pairwise_map]
      exact this.imp (fun h e => h (cx_nsm_inj ha (Prod.mk.inj e).1))
    · rintro ⟨u, v⟩
      rw [List.mem_filter, List.mem_map, cx_mem_dec]
      constructor
      · rintro ⟨h, hj⟩
        simp only [decide_eq_true_eq] at hj
        obtain ⟨j, rfl⟩ := hj
        have hd := congrArg cx_deg h
        rw [cx_deg_add, cx_nsm_deg, cx_nsm_deg] at hd
        have hd0 : cx_deg a ≠ 0 := fun e => ha (cx_deg_pos a e)
        have hjk : j ≤ k := Nat.le_of_mul_le_mul_right (by omega : j * cx_deg a ≤ k * cx_deg a) (by omega)
        refine ⟨j, List.mem_range.2 (by omega), ?_⟩
        have e : cx_nsm j a + cx_nsm (k - j) a = cx_nsm j a + v := by rw [← cx_nsm_add, h]; congr 1; omega
        rw [cx_canc _ _ _ e]
      · rintro ⟨i, hi, e⟩
        rw [List.mem_range] at hi
        cases e
        refine ⟨by rw [← cx_nsm_add]; congr 1; omega, ?_⟩
        simp
  rw [cx_sm_perm hp, cx_sm_map]
  rfl
theorem cx_sub_sum_off {B : Type} [Zero B] [Add B] [Mul (cx_S B)] [One (cx_S B)] [Add (cx_S B)] [Zero (cx_S B)] [Inhabited (cx_Idx B)] {a : B} (f g : Nat → Rat) (w : B → B → Rat) {b : B} (h : ∀ j, cx_nsm j a ≠ b) : cx_D b (fun u v => w u v * (cx_sub a f u * cx_sub a g v)) = 0 := by
  classical
  refine cx_D_zero (fun u v huv => ?_)
  by_cases hu : ∃ i, cx_nsm i a = u
  · by_cases hv : ∃ j, cx_nsm j a = v
    · obtain ⟨i, rfl⟩ := hu
      obtain ⟨j, rfl⟩ := hv
      exact absurd (by rw [cx_nsm_add]; exact huv) (h (i + j))
    · rw [cx_sub_off g (fun j e => hv ⟨j, e⟩)]; grind
  · rw [cx_sub_off f (fun j e => hu ⟨j, e⟩)]; grind
theorem cx_pr_zero {B : Type} [Zero B] [Add B] [Mul (cx_S B)] [One (cx_S B)] [Add (cx_S B)] [Zero (cx_S B)] [Inhabited (cx_Idx B)] {M : Type} [Add M] [Inhabited (PLift (cx_MGl M))] [Inhabited (cx_Tord B M)] (m : M) : cx_pr (0 : B) m = 0 := by have := cx_pr_addL (0 : B) 0 m; rw [cx_addZ] at this; grind
theorem cx_pr_nsm {B : Type} [Zero B] [Add B] [Mul (cx_S B)] [One (cx_S B)] [Add (cx_S B)] [Zero (cx_S B)] [Inhabited (cx_Idx B)] {M : Type} [Add M] [Inhabited (PLift (cx_MGl M))] [Inhabited (cx_Tord B M)] (j : Nat) (a : B) (m : M) : cx_pr (cx_nsm j a) m = j * cx_pr a m := by
  induction j with
  | zero => show cx_pr (0 : B) m = ((0 : Nat) : Rat) * _; rw [cx_pr_zero, show ((0 : Nat) : Rat) = 0 from rfl, Rat.zero_mul]
  | succ j ih =>
    show cx_pr (cx_nsm j a + a) m = _
    rw [cx_pr_addL, ih]
    have h2 : ((j + 1 : Nat) : Rat) = (j : Rat) + 1 := by exact_mod_cast rfl
    rw [h2]; grind
noncomputable def cx_E {B : Type} [Zero B] [Add B] [Mul (cx_S B)] [One (cx_S B)] [Add (cx_S B)] [Zero (cx_S B)] [Inhabited (cx_Idx B)] {M : Type} [Add M] [Inhabited (PLift (cx_MGl M))] [Inhabited (cx_Tord B M)] (a : B) (c : Rat) : M → cx_S B := fun m => cx_sub a (cx_bin (c * cx_pr a m))
theorem cx_E_good {B : Type} [Zero B] [Add B] [Mul (cx_S B)] [One (cx_S B)] [Add (cx_S B)] [Zero (cx_S B)] [Inhabited (cx_Idx B)] {M : Type} [Add M] [Inhabited (PLift (cx_MGl M))] [Inhabited (cx_Tord B M)] {a : B} (ha : a ≠ 0) (c : Rat) : cx_Good (cx_E a c : M → cx_S B) := ⟨(fun m k => by
    classical
    refine cx_S.ext (fun b => ?_)
    rw [cx_mul_D]
    by_cases hb : ∃ j, cx_nsm j a = b
    · obtain ⟨j, rfl⟩ := hb
      show cx_sub a _ (cx_nsm j a) = _
      rw [cx_sub_at ha, cx_D_mult ha j _ (fun u v hu => by show cx_sub a _ u * _ = 0; rw [cx_sub_off _ hu, Rat.zero_mul])]
      rw [cx_pr_addR, Rat.mul_add, ← cx_vand]
      refine cx_rs_congr (fun i j _ => ?_)
      show _ = cx_sub a _ (cx_nsm i a) * cx_sub a _ (cx_nsm j a)
      rw [cx_sub_at ha, cx_sub_at ha]
    · have hb' : ∀ j, cx_nsm j a ≠ b := fun j e => hb ⟨j, e⟩
      show cx_sub a _ b = _
      rw [cx_sub_off _ hb']
      have := cx_sub_sum_off (cx_bin (c * cx_pr a m)) (cx_bin (c * cx_pr a k)) (fun _ _ => 1) hb'
      rw [← this]
      exact cx_D_congr (fun u v _ => by rw [Rat.one_mul]; rfl)),
  (fun m => by
    have := cx_sub_at ha (cx_bin (c * cx_pr a m)) 0
    exact this),
  (fun m k b => by
    classical
    by_cases hb : ∃ j, cx_nsm j a = b
    · obtain ⟨j, rfl⟩ := hb
      rw [cx_D_mult ha j _ (fun u v hu => by show _ * (cx_sub a _ u * _) = 0; rw [cx_sub_off _ hu, Rat.zero_mul, Rat.mul_zero])]
      rw [← cx_vand_w (c * cx_pr a m) (c * cx_pr a k) (cx_pr a m) (cx_pr a k) (by grind) j]
      refine cx_rs_congr (fun i l _ => ?_)
      show cx_Om m k _ _ * (cx_sub a _ (cx_nsm i a) * cx_sub a _ (cx_nsm l a)) = _
      rw [cx_sub_at ha, cx_sub_at ha]
      congr 1
      unfold cx_Om
      rw [cx_pr_nsm, cx_pr_nsm, cx_pr_nsm, cx_skew, cx_pr_nsm]
      have : cx_pr a (cx_p a : M) = - cx_pr a (cx_p a : M) := cx_skew a a
      have : cx_pr a (cx_p a : M) = 0 := by grind
      rw [this]; grind
    · exact cx_sub_sum_off _ _ _ (fun j e => hb ⟨j, e⟩))⟩
def cx_Eqd {B : Type} [Zero B] [Add B] [Mul (cx_S B)] [One (cx_S B)] [Add (cx_S B)] [Zero (cx_S B)] [Inhabited (cx_Idx B)] {M : Type} [Add M] [Inhabited (PLift (cx_MGl M))] [Inhabited (cx_Tord B M)] (d : Nat) (g h : M → cx_S B) : Prop := ∀ m b, cx_deg b ≤ d → g m b = h m b
theorem cx_Eqd.rfl' {B : Type} [Zero B] [Add B] [Mul (cx_S B)] [One (cx_S B)] [Add (cx_S B)] [Zero (cx_S B)] [Inhabited (cx_Idx B)] {M : Type} [Add M] [Inhabited (PLift (cx_MGl M))] [Inhabited (cx_Tord B M)] {d : Nat} {g : M → cx_S B} : cx_Eqd d g g := fun _ _ _ => rfl
theorem cx_Eqd.symm {B : Type} [Zero B] [Add B] [Mul (cx_S B)] [One (cx_S B)] [Add (cx_S B)] [Zero (cx_S B)] [Inhabited (cx_Idx B)] {M : Type} [Add M] [Inhabited (PLift (cx_MGl M))] [Inhabited (cx_Tord B M)] {d : Nat} {g h : M → cx_S B} (e : cx_Eqd d g h) : cx_Eqd d h g := fun m b hb => (e m b hb).symm
theorem cx_Eqd.trans {B : Type} [Zero B] [Add B] [Mul (cx_S B)] [One (cx_S B)] [Add (cx_S B)] [Zero (cx_S B)] [Inhabited (cx_Idx B)] {M : Type} [Add M] [Inhabited (PLift (cx_MGl M))] [Inhabited (cx_Tord B M)] {d : Nat} {g h k : M → cx_S B} (e : cx_Eqd d g h) (f : cx_Eqd d h k) : cx_Eqd d g k := fun m b hb => (e m b hb).trans (f m b hb)
theorem cx_Eqd.mono {B : Type} [Zero B] [Add B] [Mul (cx_S B)] [One (cx_S B)] [Add (cx_S B)] [Zero (cx_S B)] [Inhabited (cx_Idx B)] {M : Type} [Add M] [Inhabited (PLift (cx_MGl M))] [Inhabited (cx_Tord B M)] {d d' : Nat} (hd : d' ≤ d) {g h : M → cx_S B} (e : cx_Eqd d g h) : cx_Eqd d' g h := fun m b hb => e m b (Nat.le_trans hb hd)
theorem cx_Eqd.comp {B : Type} [Zero B] [Add B] [Mul (cx_S B)] [One (cx_S B)] [Add (cx_S B)] [Zero (cx_S B)] [Inhabited (cx_Idx B)] {M : Type} [Add M] [Inhabited (PLift (cx_MGl M))] [Inhabited (cx_Tord B M)] {d : Nat} {g g' h h' : M → cx_S B} (e : cx_Eqd d g g') (f : cx_Eqd d h h') : cx_Eqd d (cx_comp g h) (cx_comp g' h') := by
  intro m b hb
  rw [cx_comp_def, cx_comp_def]
  refine cx_D_congr (fun u s hus => ?_)
  have := cx_deg_add u s
  rw [hus] at this
  rw [e _ s (by omega), f _ u (by omega)]
noncomputable def cx_I {B : Type} [Zero B] [Add B] [Mul (cx_S B)] [One (cx_S B)] [Add (cx_S B)] [Zero (cx_S B)] [Inhabited (cx_Idx B)] {M : Type} [Add M] [Inhabited (PLift (cx_MGl M))] [Inhabited (cx_Tord B M)] : M → cx_S B := fun _ => 1
theorem cx_I_comp {B : Type} [Zero B] [Add B] [Mul (cx_S B)] [One (cx_S B)] [Add (cx_S B)] [Zero (cx_S B)] [Inhabited (cx_Idx B)] {M : Type} [Add M] [Inhabited (PLift (cx_MGl M))] [Inhabited (cx_Tord B M)] (g : M → cx_S B) : cx_comp cx_I g = g := by
  funext m
  refine cx_S.ext (fun b => ?_)
  rw [cx_comp_def, cx_D_right]
  · show g m b * (1 : cx_S B) 0 = _; rw [cx_one_zero, Rat.mul_one]
  · intro u v _ hv; show _ * (1 : cx_S B) v = 0; rw [cx_one_ne hv, Rat.mul_zero]
theorem cx_comp_I {B : Type} [Zero B] [Add B] [Mul (cx_S B)] [One (cx_S B)] [Add (cx_S B)] [Zero (cx_S B)] [Inhabited (cx_Idx B)] {M : Type} [Add M] [Inhabited (PLift (cx_MGl M))] [Inhabited (cx_Tord B M)] (g : M → cx_S B) : cx_comp g cx_I = g := by
  funext m
  refine cx_S.ext (fun b => ?_)
  rw [cx_comp_def, cx_D_comm, cx_D_right]
  · show (1 : cx_S B) 0 * g (m + cx_p (0 : B)) b = _; rw [cx_one_zero, Rat.one_mul, cx_p_zero]
  · intro u v _ hv; show (1 : cx_S B) v * _ = 0; rw [cx_one_ne hv, Rat.zero_mul]
theorem cx_I_good {B : Type} [Zero B] [Add B] [Mul (cx_S B)] [One (cx_S B)] [Add (cx_S B)] [Zero (cx_S B)] [Inhabited (cx_Idx B)] {M : Type} [Add M] [Inhabited (PLift (cx_MGl M))] [Inhabited (cx_Tord B M)] : cx_Good (cx_I : M → cx_S B) := ⟨(fun m k => by show (1 : cx_S B) = 1 * 1; rw [cx_mul1]),
  (fun m => cx_one_zero),
  (fun m k b => by
    classical
    by_cases hb : b = 0
    · subst hb
      rw [cx_D_right]
      · unfold cx_Om; rw [cx_pr_zero, cx_pr_zero, cx_pr_zero]; grind
      · intro u v _ hv; show _ * (_ * (1 : cx_S B) v) = 0; rw [cx_one_ne hv, Rat.mul_zero, Rat.mul_zero]
    · refine cx_D_zero (fun u v huv => ?_)
      show _ * ((1 : cx_S B) u * (1 : cx_S B) v) = 0
      by_cases hv : v = 0
      · by_cases hu : u = 0
        · subst hu; subst hv; rw [cx_addZ] at huv; exact absurd huv.symm hb
        · rw [cx_one_ne hu, Rat.zero_mul, Rat.mul_zero]
      · rw [cx_one_ne hv, Rat.mul_zero, Rat.mul_zero])⟩
theorem cx_D_ends {B : Type} [Zero B] [Add B] [Mul (cx_S B)] [One (cx_S B)] [Add (cx_S B)] [Zero (cx_S B)] [Inhabited (cx_Idx B)] {b : B} (hb : b ≠ 0) (f : B → B → Rat) (h : ∀ u v, u + v = b → u ≠ 0 → v ≠ 0 → f u v = 0) : cx_D b f = f b 0 + f 0 b := by
  classical
  have e : cx_D b f = cx_D b (fun u v => (if v = 0 then f u v else 0) + (if u = 0 then f u v else 0)) := by
    refine cx_D_congr (fun u v huv => ?_)
    by_cases hv : v = 0
    · have hu : u ≠ 0 := fun hu => hb (by rw [← huv, hu, hv, cx_addZ])
      rw [if_pos hv, if_neg hu, Rat.add_zero]
    · by_cases hu : u = 0
      · rw [if_neg hv, if_pos hu, Rat.zero_add]
      · rw [if_neg hv, if_neg hu, h u v huv hu hv]; grind
  rw [e, cx_D_add, cx_D_right b (fun u v => if v = 0 then f u v else 0) (fun u v _ hv => if_neg hv), cx_D_comm b (fun u v => if u = 0 then f u v else 0), cx_D_right b (fun u v => if v = 0 then f v u else 0) (fun u v _ hv => if_neg hv), if_pos rfl, if_pos rfl]
abbrev cx_Ld {B : Type} [Zero B] [Add B] [Mul (cx_S B)] [One (cx_S B)] [Add (cx_S B)] [Zero (cx_S B)] [Inhabited (cx_Idx B)] {M : Type} [Add M] [Inhabited (PLift (cx_MGl M))] [Inhabited (cx_Tord B M)] (k : Nat) (e : M → cx_S B) (d : B → Rat) : Prop := (∀ m, e m 0 = 1) ∧ (∀ m b, b ≠ 0 → cx_deg b < k → e m b = 0) ∧ (∀ m b, cx_deg b = k → e m b = d b * cx_pr b m)
theorem cx_Ld.unit {B : Type} [Zero B] [Add B] [Mul (cx_S B)] [One (cx_S B)] [Add (cx_S B)] [Zero (cx_S B)] [Inhabited (cx_Idx B)] {M : Type} [Add M] [Inhabited (PLift (cx_MGl M))] [Inhabited (cx_Tord B M)] {k : Nat} {e : M → cx_S B} {d : B → Rat} (hh_ : cx_Ld k e d) : ∀ m, e m 0 = 1 := hh_.1
theorem cx_Ld.low {B : Type} [Zero B] [Add B] [Mul (cx_S B)] [One (cx_S B)] [Add (cx_S B)] [Zero (cx_S B)] [Inhabited (cx_Idx B)] {M : Type} [Add M] [Inhabited (PLift (cx_MGl M))] [Inhabited (cx_Tord B M)] {k : Nat} {e : M → cx_S B} {d : B → Rat} (hh_ : cx_Ld k e d) : ∀ m b, b ≠ 0 → cx_deg b < k → e m b = 0 := hh_.2.1
theorem cx_Ld.at_ {B : Type} [Zero B] [Add B] [Mul (cx_S B)] [One (cx_S B)] [Add (cx_S B)] [Zero (cx_S B)] [Inhabited (cx_Idx B)] {M : Type} [Add M] [Inhabited (PLift (cx_MGl M))] [Inhabited (cx_Tord B M)] {k : Nat} {e : M → cx_S B} {d : B → Rat} (hh_ : cx_Ld k e d) : ∀ m b, cx_deg b = k → e m b = d b * cx_pr b m := hh_.2.2
theorem cx_Ld.left {B : Type} [Zero B] [Add B] [Mul (cx_S B)] [One (cx_S B)] [Add (cx_S B)] [Zero (cx_S B)] [Inhabited (cx_Idx B)] {M : Type} [Add M] [Inhabited (PLift (cx_MGl M))] [Inhabited (cx_Tord B M)] {k : Nat} (hk : 0 < k) {e : M → cx_S B} {d : B → Rat} (he : cx_Ld k e d) {g : M → cx_S B} (hg : cx_Good g) (m : M) (b : B) (hb : cx_deg b ≤ k) :
    cx_comp e g m b = g m b + (if cx_deg b = k then d b * cx_pr b m else 0) := by
  classical
  by_cases h0 : b = 0
  · subst h0
    rw [cx_comp_def, cx_D_right]
    · rw [he.unit, Rat.mul_one, cx_deg_zero, if_neg (by omega), Rat.add_zero]
    · intro u v h hv
      have := cx_deg_add u v
      rw [h, cx_deg_zero] at this
      exact absurd (cx_deg_pos v (by omega)) hv
  · rw [cx_comp_def, cx_D_ends h0]
    · rw [he.unit, Rat.mul_one, hg.unit, Rat.one_mul, cx_p_zero]
      congr 1
      by_cases hd : cx_deg b = k
      · rw [if_pos hd, he.at_ m b hd]
      · rw [if_neg hd, he.low m b h0 (by omega)]
    · intro u v h hu hv
      have := cx_deg_add u v
      rw [h] at this
      have : cx_deg u ≠ 0 := fun e => hu (cx_deg_pos u e)
      rw [he.low _ v hv (by omega), Rat.mul_zero]
theorem cx_Ld.right {B : Type} [Zero B] [Add B] [Mul (cx_S B)] [One (cx_S B)] [Add (cx_S B)] [Zero (cx_S B)] [Inhabited (cx_Idx B)] {M : Type} [Add M] [Inhabited (PLift (cx_MGl M))] [Inhabited (cx_Tord B M)] {k : Nat} (hk : 0 < k) {e : M → cx_S B} {d : B → Rat} (he : cx_Ld k e d) {g : M → cx_S B} (hg : cx_Good g) (m : M) (b : B) (hb : cx_deg b ≤ k) :
    cx_comp g e m b = g m b + (if cx_deg b = k then d b * cx_pr b m else 0) := by
  classical
  by_cases h0 : b = 0
  · subst h0
    rw [cx_comp_def, cx_D_right]
    · rw [he.unit, Rat.one_mul, cx_p_zero, cx_deg_zero, if_neg (by omega), Rat.add_zero]
    · intro u v h hv
      have := cx_deg_add u v
      rw [h, cx_deg_zero] at this
      exact absurd (cx_deg_pos v (by omega)) hv
  · rw [cx_comp_def, cx_D_ends h0]
    · rw [he.unit, Rat.one_mul, hg.unit, Rat.mul_one, cx_p_zero]
      rw [Rat.add_comm]
      congr 1
      by_cases hd : cx_deg b = k
      · rw [if_pos hd, he.at_ m b hd]
      · rw [if_neg hd, he.low m b h0 (by omega)]
    · intro u v h hu hv
      have := cx_deg_add u v
      rw [h] at this
      have : cx_deg v ≠ 0 := fun e => hv (cx_deg_pos v e)
      rw [he.low _ u hu (by omega), Rat.zero_mul]
theorem cx_nsm_one {B : Type} [Zero B] [Add B] [Mul (cx_S B)] [One (cx_S B)] [Add (cx_S B)] [Zero (cx_S B)] [Inhabited (cx_Idx B)] (a : B) : cx_nsm 1 a = a := by show (0 : B) + a = a; exact cx_zadd a
theorem cx_bin_one (x : Rat) : cx_bin x 1 = x := by
  have := cx_bin_succ x 0
  rw [show ((0 : Nat) : Rat) = 0 from rfl] at this
  show cx_bin x (0 + 1) = x
  have h : cx_bin x 0 = 1 := rfl
  grind
theorem cx_E_ld {B : Type} [Zero B] [Add B] [Mul (cx_S B)] [One (cx_S B)] [Add (cx_S B)] [Zero (cx_S B)] [Inhabited (cx_Idx B)] {M : Type} [Add M] [Inhabited (PLift (cx_MGl M))] [Inhabited (cx_Tord B M)] {a : B} (ha : a ≠ 0) (c : Rat) : cx_Ld (cx_deg a) (cx_E a c : M → cx_S B) (fun b => @ite _ (b = a) (Classical.propDecidable _) c 0) := ⟨((cx_E_good ha c).unit),
  (fun m b hb hd => by
    refine cx_sub_off _ (fun j e => ?_)
    subst e
    rw [cx_nsm_deg] at hd
    cases j with
    | zero => exact hb rfl
    | succ j => rw [Nat.succ_mul] at hd; omega),
  (fun m b hd => by
    show cx_E a c m b = (@ite _ (b = a) (Classical.propDecidable _) c 0) * cx_pr b m
    by_cases hb : b = a
    · rw [if_pos hb, hb]
      have := cx_sub_at ha (cx_bin (c * cx_pr a m)) 1
      rw [cx_nsm_one, cx_bin_one] at this
      exact this
    · rw [if_neg hb, Rat.zero_mul]
      refine cx_sub_off _ (fun j e => hb ?_)
      subst e
      rw [cx_nsm_deg] at hd
      have : cx_deg a ≠ 0 := fun e => ha (cx_deg_pos a e)
      have : j = 1 := Nat.eq_of_mul_eq_mul_right (by omega : 0 < cx_deg a) (by omega)
      subst this; exact cx_nsm_one a)⟩
theorem cx_p_nsm {B : Type} [Zero B] [Add B] [Mul (cx_S B)] [One (cx_S B)] [Add (cx_S B)] [Zero (cx_S B)] [Inhabited (cx_Idx B)] {M : Type} [Add M] [Inhabited (PLift (cx_MGl M))] [Inhabited (cx_Tord B M)] (j : Nat) (a c : B) : cx_pr c (cx_p (cx_nsm j a) : M) = j * cx_pr c (cx_p a : M) := by
  rw [cx_skew, cx_pr_nsm, cx_skew c a]; grind
theorem cx_E_add {B : Type} [Zero B] [Add B] [Mul (cx_S B)] [One (cx_S B)] [Add (cx_S B)] [Zero (cx_S B)] [Inhabited (cx_Idx B)] {M : Type} [Add M] [Inhabited (PLift (cx_MGl M))] [Inhabited (cx_Tord B M)] {a : B} (ha : a ≠ 0) (c c' : Rat) : cx_comp (cx_E a c) (cx_E a c') = (cx_E a (c + c') : M → cx_S B) := by
  classical
  funext m
  refine cx_S.ext (fun b => ?_)
  rw [cx_comp_def]
  have hself : cx_pr a (cx_p a : M) = 0 := by have : cx_pr a (cx_p a : M) = - cx_pr a (cx_p a : M) := cx_skew a a; grind
  by_cases hb : ∃ j, cx_nsm j a = b
  · obtain ⟨j, rfl⟩ := hb
    rw [cx_D_mult ha j _ (fun u v hu => by show cx_sub a _ u * _ = 0; rw [cx_sub_off _ hu, Rat.zero_mul])]
    show _ = cx_sub a _ (cx_nsm j a)
    rw [cx_sub_at ha, show (c + c') * cx_pr a m = c' * cx_pr a m + c * cx_pr a m by grind, ← cx_vand]
    refine cx_rs_congr (fun i l _ => ?_)
    show cx_sub a _ (cx_nsm i a) * cx_sub a _ (cx_nsm l a) = _
    rw [cx_sub_at ha, cx_sub_at ha, cx_pr_addR, cx_p_nsm, hself, Rat.mul_zero, Rat.add_zero]
  · have hb' : ∀ j, cx_nsm j a ≠ b := fun j e => hb ⟨j, e⟩
    show _ = cx_sub a _ b
    rw [cx_sub_off _ hb']
    refine cx_D_zero (fun u v huv => ?_)
    show cx_sub a _ u * cx_sub a _ v = 0
    by_cases hu : ∃ i, cx_nsm i a = u
    · by_cases hv : ∃ j, cx_nsm j a = v
      · obtain ⟨i, rfl⟩ := hu
        obtain ⟨j, rfl⟩ := hv
        exact absurd (by rw [cx_nsm_add]; exact huv) (hb' (i + j))
      · rw [cx_sub_off _ (fun j e => hv ⟨j, e⟩), Rat.mul_zero]
    · rw [cx_sub_off _ (fun j e => hu ⟨j, e⟩), Rat.zero_mul]
theorem cx_E_zero {B : Type} [Zero B] [Add B] [Mul (cx_S B)] [One (cx_S B)] [Add (cx_S B)] [Zero (cx_S B)] [Inhabited (cx_Idx B)] {M : Type} [Add M] [Inhabited (PLift (cx_MGl M))] [Inhabited (cx_Tord B M)] {a : B} (ha : a ≠ 0) : (cx_E a 0 : M → cx_S B) = cx_I := by
  classical
  funext m
  refine cx_S.ext (fun b => ?_)
  show cx_sub a (cx_bin (0 * cx_pr a m)) b = (1 : cx_S B) b
  have hz : ∀ k, cx_bin 0 (k + 1) = 0 := by
    intro k
    induction k with
    | zero => exact cx_bin_one 0
    | succ k ih =>
      have := cx_bin_succ 0 (k + 1)
      rw [ih, Rat.zero_mul] at this
      rcases Rat.mul_eq_zero.1 this with h | h
      · exact h
      · have : (0 : Rat) ≤ ((k + 1 : Nat) : Rat) := by exact_mod_cast Nat.zero_le _
        grind
  rw [Rat.zero_mul]
  by_cases hb : ∃ j, cx_nsm j a = b
  · obtain ⟨j, rfl⟩ := hb
    rw [cx_sub_at ha]
    cases j with
    | zero => show (1 : Rat) = (1 : cx_S B) 0; rw [cx_one_zero]
    | succ j =>
      rw [hz, cx_one_ne]
      intro e
      have := congrArg cx_deg e
      rw [cx_nsm_deg, cx_deg_zero, Nat.succ_mul] at this
      exact ha (cx_deg_pos a (by omega))
  · rw [cx_sub_off _ (fun j e => hb ⟨j, e⟩), cx_one_ne]
    intro e
    exact hb ⟨0, e.symm⟩
noncomputable def cx_ev {B : Type} [Zero B] [Add B] [Mul (cx_S B)] [One (cx_S B)] [Add (cx_S B)] [Zero (cx_S B)] [Inhabited (cx_Idx B)] {M : Type} [Add M] [Inhabited (PLift (cx_MGl M))] [Inhabited (cx_Tord B M)] (w : List (B × Rat)) : M → cx_S B := w.foldr (fun x g => cx_comp (cx_E x.1 x.2) g) cx_I
theorem cx_ev_nil {B : Type} [Zero B] [Add B] [Mul (cx_S B)] [One (cx_S B)] [Add (cx_S B)] [Zero (cx_S B)] [Inhabited (cx_Idx B)] {M : Type} [Add M] [Inhabited (PLift (cx_MGl M))] [Inhabited (cx_Tord B M)] : cx_ev ([] : List (B × Rat)) = (cx_I : M → cx_S B) := rfl
theorem cx_ev_cons {B : Type} [Zero B] [Add B] [Mul (cx_S B)] [One (cx_S B)] [Add (cx_S B)] [Zero (cx_S B)] [Inhabited (cx_Idx B)] {M : Type} [Add M] [Inhabited (PLift (cx_MGl M))] [Inhabited (cx_Tord B M)] (x : B × Rat) (w : List (B × Rat)) : cx_ev (x :: w) = (cx_comp (cx_E x.1 x.2) (cx_ev w) : M → cx_S B) := rfl
theorem cx_ev_append {B : Type} [Zero B] [Add B] [Mul (cx_S B)] [One (cx_S B)] [Add (cx_S B)] [Zero (cx_S B)] [Inhabited (cx_Idx B)] {M : Type} [Add M] [Inhabited (PLift (cx_MGl M))] [Inhabited (cx_Tord B M)] (w v : List (B × Rat)) : cx_ev (w ++ v) = (cx_comp (cx_ev w) (cx_ev v) : M → cx_S B) := by
  induction w with
  | nil => rw [List.nil_append, cx_ev_nil, cx_I_comp]
  | cons x w ih => rw [List.cons_append, cx_ev_cons, cx_ev_cons, ih, cx_comp_assoc]
def cx_NZ {B : Type} [Zero B] [Add B] [Mul (cx_S B)] [One (cx_S B)] [Add (cx_S B)] [Zero (cx_S B)] [Inhabited (cx_Idx B)] (w : List (B × Rat)) : Prop := ∀ x ∈ w, x.1 ≠ 0
theorem cx_ev_good {B : Type} [Zero B] [Add B] [Mul (cx_S B)] [One (cx_S B)] [Add (cx_S B)] [Zero (cx_S B)] [Inhabited (cx_Idx B)] {M : Type} [Add M] [Inhabited (PLift (cx_MGl M))] [Inhabited (cx_Tord B M)] {w : List (B × Rat)} (hw : cx_NZ w) : cx_Good (cx_ev w : M → cx_S B) := by
  induction w with
  | nil => exact cx_I_good
  | cons x w ih => exact (cx_E_good (hw x (by simp)) _).comp (ih (fun y hy => hw y (by simp [hy])))
def cx_inv {B : Type} [Zero B] [Add B] [Mul (cx_S B)] [One (cx_S B)] [Add (cx_S B)] [Zero (cx_S B)] [Inhabited (cx_Idx B)] (w : List (B × Rat)) : List (B × Rat) := (w.map fun x => (x.1, - x.2)).reverse
theorem cx_NZ.inv {B : Type} [Zero B] [Add B] [Mul (cx_S B)] [One (cx_S B)] [Add (cx_S B)] [Zero (cx_S B)] [Inhabited (cx_Idx B)] {w : List (B × Rat)} (hw : cx_NZ w) : cx_NZ (cx_inv w) := by
  intro x hx
  simp only [cx_inv, List.mem_reverse, List.mem_map] at hx
  obtain ⟨y, hy, rfl⟩ := hx
  exact hw y hy
theorem cx_NZ.append {B : Type} [Zero B] [Add B] [Mul (cx_S B)] [One (cx_S B)] [Add (cx_S B)] [Zero (cx_S B)] [Inhabited (cx_Idx B)] {w v : List (B × Rat)} (hw : cx_NZ w) (hv : cx_NZ v) : cx_NZ (w ++ v) := by
  intro x hx
  rcases List.mem_append.1 hx with h | h
  · exact hw x h
  · exact hv x h
theorem cx_ev_one {B : Type} [Zero B] [Add B] [Mul (cx_S B)] [One (cx_S B)] [Add (cx_S B)] [Zero (cx_S B)] [Inhabited (cx_Idx B)] {M : Type} [Add M] [Inhabited (PLift (cx_MGl M))] [Inhabited (cx_Tord B M)] (x : B × Rat) : cx_ev [x] = (cx_E x.1 x.2 : M → cx_S B) := by rw [cx_ev_cons, cx_ev_nil, cx_comp_I]
theorem cx_ev_inv {B : Type} [Zero B] [Add B] [Mul (cx_S B)] [One (cx_S B)] [Add (cx_S B)] [Zero (cx_S B)] [Inhabited (cx_Idx B)] {M : Type} [Add M] [Inhabited (PLift (cx_MGl M))] [Inhabited (cx_Tord B M)] {w : List (B × Rat)} (hw : cx_NZ w) : cx_comp (cx_ev w) (cx_ev (cx_inv w)) = (cx_I : M → cx_S B) := by
  induction w with
  | nil => exact cx_I_comp cx_I
  | cons x w ih =>
    have hx : x.1 ≠ 0 := hw x (by simp)
    have : cx_inv (x :: w) = cx_inv w ++ [(x.1, - x.2)] := by simp [cx_inv]
    rw [this, cx_ev_append, cx_ev_cons, cx_ev_one, cx_comp_assoc, ← cx_comp_assoc (cx_ev w), ih (fun y hy => hw y (by simp [hy])), cx_I_comp, cx_E_add hx, show x.2 + -x.2 = 0 by grind, cx_E_zero hx]
theorem cx_inv_inv {B : Type} [Zero B] [Add B] [Mul (cx_S B)] [One (cx_S B)] [Add (cx_S B)] [Zero (cx_S B)] [Inhabited (cx_Idx B)] (w : List (B × Rat)) : cx_inv (cx_inv w) = w := by
  simp only [cx_inv, List.map_reverse, List.reverse_reverse, List.map_map]
  conv => rhs; rw [← List.map_id w]
  refine List.map_congr_left (fun x _ => ?_)
  show (x.1, - - x.2) = x
  rw [Rat.neg_neg]
theorem cx_ev_inv' {B : Type} [Zero B] [Add B] [Mul (cx_S B)] [One (cx_S B)] [Add (cx_S B)] [Zero (cx_S B)] [Inhabited (cx_Idx B)] {M : Type} [Add M] [Inhabited (PLift (cx_MGl M))] [Inhabited (cx_Tord B M)] {w : List (B × Rat)} (hw : cx_NZ w) : cx_comp (cx_ev (cx_inv w)) (cx_ev w) = (cx_I : M → cx_S B) := by
  have := cx_ev_inv (M := M) hw.inv
  rw [cx_inv_inv] at this
  exact this
abbrev cx_Clo {B : Type} [Zero B] [Add B] [Mul (cx_S B)] [One (cx_S B)] [Add (cx_S B)] [Zero (cx_S B)] [Inhabited (cx_Idx B)] (T : B → Prop) : Prop := Nonempty (∀ a b, T a → T b → T (a + b))
theorem cx_Clo.add {B : Type} [Zero B] [Add B] [Mul (cx_S B)] [One (cx_S B)] [Add (cx_S B)] [Zero (cx_S B)] [Inhabited (cx_Idx B)] {T : B → Prop} (hh_ : cx_Clo T) : ∀ a b, T a → T b → T (a + b) := hh_.elim id
def cx_Sup {B : Type} [Zero B] [Add B] [Mul (cx_S B)] [One (cx_S B)] [Add (cx_S B)] [Zero (cx_S B)] [Inhabited (cx_Idx B)] {M : Type} [Add M] [Inhabited (PLift (cx_MGl M))] [Inhabited (cx_Tord B M)] (T : B → Prop) (g : M → cx_S B) : Prop := ∀ m b, b ≠ 0 → ¬ T b → g m b = 0
theorem cx_Clo.nsm {B : Type} [Zero B] [Add B] [Mul (cx_S B)] [One (cx_S B)] [Add (cx_S B)] [Zero (cx_S B)] [Inhabited (cx_Idx B)] {T : B → Prop} (hT : cx_Clo T) {a : B} (ha : T a) (j : Nat) : T (cx_nsm (j + 1) a) := by
  induction j with
  | zero => rw [cx_nsm_one]; exact ha
  | succ j ih => exact hT.add _ _ ih ha
theorem cx_E_sup {B : Type} [Zero B] [Add B] [Mul (cx_S B)] [One (cx_S B)] [Add (cx_S B)] [Zero (cx_S B)] [Inhabited (cx_Idx B)] {M : Type} [Add M] [Inhabited (PLift (cx_MGl M))] [Inhabited (cx_Tord B M)] {T : B → Prop} (hT : cx_Clo T) {a : B} (ha : T a) (c : Rat) : cx_Sup T (cx_E a c : M → cx_S B) := by
  intro m b hb hn
  refine cx_sub_off _ (fun j e => ?_)
  subst e
  cases j with
  | zero => exact hb rfl
  | succ j => exact hn (hT.nsm ha j)
theorem cx_I_sup {B : Type} [Zero B] [Add B] [Mul (cx_S B)] [One (cx_S B)] [Add (cx_S B)] [Zero (cx_S B)] [Inhabited (cx_Idx B)] {M : Type} [Add M] [Inhabited (PLift (cx_MGl M))] [Inhabited (cx_Tord B M)] (T : B → Prop) : cx_Sup T (cx_I : M → cx_S B) := fun _ _ hb _ => cx_one_ne hb
theorem cx_Sup.comp {B : Type} [Zero B] [Add B] [Mul (cx_S B)] [One (cx_S B)] [Add (cx_S B)] [Zero (cx_S B)] [Inhabited (cx_Idx B)] {M : Type} [Add M] [Inhabited (PLift (cx_MGl M))] [Inhabited (cx_Tord B M)] {T : B → Prop} (hT : cx_Clo T) {g h : M → cx_S B} (hg : cx_Sup T g) (hh : cx_Sup T h) : cx_Sup T (cx_comp g h) := by
  classical
  intro m b hb hn
  rw [cx_comp_def]
  refine cx_D_zero (fun u s hus => ?_)
  by_cases hu : u = 0
  · subst hu; rw [cx_zadd] at hus; subst hus; rw [hg _ _ hb hn, Rat.mul_zero]
  · by_cases hs : s = 0
    · subst hs; rw [cx_addZ] at hus; subst hus; rw [hh _ _ hb hn, Rat.zero_mul]
    · by_cases h1 : T u
      · by_cases h2 : T s
        · exact absurd (hus ▸ hT.add _ _ h1 h2) hn
        · rw [hg _ _ hs h2, Rat.mul_zero]
      · rw [hh _ _ hu h1, Rat.zero_mul]
theorem cx_ev_sup {B : Type} [Zero B] [Add B] [Mul (cx_S B)] [One (cx_S B)] [Add (cx_S B)] [Zero (cx_S B)] [Inhabited (cx_Idx B)] {M : Type} [Add M] [Inhabited (PLift (cx_MGl M))] [Inhabited (cx_Tord B M)] {T : B → Prop} (hT : cx_Clo T) {w : List (B × Rat)} (hw : ∀ x ∈ w, T x.1) : cx_Sup T (cx_ev w : M → cx_S B) := by
  induction w with
  | nil => exact cx_I_sup T
  | cons x w ih => exact (cx_E_sup hT (hw x (by simp)) _).comp hT (ih (fun y hy => hw y (by simp [hy])))
def cx_Supd {B : Type} [Zero B] [Add B] [Mul (cx_S B)] [One (cx_S B)] [Add (cx_S B)] [Zero (cx_S B)] [Inhabited (cx_Idx B)] {M : Type} [Add M] [Inhabited (PLift (cx_MGl M))] [Inhabited (cx_Tord B M)] (d : Nat) (T : B → Prop) (g : M → cx_S B) : Prop := ∀ m b, b ≠ 0 → cx_deg b ≤ d → ¬ T b → g m b = 0
theorem cx_Sup.upto {B : Type} [Zero B] [Add B] [Mul (cx_S B)] [One (cx_S B)] [Add (cx_S B)] [Zero (cx_S B)] [Inhabited (cx_Idx B)] {M : Type} [Add M] [Inhabited (PLift (cx_MGl M))] [Inhabited (cx_Tord B M)] {T : B → Prop} {g : M → cx_S B} (h : cx_Sup T g) (d : Nat) : cx_Supd d T g := fun m b hb _ hn => h m b hb hn
theorem cx_Supd.eqd {B : Type} [Zero B] [Add B] [Mul (cx_S B)] [One (cx_S B)] [Add (cx_S B)] [Zero (cx_S B)] [Inhabited (cx_Idx B)] {M : Type} [Add M] [Inhabited (PLift (cx_MGl M))] [Inhabited (cx_Tord B M)] {d : Nat} {T : B → Prop} {g h : M → cx_S B} (hg : cx_Supd d T g) (e : cx_Eqd d g h) : cx_Supd d T h :=
  fun m b hb hd hn => by rw [← e m b hd]; exact hg m b hb hd hn
theorem cx_Supd.weak {B : Type} [Zero B] [Add B] [Mul (cx_S B)] [One (cx_S B)] [Add (cx_S B)] [Zero (cx_S B)] [Inhabited (cx_Idx B)] {M : Type} [Add M] [Inhabited (PLift (cx_MGl M))] [Inhabited (cx_Tord B M)] {d : Nat} {T T' : B → Prop} (hT : ∀ b, T b → T' b) {g : M → cx_S B} (hg : cx_Supd d T g) : cx_Supd d T' g :=
  fun m b hb hd hn => hg m b hb hd (fun h => hn (hT b h))
theorem cx_Supd.comp {B : Type} [Zero B] [Add B] [Mul (cx_S B)] [One (cx_S B)] [Add (cx_S B)] [Zero (cx_S B)] [Inhabited (cx_Idx B)] {M : Type} [Add M] [Inhabited (PLift (cx_MGl M))] [Inhabited (cx_Tord B M)] {d : Nat} {T : B → Prop} (hT : cx_Clo T) {g h : M → cx_S B} (hg : cx_Supd d T g) (hh : cx_Supd d T h) : cx_Supd d T (cx_comp g h) := by
  classical
  intro m b hb hd hn
  rw [cx_comp_def]
  refine cx_D_zero (fun u s hus => ?_)
  have hdeg := cx_deg_add u s
  rw [hus] at hdeg
  by_cases hu : u = 0
  · subst hu; rw [cx_zadd] at hus; subst hus; rw [hg _ _ hb hd hn, Rat.mul_zero]
  · by_cases hs : s = 0
    · subst hs; rw [cx_addZ] at hus; subst hus; rw [hh _ _ hb hd hn, Rat.zero_mul]
    · by_cases h1 : T u
      · by_cases h2 : T s
        · exact absurd (hus ▸ hT.add _ _ h1 h2) hn
        · rw [hg _ _ hs (by omega) h2, Rat.mul_zero]
      · rw [hh _ _ hu (by omega) h1, Rat.zero_mul]
theorem cx_Supd.none {B : Type} [Zero B] [Add B] [Mul (cx_S B)] [One (cx_S B)] [Add (cx_S B)] [Zero (cx_S B)] [Inhabited (cx_Idx B)] {M : Type} [Add M] [Inhabited (PLift (cx_MGl M))] [Inhabited (cx_Tord B M)] {d : Nat} {T T' : B → Prop} (hT : ∀ b, T b → T' b → False) {g : M → cx_S B} (hg : cx_Supd d T g) (hg' : cx_Supd d T' g) (h1 : ∀ m, g m 0 = 1) : cx_Eqd d g cx_I := by
  classical
  intro m b hd
  show _ = (1 : cx_S B) b
  by_cases hb : b = 0
  · rw [hb, h1, cx_one_zero]
  · rw [cx_one_ne hb]
    by_cases h : T b
    · exact hg' m b hb hd (fun h' => hT b h h')
    · exact hg m b hb hd h
def cx_IsI (x : Rat) : Prop := ∃ z : Int, x = z
theorem cx_IsI.add {x y : Rat} (hx : cx_IsI x) (hy : cx_IsI y) : cx_IsI (x + y) := by
  obtain ⟨a, rfl⟩ := hx; obtain ⟨b, rfl⟩ := hy; exact ⟨a + b, by exact_mod_cast rfl⟩
theorem cx_IsI.sub {x y : Rat} (hx : cx_IsI x) (hy : cx_IsI y) : cx_IsI (x - y) := by
  obtain ⟨a, rfl⟩ := hx; obtain ⟨b, rfl⟩ := hy; exact ⟨a - b, by exact_mod_cast rfl⟩
theorem cx_IsI.mul {x y : Rat} (hx : cx_IsI x) (hy : cx_IsI y) : cx_IsI (x * y) := by
  obtain ⟨a, rfl⟩ := hx; obtain ⟨b, rfl⟩ := hy; exact ⟨a * b, by exact_mod_cast rfl⟩
theorem cx_IsI.zero : cx_IsI 0 := ⟨0, rfl⟩
theorem cx_IsI.one : cx_IsI 1 := ⟨1, rfl⟩
theorem cx_IsI.sm {α : Type} {l : List α} {f : α → Rat} (h : ∀ a ∈ l, cx_IsI (f a)) : cx_IsI (cx_sm l f) := by
  induction l with
  | nil => exact cx_IsI.zero
  | cons a l ih => exact (h a (by simp)).add (ih (fun b hb => h b (by simp [hb])))
theorem cx_bin_pascal (x : Rat) (k : Nat) : cx_bin (x + 1) (k + 1) = cx_bin x k + cx_bin x (k + 1) := by
  induction k with
  | zero => show cx_bin (x + 1) 1 = cx_bin x 0 + cx_bin x 1; rw [cx_bin_one, cx_bin_one]; show x + 1 = 1 + x; grind
  | succ k ih =>
    have h1 := cx_bin_succ (x + 1) (k + 1)
    have h2 := cx_bin_succ x (k + 1)
    have h3 := cx_bin_succ x k
    rw [ih] at h1
    have hk : ((k + 1 : Nat) : Rat) = (k : Rat) + 1 := by exact_mod_cast rfl
    rw [hk] at h1 h2
    have h0 : (0 : Rat) ≤ (k : Rat) := by exact_mod_cast Nat.zero_le k
    have hne : ((k : Rat) + 1 + 1) ≠ 0 := by grind
    have : ((k : Rat) + 1 + 1) * (cx_bin (x + 1) (k + 1 + 1) - (cx_bin x (k + 1) + cx_bin x (k + 1 + 1))) = 0 := by grind
    rcases Rat.mul_eq_zero.1 this with h | h
    · exact absurd h hne
    · grind
theorem cx_bin_nat (n k : Nat) : cx_IsI (cx_bin (n : Rat) k) := by
  induction n generalizing k with
  | zero =>
    cases k with
    | zero => exact cx_IsI.one
    | succ k =>
      have hz : ∀ k, cx_bin 0 (k + 1) = 0 := by
        intro k
        induction k with
        | zero => exact cx_bin_one 0
        | succ k ih =>
          have := cx_bin_succ 0 (k + 1)
          rw [ih, Rat.zero_mul] at this
          rcases Rat.mul_eq_zero.1 this with h | h
          · exact h
          · have : (0 : Rat) ≤ ((k + 1 : Nat) : Rat) := by exact_mod_cast Nat.zero_le _
            grind
      rw [show ((0 : Nat) : Rat) = 0 from rfl, hz]; exact cx_IsI.zero
  | succ n ih =>
    have hn : ((n + 1 : Nat) : Rat) = (n : Rat) + 1 := by exact_mod_cast rfl
    rw [hn]
    cases k with
    | zero => exact cx_IsI.one
    | succ k => rw [cx_bin_pascal]; exact (ih k).add (ih (k + 1))
theorem cx_bin_neg (n k : Nat) : cx_IsI (cx_bin (-(n : Rat)) k) := by
  induction n generalizing k with
  | zero => rw [show -((0 : Nat) : Rat) = ((0 : Nat) : Rat) from rfl]; exact cx_bin_nat 0 k
  | succ n ih =>
    have hn : -((n + 1 : Nat) : Rat) + 1 = -(n : Rat) := by
      have : ((n + 1 : Nat) : Rat) = (n : Rat) + 1 := by exact_mod_cast rfl
      rw [this]; grind
    induction k with
    | zero => exact cx_IsI.one
    | succ k ihk =>
      have := cx_bin_pascal (-((n + 1 : Nat) : Rat)) k
      rw [hn] at this
      rw [show cx_bin (-((n + 1 : Nat) : Rat)) (k + 1) = cx_bin (-(n : Rat)) (k + 1) - cx_bin (-((n + 1 : Nat) : Rat)) k by grind]
      exact (ih (k + 1)).sub ihk
theorem cx_bin_int {x : Rat} (hx : cx_IsI x) (k : Nat) : cx_IsI (cx_bin x k) := by
  obtain ⟨z, rfl⟩ := hx
  cases z with
  | ofNat n => exact cx_bin_nat n k
  | negSucc n =>
    have : ((Int.negSucc n : Int) : Rat) = -((n + 1 : Nat) : Rat) := by
      rw [Int.negSucc_eq]; exact_mod_cast rfl
    rw [this]; exact cx_bin_neg (n + 1) k
def cx_Whole {B : Type} [Zero B] [Add B] [Mul (cx_S B)] [One (cx_S B)] [Add (cx_S B)] [Zero (cx_S B)] [Inhabited (cx_Idx B)] {M : Type} [Add M] [Inhabited (PLift (cx_MGl M))] [Inhabited (cx_Tord B M)] (d : Nat) (Z : M → Prop) (g : M → cx_S B) : Prop := ∀ m, Z m → ∀ b, cx_deg b ≤ d → cx_IsI (g m b)
def cx_Wl {B : Type} [Zero B] [Add B] [Mul (cx_S B)] [One (cx_S B)] [Add (cx_S B)] [Zero (cx_S B)] [Inhabited (cx_Idx B)] {M : Type} [Add M] [Inhabited (PLift (cx_MGl M))] [Inhabited (cx_Tord B M)] (Z : M → Prop) (x : B × Rat) : Prop := ∀ m, Z m → cx_IsI (x.2 * cx_pr x.1 m)
theorem cx_E_whole {B : Type} [Zero B] [Add B] [Mul (cx_S B)] [One (cx_S B)] [Add (cx_S B)] [Zero (cx_S B)] [Inhabited (cx_Idx B)] {M : Type} [Add M] [Inhabited (PLift (cx_MGl M))] [Inhabited (cx_Tord B M)] {Z : M → Prop} {x : B × Rat} (hx : cx_Wl Z x) (d : Nat) : cx_Whole d Z (cx_E x.1 x.2 : M → cx_S B) := by
  intro m hm b _
  show cx_IsI (cx_sub x.1 _ b)
  unfold cx_sub
  split
  · exact cx_bin_int (hx m hm) _
  · exact cx_IsI.zero
theorem cx_Whole.comp {B : Type} [Zero B] [Add B] [Mul (cx_S B)] [One (cx_S B)] [Add (cx_S B)] [Zero (cx_S B)] [Inhabited (cx_Idx B)] {M : Type} [Add M] [Inhabited (PLift (cx_MGl M))] [Inhabited (cx_Tord B M)] {d : Nat} {T : B → Prop} {Z : M → Prop} (hZ : ∀ m u, Z m → T u → Z (m + cx_p u)) {g h : M → cx_S B}
    (hg : cx_Whole d Z g) (hh : cx_Whole d Z h) (hs : cx_Supd d T h) : cx_Whole d Z (cx_comp g h) := by
  classical
  intro m hm b hb
  rw [cx_comp_def]
  refine cx_IsI.sm (fun q hq => ?_)
  have hus := (cx_mem_dec _ _ _).1 hq
  have hdeg := cx_deg_add q.1 q.2
  rw [hus] at hdeg
  show cx_IsI (h m q.1 * g (m + cx_p q.1) q.2)
  by_cases h0 : q.1 = 0
  · rw [h0, cx_p_zero]; exact (hh m hm 0 (by rw [cx_deg_zero]; omega)).mul (hg m hm _ (by omega))
  · by_cases hT : T q.1
    · exact (hh m hm _ (by omega)).mul (hg _ (hZ m _ hm hT) _ (by omega))
    · rw [hs m _ h0 (by omega) hT, Rat.zero_mul]; exact cx_IsI.zero
theorem cx_ev_whole {B : Type} [Zero B] [Add B] [Mul (cx_S B)] [One (cx_S B)] [Add (cx_S B)] [Zero (cx_S B)] [Inhabited (cx_Idx B)] {M : Type} [Add M] [Inhabited (PLift (cx_MGl M))] [Inhabited (cx_Tord B M)] {d : Nat} {T : B → Prop} (hT : cx_Clo T) {Z : M → Prop} (hZ : ∀ m u, Z m → T u → Z (m + cx_p u)) {w : List (B × Rat)}
    (hw : ∀ x ∈ w, T x.1 ∧ cx_Wl Z x) : cx_Whole d Z (cx_ev w : M → cx_S B) := by
  classical
  induction w with
  | nil =>
    intro m _ b _
    show cx_IsI ((1 : cx_S B) b)
    by_cases hb : b = 0
    · rw [hb, cx_one_zero]; exact cx_IsI.one
    · rw [cx_one_ne hb]; exact cx_IsI.zero
  | cons x w ih =>
    refine cx_Whole.comp hZ (cx_E_whole (hw x (by simp)).2 d) (ih (fun y hy => hw y (by simp [hy]))) ((cx_ev_sup hT (fun y hy => (hw y (by simp [hy])).1)).upto d)
abbrev cx_Fun {B : Type} [Zero B] [Add B] [Mul (cx_S B)] [One (cx_S B)] [Add (cx_S B)] [Zero (cx_S B)] [Inhabited (cx_Idx B)] (t : B → Rat) : Prop := Nonempty (∀ a b, t (a + b) = t a + t b)
theorem cx_Fun.add {B : Type} [Zero B] [Add B] [Mul (cx_S B)] [One (cx_S B)] [Add (cx_S B)] [Zero (cx_S B)] [Inhabited (cx_Idx B)] {t : B → Rat} (hh_ : cx_Fun t) : ∀ a b, t (a + b) = t a + t b := hh_.elim id
theorem cx_Fun.zero {B : Type} [Zero B] [Add B] [Mul (cx_S B)] [One (cx_S B)] [Add (cx_S B)] [Zero (cx_S B)] [Inhabited (cx_Idx B)] {t : B → Rat} (ht : cx_Fun t) : t 0 = 0 := by have := ht.add 0 0; rw [cx_addZ] at this; grind
theorem cx_Ld.mid {B : Type} [Zero B] [Add B] [Mul (cx_S B)] [One (cx_S B)] [Add (cx_S B)] [Zero (cx_S B)] [Inhabited (cx_Idx B)] {M : Type} [Add M] [Inhabited (PLift (cx_MGl M))] [Inhabited (cx_Tord B M)] {k : Nat} (hk : 0 < k) {e : M → cx_S B} {d : B → Rat} (he : cx_Ld k e d) {g h : M → cx_S B} (hg : cx_Good g) (hh : cx_Good h) (m : M) (b : B) (hb : cx_deg b ≤ k) :
    cx_comp g (cx_comp e h) m b = cx_comp g h m b + (if cx_deg b = k then d b * cx_pr b m else 0) := by
  rw [cx_comp_def]
  have e1 : cx_D b (fun u s => cx_comp e h m u * g (m + cx_p u) s) = cx_D b (fun u s => h m u * g (m + cx_p u) s + (if cx_deg u = k then d u * cx_pr u m else 0) * g (m + cx_p u) s) := by
    refine cx_D_congr (fun u s hus => ?_)
    have := cx_deg_add u s
    rw [hus] at this
    rw [he.left hk hh m u (by omega)]; grind
  rw [e1, cx_D_add, ← cx_comp_def, cx_D_right b (fun u s => (if cx_deg u = k then d u * cx_pr u m else 0) * g (m + cx_p u) s)]
  · rw [hg.unit, Rat.mul_one]
  · intro u s hus hs
    have := cx_deg_add u s
    rw [hus] at this
    have : cx_deg s ≠ 0 := fun e => hs (cx_deg_pos s e)
    rw [if_neg (by omega), Rat.zero_mul]
abbrev cx_Lt {B : Type} [Zero B] [Add B] [Mul (cx_S B)] [One (cx_S B)] [Add (cx_S B)] [Zero (cx_S B)] [Inhabited (cx_Idx B)] (T : B → Prop) (d : Nat) (w : List (B × Rat)) : Prop := Nonempty (∀ x ∈ w, x.1 ≠ 0 ∧ T x.1 ∧ cx_deg x.1 ≤ d)
theorem cx_Lt.all {B : Type} [Zero B] [Add B] [Mul (cx_S B)] [One (cx_S B)] [Add (cx_S B)] [Zero (cx_S B)] [Inhabited (cx_Idx B)] {T : B → Prop} {d : Nat} {w : List (B × Rat)} (hh_ : cx_Lt T d w) : ∀ x ∈ w, x.1 ≠ 0 ∧ T x.1 ∧ cx_deg x.1 ≤ d := hh_.elim id
theorem cx_Lt.nz {B : Type} [Zero B] [Add B] [Mul (cx_S B)] [One (cx_S B)] [Add (cx_S B)] [Zero (cx_S B)] [Inhabited (cx_Idx B)] {T : B → Prop} {d : Nat} {w : List (B × Rat)} (h : cx_Lt T d w) : cx_NZ w := fun x hx => (h.all x hx).1
theorem cx_Lt.sup {B : Type} [Zero B] [Add B] [Mul (cx_S B)] [One (cx_S B)] [Add (cx_S B)] [Zero (cx_S B)] [Inhabited (cx_Idx B)] {M : Type} [Add M] [Inhabited (PLift (cx_MGl M))] [Inhabited (cx_Tord B M)] {T T' : B → Prop} (hT : cx_Clo T') (hTT : ∀ b, T b → T' b) {d : Nat} {w : List (B × Rat)} (h : cx_Lt T d w) : cx_Sup T' (cx_ev w : M → cx_S B) :=
  cx_ev_sup hT (fun x hx => hTT _ (h.all x hx).2.1)
theorem cx_Lt.mono {B : Type} [Zero B] [Add B] [Mul (cx_S B)] [One (cx_S B)] [Add (cx_S B)] [Zero (cx_S B)] [Inhabited (cx_Idx B)] {T T' : B → Prop} (hT : ∀ b, T b → T' b) {d d' : Nat} (hd : d ≤ d') {w : List (B × Rat)} (h : cx_Lt T d w) : cx_Lt T' d' w :=
  ⟨fun x hx => ⟨(h.all x hx).1, hT _ (h.all x hx).2.1, Nat.le_trans (h.all x hx).2.2 hd⟩⟩
theorem cx_Lt.append {B : Type} [Zero B] [Add B] [Mul (cx_S B)] [One (cx_S B)] [Add (cx_S B)] [Zero (cx_S B)] [Inhabited (cx_Idx B)] {T : B → Prop} {d : Nat} {w v : List (B × Rat)} (hw : cx_Lt T d w) (hv : cx_Lt T d v) : cx_Lt T d (w ++ v) :=
  ⟨fun x hx => (List.mem_append.1 hx).elim (hw.all x) (hv.all x)⟩
theorem cx_Lt.inv {B : Type} [Zero B] [Add B] [Mul (cx_S B)] [One (cx_S B)] [Add (cx_S B)] [Zero (cx_S B)] [Inhabited (cx_Idx B)] {T : B → Prop} {d : Nat} {w : List (B × Rat)} (hw : cx_Lt T d w) : cx_Lt T d (cx_inv w) := by
  constructor
  intro x hx
  simp only [cx_inv, List.mem_reverse, List.mem_map] at hx
  obtain ⟨y, hy, rfl⟩ := hx
  exact hw.all y hy
abbrev cx_Fac {B : Type} [Zero B] [Add B] [Mul (cx_S B)] [One (cx_S B)] [Add (cx_S B)] [Zero (cx_S B)] [Inhabited (cx_Idx B)] {M : Type} [Add M] [Inhabited (PLift (cx_MGl M))] [Inhabited (cx_Tord B M)] (t : B → Rat) (T : B → Prop) (d : Nat) (g : M → cx_S B) (wp w0 wm : List (B × Rat)) : Prop := (cx_Lt (fun b => T b ∧ 0 < t b) d wp) ∧ (cx_Lt (fun b => T b ∧ t b = 0) d w0) ∧ (cx_Lt (fun b => T b ∧ t b < 0) d wm) ∧ (cx_Eqd d g (cx_comp (cx_ev wp) (cx_comp (cx_ev w0) (cx_ev wm))))
theorem cx_Fac.pos {B : Type} [Zero B] [Add B] [Mul (cx_S B)] [One (cx_S B)] [Add (cx_S B)] [Zero (cx_S B)] [Inhabited (cx_Idx B)] {M : Type} [Add M] [Inhabited (PLift (cx_MGl M))] [Inhabited (cx_Tord B M)] {t : B → Rat} {T : B → Prop} {d : Nat} {g : M → cx_S B} {wp w0 wm : List (B × Rat)} (hh_ : cx_Fac t T d g wp w0 wm) : cx_Lt (fun b => T b ∧ 0 < t b) d wp := hh_.1
theorem cx_Fac.nul {B : Type} [Zero B] [Add B] [Mul (cx_S B)] [One (cx_S B)] [Add (cx_S B)] [Zero (cx_S B)] [Inhabited (cx_Idx B)] {M : Type} [Add M] [Inhabited (PLift (cx_MGl M))] [Inhabited (cx_Tord B M)] {t : B → Rat} {T : B → Prop} {d : Nat} {g : M → cx_S B} {wp w0 wm : List (B × Rat)} (hh_ : cx_Fac t T d g wp w0 wm) : cx_Lt (fun b => T b ∧ t b = 0) d w0 := hh_.2.1
theorem cx_Fac.neg {B : Type} [Zero B] [Add B] [Mul (cx_S B)] [One (cx_S B)] [Add (cx_S B)] [Zero (cx_S B)] [Inhabited (cx_Idx B)] {M : Type} [Add M] [Inhabited (PLift (cx_MGl M))] [Inhabited (cx_Tord B M)] {t : B → Rat} {T : B → Prop} {d : Nat} {g : M → cx_S B} {wp w0 wm : List (B × Rat)} (hh_ : cx_Fac t T d g wp w0 wm) : cx_Lt (fun b => T b ∧ t b < 0) d wm := hh_.2.2.1
theorem cx_Fac.eq {B : Type} [Zero B] [Add B] [Mul (cx_S B)] [One (cx_S B)] [Add (cx_S B)] [Zero (cx_S B)] [Inhabited (cx_Idx B)] {M : Type} [Add M] [Inhabited (PLift (cx_MGl M))] [Inhabited (cx_Tord B M)] {t : B → Rat} {T : B → Prop} {d : Nat} {g : M → cx_S B} {wp w0 wm : List (B × Rat)} (hh_ : cx_Fac t T d g wp w0 wm) : cx_Eqd d g (cx_comp (cx_ev wp) (cx_comp (cx_ev w0) (cx_ev wm))) := hh_.2.2.2
theorem cx_Fac.good {B : Type} [Zero B] [Add B] [Mul (cx_S B)] [One (cx_S B)] [Add (cx_S B)] [Zero (cx_S B)] [Inhabited (cx_Idx B)] {M : Type} [Add M] [Inhabited (PLift (cx_MGl M))] [Inhabited (cx_Tord B M)] {t : B → Rat} {T : B → Prop} {d : Nat} {g : M → cx_S B} {wp w0 wm : List (B × Rat)} (f : cx_Fac t T d g wp w0 wm) :
    cx_Good (cx_comp (cx_ev wp) (cx_comp (cx_ev w0) (cx_ev wm)) : M → cx_S B) :=
  (cx_ev_good f.pos.nz).comp ((cx_ev_good f.nul.nz).comp (cx_ev_good f.neg.nz))
theorem cx_Fac.step {B : Type} [Zero B] [Add B] [Mul (cx_S B)] [One (cx_S B)] [Add (cx_S B)] [Zero (cx_S B)] [Inhabited (cx_Idx B)] {M : Type} [Add M] [Inhabited (PLift (cx_MGl M))] [Inhabited (cx_Tord B M)] {t : B → Rat} {T : B → Prop} (hT : cx_Clo T) {Z : M → Prop} (hZ : ∀ m u, Z m → T u → Z (m + cx_p u)) {g : M → cx_S B} (hg : cx_Good g) (hs : cx_Sup T g)
    {d : Nat} {wp w0 wm : List (B × Rat)} (f : cx_Fac t T d g wp w0 wm) (hW : ∀ d, cx_Whole d Z g) (hl : ∀ x ∈ wp ++ w0 ++ wm, cx_Wl Z x) (l : List B) (hl' : ∀ a ∈ l, cx_deg a = d + 1) :
    ∃ vp v0 vm : List (B × Rat), cx_Lt (fun b => T b ∧ 0 < t b) (d + 1) vp ∧ cx_Lt (fun b => T b ∧ t b = 0) (d + 1) v0 ∧ cx_Lt (fun b => T b ∧ t b < 0) (d + 1) vm ∧
      cx_Eqd d g (cx_comp (cx_ev vp) (cx_comp (cx_ev v0) (cx_ev vm))) ∧ (∀ a ∈ l, ∀ m, g m a = cx_comp (cx_ev vp) (cx_comp (cx_ev v0) (cx_ev vm)) m a) ∧ (∀ x ∈ vp ++ v0 ++ vm, cx_Wl Z x) := by
  classical
  induction l with
  | nil => exact ⟨wp, w0, wm, f.pos.mono (fun _ h => h) (by omega), f.nul.mono (fun _ h => h) (by omega), f.neg.mono (fun _ h => h) (by omega), f.eq, fun a ha => by simp at ha, hl⟩
  | cons a l ih =>
    obtain ⟨vp, v0, vm, hp, h0, hm, he, hal, hwl⟩ := ih (fun b hb => hl' b (by simp [hb]))
    have hda : cx_deg a = d + 1 := hl' a (by simp)
    have ha : a ≠ 0 := fun e => by rw [e, cx_deg_zero] at hda; omega
    have gp := cx_ev_good (M := M) hp.nz
    have g0 := cx_ev_good (M := M) h0.nz
    have gm := cx_ev_good (M := M) hm.nz
    have hG : cx_Good (cx_comp (cx_ev vp) (cx_comp (cx_ev v0) (cx_ev vm)) : M → cx_S B) := gp.comp (g0.comp gm)
    obtain ⟨c, hc⟩ := hg.lead hG a ha (fun m b hb => he m b (by omega))
    have sp : cx_Sup T (cx_ev vp : M → cx_S B) := hp.sup hT (fun _ h => h.1)
    have s0 : cx_Sup T (cx_ev v0 : M → cx_S B) := h0.sup hT (fun _ h => h.1)
    have sm' : cx_Sup T (cx_ev vm : M → cx_S B) := hm.sup hT (fun _ h => h.1)
    by_cases hTa : T a
    · have hwhole : cx_Whole (d + 1) Z (cx_comp (cx_ev vp) (cx_comp (cx_ev v0) (cx_ev vm)) : M → cx_S B) := by
        refine cx_Whole.comp hZ (cx_ev_whole hT hZ fun x hx => ⟨(hp.all x hx).2.1.1, hwl x (by simp [hx])⟩) (cx_Whole.comp hZ (cx_ev_whole hT hZ fun x hx => ⟨(h0.all x hx).2.1.1, hwl x (by simp [hx])⟩) (cx_ev_whole hT hZ fun x hx => ⟨(hm.all x hx).2.1.1, hwl x (by simp [hx])⟩) (sm'.upto _)) ((s0.comp hT sm').upto _)
      have hwc : cx_Wl Z (a, c) := by
        intro m hm'
        have h1 := hW (d + 1) m hm' a (by omega)
        have h2 := hwhole m hm' a (by omega)
        have : c * cx_pr a m = g m a - cx_comp (cx_ev vp) (cx_comp (cx_ev v0) (cx_ev vm)) m a := by rw [hc m]; grind
        show cx_IsI (c * cx_pr a m)
        rw [this]; exact h1.sub h2
      have hE := cx_E_ld (M := M) ha c
      have fin : ∀ (X : M → cx_S B), (∀ m b, cx_deg b ≤ cx_deg a → X m b = cx_comp (cx_ev vp) (cx_comp (cx_ev v0) (cx_ev vm)) m b + (if cx_deg b = cx_deg a then (if b = a then c else 0) * cx_pr b m else 0)) →
          cx_Eqd d g X ∧ ∀ a' ∈ a :: l, ∀ m, g m a' = X m a' := by
        intro X hX
        refine ⟨fun m b hb => by rw [hX m b (by omega), if_neg (by omega), Rat.add_zero, he m b hb], ?_⟩
        intro a' ha' m
        have hda' : cx_deg a' = d + 1 := hl' a' ha'
        rw [hX m a' (by omega), if_pos (by omega)]
        by_cases e : a' = a
        · rw [if_pos e, e]; exact hc m
        · rw [if_neg e, Rat.zero_mul, Rat.add_zero]
          rcases List.mem_cons.1 ha' with h | h
          · exact absurd h e
          · exact hal a' h m
      have cx_one : ∀ (Q : B → Prop), Q a → cx_Lt Q (d + 1) [(a, c)] := fun Q hq => ⟨fun x hx => by rw [List.mem_singleton] at hx; subst hx; exact ⟨ha, hq, by show cx_deg a ≤ _; omega⟩⟩
      by_cases htp : 0 < t a
      · obtain ⟨x1, x2⟩ := fin (cx_comp (cx_ev (vp ++ [(a, c)])) (cx_comp (cx_ev v0) (cx_ev vm))) (fun m b hb => by
          rw [cx_ev_append, cx_ev_one, cx_comp_assoc]
          exact hE.mid (by omega) gp (g0.comp gm) m b hb)
        refine ⟨vp ++ [(a, c)], v0, vm, hp.append (cx_one _ ⟨hTa, htp⟩), h0, hm, x1, x2, ?_⟩
        intro x hx
        simp only [List.mem_append, List.mem_singleton] at hx
        rcases hx with ((h | h) | h) | h
        · exact hwl x (by simp [h])
        · subst h; exact hwc
        · exact hwl x (by simp [h])
        · exact hwl x (by simp [h])
      · by_cases ht0 : t a = 0
        · obtain ⟨x1, x2⟩ := fin (cx_comp (cx_ev vp) (cx_comp (cx_ev (v0 ++ [(a, c)])) (cx_ev vm))) (fun m b hb => by
            rw [cx_ev_append, cx_ev_one, cx_comp_assoc, ← cx_comp_assoc (cx_ev vp) (cx_ev v0), ← cx_comp_assoc (cx_ev vp) (cx_ev v0)]
            exact hE.mid (by omega) (gp.comp g0) gm m b hb)
          refine ⟨vp, v0 ++ [(a, c)], vm, hp, h0.append (cx_one _ ⟨hTa, ht0⟩), hm, x1, x2, ?_⟩
          intro x hx
          simp only [List.mem_append, List.mem_singleton] at hx
          rcases hx with (h | h | h) | h
          · exact hwl x (by simp [h])
          · exact hwl x (by simp [h])
          · subst h; exact hwc
          · exact hwl x (by simp [h])
        · have htm : t a < 0 := by grind
          obtain ⟨x1, x2⟩ := fin (cx_comp (cx_ev vp) (cx_comp (cx_ev v0) (cx_ev (vm ++ [(a, c)])))) (fun m b hb => by
            rw [cx_ev_append, cx_ev_one, ← cx_comp_assoc (cx_ev v0), ← cx_comp_assoc (cx_ev vp)]
            exact hE.right (by omega) hG m b hb)
          refine ⟨vp, v0, vm ++ [(a, c)], hp, h0, hm.append (cx_one _ ⟨hTa, htm⟩), x1, x2, ?_⟩
          intro x hx
          simp only [List.mem_append, List.mem_singleton] at hx
          rcases hx with (h | h) | h | h
          · exact hwl x (by simp [h])
          · exact hwl x (by simp [h])
          · exact hwl x (by simp [h])
          · subst h; exact hwc
    · refine ⟨vp, v0, vm, hp, h0, hm, he, ?_, hwl⟩
      intro a' ha' m
      rcases List.mem_cons.1 ha' with h | h
      · subst h
        rw [hs m a' ha hTa, sp.comp hT (s0.comp hT sm') m a' ha hTa]
      · exact hal a' h m
theorem cx_Fac.exists {B : Type} [Zero B] [Add B] [Mul (cx_S B)] [One (cx_S B)] [Add (cx_S B)] [Zero (cx_S B)] [Inhabited (cx_Idx B)] {M : Type} [Add M] [Inhabited (PLift (cx_MGl M))] [Inhabited (cx_Tord B M)] {t : B → Rat} {T : B → Prop} (hT : cx_Clo T) {Z : M → Prop} (hZ : ∀ m u, Z m → T u → Z (m + cx_p u)) {g : M → cx_S B} (hg : cx_Good g) (hs : cx_Sup T g)
    (hW : ∀ d, cx_Whole d Z g) (d : Nat) : ∃ wp w0 wm : List (B × Rat), cx_Fac t T d g wp w0 wm ∧ ∀ x ∈ wp ++ w0 ++ wm, cx_Wl Z x := by
  induction d with
  | zero =>
    refine ⟨[], [], [], ⟨⟨fun x hx => by simp at hx⟩, ⟨fun x hx => by simp at hx⟩, ⟨fun x hx => by simp at hx⟩, ?_⟩, fun x hx => by simp at hx⟩
    intro m b hb
    have : b = 0 := cx_deg_pos b (by omega)
    rw [this, hg.unit, cx_ev_nil, cx_I_comp, cx_I_comp]
    exact cx_one_zero.symm
  | succ d ih =>
    obtain ⟨wp, w0, wm, f, hl⟩ := ih
    obtain ⟨vp, v0, vm, hp, h0, hm, he, hal, hwl⟩ := f.step hT hZ hg hs hW hl (cx_lev (d + 1)) (fun a ha => (cx_mem_lev _ _).1 ha)
    refine ⟨vp, v0, vm, ⟨hp, h0, hm, ?_⟩, hwl⟩
    intro m b hb
    by_cases hd : cx_deg b = d + 1
    · exact hal b ((cx_mem_lev _ _).2 hd) m
    · exact he m b (by omega)
theorem cx_Fac.unique {B : Type} [Zero B] [Add B] [Mul (cx_S B)] [One (cx_S B)] [Add (cx_S B)] [Zero (cx_S B)] [Inhabited (cx_Idx B)] {M : Type} [Add M] [Inhabited (PLift (cx_MGl M))] [Inhabited (cx_Tord B M)] {t : B → Rat} (ht : cx_Fun t) {T : B → Prop} {d : Nat} {g g' : M → cx_S B} {wp w0 wm wp' w0' wm' : List (B × Rat)}
    (f : cx_Fac t T d g wp w0 wm) (f' : cx_Fac t T d g' wp' w0' wm') (hgg : cx_Eqd d g g') :
    cx_Eqd d (cx_ev wp : M → cx_S B) (cx_ev wp') ∧ cx_Eqd d (cx_ev w0 : M → cx_S B) (cx_ev w0') ∧ cx_Eqd d (cx_ev wm : M → cx_S B) (cx_ev wm') := by
  have cp : cx_Clo (fun b => 0 < t b) := ⟨fun a b h h' => by have e_ := ht.add a b; grind⟩
  have c0 : cx_Clo (fun b => t b = 0) := ⟨fun a b h h' => by have e_ := ht.add a b; grind⟩
  have cx_cm : cx_Clo (fun b => t b < 0) := ⟨fun a b h h' => by have e_ := ht.add a b; grind⟩
  have cge : cx_Clo (fun b => 0 ≤ t b) := ⟨fun a b h h' => by have e_ := ht.add a b; grind⟩
  have cle : cx_Clo (fun b => t b ≤ 0) := ⟨fun a b h h' => by have e_ := ht.add a b; grind⟩
  have e : cx_Eqd d (cx_comp (cx_ev wp) (cx_comp (cx_ev w0) (cx_ev wm)) : M → cx_S B) (cx_comp (cx_ev wp') (cx_comp (cx_ev w0') (cx_ev wm'))) := f.eq.symm.trans (hgg.trans f'.eq)

  have e2 : cx_Eqd d (cx_comp (cx_ev (cx_inv wp' ++ wp)) (cx_ev w0) : M → cx_S B) (cx_comp (cx_ev w0') (cx_ev (wm' ++ cx_inv wm))) := by
    have := cx_Eqd.comp (cx_Eqd.rfl' (g := (cx_ev (cx_inv wp') : M → cx_S B))) (cx_Eqd.comp e (cx_Eqd.rfl' (d := d) (g := (cx_ev (cx_inv wm) : M → cx_S B))))
    have l1 : cx_comp (cx_ev (cx_inv wp')) (cx_comp (cx_comp (cx_ev wp) (cx_comp (cx_ev w0) (cx_ev wm))) (cx_ev (cx_inv wm))) = (cx_comp (cx_ev (cx_inv wp' ++ wp)) (cx_ev w0) : M → cx_S B) := by
      rw [cx_ev_append, cx_comp_assoc, cx_comp_assoc, cx_comp_assoc, cx_ev_inv f.neg.nz, cx_comp_I]
    have l2 : cx_comp (cx_ev (cx_inv wp')) (cx_comp (cx_comp (cx_ev wp') (cx_comp (cx_ev w0') (cx_ev wm'))) (cx_ev (cx_inv wm))) = (cx_comp (cx_ev w0') (cx_ev (wm' ++ cx_inv wm)) : M → cx_S B) := by
      rw [cx_ev_append, cx_comp_assoc, ← cx_comp_assoc (cx_ev (cx_inv wp')), cx_ev_inv' f'.pos.nz, cx_I_comp, cx_comp_assoc]
    rw [l1, l2] at this
    exact this
  have sA : cx_Sup (fun b => 0 < t b) (cx_ev (cx_inv wp' ++ wp) : M → cx_S B) := (f'.pos.inv.append f.pos).sup cp (fun _ h => h.2)
  have sC : cx_Sup (fun b => t b < 0) (cx_ev (wm' ++ cx_inv wm) : M → cx_S B) := (f'.neg.append f.neg.inv).sup cx_cm (fun _ h => h.2)
  have s0 : cx_Sup (fun b => t b = 0) (cx_ev w0 : M → cx_S B) := f.nul.sup c0 (fun _ h => h.2)
  have s0' : cx_Sup (fun b => t b = 0) (cx_ev w0' : M → cx_S B) := f'.nul.sup c0 (fun _ h => h.2)
  have s0i : cx_Sup (fun b => t b = 0) (cx_ev (cx_inv w0) : M → cx_S B) := f.nul.inv.sup c0 (fun _ h => h.2)
  have s0i' : cx_Sup (fun b => t b = 0) (cx_ev (cx_inv w0') : M → cx_S B) := f'.nul.inv.sup c0 (fun _ h => h.2)
  have gA : cx_Good (cx_ev (cx_inv wp' ++ wp) : M → cx_S B) := cx_ev_good (f'.pos.nz.inv.append f.pos.nz)
  have gC : cx_Good (cx_ev (wm' ++ cx_inv wm) : M → cx_S B) := cx_ev_good (f'.neg.nz.append f.neg.nz.inv)
  have hL : cx_Supd d (fun b => t b = 0) (cx_comp (cx_ev (cx_inv wp' ++ wp)) (cx_ev w0) : M → cx_S B) := by
    have h1 : cx_Supd d (fun b => 0 ≤ t b) (cx_comp (cx_ev (cx_inv wp' ++ wp)) (cx_ev w0) : M → cx_S B) :=
      cx_Supd.comp cge ((sA.upto d).weak (fun b h => by grind)) ((s0.upto d).weak (fun b h => by grind))
    have h2 : cx_Supd d (fun b => t b ≤ 0) (cx_comp (cx_ev (cx_inv wp' ++ wp)) (cx_ev w0) : M → cx_S B) :=
      (cx_Supd.comp cle ((s0'.upto d).weak (fun b h => by grind)) ((sC.upto d).weak (fun b h => by grind))).eqd e2.symm
    intro m b hb hd hn
    by_cases h : 0 ≤ t b
    · exact h2 m b hb hd (fun h' => hn (by grind))
    · exact h1 m b hb hd h
  have hA : cx_Eqd d (cx_ev (cx_inv wp' ++ wp) : M → cx_S B) cx_I := by
    have h1 : cx_Supd d (fun b => t b = 0) (cx_ev (cx_inv wp' ++ wp) : M → cx_S B) := by
      have := cx_Supd.comp c0 hL (s0i.upto d)
      rw [cx_comp_assoc, cx_ev_inv f.nul.nz, cx_comp_I] at this
      exact this
    exact cx_Supd.none (fun b h h' => by grind) (sA.upto d) h1 gA.unit
  have hC : cx_Eqd d (cx_ev (wm' ++ cx_inv wm) : M → cx_S B) cx_I := by
    have h1 : cx_Supd d (fun b => t b = 0) (cx_ev (wm' ++ cx_inv wm) : M → cx_S B) := by
      have := cx_Supd.comp c0 (s0i'.upto d) (hL.eqd e2)
      rw [← cx_comp_assoc, cx_ev_inv' f'.nul.nz, cx_I_comp] at this
      exact this
    exact cx_Supd.none (fun b h h' => by grind) (sC.upto d) h1 gC.unit
  refine ⟨?_, ?_, ?_⟩
  · have := cx_Eqd.comp (cx_Eqd.rfl' (d := d) (g := (cx_ev wp' : M → cx_S B))) hA
    rw [cx_ev_append, ← cx_comp_assoc, cx_ev_inv f'.pos.nz, cx_I_comp, cx_comp_I] at this
    exact this
  · have h1 := cx_Eqd.comp hA (cx_Eqd.rfl' (d := d) (g := (cx_ev w0 : M → cx_S B)))
    have h2 := cx_Eqd.comp (cx_Eqd.rfl' (d := d) (g := (cx_ev w0' : M → cx_S B))) hC
    rw [cx_I_comp] at h1
    rw [cx_comp_I] at h2
    exact h1.symm.trans (e2.trans h2)
  · have := cx_Eqd.comp hC (cx_Eqd.rfl' (d := d) (g := (cx_ev wm : M → cx_S B)))
    rw [cx_ev_append, cx_comp_assoc, cx_ev_inv' f.neg.nz, cx_comp_I, cx_I_comp] at this
    exact this.symm
theorem cx_Good.test {B : Type} [Zero B] [Add B] [Mul (cx_S B)] [One (cx_S B)] [Add (cx_S B)] [Zero (cx_S B)] [Inhabited (cx_Idx B)] {M : Type} [Add M] [Inhabited (PLift (cx_MGl M))] [Inhabited (cx_Tord B M)] {T : B → Prop} {g h : M → cx_S B} (hg : cx_Good g) (hh : cx_Good h) (sg : cx_Sup T g) (cx_sh : cx_Sup T h)
    (X : M → Prop) (hX : ∀ a, a ≠ 0 → T a → ∃ m, X m ∧ cx_pr a m ≠ 0) (he : ∀ m, X m → g m = h m) : g = h := by
  classical
  have key : ∀ d m b, cx_deg b ≤ d → g m b = h m b := by
    intro d
    induction d with
    | zero =>
      intro m b hb
      have : b = 0 := cx_deg_pos b (by omega)
      rw [this, hg.unit, hh.unit]
    | succ d ih =>
      intro m b hb
      by_cases hd : cx_deg b ≤ d
      · exact ih m b hd
      · have hb0 : b ≠ 0 := fun e => by rw [e, cx_deg_zero] at hd; omega
        by_cases hT : T b
        · obtain ⟨c, hc⟩ := hg.lead hh b hb0 (fun m b' hb' => ih m b' (by omega))
          obtain ⟨m0, hm0, hp⟩ := hX b hb0 hT
          have e := hc m0
          rw [he m0 hm0] at e
          have : c * cx_pr b m0 = 0 := by grind
          rcases Rat.mul_eq_zero.1 this with h0 | h0
          · rw [hc m, h0, Rat.zero_mul, Rat.add_zero]
          · exact absurd h0 hp
        · rw [sg m b hb0 hT, cx_sh m b hb0 hT]
  funext m
  refine cx_S.ext (fun b => ?_)
  exact key (cx_deg b) m b (Nat.le_refl _)
noncomputable def cx_mon {B : Type} [Zero B] [Add B] [Mul (cx_S B)] [One (cx_S B)] [Add (cx_S B)] [Zero (cx_S B)] [Inhabited (cx_Idx B)] (a : B) : cx_S B := fun b => @ite _ (b = a) (Classical.propDecidable _) 1 0
theorem cx_mon_mul {B : Type} [Zero B] [Add B] [Mul (cx_S B)] [One (cx_S B)] [Add (cx_S B)] [Zero (cx_S B)] [Inhabited (cx_Idx B)] (a c : B) : cx_mon a * cx_mon c = cx_mon (a + c) := by
  classical
  refine cx_S.ext (fun b => ?_)
  rw [cx_mul_D]
  by_cases hb : b = a + c
  · subst hb
    show _ = (if a + c = a + c then (1 : Rat) else 0)
    rw [if_pos rfl]

    have hm : (a, c) ∈ cx_dec (a + c) := (cx_mem_dec _ _ _).2 rfl
    obtain ⟨s, t, e⟩ := List.append_of_mem hm
    have hp : (cx_dec (a + c)).Perm ((a, c) :: (s ++ t)) := by rw [e]; exact List.perm_middle
    have hn2 := hp.nodup_iff.1 (cx_nodup_dec (a + c))
    rw [List.nodup_cons] at hn2
    show cx_sm (cx_dec (a + c)) _ = _
    rw [cx_sm_perm hp, cx_sm_cons, cx_sm_zero]
    · show (if a = a then (1 : Rat) else 0) * (if c = c then (1 : Rat) else 0) + 0 = 1
      rw [if_pos rfl, if_pos rfl]; grind
    · intro ⟨u, v⟩ hv
      show (if u = a then (1 : Rat) else 0) * (if v = c then (1 : Rat) else 0) = 0
      by_cases hu : u = a
      · by_cases hv' : v = c
        · subst hu; subst hv'; exact absurd hv hn2.1
        · rw [if_neg hv', Rat.mul_zero]
      · rw [if_neg hu, Rat.zero_mul]
  · show _ = (if b = a + c then (1 : Rat) else 0)
    rw [if_neg hb]
    refine cx_D_zero (fun u v huv => ?_)
    show (if u = a then (1 : Rat) else 0) * (if v = c then (1 : Rat) else 0) = 0
    by_cases hu : u = a
    · by_cases hv' : v = c
      · subst hu; subst hv'; exact absurd huv.symm hb
      · rw [if_neg hv', Rat.mul_zero]
    · rw [if_neg hu, Rat.zero_mul]
theorem cx_mon_zero {B : Type} [Zero B] [Add B] [Mul (cx_S B)] [One (cx_S B)] [Add (cx_S B)] [Zero (cx_S B)] [Inhabited (cx_Idx B)] : (cx_mon 0 : cx_S B) = 1 := by
  classical
  refine cx_S.ext (fun b => ?_)
  show (if b = 0 then (1 : Rat) else 0) = _
  by_cases hb : b = 0
  · rw [if_pos hb, hb, cx_one_zero]
  · rw [if_neg hb, cx_one_ne hb]
theorem cx_bin_z (k : Nat) : cx_bin 0 (k + 1) = 0 := by
  induction k with
  | zero => exact cx_bin_one 0
  | succ k ih =>
    have := cx_bin_succ 0 (k + 1)
    rw [ih, Rat.zero_mul] at this
    rcases Rat.mul_eq_zero.1 this with h | h
    · exact h
    · have : (0 : Rat) ≤ ((k + 1 : Nat) : Rat) := by exact_mod_cast Nat.zero_le _
      grind
theorem cx_sub_mul {B : Type} [Zero B] [Add B] [Mul (cx_S B)] [One (cx_S B)] [Add (cx_S B)] [Zero (cx_S B)] [Inhabited (cx_Idx B)] {a : B} (ha : a ≠ 0) (x y : Rat) : cx_sub a (cx_bin x) * cx_sub a (cx_bin y) = cx_sub a (cx_bin (x + y)) := by
  classical
  refine cx_S.ext (fun b => ?_)
  rw [cx_mul_D]
  by_cases hb : ∃ j, cx_nsm j a = b
  · obtain ⟨j, rfl⟩ := hb
    rw [cx_sub_at ha, cx_D_mult ha j _ (fun u v hu => by rw [cx_sub_off _ hu, Rat.zero_mul]), ← cx_vand]
    exact cx_rs_congr (fun i l _ => by rw [cx_sub_at ha, cx_sub_at ha])
  · have hb' : ∀ j, cx_nsm j a ≠ b := fun j e => hb ⟨j, e⟩
    rw [cx_sub_off _ hb']
    have := cx_sub_sum_off (cx_bin x) (cx_bin y) (fun _ _ => 1) hb'
    rw [← this]
    exact cx_D_congr (fun u v _ => by rw [Rat.one_mul])
theorem cx_sub_zero {B : Type} [Zero B] [Add B] [Mul (cx_S B)] [One (cx_S B)] [Add (cx_S B)] [Zero (cx_S B)] [Inhabited (cx_Idx B)] {a : B} (ha : a ≠ 0) : cx_sub a (cx_bin 0) = 1 := by
  classical
  refine cx_S.ext (fun b => ?_)
  by_cases hb : ∃ j, cx_nsm j a = b
  · obtain ⟨j, rfl⟩ := hb
    rw [cx_sub_at ha]
    cases j with
    | zero => show (1 : Rat) = (1 : cx_S B) 0; rw [cx_one_zero]
    | succ j =>
      rw [cx_bin_z, cx_one_ne]
      intro e
      have := congrArg cx_deg e
      rw [cx_nsm_deg, cx_deg_zero, Nat.succ_mul] at this
      exact ha (cx_deg_pos a (by omega))
  · rw [cx_sub_off _ (fun j e => hb ⟨j, e⟩), cx_one_ne]
    intro e
    exact hb ⟨0, e.symm⟩
theorem cx_sub_one {B : Type} [Zero B] [Add B] [Mul (cx_S B)] [One (cx_S B)] [Add (cx_S B)] [Zero (cx_S B)] [Inhabited (cx_Idx B)] {a : B} (ha : a ≠ 0) : cx_sub a (cx_bin 1) = 1 + cx_mon a := by
  classical
  refine cx_S.ext (fun b => ?_)
  rw [cx_add_def]
  show _ = (1 : cx_S B) b + (if b = a then (1 : Rat) else 0)
  by_cases hb : ∃ j, cx_nsm j a = b
  · obtain ⟨j, rfl⟩ := hb
    rw [cx_sub_at ha]
    match j with
    | 0 =>
      show (1 : Rat) = (1 : cx_S B) 0 + (if (0 : B) = a then (1 : Rat) else 0)
      rw [cx_one_zero, if_neg (fun e => ha e.symm), Rat.add_zero]
    | 1 => rw [cx_bin_one, cx_nsm_one, if_pos rfl, cx_one_ne ha, Rat.zero_add]
    | j + 2 =>
      have hz : cx_bin 1 (j + 2) = 0 := by
        have := cx_bin_pascal 0 (j + 1)
        rw [cx_bin_z, cx_bin_z, show (0 : Rat) + 1 = 1 by grind] at this
        rw [this]; grind
      have hd : cx_deg (cx_nsm (j + 2) a) = (j + 2) * cx_deg a := cx_nsm_deg _ _
      have h0 : cx_deg a ≠ 0 := fun e => ha (cx_deg_pos a e)
      have hm : (j + 2) * cx_deg a = j * cx_deg a + 2 * cx_deg a := Nat.add_mul _ _ _
      rw [hz, cx_one_ne, if_neg]
      · grind
      · intro e; rw [e] at hd; omega
      · intro e; rw [e, cx_deg_zero] at hd; omega
  · rw [cx_sub_off _ (fun j e => hb ⟨j, e⟩), cx_one_ne, if_neg]
    · grind
    · intro e; exact hb ⟨1, by rw [cx_nsm_one]; exact e.symm⟩
    · intro e; exact hb ⟨0, e.symm⟩
def cx_lin {B : Type} [Zero B] [Add B] [Mul (cx_S B)] [One (cx_S B)] [Add (cx_S B)] [Zero (cx_S B)] [Inhabited (cx_Idx B)] {M : Type} [Add M] [Inhabited (PLift (cx_MGl M))] [Inhabited (cx_Tord B M)] (g : M → cx_S B) (m : M) (f : cx_S B) : cx_S B := fun b => cx_D b (fun u s => f u * g (m + cx_p u) s)
theorem cx_lin_add {B : Type} [Zero B] [Add B] [Mul (cx_S B)] [One (cx_S B)] [Add (cx_S B)] [Zero (cx_S B)] [Inhabited (cx_Idx B)] {M : Type} [Add M] [Inhabited (PLift (cx_MGl M))] [Inhabited (cx_Tord B M)] (g : M → cx_S B) (m : M) (f f' : cx_S B) : cx_lin g m (f + f') = cx_lin g m f + cx_lin g m f' := by
  refine cx_S.ext (fun b => ?_)
  rw [cx_add_def]
  show cx_D b _ = cx_D b _ + cx_D b _
  rw [← cx_D_add]
  exact cx_D_congr (fun u s _ => by rw [cx_add_def]; grind)
theorem cx_comp_lin {B : Type} [Zero B] [Add B] [Mul (cx_S B)] [One (cx_S B)] [Add (cx_S B)] [Zero (cx_S B)] [Inhabited (cx_Idx B)] {M : Type} [Add M] [Inhabited (PLift (cx_MGl M))] [Inhabited (cx_Tord B M)] (g h : M → cx_S B) (m : M) : cx_comp g h m = cx_lin g m (h m) := rfl
theorem cx_comp_mon {B : Type} [Zero B] [Add B] [Mul (cx_S B)] [One (cx_S B)] [Add (cx_S B)] [Zero (cx_S B)] [Inhabited (cx_Idx B)] {M : Type} [Add M] [Inhabited (PLift (cx_MGl M))] [Inhabited (cx_Tord B M)] {g h : M → cx_S B} {m : M} {f f' : cx_S B} (e : h m = f + f') : cx_comp g h m = cx_lin g m f + cx_lin g m f' := by
  rw [cx_comp_lin, e, cx_lin_add]
theorem cx_mon_act {B : Type} [Zero B] [Add B] [Mul (cx_S B)] [One (cx_S B)] [Add (cx_S B)] [Zero (cx_S B)] [Inhabited (cx_Idx B)] {M : Type} [Add M] [Inhabited (PLift (cx_MGl M))] [Inhabited (cx_Tord B M)] (g : M → cx_S B) (m : M) (a : B) : cx_lin g m (cx_mon a) = cx_mon a * g (m + cx_p a) := by
  classical
  refine cx_S.ext (fun b => ?_)
  rw [cx_mul_D]
  refine cx_D_congr (fun u s _ => ?_)
  show (if u = a then (1 : Rat) else 0) * _ = (if u = a then (1 : Rat) else 0) * _
  by_cases hu : u = a
  · rw [hu]
  · rw [if_neg hu, Rat.zero_mul, Rat.zero_mul]
theorem cx_one_act {B : Type} [Zero B] [Add B] [Mul (cx_S B)] [One (cx_S B)] [Add (cx_S B)] [Zero (cx_S B)] [Inhabited (cx_Idx B)] {M : Type} [Add M] [Inhabited (PLift (cx_MGl M))] [Inhabited (cx_Tord B M)] (g : M → cx_S B) (m : M) : cx_lin g m 1 = g m := by
  rw [← cx_mon_zero, cx_mon_act, cx_mon_zero, cx_mulC, cx_mul1, cx_p_zero]
theorem cx_one_mul' {B : Type} [Zero B] [Add B] [Mul (cx_S B)] [One (cx_S B)] [Add (cx_S B)] [Zero (cx_S B)] [Inhabited (cx_Idx B)] (f : cx_S B) : 1 * f = f := by rw [cx_mulC, cx_mul1]
theorem cx_mulD' {B : Type} [Zero B] [Add B] [Mul (cx_S B)] [One (cx_S B)] [Add (cx_S B)] [Zero (cx_S B)] [Inhabited (cx_Idx B)] (f g h : cx_S B) : (f + g) * h = f * h + g * h := by rw [cx_mulC, cx_mulD, cx_mulC h f, cx_mulC h g]
theorem cx_saddA {B : Type} [Zero B] [Add B] [Mul (cx_S B)] [One (cx_S B)] [Add (cx_S B)] [Zero (cx_S B)] [Inhabited (cx_Idx B)] (f g h : cx_S B) : f + g + h = f + (g + h) := by refine cx_S.ext (fun b => ?_); simp only [cx_add_def]; grind
theorem cx_saddC {B : Type} [Zero B] [Add B] [Mul (cx_S B)] [One (cx_S B)] [Add (cx_S B)] [Zero (cx_S B)] [Inhabited (cx_Idx B)] (f g : cx_S B) : f + g = g + f := by refine cx_S.ext (fun b => ?_); simp only [cx_add_def]; grind
theorem cx_pr_neg {B : Type} [Zero B] [Add B] [Mul (cx_S B)] [One (cx_S B)] [Add (cx_S B)] [Zero (cx_S B)] [Inhabited (cx_Idx B)] {M : Type} [Add M] [Inhabited (PLift (cx_MGl M))] [Inhabited (cx_Tord B M)] (a : B) (m : M) : cx_pr a (cx_neg (B := B) m) = - cx_pr a m := by
  have h := cx_pr_addR a m (cx_neg (B := B) m)
  rw [cx_neg_add] at h
  have : cx_pr a (cx_p (0 : B) : M) = 0 := by rw [cx_skew, cx_pr_zero]; rfl
  grind
theorem cx_penta {B : Type} [Zero B] [Add B] [Mul (cx_S B)] [One (cx_S B)] [Add (cx_S B)] [Zero (cx_S B)] [Inhabited (cx_Idx B)] {M : Type} [Add M] [Inhabited (PLift (cx_MGl M))] [Inhabited (cx_Tord B M)] {a b : B} (ha : a ≠ 0) (hb : b ≠ 0) {c : Rat} (hc : c * cx_pr a (cx_p b : M) = 1) :
    cx_comp (cx_E a c) (cx_E b c) = (cx_comp (cx_E b c) (cx_comp (cx_E (a + b) c) (cx_E a c)) : M → cx_S B) := by
  have hab : a + b ≠ 0 := fun e => by
    have := congrArg cx_deg e
    rw [cx_deg_add, cx_deg_zero] at this
    exact ha (cx_deg_pos a (by omega))
  have hself : ∀ a : B, cx_pr a (cx_p a : M) = 0 := fun a => by have : cx_pr a (cx_p a : M) = - cx_pr a (cx_p a : M) := cx_skew a a; grind
  have hba : cx_pr b (cx_p a : M) = - cx_pr a (cx_p b : M) := cx_skew b a

  let T : B → Prop := fun x => ∃ i j, x = cx_nsm i a + cx_nsm j b
  have hT : cx_Clo T := ⟨by
    rintro x y ⟨i, j, rfl⟩ ⟨i', j', rfl⟩
    refine ⟨i + i', j + j', ?_⟩
    rw [cx_nsm_add, cx_nsm_add, cx_addA, cx_addA, ← cx_addA (cx_nsm j b), cx_addC (cx_nsm j b), cx_addA]⟩
  have cx_Ta : T a := ⟨1, 0, by rw [cx_nsm_one]; show a = a + 0; rw [cx_addZ]⟩
  have Tb : T b := ⟨0, 1, by rw [cx_nsm_one]; show b = 0 + b; rw [cx_zadd]⟩
  have Tab : T (a + b) := hT.add _ _ cx_Ta Tb
  refine cx_Good.test (T := T) ((cx_E_good ha c).comp (cx_E_good hb c)) ((cx_E_good hb c).comp ((cx_E_good hab c).comp (cx_E_good ha c)))
    ((cx_E_sup hT cx_Ta c).comp hT (cx_E_sup hT Tb c)) ((cx_E_sup hT Tb c).comp hT ((cx_E_sup hT Tab c).comp hT (cx_E_sup hT cx_Ta c)))
    (fun m => m = cx_p b ∨ m = cx_neg (B := B) (cx_p a)) ?_ ?_
  · rintro x hx ⟨i, j, rfl⟩
    have hw : cx_pr a (cx_p b : M) ≠ 0 := fun e => by rw [e, Rat.mul_zero] at hc; grind
    by_cases hi : i = 0
    · by_cases hj : j = 0
      · subst hi; subst hj; exact absurd (show (0 : B) + 0 = 0 from cx_addZ 0) hx
      · refine ⟨_, Or.inr rfl, ?_⟩
        rw [cx_pr_neg, cx_pr_addL, cx_pr_nsm, cx_pr_nsm, hself, hba]
        have : (j : Rat) ≠ 0 := by exact_mod_cast hj
        intro e
        have : (j : Rat) * cx_pr a (cx_p b : M) = 0 := by grind
        rcases Rat.mul_eq_zero.1 this with h | h
        · contradiction
        · contradiction
    · refine ⟨_, Or.inl rfl, ?_⟩
      rw [cx_pr_addL, cx_pr_nsm, cx_pr_nsm, hself]
      have : (i : Rat) ≠ 0 := by exact_mod_cast hi
      intro e
      have : (i : Rat) * cx_pr a (cx_p b : M) = 0 := by grind
      rcases Rat.mul_eq_zero.1 this with h | h
      · contradiction
      · contradiction
  · rintro m (rfl | rfl)
    ·
      have eb : (cx_E b c : M → cx_S B) (cx_p b) = 1 := by show cx_sub b (cx_bin (c * _)) = 1; rw [hself, Rat.mul_zero, cx_sub_zero hb]
      have ea : (cx_E a c : M → cx_S B) (cx_p b) = 1 + cx_mon a := by show cx_sub a (cx_bin (c * _)) = _; rw [hc, cx_sub_one ha]
      have l : cx_comp (cx_E a c) (cx_E b c) (cx_p b : M) = 1 + cx_mon a := by
        rw [cx_comp_lin, eb, cx_one_act, ea]
      have eab : (cx_E (a + b) c : M → cx_S B) (cx_p b) = 1 + cx_mon (a + b) := by
        show cx_sub (a + b) (cx_bin (c * _)) = _
        rw [cx_pr_addL, hself, Rat.add_zero, hc, cx_sub_one hab]
      have eab2 : (cx_E (a + b) c : M → cx_S B) (cx_p b + cx_p a) = 1 := by
        show cx_sub (a + b) (cx_bin (c * _)) = _
        rw [cx_pr_addR, cx_pr_addL, cx_pr_addL, hself, hself, hba, show cx_pr a (cx_p b : M) + 0 + (0 + -cx_pr a (cx_p b : M)) = 0 by grind, Rat.mul_zero, cx_sub_zero hab]
      have F : cx_comp (cx_E (a + b) c) (cx_E a c) (cx_p b : M) = 1 + (cx_mon (a + b) + cx_mon a) := by
        rw [cx_comp_mon ea, cx_one_act, cx_mon_act, eab, eab2, cx_mul1, cx_saddA]
      let V : cx_S B := cx_sub b (cx_bin (-1))
      have hV : (1 + cx_mon b) * V = 1 := by
        rw [← cx_sub_one hb]
        show cx_sub b (cx_bin 1) * cx_sub b (cx_bin (-1)) = 1
        rw [cx_sub_mul hb, show (1 : Rat) + -1 = 0 by grind, cx_sub_zero hb]
      have e1 : (cx_E b c : M → cx_S B) (cx_p b + cx_p (a + b)) = V := by
        show cx_sub b (cx_bin (c * _)) = cx_sub b (cx_bin (-1))
        rw [cx_pr_addR, cx_p_add, cx_pr_addR, hself, hba, show c * (0 + (-cx_pr a (cx_p b : M) + 0)) = -(c * cx_pr a (cx_p b : M)) by grind, hc]
      have e2 : (cx_E b c : M → cx_S B) (cx_p b + cx_p a) = V := by
        show cx_sub b (cx_bin (c * _)) = cx_sub b (cx_bin (-1))
        rw [cx_pr_addR, hself, hba, show c * (0 + -cx_pr a (cx_p b : M)) = -(c * cx_pr a (cx_p b : M)) by grind, hc]
      have r : cx_comp (cx_E b c) (cx_comp (cx_E (a + b) c) (cx_E a c)) (cx_p b : M) = 1 + cx_mon a := by
        rw [cx_comp_mon F, cx_one_act, eb]
        rw [cx_lin_add, cx_mon_act, cx_mon_act, e1, e2, ← cx_mon_mul, cx_mulA, ← cx_mulD]
        have : cx_mon b * V + V = 1 := by rw [← hV, cx_mulD', cx_one_mul', cx_saddC]
        rw [this, cx_mul1]
      rw [l, r]
    ·
      have ea : (cx_E a c : M → cx_S B) (cx_neg (B := B) (cx_p a)) = 1 := by
        show cx_sub a (cx_bin (c * _)) = 1; rw [cx_pr_neg, hself, show c * -(0 : Rat) = 0 by grind, cx_sub_zero ha]
      have eb : (cx_E b c : M → cx_S B) (cx_neg (B := B) (cx_p a)) = 1 + cx_mon b := by
        show cx_sub b (cx_bin (c * _)) = _; rw [cx_pr_neg, hba, show c * - -cx_pr a (cx_p b : M) = c * cx_pr a (cx_p b : M) by grind, hc, cx_sub_one hb]
      have eab : (cx_E (a + b) c : M → cx_S B) (cx_neg (B := B) (cx_p a)) = 1 + cx_mon (a + b) := by
        show cx_sub (a + b) (cx_bin (c * _)) = _
        rw [cx_pr_neg, cx_pr_addL, hself, hba, show c * -(0 + -cx_pr a (cx_p b : M)) = c * cx_pr a (cx_p b : M) by grind, hc, cx_sub_one hab]
      have ea2 : (cx_E a c : M → cx_S B) (cx_neg (B := B) (cx_p a) + cx_p b) = 1 + cx_mon a := by
        show cx_sub a (cx_bin (c * _)) = _
        rw [cx_pr_addR, cx_pr_neg, hself, show c * (-0 + cx_pr a (cx_p b : M)) = c * cx_pr a (cx_p b : M) by grind, hc, cx_sub_one ha]
      have eb2 : (cx_E b c : M → cx_S B) (cx_neg (B := B) (cx_p a) + cx_p (a + b)) = 1 := by
        show cx_sub b (cx_bin (c * _)) = _
        rw [cx_pr_addR, cx_pr_neg, cx_p_add, cx_pr_addR, hself, hba, show c * (- -cx_pr a (cx_p b : M) + (-cx_pr a (cx_p b : M) + 0)) = 0 by grind, cx_sub_zero hb]
      have l : cx_comp (cx_E a c) (cx_E b c) (cx_neg (B := B) (cx_p a) : M) = 1 + cx_mon b * (1 + cx_mon a) := by
        rw [cx_comp_mon eb, cx_one_act, cx_mon_act, ea, ea2]
      have F : cx_comp (cx_E (a + b) c) (cx_E a c) (cx_neg (B := B) (cx_p a) : M) = 1 + cx_mon (a + b) := by
        rw [cx_comp_lin, ea, cx_one_act, eab]
      have r : cx_comp (cx_E b c) (cx_comp (cx_E (a + b) c) (cx_E a c)) (cx_neg (B := B) (cx_p a) : M) = 1 + cx_mon b + cx_mon (a + b) := by
        rw [cx_comp_mon F, cx_one_act, cx_mon_act, eb, eb2, cx_mul1]
      rw [l, r, cx_mulD, cx_mul1, cx_mon_mul, cx_addC b a, cx_saddA]
noncomputable def cx_nf {B : Type} [Zero B] [Add B] [Mul (cx_S B)] [One (cx_S B)] [Add (cx_S B)] [Zero (cx_S B)] [Inhabited (cx_Idx B)] {M : Type} [Add M] [Inhabited (PLift (cx_MGl M))] [Inhabited (cx_Tord B M)] (ord : List B) (c : B → Rat) : M → cx_S B := cx_ev (ord.map fun a => (a, c a))
theorem cx_nf_cons {B : Type} [Zero B] [Add B] [Mul (cx_S B)] [One (cx_S B)] [Add (cx_S B)] [Zero (cx_S B)] [Inhabited (cx_Idx B)] {M : Type} [Add M] [Inhabited (PLift (cx_MGl M))] [Inhabited (cx_Tord B M)] (x : B) (ord : List B) (c : B → Rat) : cx_nf (x :: ord) c = (cx_comp (cx_E x (c x)) (cx_nf ord c) : M → cx_S B) := rfl
theorem cx_nf_nz {B : Type} [Zero B] [Add B] [Mul (cx_S B)] [One (cx_S B)] [Add (cx_S B)] [Zero (cx_S B)] [Inhabited (cx_Idx B)] {ord : List B} (h : ∀ x ∈ ord, x ≠ 0) (c : B → Rat) : cx_NZ (ord.map fun a => (a, c a)) := by
  intro x hx
  obtain ⟨a, ha, rfl⟩ := List.mem_map.1 hx
  exact h a ha
theorem cx_nf_good {B : Type} [Zero B] [Add B] [Mul (cx_S B)] [One (cx_S B)] [Add (cx_S B)] [Zero (cx_S B)] [Inhabited (cx_Idx B)] {M : Type} [Add M] [Inhabited (PLift (cx_MGl M))] [Inhabited (cx_Tord B M)] {ord : List B} (h : ∀ x ∈ ord, x ≠ 0) (c : B → Rat) : cx_Good (cx_nf ord c : M → cx_S B) := cx_ev_good (cx_nf_nz h c)
theorem cx_nf_sup {B : Type} [Zero B] [Add B] [Mul (cx_S B)] [One (cx_S B)] [Add (cx_S B)] [Zero (cx_S B)] [Inhabited (cx_Idx B)] {M : Type} [Add M] [Inhabited (PLift (cx_MGl M))] [Inhabited (cx_Tord B M)] {T : B → Prop} (hT : cx_Clo T) {ord : List B} (h : ∀ x ∈ ord, T x) (c : B → Rat) : cx_Sup T (cx_nf ord c : M → cx_S B) :=
  cx_ev_sup hT (fun x hx => by obtain ⟨a, ha, rfl⟩ := List.mem_map.1 hx; exact h a ha)
theorem cx_nf_congr {B : Type} [Zero B] [Add B] [Mul (cx_S B)] [One (cx_S B)] [Add (cx_S B)] [Zero (cx_S B)] [Inhabited (cx_Idx B)] {M : Type} [Add M] [Inhabited (PLift (cx_MGl M))] [Inhabited (cx_Tord B M)] {ord : List B} {c c' : B → Rat} (h : ∀ x ∈ ord, c x = c' x) : (cx_nf ord c : M → cx_S B) = cx_nf ord c' := by
  unfold cx_nf
  congr 1
  exact List.map_congr_left (fun x hx => by rw [h x hx])
theorem cx_E_far {B : Type} [Zero B] [Add B] [Mul (cx_S B)] [One (cx_S B)] [Add (cx_S B)] [Zero (cx_S B)] [Inhabited (cx_Idx B)] {M : Type} [Add M] [Inhabited (PLift (cx_MGl M))] [Inhabited (cx_Tord B M)] {a : B} (ha : a ≠ 0) (c : Rat) {k : Nat} (hk : k < cx_deg a) : cx_Eqd k (cx_E a c : M → cx_S B) cx_I := by
  classical
  intro m b hb
  show _ = (1 : cx_S B) b
  by_cases h0 : b = 0
  · rw [h0, cx_one_zero]; exact (cx_E_good ha c).unit m
  · rw [cx_one_ne h0]; exact (cx_E_ld ha c).low m b h0 (by omega)
theorem cx_nf_low {B : Type} [Zero B] [Add B] [Mul (cx_S B)] [One (cx_S B)] [Add (cx_S B)] [Zero (cx_S B)] [Inhabited (cx_Idx B)] {M : Type} [Add M] [Inhabited (PLift (cx_MGl M))] [Inhabited (cx_Tord B M)] {ord : List B} (hn : ord.Nodup) (h0 : ∀ x ∈ ord, x ≠ 0) (c c' : B → Rat) (k : Nat) (hk : 0 < k)
    (hlt : ∀ x ∈ ord, cx_deg x < k → c x = c' x) (heq : ∀ x ∈ ord, k ≤ cx_deg x → c' x = 0) (m : M) (b : B) (hb : cx_deg b ≤ k) :
    cx_nf ord c m b = cx_nf ord c' m b + (@ite _ (cx_deg b = k ∧ b ∈ ord) (Classical.propDecidable _) (c b * cx_pr b m) 0) := by
  classical
  induction ord generalizing m b with
  | nil => show (cx_I : M → cx_S B) m b = (cx_I : M → cx_S B) m b + _; rw [if_neg (by simp), Rat.add_zero]
  | cons x ord ih =>
    rw [List.nodup_cons] at hn
    have ih := ih hn.2 (fun y hy => h0 y (by simp [hy])) (fun y hy => hlt y (by simp [hy])) (fun y hy => heq y (by simp [hy]))
    have hx : x ≠ 0 := h0 x (by simp)
    have gr : cx_Good (cx_nf ord c' : M → cx_S B) := cx_nf_good (fun y hy => h0 y (by simp [hy])) c'
    have e1 : cx_nf (x :: ord) c m b = cx_comp (cx_E x (c x)) (cx_nf ord c') m b + (if cx_deg b = k ∧ b ∈ ord then c b * cx_pr b m else 0) := by
      rw [cx_nf_cons, cx_comp_def]
      have : cx_D b (fun u s => cx_nf ord c m u * cx_E x (c x) (m + cx_p u) s) = cx_D b (fun u s => cx_nf ord c' m u * cx_E x (c x) (m + cx_p u) s + (if cx_deg u = k ∧ u ∈ ord then c u * cx_pr u m else 0) * cx_E x (c x) (m + cx_p u) s) := by
        refine cx_D_congr (fun u s hus => ?_)
        have := cx_deg_add u s
        rw [hus] at this
        rw [ih m u (by omega)]; grind
      rw [this, cx_D_add, ← cx_comp_def, cx_D_right b (fun u s => (if cx_deg u = k ∧ u ∈ ord then c u * cx_pr u m else 0) * cx_E x (c x) (m + cx_p u) s)]
      · rw [(cx_E_good hx (c x)).unit, Rat.mul_one]
      · intro u s hus hs
        have := cx_deg_add u s
        rw [hus] at this
        have : cx_deg s ≠ 0 := fun e => hs (cx_deg_pos s e)
        rw [if_neg (fun h => by omega), Rat.zero_mul]
    rw [e1, cx_nf_cons]
    by_cases h1 : cx_deg x < k
    · rw [hlt x (by simp) h1]
      congr 1
      have : (cx_deg b = k ∧ b ∈ x :: ord) ↔ (cx_deg b = k ∧ b ∈ ord) := by
        constructor
        · rintro ⟨h, h'⟩
          rcases List.mem_cons.1 h' with h2 | h2
          · subst h2; omega
          · exact ⟨h, h2⟩
        · rintro ⟨h, h'⟩; exact ⟨h, by simp [h']⟩
      by_cases h3 : cx_deg b = k ∧ b ∈ ord
      · rw [if_pos h3, if_pos (this.2 h3)]
      · rw [if_neg h3, if_neg (fun h => h3 (this.1 h))]
    · rw [heq x (by simp) (by omega), cx_E_zero hx, cx_I_comp]
      by_cases h2 : cx_deg x = k
      · have hld := cx_E_ld (M := M) hx (c x)
        rw [h2] at hld
        rw [hld.left hk gr m b hb]
        by_cases h3 : cx_deg b = k
        · by_cases h4 : b = x
          · subst h4
            rw [if_pos h3, if_pos rfl, if_neg (fun h => hn.1 h.2), if_pos ⟨h3, by simp⟩]; grind
          · rw [if_pos h3, if_neg h4]
            by_cases h5 : b ∈ ord
            · rw [if_pos ⟨h3, h5⟩, if_pos ⟨h3, by simp [h5]⟩]; grind
            · rw [if_neg (fun h => h5 h.2), if_neg (fun h => by rcases List.mem_cons.1 h.2 with h | h <;> contradiction)]; grind
        · rw [if_neg h3, if_neg (fun h => h3 h.1), if_neg (fun h => h3 h.1)]; grind
      · have hfar := cx_Eqd.comp (cx_E_far (M := M) hx (c x) (by omega : k < cx_deg x)) (cx_Eqd.rfl' (d := k) (g := (cx_nf ord c' : M → cx_S B)))
        rw [cx_I_comp] at hfar
        rw [hfar m b hb]
        congr 1
        have hbx : cx_deg b = k → b ≠ x := fun h e => by subst e; omega
        by_cases h5 : cx_deg b = k ∧ b ∈ ord
        · rw [if_pos h5, if_pos ⟨h5.1, by simp [h5.2]⟩]
        · rw [if_neg h5, if_neg (fun h => by
            rcases List.mem_cons.1 h.2 with h6 | h6
            · exact hbx h.1 h6
            · exact h5 ⟨h.1, h6⟩)]
theorem cx_nf_unique {B : Type} [Zero B] [Add B] [Mul (cx_S B)] [One (cx_S B)] [Add (cx_S B)] [Zero (cx_S B)] [Inhabited (cx_Idx B)] {M : Type} [Add M] [Inhabited (PLift (cx_MGl M))] [Inhabited (cx_Tord B M)] {ord : List B} (hn : ord.Nodup) (h0 : ∀ x ∈ ord, x ≠ 0) {e : Nat} {c c' : B → Rat} (he : cx_Eqd e (cx_nf ord c : M → cx_S B) (cx_nf ord c')) :
    ∀ x ∈ ord, cx_deg x ≤ e → c x = c' x := by
  classical
  have key : ∀ k, ∀ x ∈ ord, cx_deg x ≤ e → cx_deg x < k → c x = c' x := by
    intro k
    induction k with
    | zero => intro x _ _ h; omega
    | succ k ih =>
      intro x hx hxe hk
      by_cases hlt : cx_deg x < k
      · exact ih x hx hxe hlt
      · have hxk : cx_deg x = k := by omega
        have hk0 : 0 < k := by
          rcases Nat.eq_zero_or_pos k with h | h
          · exact absurd (cx_deg_pos x (by omega)) (h0 x hx)
          · exact h
        obtain ⟨m, hm⟩ := cx_sep (M := M) x (h0 x hx)
        let z : B → Rat := fun y => if cx_deg y < k then c y else 0
        have e1 := cx_nf_low (M := M) hn h0 c z k hk0 (fun y _ h => by show _ = if _ then _ else _; rw [if_pos h]) (fun y _ h => by show (if _ then _ else _) = _; rw [if_neg (by omega)]) m x (by omega)
        have e2 := cx_nf_low (M := M) hn h0 c' z k hk0 (fun y hy h => by show _ = if _ then _ else _; rw [if_pos h]; exact (ih y hy (by omega) h).symm) (fun y _ h => by show (if _ then _ else _) = _; rw [if_neg (by omega)]) m x (by omega)
        rw [if_pos ⟨hxk, hx⟩, hm, Rat.mul_one] at e1 e2
        have e3 := he m x hxe
        grind
  intro x hx hxe
  exact key (cx_deg x + 1) x hx hxe (by omega)
theorem cx_nf_whole {B : Type} [Zero B] [Add B] [Mul (cx_S B)] [One (cx_S B)] [Add (cx_S B)] [Zero (cx_S B)] [Inhabited (cx_Idx B)] {M : Type} [Add M] [Inhabited (PLift (cx_MGl M))] [Inhabited (cx_Tord B M)] {d : Nat} {T : B → Prop} (hT : cx_Clo T) {Z : M → Prop} (hZ : ∀ m u, Z m → T u → Z (m + cx_p u)) {ord : List B} {c : B → Rat} (h : ∀ x ∈ ord, T x ∧ cx_Wl Z (x, c x)) :
    cx_Whole d Z (cx_nf ord c : M → cx_S B) :=
  cx_ev_whole hT hZ (fun x hx => by obtain ⟨a, ha, rfl⟩ := List.mem_map.1 hx; exact h a ha)
theorem cx_nf_exists {B : Type} [Zero B] [Add B] [Mul (cx_S B)] [One (cx_S B)] [Add (cx_S B)] [Zero (cx_S B)] [Inhabited (cx_Idx B)] {M : Type} [Add M] [Inhabited (PLift (cx_MGl M))] [Inhabited (cx_Tord B M)] {T : B → Prop} (hT : cx_Clo T) {Z : M → Prop} (hZ : ∀ m u, Z m → T u → Z (m + cx_p u)) {e : Nat} {ord : List B} (hn : ord.Nodup) (h0 : ∀ x ∈ ord, x ≠ 0 ∧ T x)
    (hall : ∀ b, b ≠ 0 → cx_deg b ≤ e → T b → b ∈ ord) {g : M → cx_S B} (hg : cx_Good g) (hs : cx_Supd e T g) (hW : cx_Whole e Z g) (d : Nat) (hd : d ≤ e) :
    ∃ c : B → Rat, cx_Eqd d g (cx_nf ord c) ∧ (∀ x, d < cx_deg x → c x = 0) ∧ ∀ x ∈ ord, cx_Wl Z (x, c x) := by
  classical
  induction d with
  | zero =>
    refine ⟨fun _ => 0, ?_, fun _ _ => rfl, fun x _ m _ => by show cx_IsI (0 * _); rw [Rat.zero_mul]; exact cx_IsI.zero⟩
    intro m b hb
    have : b = 0 := cx_deg_pos b (by omega)
    rw [this, hg.unit, (cx_nf_good (M := M) (fun x hx => (h0 x hx).1) _).unit]
  | succ d ih =>
    obtain ⟨c, hc, hz, hw⟩ := ih (by omega)
    have gn : cx_Good (cx_nf ord c : M → cx_S B) := cx_nf_good (fun x hx => (h0 x hx).1) c
    have hq : ∀ x, ∃ q : Rat, x ≠ 0 → cx_deg x = d + 1 → ∀ m : M, g m x = cx_nf ord c m x + q * cx_pr x m := by
      intro x
      by_cases hx : x ≠ 0 ∧ cx_deg x = d + 1
      · obtain ⟨q, hq⟩ := hg.lead gn x hx.1 (fun m b hb => hc m b (by omega))
        exact ⟨q, fun _ _ => hq⟩
      · exact ⟨0, fun h1 h2 => absurd ⟨h1, h2⟩ hx⟩
    obtain ⟨q, hq⟩ := Classical.axiomOfChoice hq
    let c' : B → Rat := fun x => if cx_deg x = d + 1 then q x else c x
    have hlow : ∀ (m : M) (b : B), cx_deg b ≤ d + 1 → cx_nf ord c' m b = cx_nf ord c m b + (@ite _ (cx_deg b = d + 1 ∧ b ∈ ord) (Classical.propDecidable _) (c' b * cx_pr b m) 0) :=
      fun m b hb => cx_nf_low hn (fun x hx => (h0 x hx).1) c' c (d + 1) (by omega) (fun x _ h => by show (if _ then _ else _) = _; rw [if_neg (by omega)]) (fun x _ h => hz x (by omega)) m b hb
    refine ⟨c', ?_, ?_, ?_⟩
    · intro m b hb
      rw [hlow m b hb]
      by_cases h1 : cx_deg b = d + 1
      · have hb0 : b ≠ 0 := fun e => by rw [e, cx_deg_zero] at h1; omega
        by_cases h2 : T b
        · have hm : b ∈ ord := hall b hb0 (by omega) h2
          rw [if_pos ⟨h1, hm⟩]
          show _ = _ + (if _ then _ else _) * _
          rw [if_pos h1]
          exact hq b hb0 h1 m
        · have hm : b ∉ ord := fun h => h2 (h0 b h).2
          rw [if_neg (fun h => hm h.2), hs m b hb0 (by omega) h2, cx_nf_sup hT (fun x hx => (h0 x hx).2) c m b hb0 h2]; grind
      · rw [if_neg (fun h => h1 h.1), Rat.add_zero]
        exact hc m b (by omega)
    · intro x hx
      show (if _ then _ else _) = _
      rw [if_neg (by omega)]
      exact hz x (by omega)
    · intro x hx m hm
      show cx_IsI ((if _ then _ else _) * cx_pr x m)
      by_cases h1 : cx_deg x = d + 1
      · rw [if_pos h1]
        have e1 := hq x (h0 x hx).1 h1 m
        have w1 := hW m hm x (by omega)
        have w2 := cx_nf_whole (d := d + 1) hT hZ (c := c) (fun x hx => ⟨(h0 x hx).2, hw x hx⟩) m hm x (by omega)
        rw [show q x * cx_pr x m = g m x - cx_nf ord c m x by grind]
        exact w1.sub w2
      · rw [if_neg h1]; exact hw x hx m hm
theorem cx_E_comm {B : Type} [Zero B] [Add B] [Mul (cx_S B)] [One (cx_S B)] [Add (cx_S B)] [Zero (cx_S B)] [Inhabited (cx_Idx B)] {M : Type} [Add M] [Inhabited (PLift (cx_MGl M))] [Inhabited (cx_Tord B M)] {z x : B} (h : cx_pr z (cx_p x : M) = 0) (q c : Rat) : cx_comp (cx_E z q) (cx_E x c) = (cx_comp (cx_E x c) (cx_E z q) : M → cx_S B) := by
  classical
  have key : ∀ (z x : B) (q c : Rat) (m : M), cx_pr z (cx_p x : M) = 0 → cx_comp (cx_E z q) (cx_E x c) m = cx_E x c m * cx_E z q m := by
    intro z x q c m h
    refine cx_S.ext (fun b => ?_)
    rw [cx_comp_def, cx_mul_D]
    refine cx_D_congr (fun u s _ => ?_)
    by_cases hu : ∃ j, cx_nsm j x = u
    · obtain ⟨j, rfl⟩ := hu
      congr 1
      show cx_sub z (cx_bin (q * cx_pr z _)) s = cx_sub z (cx_bin (q * cx_pr z _)) s
      rw [cx_pr_addR, cx_p_nsm, h, Rat.mul_zero, Rat.add_zero]
    · show cx_sub x _ u * _ = cx_sub x _ u * _
      rw [cx_sub_off _ (fun j e => hu ⟨j, e⟩), Rat.zero_mul, Rat.zero_mul]
  funext m
  rw [key z x q c m h, key x z c q m (by rw [cx_skew, h]; rfl), cx_mulC]
abbrev cx_Pl {B : Type} [Zero B] [Add B] [Mul (cx_S B)] [One (cx_S B)] [Add (cx_S B)] [Zero (cx_S B)] [Inhabited (cx_Idx B)] {M : Type} [Add M] [Inhabited (PLift (cx_MGl M))] [Inhabited (cx_Tord B M)] (T : B → Prop) (Z : M → Prop) (e : Nat) (x : B × Rat) : Prop := (x.1 ≠ 0) ∧ (T x.1) ∧ (0 ≤ x.2) ∧ (cx_Wl Z x) ∧ (cx_deg x.1 ≤ e)
theorem cx_Pl.nz {B : Type} [Zero B] [Add B] [Mul (cx_S B)] [One (cx_S B)] [Add (cx_S B)] [Zero (cx_S B)] [Inhabited (cx_Idx B)] {M : Type} [Add M] [Inhabited (PLift (cx_MGl M))] [Inhabited (cx_Tord B M)] {T : B → Prop} {Z : M → Prop} {e : Nat} {x : B × Rat} (hh_ : cx_Pl T Z e x) : x.1 ≠ 0 := hh_.1
theorem cx_Pl.mem {B : Type} [Zero B] [Add B] [Mul (cx_S B)] [One (cx_S B)] [Add (cx_S B)] [Zero (cx_S B)] [Inhabited (cx_Idx B)] {M : Type} [Add M] [Inhabited (PLift (cx_MGl M))] [Inhabited (cx_Tord B M)] {T : B → Prop} {Z : M → Prop} {e : Nat} {x : B × Rat} (hh_ : cx_Pl T Z e x) : T x.1 := hh_.2.1
theorem cx_Pl.pos {B : Type} [Zero B] [Add B] [Mul (cx_S B)] [One (cx_S B)] [Add (cx_S B)] [Zero (cx_S B)] [Inhabited (cx_Idx B)] {M : Type} [Add M] [Inhabited (PLift (cx_MGl M))] [Inhabited (cx_Tord B M)] {T : B → Prop} {Z : M → Prop} {e : Nat} {x : B × Rat} (hh_ : cx_Pl T Z e x) : 0 ≤ x.2 := hh_.2.2.1
theorem cx_Pl.whole {B : Type} [Zero B] [Add B] [Mul (cx_S B)] [One (cx_S B)] [Add (cx_S B)] [Zero (cx_S B)] [Inhabited (cx_Idx B)] {M : Type} [Add M] [Inhabited (PLift (cx_MGl M))] [Inhabited (cx_Tord B M)] {T : B → Prop} {Z : M → Prop} {e : Nat} {x : B × Rat} (hh_ : cx_Pl T Z e x) : cx_Wl Z x := hh_.2.2.2.1
theorem cx_Pl.deg {B : Type} [Zero B] [Add B] [Mul (cx_S B)] [One (cx_S B)] [Add (cx_S B)] [Zero (cx_S B)] [Inhabited (cx_Idx B)] {M : Type} [Add M] [Inhabited (PLift (cx_MGl M))] [Inhabited (cx_Tord B M)] {T : B → Prop} {Z : M → Prop} {e : Nat} {x : B × Rat} (hh_ : cx_Pl T Z e x) : cx_deg x.1 ≤ e := hh_.2.2.2.2
theorem cx_Wl.add {B : Type} [Zero B] [Add B] [Mul (cx_S B)] [One (cx_S B)] [Add (cx_S B)] [Zero (cx_S B)] [Inhabited (cx_Idx B)] {M : Type} [Add M] [Inhabited (PLift (cx_MGl M))] [Inhabited (cx_Tord B M)] {Z : M → Prop} {a : B} {c c' : Rat} (h : cx_Wl Z (a, c)) (h' : cx_Wl Z (a, c')) : cx_Wl Z (a, c + c') := by
  intro m hm
  show cx_IsI ((c + c') * cx_pr a m)
  rw [Rat.add_mul]
  exact (h m hm).add (h' m hm)
def cx_Swp {B : Type} [Zero B] [Add B] [Mul (cx_S B)] [One (cx_S B)] [Add (cx_S B)] [Zero (cx_S B)] [Inhabited (cx_Idx B)] (M : Type) [Add M] [Inhabited (PLift (cx_MGl M))] [Inhabited (cx_Tord B M)] (T : B → Prop) (Z : M → Prop) (e : Nat) (z x : B) : Prop :=
  ∀ q c : Rat, cx_Pl T Z e (z, q) → cx_Pl T Z e (x, c) →
    ∃ X : List (B × Rat), (∀ y ∈ X, cx_Pl T Z e y ∧ 0 < cx_pr y.1 (cx_p x : M)) ∧ cx_Eqd e (cx_comp (cx_E z q) (cx_E x c) : M → cx_S B) (cx_comp (cx_E x c) (cx_comp (cx_ev X) (cx_E z q)))
def cx_Suf {B : Type} [Zero B] [Add B] [Mul (cx_S B)] [One (cx_S B)] [Add (cx_S B)] [Zero (cx_S B)] [Inhabited (cx_Idx B)] (M : Type) [Add M] [Inhabited (PLift (cx_MGl M))] [Inhabited (cx_Tord B M)] (T : B → Prop) (e : Nat) : List B → Prop
  | [] => True
  | x :: r => (∀ y, y ≠ 0 → T y → cx_deg y ≤ e → 0 < cx_pr y (cx_p x : M) → y ∈ r) ∧ (∀ y ∈ r, 0 ≤ cx_pr y (cx_p x : M)) ∧ x ∉ r ∧ cx_Suf M T e r
theorem cx_move {B : Type} [Zero B] [Add B] [Mul (cx_S B)] [One (cx_S B)] [Add (cx_S B)] [Zero (cx_S B)] [Inhabited (cx_Idx B)] {M : Type} [Add M] [Inhabited (PLift (cx_MGl M))] [Inhabited (cx_Tord B M)] {T : B → Prop} {Z : M → Prop} {e : Nat} {x : B} {r : List B} (hs : cx_Suf M T e (x :: r))
    (hw : ∀ z ∈ r, 0 < cx_pr z (cx_p x : M) → cx_Swp M T Z e z x) (P : List (B × Rat)) (hP : ∀ y ∈ P, cx_Pl T Z e y ∧ y.1 ∈ x :: r) (c : Rat) (hc : cx_Pl T Z e (x, c)) :
    ∃ (c' : Rat) (P' : List (B × Rat)), cx_Pl T Z e (x, c') ∧ c ≤ c' ∧ (∀ y ∈ P', cx_Pl T Z e y ∧ y.1 ∈ r) ∧
      cx_Eqd e (cx_comp (cx_ev P) (cx_E x c) : M → cx_S B) (cx_comp (cx_E x c') (cx_ev P')) := by
  classical
  induction P with
  | nil => exact ⟨c, [], hc, by grind, fun y hy => by simp at hy, by rw [cx_ev_nil, cx_I_comp, cx_comp_I]; exact cx_Eqd.rfl'⟩
  | cons z P ih =>
    obtain ⟨c1, P1, hc1, hle, hP1, he⟩ := ih (fun y hy => hP y (by simp [hy]))
    have hz := hP z (by simp)
    have e1 : cx_Eqd e (cx_comp (cx_ev (z :: P)) (cx_E x c) : M → cx_S B) (cx_comp (cx_comp (cx_E z.1 z.2) (cx_E x c1)) (cx_ev P1)) := by
      rw [cx_ev_cons, cx_comp_assoc, cx_comp_assoc]
      exact cx_Eqd.comp cx_Eqd.rfl' he
    by_cases hzx : z.1 = x
    · refine ⟨z.2 + c1, P1, ⟨hc1.nz, hc1.mem, by have := hz.1.pos; have := hc1.pos; show 0 ≤ z.2 + c1; grind, ?_, hc1.deg⟩, by have := hz.1.pos; grind, hP1, ?_⟩
      · refine cx_Wl.add ?_ hc1.whole
        have := hz.1.whole
        rw [show z = (z.1, z.2) from rfl, hzx] at this
        exact this
      · rw [hzx, cx_E_add hc1.nz] at e1
        exact e1
    · have hzr : z.1 ∈ r := (List.mem_cons.1 hz.2).resolve_left hzx
      have hge := hs.2.1 z.1 hzr
      by_cases h0 : cx_pr z.1 (cx_p x : M) = 0
      · refine ⟨c1, z :: P1, hc1, hle, ?_, ?_⟩
        · intro y hy
          rcases List.mem_cons.1 hy with h | h
          · subst h; exact ⟨hz.1, hzr⟩
          · exact hP1 y h
        · rw [cx_E_comm h0, cx_comp_assoc] at e1
          rw [cx_ev_cons]
          exact e1
      · obtain ⟨X, hX, hXe⟩ := hw z.1 hzr (by grind) z.2 c1 hz.1 hc1
        refine ⟨c1, X ++ z :: P1, hc1, hle, ?_, ?_⟩
        · intro y hy
          rcases List.mem_append.1 hy with h | h
          · have := hX y h
            exact ⟨this.1, hs.1 y.1 this.1.nz this.1.mem this.1.deg this.2⟩
          · rcases List.mem_cons.1 h with h | h
            · subst h; exact ⟨hz.1, hzr⟩
            · exact hP1 y h
        · refine e1.trans ?_
          have := cx_Eqd.comp hXe (cx_Eqd.rfl' (d := e) (g := (cx_ev P1 : M → cx_S B)))
          rw [cx_ev_append, cx_ev_cons]
          rw [cx_comp_assoc (cx_E x c1), cx_comp_assoc (cx_ev X)] at this
          exact this
theorem cx_sortW {B : Type} [Zero B] [Add B] [Mul (cx_S B)] [One (cx_S B)] [Add (cx_S B)] [Zero (cx_S B)] [Inhabited (cx_Idx B)] {M : Type} [Add M] [Inhabited (PLift (cx_MGl M))] [Inhabited (cx_Tord B M)] {T : B → Prop} {Z : M → Prop} {e : Nat} (r : List B) (hs : cx_Suf M T e r)
    (hw : ∀ z ∈ r, ∀ x ∈ r, 0 < cx_pr z (cx_p x : M) → cx_Swp M T Z e z x) (P : List (B × Rat)) (hP : ∀ y ∈ P, cx_Pl T Z e y ∧ y.1 ∈ r) (c : B → Rat) (hc : ∀ x ∈ r, cx_Pl T Z e (x, c x)) :
    ∃ c' : B → Rat, (∀ x ∈ r, cx_Pl T Z e (x, c' x) ∧ c x ≤ c' x) ∧ cx_Eqd e (cx_comp (cx_ev P) (cx_nf r c) : M → cx_S B) (cx_nf r c') := by
  classical
  induction r generalizing P c with
  | nil =>
    have : P = [] := by
      cases P with
      | nil => rfl
      | cons z P => have := (hP z (by simp)).2; simp at this
    subst this
    exact ⟨c, fun x hx => by simp at hx, by rw [cx_ev_nil, cx_I_comp]; exact cx_Eqd.rfl'⟩
  | cons x r ih =>
    obtain ⟨c1, P1, hc1, hle, hP1, he⟩ := cx_move hs (fun z hz h => hw z (by simp [hz]) x (by simp) h) P hP (c x) (hc x (by simp))
    obtain ⟨c2, hc2, he2⟩ := ih hs.2.2.2 (fun z hz y hy => hw z (by simp [hz]) y (by simp [hy])) P1 hP1 c (fun y hy => hc y (by simp [hy]))
    refine ⟨fun y => if y = x then c1 else c2 y, ?_, ?_⟩
    · intro y hy
      by_cases h : y = x
      · subst h; simp only [if_true]; exact ⟨hc1, hle⟩
      · simp only [if_neg h]; exact hc2 y ((List.mem_cons.1 hy).resolve_left h)
    · rw [cx_nf_cons, cx_nf_cons, ← cx_comp_assoc]
      simp only [if_true]
      have e3 : (cx_nf r (fun y => if y = x then c1 else c2 y) : M → cx_S B) = cx_nf r c2 :=
        cx_nf_congr (fun y hy => if_neg (fun (h : y = x) => hs.2.2.1 (h ▸ hy)))
      rw [e3]
      refine (cx_Eqd.comp he (cx_Eqd.rfl' (d := e) (g := (cx_nf r c : M → cx_S B)))).trans ?_
      rw [cx_comp_assoc]
      exact cx_Eqd.comp cx_Eqd.rfl' he2
theorem cx_E_comm_far {B : Type} [Zero B] [Add B] [Mul (cx_S B)] [One (cx_S B)] [Add (cx_S B)] [Zero (cx_S B)] [Inhabited (cx_Idx B)] {M : Type} [Add M] [Inhabited (PLift (cx_MGl M))] [Inhabited (cx_Tord B M)] {a b : B} (ha : a ≠ 0) (hb : b ≠ 0) (q c : Rat) {e : Nat} (h : e < cx_deg a + cx_deg b) : cx_Eqd e (cx_comp (cx_E a q) (cx_E b c) : M → cx_S B) (cx_comp (cx_E b c) (cx_E a q)) := by
  classical
  have key : ∀ (a b : B) (q c : Rat) (m : M) (x : B), a ≠ 0 → b ≠ 0 → e < cx_deg a + cx_deg b → x ≠ 0 → cx_deg x ≤ e → cx_comp (cx_E a q) (cx_E b c) m x = cx_E b c m x + cx_E a q m x := by
    intro a b q c m x ha hb h hx hd
    rw [cx_comp_def, cx_D_ends hx]
    · rw [(cx_E_good ha q).unit, (cx_E_good hb c).unit, Rat.mul_one, Rat.one_mul, cx_p_zero]
    · intro u s hus hu hs
      have hdeg := cx_deg_add u s
      rw [hus] at hdeg
      have hu0 : cx_deg u ≠ 0 := fun e => hu (cx_deg_pos u e)
      have hs0 : cx_deg s ≠ 0 := fun e => hs (cx_deg_pos s e)
      by_cases h1 : cx_deg u < cx_deg b
      · rw [(cx_E_ld hb c).low m u hu h1, Rat.zero_mul]
      · rw [(cx_E_ld ha q).low _ s hs (by omega), Rat.mul_zero]
  intro m x hx
  by_cases h0 : x = 0
  · rw [h0, ((cx_E_good ha q).comp (cx_E_good hb c)).unit, ((cx_E_good hb c).comp (cx_E_good ha q)).unit]
  · rw [key a b q c m x ha hb h h0 hx, key b a c q m x hb ha (by omega) h0 hx, Rat.add_comm]
theorem cx_ev_rep {B : Type} [Zero B] [Add B] [Mul (cx_S B)] [One (cx_S B)] [Add (cx_S B)] [Zero (cx_S B)] [Inhabited (cx_Idx B)] {M : Type} [Add M] [Inhabited (PLift (cx_MGl M))] [Inhabited (cx_Tord B M)] {a : B} (ha : a ≠ 0) (c : Rat) (n : Nat) : cx_ev (List.replicate n (a, c)) = (cx_E a (n * c) : M → cx_S B) := by
  induction n with
  | zero => rw [show ((0 : Nat) : Rat) = 0 from rfl, Rat.zero_mul, cx_E_zero ha]; rfl
  | succ n ih =>
    rw [List.replicate_succ, cx_ev_cons, ih, cx_E_add ha]
    have : ((n + 1 : Nat) : Rat) = (n : Rat) + 1 := by exact_mod_cast rfl
    rw [this]; congr 1; grind
theorem cx_nat_of {x : Rat} (h : cx_IsI x) (h0 : 0 ≤ x) : ∃ n : Nat, x = n := by
  obtain ⟨z, rfl⟩ := h
  have hz : 0 ≤ z := by exact_mod_cast h0
  obtain ⟨n, rfl⟩ := Int.eq_ofNat_of_zero_le hz
  exact ⟨n, rfl⟩
def cx_Inn {B : Type} [Zero B] [Add B] [Mul (cx_S B)] [One (cx_S B)] [Add (cx_S B)] [Zero (cx_S B)] [Inhabited (cx_Idx B)] (a b : B) (x : B) : Prop := ∃ i j, x = cx_nsm (i + 1) a + cx_nsm (j + 1) b
def cx_Lat {B : Type} [Zero B] [Add B] [Mul (cx_S B)] [One (cx_S B)] [Add (cx_S B)] [Zero (cx_S B)] [Inhabited (cx_Idx B)] (a b : B) (x : B) : Prop := ∃ i j, x = cx_nsm i a + cx_nsm j b
theorem cx_quad {B : Type} [Zero B] [Add B] [Mul (cx_S B)] [One (cx_S B)] [Add (cx_S B)] [Zero (cx_S B)] [Inhabited (cx_Idx B)] (i i' j j' : Nat) (a b : B) : cx_nsm i a + cx_nsm j b + (cx_nsm i' a + cx_nsm j' b) = cx_nsm (i + i') a + cx_nsm (j + j') b := by
  rw [cx_nsm_add, cx_nsm_add, cx_addA, cx_addA, ← cx_addA (cx_nsm j b), cx_addC (cx_nsm j b) (cx_nsm i' a), cx_addA]
theorem cx_nsm_nsm {B : Type} [Zero B] [Add B] [Mul (cx_S B)] [One (cx_S B)] [Add (cx_S B)] [Zero (cx_S B)] [Inhabited (cx_Idx B)] (k i : Nat) (a : B) : cx_nsm k (cx_nsm i a) = cx_nsm (k * i) a := by
  induction k with
  | zero => rw [Nat.zero_mul]; rfl
  | succ k ih => show cx_nsm k (cx_nsm i a) + cx_nsm i a = _; rw [ih, Nat.succ_mul, cx_nsm_add]
theorem cx_nsm_sum {B : Type} [Zero B] [Add B] [Mul (cx_S B)] [One (cx_S B)] [Add (cx_S B)] [Zero (cx_S B)] [Inhabited (cx_Idx B)] (k : Nat) (x y : B) : cx_nsm k (x + y) = cx_nsm k x + cx_nsm k y := by
  induction k with
  | zero => show (0 : B) = 0 + 0; rw [cx_addZ]
  | succ k ih => show cx_nsm k (x + y) + (x + y) = (cx_nsm k x + x) + (cx_nsm k y + y); rw [ih, cx_addA, cx_addA, ← cx_addA (cx_nsm k y), cx_addC (cx_nsm k y) x, cx_addA]
theorem cx_Inn.clo {B : Type} [Zero B] [Add B] [Mul (cx_S B)] [One (cx_S B)] [Add (cx_S B)] [Zero (cx_S B)] [Inhabited (cx_Idx B)] (a b : B) : cx_Clo (cx_Inn a b) := ⟨by
  rintro x y ⟨i, j, rfl⟩ ⟨i', j', rfl⟩
  exact ⟨i + 1 + i', j + 1 + j', by rw [cx_quad]; rfl⟩⟩
theorem cx_Lat.clo {B : Type} [Zero B] [Add B] [Mul (cx_S B)] [One (cx_S B)] [Add (cx_S B)] [Zero (cx_S B)] [Inhabited (cx_Idx B)] (a b : B) : cx_Clo (cx_Lat a b) := ⟨by
  rintro x y ⟨i, j, rfl⟩ ⟨i', j', rfl⟩
  exact ⟨i + i', j + j', by rw [cx_quad]⟩⟩
theorem cx_Inn.lat {B : Type} [Zero B] [Add B] [Mul (cx_S B)] [One (cx_S B)] [Add (cx_S B)] [Zero (cx_S B)] [Inhabited (cx_Idx B)] {a b x : B} (h : cx_Inn a b x) : cx_Lat a b x := by obtain ⟨i, j, rfl⟩ := h; exact ⟨i + 1, j + 1, rfl⟩
theorem cx_Lat.a {B : Type} [Zero B] [Add B] [Mul (cx_S B)] [One (cx_S B)] [Add (cx_S B)] [Zero (cx_S B)] [Inhabited (cx_Idx B)] (a b : B) : cx_Lat a b a := ⟨1, 0, by rw [cx_nsm_one]; show a = a + 0; rw [cx_addZ]⟩
theorem cx_Lat.b {B : Type} [Zero B] [Add B] [Mul (cx_S B)] [One (cx_S B)] [Add (cx_S B)] [Zero (cx_S B)] [Inhabited (cx_Idx B)] (a b : B) : cx_Lat a b b := ⟨0, 1, by rw [cx_nsm_one]; show b = 0 + b; rw [cx_zadd]⟩
theorem cx_Inn.deg {B : Type} [Zero B] [Add B] [Mul (cx_S B)] [One (cx_S B)] [Add (cx_S B)] [Zero (cx_S B)] [Inhabited (cx_Idx B)] {a b x : B} (h : cx_Inn a b x) : cx_deg a + cx_deg b ≤ cx_deg x := by
  obtain ⟨i, j, rfl⟩ := h
  rw [cx_deg_add, cx_nsm_deg, cx_nsm_deg, Nat.succ_mul, Nat.succ_mul]; omega
theorem cx_Inn.nz {B : Type} [Zero B] [Add B] [Mul (cx_S B)] [One (cx_S B)] [Add (cx_S B)] [Zero (cx_S B)] [Inhabited (cx_Idx B)] {a b x : B} (ha : a ≠ 0) (h : cx_Inn a b x) : x ≠ 0 := by
  intro e
  have := h.deg
  rw [e, cx_deg_zero] at this
  exact ha (cx_deg_pos a (by omega))
theorem cx_Inn.mul {B : Type} [Zero B] [Add B] [Mul (cx_S B)] [One (cx_S B)] [Add (cx_S B)] [Zero (cx_S B)] [Inhabited (cx_Idx B)] {a b x y z : B} (hx : cx_Inn a b x) (hy : cx_Lat a b y) (hz : cx_Inn x y z) : cx_Inn a b z := by
  obtain ⟨i, j, rfl⟩ := hx
  obtain ⟨i', j', rfl⟩ := hy
  obtain ⟨k, l, rfl⟩ := hz
  rw [cx_nsm_sum, cx_nsm_sum, cx_nsm_nsm, cx_nsm_nsm, cx_nsm_nsm, cx_nsm_nsm, cx_quad]
  refine ⟨(k + 1) * (i + 1) + (l + 1) * i' - 1, (k + 1) * (j + 1) + (l + 1) * j' - 1, ?_⟩
  have h1 : 0 < (k + 1) * (i + 1) := Nat.mul_pos (by omega) (by omega)
  have h2 : 0 < (k + 1) * (j + 1) := Nat.mul_pos (by omega) (by omega)
  congr 2 <;> omega
theorem cx_Inn.mul' {B : Type} [Zero B] [Add B] [Mul (cx_S B)] [One (cx_S B)] [Add (cx_S B)] [Zero (cx_S B)] [Inhabited (cx_Idx B)] {a b x y z : B} (hx : cx_Lat a b x) (hy : cx_Inn a b y) (hz : cx_Inn x y z) : cx_Inn a b z := by
  obtain ⟨i, j, rfl⟩ := hz
  exact cx_Inn.mul hy hx ⟨j, i, cx_addC _ _⟩
theorem cx_pr_self {B : Type} [Zero B] [Add B] [Mul (cx_S B)] [One (cx_S B)] [Add (cx_S B)] [Zero (cx_S B)] [Inhabited (cx_Idx B)] {M : Type} [Add M] [Inhabited (PLift (cx_MGl M))] [Inhabited (cx_Tord B M)] (a : B) : cx_pr a (cx_p a : M) = 0 := by have : cx_pr a (cx_p a : M) = - cx_pr a (cx_p a : M) := cx_skew a a; grind
theorem cx_p_sum {B : Type} [Zero B] [Add B] [Mul (cx_S B)] [One (cx_S B)] [Add (cx_S B)] [Zero (cx_S B)] [Inhabited (cx_Idx B)] {M : Type} [Add M] [Inhabited (PLift (cx_MGl M))] [Inhabited (cx_Tord B M)] (c x y : B) : cx_pr c (cx_p (x + y) : M) = cx_pr c (cx_p x : M) + cx_pr c (cx_p y : M) := by rw [cx_p_add, cx_pr_addR]
def cx_Mix {B : Type} (cx_I : B × Rat → Prop) (u : B × Rat) : Nat → List (B × Rat) → Prop
  | k, [] => k = 0
  | k, z :: P => (cx_I z ∧ cx_Mix cx_I u k P) ∨ (z = u ∧ ∃ j, k = j + 1 ∧ cx_Mix cx_I u j P)
theorem cx_Mix.nil {B : Type} {cx_I : B × Rat → Prop} {u : B × Rat} : cx_Mix cx_I u 0 [] := rfl
theorem cx_Mix.inn {B : Type} {cx_I : B × Rat → Prop} {u : B × Rat} {k : Nat} {z : B × Rat} {P : List (B × Rat)} (hz : cx_I z) (h : cx_Mix cx_I u k P) : cx_Mix cx_I u k (z :: P) := Or.inl ⟨hz, h⟩
theorem cx_Mix.unit {B : Type} {cx_I : B × Rat → Prop} {u : B × Rat} {k : Nat} {P : List (B × Rat)} (h : cx_Mix cx_I u k P) : cx_Mix cx_I u (k + 1) (u :: P) := Or.inr ⟨rfl, k, rfl, h⟩
theorem cx_Mix.recE {B : Type} {cx_I : B × Rat → Prop} {u : B × Rat} {motive : ∀ (k : Nat) (P : List (B × Rat)), cx_Mix cx_I u k P → Prop} (nil : motive 0 [] cx_Mix.nil)
    (inn : ∀ {k : Nat} {z : B × Rat} {P : List (B × Rat)} (hz : cx_I z) (h : cx_Mix cx_I u k P), motive k P h → motive k (z :: P) (cx_Mix.inn hz h))
    (unit : ∀ {k : Nat} {P : List (B × Rat)} (h : cx_Mix cx_I u k P), motive k P h → motive (k + 1) (u :: P) (cx_Mix.unit h)) : ∀ {k : Nat} {P : List (B × Rat)} (h : cx_Mix cx_I u k P), motive k P h := by
  intro k P
  induction P generalizing k with
  | nil =>
    intro h
    have e : k = 0 := h
    subst e
    exact nil
  | cons z P ih =>
    intro h
    rcases h with ⟨hz, h⟩ | ⟨rfl, j, rfl, h⟩
    · exact inn hz h (ih h)
    · exact unit h (ih h)
theorem cx_Mix.app {B : Type} [Zero B] [Add B] [Mul (cx_S B)] [One (cx_S B)] [Add (cx_S B)] [Zero (cx_S B)] [Inhabited (cx_Idx B)] {cx_I : B × Rat → Prop} {u : B × Rat} {k : Nat} {P X : List (B × Rat)} (hX : ∀ y ∈ X, cx_I y) (h : cx_Mix cx_I u k P) : cx_Mix cx_I u k (X ++ P) := by
  induction X with
  | nil => exact h
  | cons x X ih => exact .inn (hX x (by simp)) (ih (fun y hy => hX y (by simp [hy])))
theorem cx_Mix.rep {B : Type} [Zero B] [Add B] [Mul (cx_S B)] [One (cx_S B)] [Add (cx_S B)] [Zero (cx_S B)] [Inhabited (cx_Idx B)] {cx_I : B × Rat → Prop} {u : B × Rat} (n : Nat) : cx_Mix cx_I u n (List.replicate n u) := by
  induction n with
  | zero => exact .nil
  | succ n ih => exact .unit ih
def cx_Sw {B : Type} [Zero B] [Add B] [Mul (cx_S B)] [One (cx_S B)] [Add (cx_S B)] [Zero (cx_S B)] [Inhabited (cx_Idx B)] (M : Type) [Add M] [Inhabited (PLift (cx_MGl M))] [Inhabited (cx_Tord B M)] (T : B → Prop) (Z : M → Prop) (e : Nat) (a b : B) : Prop :=
  ∀ q c : Rat, cx_Pl T Z e (a, q) → cx_Pl T Z e (b, c) →
    ∃ X : List (B × Rat), (∀ y ∈ X, cx_Pl T Z e y ∧ cx_Inn a b y.1) ∧ cx_Eqd e (cx_comp (cx_E a q) (cx_E b c) : M → cx_S B) (cx_comp (cx_E b c) (cx_comp (cx_ev X) (cx_E a q)))
theorem cx_mix_left {B : Type} [Zero B] [Add B] [Mul (cx_S B)] [One (cx_S B)] [Add (cx_S B)] [Zero (cx_S B)] [Inhabited (cx_Idx B)] {M : Type} [Add M] [Inhabited (PLift (cx_MGl M))] [Inhabited (cx_Tord B M)] {a b : B} {c0 : Rat} {e : Nat} {cx_I : B × Rat → Prop} (hpent : cx_comp (cx_E a c0) (cx_E b c0) = (cx_comp (cx_E b c0) (cx_comp (cx_E (a + b) c0) (cx_E a c0)) : M → cx_S B)) (hab : cx_I (a + b, c0))
    (hsw : ∀ z, cx_I z → ∃ X : List (B × Rat), (∀ y ∈ X, cx_I y) ∧ cx_Eqd e (cx_comp (cx_E z.1 z.2) (cx_E b c0) : M → cx_S B) (cx_comp (cx_E b c0) (cx_comp (cx_ev X) (cx_E z.1 z.2))))
    {k : Nat} {P : List (B × Rat)} (hP : cx_Mix cx_I (a, c0) k P) : ∃ P', cx_Mix cx_I (a, c0) k P' ∧ cx_Eqd e (cx_comp (cx_ev P) (cx_E b c0) : M → cx_S B) (cx_comp (cx_E b c0) (cx_ev P')) := by
  induction hP using cx_Mix.recE with
  | nil => exact ⟨[], .nil, by rw [cx_ev_nil, cx_I_comp, cx_comp_I]; exact cx_Eqd.rfl'⟩
  | @inn k z P hz _ ih =>
    obtain ⟨P1, hP1, he⟩ := ih
    obtain ⟨X, hX, hXe⟩ := hsw z hz
    refine ⟨X ++ z :: P1, (cx_Mix.inn hz hP1).app hX, ?_⟩
    rw [cx_ev_cons, cx_comp_assoc]
    refine (cx_Eqd.comp cx_Eqd.rfl' he).trans ?_
    have := cx_Eqd.comp hXe (cx_Eqd.rfl' (d := e) (g := (cx_ev P1 : M → cx_S B)))
    rw [cx_comp_assoc (cx_E b c0), cx_comp_assoc (cx_ev X), cx_comp_assoc (cx_E z.1 z.2)] at this
    rw [cx_ev_append, cx_ev_cons]
    exact this
  | @unit k P _ ih =>
    obtain ⟨P1, hP1, he⟩ := ih
    refine ⟨(a + b, c0) :: (a, c0) :: P1, .inn hab (.unit hP1), ?_⟩
    rw [cx_ev_cons, cx_comp_assoc]
    refine (cx_Eqd.comp cx_Eqd.rfl' he).trans ?_
    rw [cx_ev_cons, cx_ev_cons, ← cx_comp_assoc (cx_E a c0), hpent, cx_comp_assoc, cx_comp_assoc]
    exact cx_Eqd.rfl'
theorem cx_mix_lefts {B : Type} [Zero B] [Add B] [Mul (cx_S B)] [One (cx_S B)] [Add (cx_S B)] [Zero (cx_S B)] [Inhabited (cx_Idx B)] {M : Type} [Add M] [Inhabited (PLift (cx_MGl M))] [Inhabited (cx_Tord B M)] {a b : B} (hb : b ≠ 0) {c0 : Rat} {e : Nat} {cx_I : B × Rat → Prop} (hpent : cx_comp (cx_E a c0) (cx_E b c0) = (cx_comp (cx_E b c0) (cx_comp (cx_E (a + b) c0) (cx_E a c0)) : M → cx_S B)) (hab : cx_I (a + b, c0))
    (hsw : ∀ z, cx_I z → ∃ X : List (B × Rat), (∀ y ∈ X, cx_I y) ∧ cx_Eqd e (cx_comp (cx_E z.1 z.2) (cx_E b c0) : M → cx_S B) (cx_comp (cx_E b c0) (cx_comp (cx_ev X) (cx_E z.1 z.2))))
    (n : Nat) {k : Nat} {P : List (B × Rat)} (hP : cx_Mix cx_I (a, c0) k P) : ∃ P', cx_Mix cx_I (a, c0) k P' ∧ cx_Eqd e (cx_comp (cx_ev P) (cx_E b (n * c0)) : M → cx_S B) (cx_comp (cx_E b (n * c0)) (cx_ev P')) := by
  induction n generalizing P with
  | zero => exact ⟨P, hP, by rw [show ((0 : Nat) : Rat) = 0 from rfl, Rat.zero_mul, cx_E_zero hb, cx_I_comp, cx_comp_I]; exact cx_Eqd.rfl'⟩
  | succ n ih =>
    obtain ⟨P1, hP1, he⟩ := cx_mix_left hpent hab hsw hP
    obtain ⟨P2, hP2, he2⟩ := ih hP1
    refine ⟨P2, hP2, ?_⟩
    have hn : ((n + 1 : Nat) : Rat) * c0 = c0 + n * c0 := by
      have : ((n + 1 : Nat) : Rat) = (n : Rat) + 1 := by exact_mod_cast rfl
      rw [this]; grind
    rw [hn, ← cx_E_add hb, ← cx_comp_assoc, cx_comp_assoc (cx_E b c0)]
    refine (cx_Eqd.comp he cx_Eqd.rfl').trans ?_
    rw [cx_comp_assoc]
    exact cx_Eqd.comp cx_Eqd.rfl' he2
theorem cx_unit_right {B : Type} [Zero B] [Add B] [Mul (cx_S B)] [One (cx_S B)] [Add (cx_S B)] [Zero (cx_S B)] [Inhabited (cx_Idx B)] {M : Type} [Add M] [Inhabited (PLift (cx_MGl M))] [Inhabited (cx_Tord B M)] {a : B} {c0 : Rat} {e : Nat} {cx_I : B × Rat → Prop}
    (hsw : ∀ y, cx_I y → ∃ X : List (B × Rat), (∀ x ∈ X, cx_I x) ∧ cx_Eqd e (cx_comp (cx_E a c0) (cx_E y.1 y.2) : M → cx_S B) (cx_comp (cx_E y.1 y.2) (cx_comp (cx_ev X) (cx_E a c0))))
    (Q : List (B × Rat)) (hQ : ∀ y ∈ Q, cx_I y) : ∃ Q', (∀ y ∈ Q', cx_I y) ∧ cx_Eqd e (cx_comp (cx_E a c0) (cx_ev Q) : M → cx_S B) (cx_comp (cx_ev Q') (cx_E a c0)) := by
  induction Q with
  | nil => exact ⟨[], fun y hy => by simp at hy, by rw [cx_ev_nil, cx_I_comp, cx_comp_I]; exact cx_Eqd.rfl'⟩
  | cons y Q ih =>
    obtain ⟨Q1, hQ1, he⟩ := ih (fun x hx => hQ x (by simp [hx]))
    obtain ⟨X, hX, hXe⟩ := hsw y (hQ y (by simp))
    refine ⟨y :: (X ++ Q1), ?_, ?_⟩
    · intro x hx
      rcases List.mem_cons.1 hx with h | h
      · subst h; exact hQ _ (by simp)
      · rcases List.mem_append.1 h with h | h
        · exact hX x h
        · exact hQ1 x h
    · rw [cx_ev_cons, ← cx_comp_assoc]
      refine (cx_Eqd.comp hXe cx_Eqd.rfl').trans ?_
      rw [cx_ev_cons, cx_ev_append, cx_comp_assoc, cx_comp_assoc, cx_comp_assoc, cx_comp_assoc]
      exact cx_Eqd.comp cx_Eqd.rfl' (cx_Eqd.comp cx_Eqd.rfl' he)
theorem cx_mix_right {B : Type} [Zero B] [Add B] [Mul (cx_S B)] [One (cx_S B)] [Add (cx_S B)] [Zero (cx_S B)] [Inhabited (cx_Idx B)] {M : Type} [Add M] [Inhabited (PLift (cx_MGl M))] [Inhabited (cx_Tord B M)] {a : B} (ha : a ≠ 0) {c0 : Rat} {e : Nat} {cx_I : B × Rat → Prop}
    (hsw : ∀ y, cx_I y → ∃ X : List (B × Rat), (∀ x ∈ X, cx_I x) ∧ cx_Eqd e (cx_comp (cx_E a c0) (cx_E y.1 y.2) : M → cx_S B) (cx_comp (cx_E y.1 y.2) (cx_comp (cx_ev X) (cx_E a c0))))
    {k : Nat} {P : List (B × Rat)} (hP : cx_Mix cx_I (a, c0) k P) : ∃ Q, (∀ y ∈ Q, cx_I y) ∧ cx_Eqd e (cx_ev P : M → cx_S B) (cx_comp (cx_ev Q) (cx_E a (k * c0))) := by
  induction hP using cx_Mix.recE with
  | nil => exact ⟨[], fun y hy => by simp at hy, by rw [show ((0 : Nat) : Rat) = 0 from rfl, Rat.zero_mul, cx_E_zero ha, cx_ev_nil, cx_I_comp]; exact cx_Eqd.rfl'⟩
  | @inn k z P hz _ ih =>
    obtain ⟨Q, hQ, he⟩ := ih
    refine ⟨z :: Q, ?_, ?_⟩
    · intro y hy
      rcases List.mem_cons.1 hy with h | h
      · subst h; exact hz
      · exact hQ y h
    · rw [cx_ev_cons, cx_ev_cons, cx_comp_assoc]; exact cx_Eqd.comp cx_Eqd.rfl' he
  | @unit k P _ ih =>
    obtain ⟨Q, hQ, he⟩ := ih
    obtain ⟨Q', hQ', he'⟩ := cx_unit_right hsw Q hQ
    refine ⟨Q', hQ', ?_⟩
    have hn : ((k + 1 : Nat) : Rat) * c0 = c0 + k * c0 := by
      have : ((k + 1 : Nat) : Rat) = (k : Rat) + 1 := by exact_mod_cast rfl
      rw [this]; grind
    rw [cx_ev_cons, hn, ← cx_E_add ha, ← cx_comp_assoc]
    refine (cx_Eqd.comp cx_Eqd.rfl' he).trans ?_
    rw [← cx_comp_assoc]
    exact cx_Eqd.comp he' cx_Eqd.rfl'
def cx_lst {B : Type} [Zero B] [Add B] [Mul (cx_S B)] [One (cx_S B)] [Add (cx_S B)] [Zero (cx_S B)] [Inhabited (cx_Idx B)] (e : Nat) : List B := (List.range (e + 1)).flatMap cx_lev
theorem cx_mem_lst {B : Type} [Zero B] [Add B] [Mul (cx_S B)] [One (cx_S B)] [Add (cx_S B)] [Zero (cx_S B)] [Inhabited (cx_Idx B)] (e : Nat) (b : B) : b ∈ (cx_lst e : List B) ↔ cx_deg b ≤ e := by
  unfold cx_lst
  rw [List.mem_flatMap]
  constructor
  · rintro ⟨k, hk, hb⟩
    rw [List.mem_range] at hk
    have := (cx_mem_lev k b).1 hb
    omega
  · intro h
    exact ⟨cx_deg b, List.mem_range.2 (by omega), (cx_mem_lev _ _).2 rfl⟩
theorem cx_nodup_lst {B : Type} [Zero B] [Add B] [Mul (cx_S B)] [One (cx_S B)] [Add (cx_S B)] [Zero (cx_S B)] [Inhabited (cx_Idx B)] (e : Nat) : (cx_lst e : List B).Nodup := by
  unfold cx_lst
  generalize hl : List.range (e + 1) = l
  have hn : l.Nodup := hl ▸ List.nodup_range
  clear hl
  induction l with
  | nil => simp
  | cons k l ih =>
    rw [List.nodup_cons] at hn
    rw [List.flatMap_cons, List.nodup_append]
    refine ⟨cx_nodup_lev k, ih hn.2, ?_⟩
    intro x hx y hy exy
    subst exy
    obtain ⟨k', hk', hx'⟩ := List.mem_flatMap.1 hy
    have h1 := (cx_mem_lev _ _).1 hx
    have h2 := (cx_mem_lev _ _).1 hx'
    exact hn.1 (by rw [← h1, h2]; exact hk')
theorem cx_suf_of {B : Type} [Zero B] [Add B] [Mul (cx_S B)] [One (cx_S B)] [Add (cx_S B)] [Zero (cx_S B)] [Inhabited (cx_Idx B)] (M : Type) [Add M] [Inhabited (PLift (cx_MGl M))] [Inhabited (cx_Tord B M)] {T : B → Prop} (κ : B → Rat) (e : Nat) (hκ : ∀ x y, T x → T y → (0 < cx_pr y (cx_p x : M) ↔ κ x < κ y)) :
    ∃ ord : List B, ord.Nodup ∧ (∀ x, x ∈ ord ↔ x ≠ 0 ∧ T x ∧ cx_deg x ≤ e) ∧ cx_Suf M T e ord := by
  classical
  let l : List B := (cx_lst e).filter (fun x => decide (x ≠ 0 ∧ T x))
  let le : B → B → Bool := fun x y => decide (κ x ≤ κ y)
  let ord := l.mergeSort le
  have hperm : ord.Perm l := List.mergeSort_perm l le
  have hmem : ∀ x, x ∈ ord ↔ x ≠ 0 ∧ T x ∧ cx_deg x ≤ e := by
    intro x
    rw [hperm.mem_iff]
    show x ∈ (cx_lst e).filter _ ↔ _
    rw [List.mem_filter, cx_mem_lst]
    simp only [decide_eq_true_eq]
    constructor
    · rintro ⟨h1, h2, h3⟩; exact ⟨h2, h3, h1⟩
    · rintro ⟨h1, h2, h3⟩; exact ⟨h3, h1, h2⟩
  have hnod : ord.Nodup := hperm.nodup_iff.2 ((cx_nodup_lst e).filter _)
  have hpw : ord.Pairwise (fun x y => κ x ≤ κ y) := by
    have := List.pairwise_mergeSort (le := le) (fun a b c h1 h2 => by
      simp only [le, decide_eq_true_eq] at *; grind) (fun a b => by
      simp only [le, Bool.or_eq_true, decide_eq_true_eq]; grind) l
    exact this.imp (fun h => by simpa [le] using h)
  refine ⟨ord, hnod, hmem, ?_⟩
  have key : ∀ (suf pre : List B), ord = pre ++ suf → cx_Suf M T e suf := by
    intro suf
    induction suf with
    | nil => intro _ _; trivial
    | cons x r ih =>
      intro pre hpre
      have hx : x ∈ ord := by rw [hpre]; simp
      have hTx := ((hmem x).1 hx).2.1
      rw [hpre] at hpw hnod
      rw [List.pairwise_append] at hpw
      have hpr := List.pairwise_cons.1 hpw.2.1
      refine ⟨?_, ?_, ?_, ?_⟩
      · intro y hy hT hd hlt
        have hlt' := (hκ x y hTx hT).1 hlt
        have hyo : y ∈ ord := (hmem y).2 ⟨hy, hT, hd⟩
        rw [hpre] at hyo
        rcases List.mem_append.1 hyo with h | h
        · have := hpw.2.2 y h x (by simp); grind
        · rcases List.mem_cons.1 h with h | h
          · subst h; grind
          · exact h
      · intro y hy
        have hyo : y ∈ ord := by rw [hpre]; simp [hy]
        have hT := ((hmem y).1 hyo).2.1
        have h1 := hpr.1 y hy
        have h2 := hκ y x hT hTx
        have h3 := cx_skew (M := M) y x
        by_cases h4 : 0 ≤ cx_pr y (cx_p x : M)
        · exact h4
        · have : 0 < cx_pr x (cx_p y : M) := by grind
          have := h2.1 this
          grind
      · intro h
        rw [List.nodup_append] at hnod
        exact (List.nodup_cons.1 hnod.2.1).1 h
      · exact ih (pre ++ [x]) (by rw [hpre]; simp)
  exact key ord [] rfl
theorem cx_nf_zero {B : Type} [Zero B] [Add B] [Mul (cx_S B)] [One (cx_S B)] [Add (cx_S B)] [Zero (cx_S B)] [Inhabited (cx_Idx B)] {M : Type} [Add M] [Inhabited (PLift (cx_MGl M))] [Inhabited (cx_Tord B M)] {ord : List B} (h : ∀ x ∈ ord, x ≠ 0) : (cx_nf ord (fun _ => 0) : M → cx_S B) = cx_I := by
  induction ord with
  | nil => rfl
  | cons x r ih => rw [cx_nf_cons, cx_E_zero (h x (by simp)), cx_I_comp, ih (fun y hy => h y (by simp [hy]))]
theorem cx_div_lt {x y c d : Rat} (hc : 0 < c) (hd : 0 < d) : x / c < y / d ↔ x * d < y * c := by
  have e1 : x / c * c = x := Rat.div_mul_cancel (by grind)
  have e2 : y / d * d = y := Rat.div_mul_cancel (by grind)
  generalize x / c = u at *
  generalize y / d = v at *
  have hcd : 0 < c * d := Rat.mul_pos hc hd
  have e3 : u * (c * d) = x * d := by rw [← e1, Rat.mul_assoc]
  have e4 : v * (c * d) = y * c := by rw [← e2, Rat.mul_assoc, Rat.mul_comm d c]
  constructor
  · intro h
    have := Rat.mul_lt_mul_of_pos_right h hcd
    rw [e3, e4] at this
    exact this
  · intro h
    by_cases h2 : u < v
    · exact h2
    · have h3 : 0 ≤ (u - v) * (c * d) := Rat.mul_nonneg (by grind) (by grind)
      rw [Rat.sub_eq_add_neg, Rat.add_mul, Rat.neg_mul, e3, e4] at h3
      grind
theorem cx_swap {B : Type} [Zero B] [Add B] [Mul (cx_S B)] [One (cx_S B)] [Add (cx_S B)] [Zero (cx_S B)] [Inhabited (cx_Idx B)] {M : Type} [Add M] [Inhabited (PLift (cx_MGl M))] [Inhabited (cx_Tord B M)] (e : Nat) : ∀ (n : Nat) (T : B → Prop) (Z : M → Prop) (a b : B), cx_Clo T → (∀ m u, Z m → T u → Z (m + cx_p u)) → (∀ u, T u → Z (cx_p u)) →
    a ≠ 0 → b ≠ 0 → T a → T b → 0 < cx_pr a (cx_p b : M) → e < n + cx_deg a + cx_deg b → cx_Sw M T Z e a b := by
  classical
  intro n
  induction n with
  | zero =>
    intro T Z a b _ _ _ ha hb _ _ _ hn q c _ _
    exact ⟨[], fun y hy => by simp at hy, by rw [cx_ev_nil, cx_I_comp]; exact cx_E_comm_far ha hb q c (by omega)⟩
  | succ n ih =>
    intro T Z a b hT hZ hpZ ha hb cx_Ta Tb hw hn q c hq hc
    by_cases hfar : e < cx_deg a + cx_deg b
    · exact ⟨[], fun y hy => by simp at hy, by rw [cx_ev_nil, cx_I_comp]; exact cx_E_comm_far ha hb q c hfar⟩
    have hda : cx_deg a ≠ 0 := fun h => ha (cx_deg_pos a h)
    have hdb : cx_deg b ≠ 0 := fun h => hb (cx_deg_pos b h)
    generalize hwd : cx_pr a (cx_p b : M) = w at hw
    have hba : cx_pr b (cx_p a : M) = - w := by rw [cx_skew, hwd]
    have hw0 : w ≠ 0 := by grind

    let c0 : Rat := 1 / w
    have hc0 : c0 * w = 1 := by show 1 / w * w = 1; exact Rat.div_mul_cancel hw0
    have hc0p : 0 ≤ c0 := by
      by_cases h : 0 ≤ c0
      · exact h
      · have h1 : c0 < 0 := by grind
        have : c0 * w < 0 * w := Rat.mul_lt_mul_of_pos_right h1 hw
        rw [Rat.zero_mul, hc0] at this
        grind
    obtain ⟨l1, hl1⟩ : ∃ l : Nat, q * w = l := by
      refine cx_nat_of ?_ (Rat.mul_nonneg hq.pos (by grind))
      have := hq.whole (cx_p b) (hpZ b Tb)
      rw [show (a, q).1 = a from rfl, hwd] at this
      exact this
    obtain ⟨l2, hl2⟩ : ∃ l : Nat, c * w = l := by
      refine cx_nat_of ?_ (Rat.mul_nonneg hc.pos (by grind))
      obtain ⟨z, hz⟩ := hc.whole (cx_p a) (hpZ a cx_Ta)
      rw [show (b, c).1 = b from rfl, hba] at hz
      refine ⟨-z, ?_⟩
      have h1 : ((-z : Int) : Rat) = -(z : Rat) := by exact_mod_cast rfl
      rw [h1, ← hz]; show c * w = -(c * -w); grind
    have hq' : q = l1 * c0 := by
      rw [← hl1]; have := hc0; grind
    have hc' : c = l2 * c0 := by
      rw [← hl2]; have := hc0; grind

    let ZL : M → Prop := fun m => cx_IsI (c0 * cx_pr a m) ∧ cx_IsI (c0 * cx_pr b m)
    have prL : ∀ (x : B), cx_Lat a b x → cx_IsI (c0 * cx_pr a (cx_p x : M)) ∧ cx_IsI (c0 * cx_pr b (cx_p x : M)) := by
      rintro x ⟨i, j, rfl⟩
      rw [cx_p_sum, cx_p_sum, cx_p_nsm, cx_p_nsm, cx_p_nsm, cx_p_nsm, cx_pr_self, cx_pr_self, hwd, hba]
      refine ⟨⟨j, ?_⟩, ⟨-i, ?_⟩⟩
      · have : c0 * (i * 0 + j * w) = j * (c0 * w) := by grind
        rw [this, hc0, Rat.mul_one]; exact_mod_cast rfl
      · have : c0 * (i * -w + j * 0) = -(i * (c0 * w)) := by grind
        rw [this, hc0, Rat.mul_one]; exact_mod_cast rfl
    have hZL : ∀ m u, ZL m → cx_Lat a b u → ZL (m + cx_p u) := by
      intro m u hm hu
      have := prL u hu
      refine ⟨?_, ?_⟩
      · rw [cx_pr_addR, Rat.mul_add]; exact hm.1.add this.1
      · rw [cx_pr_addR, Rat.mul_add]; exact hm.2.add this.2
    have unitA : cx_Pl (cx_Lat a b) ZL e (a, c0) := ⟨ha, cx_Lat.a a b, hc0p, fun m hm => hm.1, by show cx_deg a ≤ e; omega⟩
    have unitB : cx_Pl (cx_Lat a b) ZL e (b, c0) := ⟨hb, cx_Lat.b a b, hc0p, fun m hm => hm.2, by show cx_deg b ≤ e; omega⟩
    let J : B × Rat → Prop := fun y => cx_Pl (cx_Lat a b) ZL e y ∧ cx_Inn a b y.1
    have prI : ∀ x, cx_Inn a b x → 0 < cx_pr x (cx_p b : M) ∧ 0 < cx_pr a (cx_p x : M) := by
      rintro x ⟨i, j, rfl⟩
      rw [cx_pr_addL, cx_pr_nsm, cx_pr_nsm, cx_pr_self, cx_p_sum, cx_p_nsm, cx_p_nsm, cx_pr_self, hwd]
      have h1 : (0 : Rat) ≤ (i : Rat) := by exact_mod_cast Nat.zero_le i
      have h2 : (0 : Rat) ≤ (j : Rat) := by exact_mod_cast Nat.zero_le j
      have e1 : ((i + 1 : Nat) : Rat) = (i : Rat) + 1 := by exact_mod_cast rfl
      have e2 : ((j + 1 : Nat) : Rat) = (j : Rat) + 1 := by exact_mod_cast rfl
      rw [e1, e2]
      have h3 : 0 ≤ (i : Rat) * w := Rat.mul_nonneg h1 (by grind)
      have h4 : 0 ≤ (j : Rat) * w := Rat.mul_nonneg h2 (by grind)
      refine ⟨by grind, by grind⟩
    have Jab : J (a + b, c0) := by
      refine ⟨⟨?_, ?_, hc0p, ?_, ?_⟩, ⟨0, 0, by rw [cx_nsm_one, cx_nsm_one]⟩⟩
      · intro h; have := congrArg cx_deg h; rw [cx_deg_add, cx_deg_zero] at this; omega
      · exact (cx_Lat.clo a b).add _ _ (cx_Lat.a a b) (cx_Lat.b a b)
      · intro m hm
        show cx_IsI (c0 * cx_pr (a + b) m)
        rw [cx_pr_addL, Rat.mul_add]; exact hm.1.add hm.2
      · show cx_deg (a + b) ≤ e; rw [cx_deg_add]; omega
    have swL : ∀ z, J z → ∃ X : List (B × Rat), (∀ y ∈ X, J y) ∧ cx_Eqd e (cx_comp (cx_E z.1 z.2) (cx_E b c0) : M → cx_S B) (cx_comp (cx_E b c0) (cx_comp (cx_ev X) (cx_E z.1 z.2))) := by
      intro z hz
      have hd := hz.2.deg
      obtain ⟨X, hX, hXe⟩ := ih (cx_Lat a b) ZL z.1 b (cx_Lat.clo a b) hZL prL hz.1.nz hb hz.1.mem (cx_Lat.b a b) (prI _ hz.2).1 (by omega) z.2 c0 hz.1 unitB
      exact ⟨X, fun y hy => ⟨(hX y hy).1, cx_Inn.mul hz.2 (cx_Lat.b a b) (hX y hy).2⟩, hXe⟩
    have swR : ∀ y, J y → ∃ X : List (B × Rat), (∀ x ∈ X, J x) ∧ cx_Eqd e (cx_comp (cx_E a c0) (cx_E y.1 y.2) : M → cx_S B) (cx_comp (cx_E y.1 y.2) (cx_comp (cx_ev X) (cx_E a c0))) := by
      intro z hz
      have hd := hz.2.deg
      obtain ⟨X, hX, hXe⟩ := ih (cx_Lat a b) ZL a z.1 (cx_Lat.clo a b) hZL prL ha hz.1.nz (cx_Lat.a a b) hz.1.mem (prI _ hz.2).2 (by omega) c0 z.2 unitA hz.1
      exact ⟨X, fun y hy => ⟨(hX y hy).1, cx_Inn.mul' (cx_Lat.a a b) hz.2 (hX y hy).2⟩, hXe⟩
    have hpent : cx_comp (cx_E a c0) (cx_E b c0) = (cx_comp (cx_E b c0) (cx_comp (cx_E (a + b) c0) (cx_E a c0)) : M → cx_S B) := cx_penta ha hb (by rw [hwd]; exact hc0)
    obtain ⟨P, hP, heP⟩ := cx_mix_lefts hb hpent Jab swL l2 (cx_Mix.rep (cx_I := J) (u := (a, c0)) l1)
    obtain ⟨Q, hQ, heQ⟩ := cx_mix_right ha swR hP
    rw [cx_ev_rep ha, ← hq', ← hc'] at heP
    rw [← hq'] at heQ
    have main : cx_Eqd e (cx_comp (cx_E a q) (cx_E b c) : M → cx_S B) (cx_comp (cx_E b c) (cx_comp (cx_ev Q) (cx_E a q))) := heP.trans (cx_Eqd.comp cx_Eqd.rfl' heQ)

    have T2 := cx_Inn.clo a b
    let κ : B → Rat := fun x => cx_pr x (cx_p b : M) / cx_pr a (cx_p x : M)
    obtain ⟨ord, hnod, hmem, hsuf⟩ := cx_suf_of M (T := cx_Inn a b) κ e (by
      rintro x y hx hy
      have px := prI x hx
      have py := prI y hy
      show _ ↔ cx_pr x (cx_p b : M) / cx_pr a (cx_p x : M) < cx_pr y (cx_p b : M) / cx_pr a (cx_p y : M)
      rw [cx_div_lt px.2 py.2]
      have key : w * cx_pr y (cx_p x : M) = cx_pr y (cx_p b : M) * cx_pr a (cx_p x : M) - cx_pr x (cx_p b : M) * cx_pr a (cx_p y : M) := by
        obtain ⟨i, j, rfl⟩ := hx
        obtain ⟨i', j', rfl⟩ := hy
        simp only [cx_pr_addL, cx_pr_nsm, cx_p_sum, cx_p_nsm, cx_pr_self, hwd, hba]
        grind
      constructor
      · intro h
        have : 0 < w * cx_pr y (cx_p x : M) := Rat.mul_pos hw h
        grind
      · intro h
        by_cases h2 : 0 < cx_pr y (cx_p x : M)
        · exact h2
        · have h3 : 0 ≤ w * (- cx_pr y (cx_p x : M)) := Rat.mul_nonneg (by grind) (by grind)
          grind)
    have hTI : ∀ x, cx_Inn a b x → T x := by
      rintro x ⟨i, j, rfl⟩
      exact hT.add _ _ (hT.nsm cx_Ta i) (hT.nsm Tb j)
    obtain ⟨c2, hc2, hec2⟩ := cx_sortW (M := M) (T := cx_Inn a b) (Z := ZL) (e := e) ord hsuf (by
      intro z hz x hx hzx q1 c1 hq1 hc1
      have mz := (hmem z).1 hz
      have mx := (hmem x).1 hx
      have dz := mz.2.1.deg
      have dx := mx.2.1.deg
      obtain ⟨X, hX, hXe⟩ := ih (cx_Inn a b) ZL z x T2 (fun m u hm hu => hZL m u hm hu.lat) (fun u hu => prL u hu.lat) mz.1 mx.1 mz.2.1 mx.2.1 hzx (by omega) q1 c1 hq1 hc1
      refine ⟨X, fun y hy => ⟨(hX y hy).1, ?_⟩, hXe⟩
      obtain ⟨i, j, hij⟩ := (hX y hy).2
      rw [hij, cx_pr_addL, cx_pr_nsm, cx_pr_nsm, cx_pr_self, Rat.mul_zero, Rat.add_zero]
      have h1 : (0 : Rat) ≤ (i : Rat) := by exact_mod_cast Nat.zero_le i
      have e1 : ((i + 1 : Nat) : Rat) = (i : Rat) + 1 := by exact_mod_cast rfl
      rw [e1]
      have h3 : 0 ≤ (i : Rat) * cx_pr z (cx_p x : M) := Rat.mul_nonneg h1 (by grind)
      grind) Q (by
      intro y hy
      have h := hQ y hy
      exact ⟨⟨h.1.nz, h.2, h.1.pos, h.1.whole, h.1.deg⟩, (hmem y.1).2 ⟨h.1.nz, h.2, h.1.deg⟩⟩) (fun _ => 0) (by
      intro x hx
      have h := (hmem x).1 hx
      exact ⟨h.1, h.2.1, by show (0 : Rat) ≤ 0; grind, fun m _ => by show cx_IsI (0 * _); rw [Rat.zero_mul]; exact cx_IsI.zero, h.2.2⟩)
    rw [cx_nf_zero (fun x hx => ((hmem x).1 hx).1), cx_comp_I] at hec2

    let g : M → cx_S B := cx_ev [(b, -c), (a, q), (b, c), (a, -q)]
    have gg : cx_Good g := cx_ev_good (by intro x hx; simp only [List.mem_cons, List.not_mem_nil, or_false] at hx; rcases hx with rfl | rfl | rfl | rfl <;> assumption)
    have eg : cx_Eqd e g (cx_ev Q) := by
      have h1 := cx_Eqd.comp (cx_Eqd.rfl' (d := e) (g := (cx_E b (-c) : M → cx_S B))) (cx_Eqd.comp main (cx_Eqd.rfl' (d := e) (g := (cx_E a (-q) : M → cx_S B))))
      have h2 : g = cx_comp (cx_E b (-c)) (cx_comp (cx_comp (cx_E a q) (cx_E b c)) (cx_E a (-q))) := by
        show cx_ev [(b, -c), (a, q), (b, c), (a, -q)] = _
        rw [cx_ev_cons, cx_ev_cons, cx_ev_cons, cx_ev_one, cx_comp_assoc]
      have h3 : cx_comp (cx_E b (-c)) (cx_comp (cx_comp (cx_E b c) (cx_comp (cx_ev Q) (cx_E a q))) (cx_E a (-q))) = (cx_ev Q : M → cx_S B) := by
        rw [cx_comp_assoc, cx_comp_assoc, cx_E_add ha, ← cx_comp_assoc (cx_E b (-c)), cx_E_add hb, show -c + c = 0 by grind, show q + -q = 0 by grind, cx_E_zero ha, cx_E_zero hb, cx_I_comp, cx_comp_I]
      rw [h2]
      rw [h3] at h1
      exact h1
    have wneg : ∀ (x : B) (c : Rat), cx_Wl Z (x, c) → cx_Wl Z (x, -c) := by
      intro x c h m hm
      obtain ⟨z, hz⟩ := h m hm
      refine ⟨-z, ?_⟩
      have h1 : ((-z : Int) : Rat) = -(z : Rat) := by exact_mod_cast rfl
      rw [h1, ← hz]; show -c * cx_pr x m = -(c * cx_pr x m); grind
    have wg : cx_Whole e Z g := cx_ev_whole hT hZ (by
      intro x hx
      simp only [List.mem_cons, List.not_mem_nil, or_false] at hx
      rcases hx with rfl | rfl | rfl | rfl
      · exact ⟨Tb, wneg _ _ hc.whole⟩
      · exact ⟨cx_Ta, hq.whole⟩
      · exact ⟨Tb, hc.whole⟩
      · exact ⟨cx_Ta, wneg _ _ hq.whole⟩)
    have egn := eg.trans hec2
    have sg : cx_Supd e (cx_Inn a b) g := ((cx_nf_sup T2 (fun x hx => ((hmem x).1 hx).2.1) c2).upto e).eqd egn.symm
    obtain ⟨c3, hc3, _, hw3⟩ := cx_nf_exists (e := e) T2 (fun m u hm hu => hZ m u hm (hTI u hu)) hnod (fun x hx => ⟨((hmem x).1 hx).1, ((hmem x).1 hx).2.1⟩) (fun x h1 h2 h3 => (hmem x).2 ⟨h1, h3, h2⟩) gg sg wg e (Nat.le_refl e)
    have huniq := cx_nf_unique (M := M) hnod (fun x hx => ((hmem x).1 hx).1) (egn.symm.trans hc3)
    refine ⟨ord.map (fun x => (x, c2 x)), ?_, main.trans (cx_Eqd.comp cx_Eqd.rfl' (cx_Eqd.comp hec2 cx_Eqd.rfl'))⟩
    intro y hy
    obtain ⟨x, hx, rfl⟩ := List.mem_map.1 hy
    have hm := (hmem x).1 hx
    have h2 := hc2 x hx
    refine ⟨⟨hm.1, hTI x hm.2.1, h2.1.pos, ?_, hm.2.2⟩, hm.2.1⟩
    rw [huniq x hx hm.2.2]
    exact hw3 x hx
abbrev cx_Near {B : Type} [Zero B] [Add B] [Mul (cx_S B)] [One (cx_S B)] [Add (cx_S B)] [Zero (cx_S B)] [Inhabited (cx_Idx B)] (T : B → Prop) (d : Nat) (t u t' : B → Rat) : Prop := (∀ b, T b → cx_deg b ≤ d → 0 < t b → 0 < t' b) ∧ (∀ b, T b → cx_deg b ≤ d → t b < 0 → t' b < 0) ∧ (∀ b, T b → cx_deg b ≤ d → t b = 0 → 0 < u b → 0 < t' b) ∧ (∀ b, T b → cx_deg b ≤ d → t b = 0 → u b = 0 → t' b = 0) ∧ (∀ b, T b → cx_deg b ≤ d → t b = 0 → u b < 0 → t' b < 0)
theorem cx_Near.pos {B : Type} [Zero B] [Add B] [Mul (cx_S B)] [One (cx_S B)] [Add (cx_S B)] [Zero (cx_S B)] [Inhabited (cx_Idx B)] {T : B → Prop} {d : Nat} {t u t' : B → Rat} (hh_ : cx_Near T d t u t') : ∀ b, T b → cx_deg b ≤ d → 0 < t b → 0 < t' b := hh_.1
theorem cx_Near.neg {B : Type} [Zero B] [Add B] [Mul (cx_S B)] [One (cx_S B)] [Add (cx_S B)] [Zero (cx_S B)] [Inhabited (cx_Idx B)] {T : B → Prop} {d : Nat} {t u t' : B → Rat} (hh_ : cx_Near T d t u t') : ∀ b, T b → cx_deg b ≤ d → t b < 0 → t' b < 0 := hh_.2.1
theorem cx_Near.pos0 {B : Type} [Zero B] [Add B] [Mul (cx_S B)] [One (cx_S B)] [Add (cx_S B)] [Zero (cx_S B)] [Inhabited (cx_Idx B)] {T : B → Prop} {d : Nat} {t u t' : B → Rat} (hh_ : cx_Near T d t u t') : ∀ b, T b → cx_deg b ≤ d → t b = 0 → 0 < u b → 0 < t' b := hh_.2.2.1
theorem cx_Near.nul0 {B : Type} [Zero B] [Add B] [Mul (cx_S B)] [One (cx_S B)] [Add (cx_S B)] [Zero (cx_S B)] [Inhabited (cx_Idx B)] {T : B → Prop} {d : Nat} {t u t' : B → Rat} (hh_ : cx_Near T d t u t') : ∀ b, T b → cx_deg b ≤ d → t b = 0 → u b = 0 → t' b = 0 := hh_.2.2.2.1
theorem cx_Near.neg0 {B : Type} [Zero B] [Add B] [Mul (cx_S B)] [One (cx_S B)] [Add (cx_S B)] [Zero (cx_S B)] [Inhabited (cx_Idx B)] {T : B → Prop} {d : Nat} {t u t' : B → Rat} (hh_ : cx_Near T d t u t') : ∀ b, T b → cx_deg b ≤ d → t b = 0 → u b < 0 → t' b < 0 := hh_.2.2.2.2
theorem cx_Fac.near {B : Type} [Zero B] [Add B] [Mul (cx_S B)] [One (cx_S B)] [Add (cx_S B)] [Zero (cx_S B)] [Inhabited (cx_Idx B)] {M : Type} [Add M] [Inhabited (PLift (cx_MGl M))] [Inhabited (cx_Tord B M)] {t u t' : B → Rat} {T : B → Prop} {d : Nat} {g : M → cx_S B} {wp w0 wm vp v0 vm : List (B × Rat)} (h : cx_Near T d t u t')
    (f : cx_Fac t T d g wp w0 wm) (f' : cx_Fac u (fun b => T b ∧ t b = 0) d (cx_ev w0 : M → cx_S B) vp v0 vm) : cx_Fac t' T d g (wp ++ vp) v0 (vm ++ wm) := ⟨(by
    refine cx_Lt.append ⟨fun x hx => ?_⟩ ⟨fun x hx => ?_⟩
    · have := f.pos.all x hx; exact ⟨this.1, ⟨this.2.1.1, h.pos _ this.2.1.1 this.2.2 this.2.1.2⟩, this.2.2⟩
    · have := f'.pos.all x hx; exact ⟨this.1, ⟨this.2.1.1.1, h.pos0 _ this.2.1.1.1 this.2.2 this.2.1.1.2 this.2.1.2⟩, this.2.2⟩),
  (⟨fun x hx => by have := f'.nul.all x hx; exact ⟨this.1, ⟨this.2.1.1.1, h.nul0 _ this.2.1.1.1 this.2.2 this.2.1.1.2 this.2.1.2⟩, this.2.2⟩⟩),
  (by
    refine cx_Lt.append ⟨fun x hx => ?_⟩ ⟨fun x hx => ?_⟩
    · have := f'.neg.all x hx; exact ⟨this.1, ⟨this.2.1.1.1, h.neg0 _ this.2.1.1.1 this.2.2 this.2.1.1.2 this.2.1.2⟩, this.2.2⟩
    · have := f.neg.all x hx; exact ⟨this.1, ⟨this.2.1.1, h.neg _ this.2.1.1 this.2.2 this.2.1.2⟩, this.2.2⟩),
  (by
    refine f.eq.trans ?_
    rw [cx_ev_append, cx_ev_append, cx_comp_assoc]
    refine cx_Eqd.comp cx_Eqd.rfl' ?_
    rw [← cx_comp_assoc, ← cx_comp_assoc]
    refine cx_Eqd.comp ?_ cx_Eqd.rfl'
    rw [cx_comp_assoc]
    exact f'.eq)⟩
theorem cx_Fac.minus_none {B : Type} [Zero B] [Add B] [Mul (cx_S B)] [One (cx_S B)] [Add (cx_S B)] [Zero (cx_S B)] [Inhabited (cx_Idx B)] {M : Type} [Add M] [Inhabited (PLift (cx_MGl M))] [Inhabited (cx_Tord B M)] {t : B → Rat} (ht : cx_Fun t) {T : B → Prop} {d : Nat} {g : M → cx_S B} {wp w0 wm : List (B × Rat)} (f : cx_Fac t T d g wp w0 wm)
    (m : M) {b : B} (hb : b ≠ 0) (h : 0 ≤ t b) : (cx_ev wm : M → cx_S B) m b = 0 := by
  have cx_cm : cx_Clo (fun b => t b < 0) := ⟨fun a b h h' => by have e_ := ht.add a b; grind⟩
  exact f.neg.sup cx_cm (fun _ h => h.2) m b hb (by grind)
theorem cx_D_nonneg {B : Type} [Zero B] [Add B] [Mul (cx_S B)] [One (cx_S B)] [Add (cx_S B)] [Zero (cx_S B)] [Inhabited (cx_Idx B)] {b : B} {f : B → B → Rat} (h : ∀ u v, u + v = b → 0 ≤ f u v) : 0 ≤ cx_D b f :=
  cx_sm_nonneg (fun q hq => h q.1 q.2 ((cx_mem_dec _ _ _).1 hq))
theorem cx_bin_nonneg (n k : Nat) : 0 ≤ cx_bin (n : Rat) k := by
  induction n generalizing k with
  | zero =>
    rw [show ((0 : Nat) : Rat) = 0 from rfl]
    cases k with
    | zero => show (0 : Rat) ≤ 1; grind
    | succ k => rw [cx_bin_z]; grind
  | succ n ih =>
    have hn : ((n + 1 : Nat) : Rat) = (n : Rat) + 1 := by exact_mod_cast rfl
    rw [hn]
    cases k with
    | zero => show (0 : Rat) ≤ 1; grind
    | succ k => rw [cx_bin_pascal]; have := ih k; have := ih (k + 1); grind
theorem cx_E_nonneg {B : Type} [Zero B] [Add B] [Mul (cx_S B)] [One (cx_S B)] [Add (cx_S B)] [Zero (cx_S B)] [Inhabited (cx_Idx B)] {M : Type} [Add M] [Inhabited (PLift (cx_MGl M))] [Inhabited (cx_Tord B M)] {a : B} {c : Rat} {m : M} (h : cx_IsI (c * cx_pr a m)) (h0 : 0 ≤ c * cx_pr a m) (b : B) : 0 ≤ (cx_E a c : M → cx_S B) m b := by
  obtain ⟨n, hn⟩ := cx_nat_of h h0
  show 0 ≤ cx_sub a (cx_bin (c * cx_pr a m)) b
  rw [hn]
  unfold cx_sub
  split
  · exact cx_bin_nonneg _ _
  · grind
def cx_Ray {B : Type} [Zero B] [Add B] [Mul (cx_S B)] [One (cx_S B)] [Add (cx_S B)] [Zero (cx_S B)] [Inhabited (cx_Idx B)] (a : B) (x : B) : Prop := ∃ k, x = cx_nsm (k + 1) a
theorem cx_Ray.clo {B : Type} [Zero B] [Add B] [Mul (cx_S B)] [One (cx_S B)] [Add (cx_S B)] [Zero (cx_S B)] [Inhabited (cx_Idx B)] (a : B) : cx_Clo (cx_Ray a) := ⟨by rintro x y ⟨i, rfl⟩ ⟨j, rfl⟩; exact ⟨i + 1 + j, by rw [← cx_nsm_add]; rfl⟩⟩
theorem cx_ray_nonneg {B : Type} [Zero B] [Add B] [Mul (cx_S B)] [One (cx_S B)] [Add (cx_S B)] [Zero (cx_S B)] [Inhabited (cx_Idx B)] {M : Type} [Add M] [Inhabited (PLift (cx_MGl M))] [Inhabited (cx_Tord B M)] {a : B} {Z : M → Prop} (hZ : ∀ m u, Z m → cx_Ray a u → Z (m + cx_p u)) {w : List (B × Rat)} (sgn : Rat)
    (hw : ∀ x ∈ w, cx_Ray a x.1 ∧ cx_Wl Z x ∧ 0 ≤ sgn * x.2) (m : M) (hm : Z m) (h0 : 0 ≤ sgn * cx_pr a m) (hs : sgn * sgn = 1) (b : B) : 0 ≤ (cx_ev w : M → cx_S B) m b := by
  classical
  induction w generalizing b with
  | nil =>
    show 0 ≤ (1 : cx_S B) b
    by_cases hb : b = 0
    · rw [hb, cx_one_zero]; grind
    · rw [cx_one_ne hb]; grind
  | cons x w ih =>
    have ih := ih (fun y hy => hw y (by simp [hy]))
    have sw : cx_Sup (cx_Ray a) (cx_ev w : M → cx_S B) := cx_ev_sup (cx_Ray.clo a) (fun y hy => (hw y (by simp [hy])).1)
    have hx := hw x (by simp)
    rw [cx_ev_cons, cx_comp_def]
    refine cx_D_nonneg (fun u s _ => ?_)
    have key : ∀ m', Z m' → cx_pr a m' = cx_pr a m → 0 ≤ (cx_E x.1 x.2 : M → cx_S B) m' s := by
      intro m' hm' hpr
      refine cx_E_nonneg (hx.2.1 m' hm') ?_ s
      obtain ⟨k, hk⟩ := hx.1
      rw [hk, cx_pr_nsm, hpr]
      have h1 : (0 : Rat) ≤ ((k + 1 : Nat) : Rat) := by exact_mod_cast Nat.zero_le _
      have h2 : 0 ≤ (sgn * x.2) * (sgn * cx_pr a m) := Rat.mul_nonneg hx.2.2 h0
      have h3 : (sgn * x.2) * (sgn * cx_pr a m) = (sgn * sgn) * (x.2 * cx_pr a m) := by grind
      rw [h3, hs, Rat.one_mul] at h2
      have h4 : 0 ≤ ((k + 1 : Nat) : Rat) * (x.2 * cx_pr a m) := Rat.mul_nonneg h1 h2
      have h5 : ((k + 1 : Nat) : Rat) * (x.2 * cx_pr a m) = x.2 * (((k + 1 : Nat) : Rat) * cx_pr a m) := by grind
      rw [h5] at h4
      exact h4
    by_cases hu : u = 0
    · rw [hu, cx_p_zero]
      exact Rat.mul_nonneg (ih 0) (key m hm rfl)
    · by_cases hr : cx_Ray a u
      · refine Rat.mul_nonneg (ih u) (key _ (hZ m u hm hr) ?_)
        obtain ⟨k, rfl⟩ := hr
        rw [cx_pr_addR, cx_p_nsm, cx_pr_self, Rat.mul_zero, Rat.add_zero]
      · rw [sw m u hu hr, Rat.zero_mul]; grind
theorem cx_cross {B : Type} [Zero B] [Add B] [Mul (cx_S B)] [One (cx_S B)] [Add (cx_S B)] [Zero (cx_S B)] [Inhabited (cx_Idx B)] {M : Type} [Add M] [Inhabited (PLift (cx_MGl M))] [Inhabited (cx_Tord B M)] {a : B} {Z : M → Prop} (hZ : ∀ (m : M) (u : B), Z m → Z (m + cx_p u)) {w : List (B × Rat)} (sgn : Rat) (hs : sgn * sgn = 1)
    (hw : ∀ x ∈ w, cx_Ray a x.1 ∧ cx_Wl Z x ∧ 0 ≤ sgn * x.2) {f : M → cx_S B} {m : M} (hm : Z m) {b : B} (h0 : 0 ≤ sgn * cx_pr a (m + cx_p b))
    (hf : ∀ u, cx_deg u ≤ cx_deg b → 0 ≤ f m u) : f m b ≤ cx_comp (cx_ev w) f m b := by
  classical
  have sw : cx_Sup (cx_Ray a) (cx_ev w : M → cx_S B) := cx_ev_sup (cx_Ray.clo a) (fun y hy => (hw y hy).1)
  have cx_one : ∀ m : M, (cx_ev w : M → cx_S B) m 0 = 1 := by
    clear sw
    intro m
    induction w with
    | nil => exact cx_one_zero
    | cons x w ih =>
      rw [cx_ev_cons, cx_comp_def, cx_D_right]
      · rw [ih (fun y hy => hw y (by simp [hy])), Rat.one_mul, cx_p_zero]
        obtain ⟨k, hk⟩ := (hw x (by simp)).1
        show cx_sub x.1 _ 0 = 1
        unfold cx_sub
        rw [cx_deg_zero, Nat.zero_div]
        rw [if_pos (show cx_nsm 0 x.1 = 0 from rfl)]
        rfl
      · intro u v h hv
        have := cx_deg_add u v
        rw [h, cx_deg_zero] at this
        exact absurd (cx_deg_pos v (by omega)) hv
  rw [cx_comp_def]

  have e1 : cx_D b (fun u s => f m u * cx_ev w (m + cx_p u) s) = cx_D b (fun u s => (if s = 0 then f m u else 0) + (if s = 0 then 0 else f m u * cx_ev w (m + cx_p u) s)) := by
    refine cx_D_congr (fun u s _ => ?_)
    by_cases hs0 : s = 0
    · rw [if_pos hs0, if_pos hs0, hs0, cx_one]; grind
    · rw [if_neg hs0, if_neg hs0]; grind
  rw [e1, cx_D_add, cx_D_right b (fun u s => if s = 0 then f m u else 0) (fun u s _ h => if_neg h), if_pos rfl]
  have : 0 ≤ cx_D b (fun u s => if s = 0 then 0 else f m u * cx_ev w (m + cx_p u) s) := by
    refine cx_D_nonneg (fun u s hus => ?_)
    by_cases hs0 : s = 0
    · rw [if_pos hs0]; grind
    · rw [if_neg hs0]
      by_cases hr : cx_Ray a s
      · have hd := cx_deg_add u s
        rw [hus] at hd
        refine Rat.mul_nonneg (hf u (by omega)) (cx_ray_nonneg (fun m u hm _ => hZ m u hm) sgn hw _ (hZ m u hm) ?_ hs s)
        obtain ⟨k, rfl⟩ := hr
        rw [← hus, cx_p_add, cx_pr_addR, cx_pr_addR, cx_p_nsm, cx_pr_self, Rat.mul_zero, Rat.add_zero, ← cx_pr_addR] at h0
        exact h0
      · rw [sw _ s hs0 hr, Rat.mul_zero]; grind
  grind
end

section
def cx_dg {B : Type} [Zero B] [Add B] [Mul (cx_S B)] [One (cx_S B)] [Add (cx_S B)] [Zero (cx_S B)] [Inhabited (cx_Idx B)] (b : B) : Rat := (cx_deg b : Rat)
theorem cx_dg_pos {B : Type} [Zero B] [Add B] [Mul (cx_S B)] [One (cx_S B)] [Add (cx_S B)] [Zero (cx_S B)] [Inhabited (cx_Idx B)] {b : B} (h : b ≠ 0) : 0 < cx_dg b := by
  have : cx_deg b ≠ 0 := fun e => h (cx_deg_pos b e)
  show (0 : Rat) < (cx_deg b : Rat)
  have h2 : 0 < cx_deg b := by omega
  exact_mod_cast h2
theorem cx_fun_dg {B : Type} [Zero B] [Add B] [Mul (cx_S B)] [One (cx_S B)] [Add (cx_S B)] [Zero (cx_S B)] [Inhabited (cx_Idx B)] : cx_Fun (cx_dg : B → Rat) := ⟨fun a b => by show ((cx_deg (a + b) : Nat) : Rat) = _; rw [cx_deg_add]; show _ = (cx_deg a : Rat) + (cx_deg b : Rat); exact_mod_cast rfl⟩
theorem cx_fun_pr {B : Type} [Zero B] [Add B] [Mul (cx_S B)] [One (cx_S B)] [Add (cx_S B)] [Zero (cx_S B)] [Inhabited (cx_Idx B)] {M : Type} [Add M] [Inhabited (PLift (cx_MGl M))] [Inhabited (cx_Tord B M)] (m : M) : cx_Fun (fun b : B => cx_pr b m) := ⟨fun a b => cx_pr_addL a b m⟩
theorem cx_Fun.lin {B : Type} [Zero B] [Add B] [Mul (cx_S B)] [One (cx_S B)] [Add (cx_S B)] [Zero (cx_S B)] [Inhabited (cx_Idx B)] {t u : B → Rat} (ht : cx_Fun t) (hu : cx_Fun u) (x y : Rat) : cx_Fun (fun b => x * t b + y * u b) :=
  ⟨fun a b => by show x * t (a + b) + y * u (a + b) = _; rw [ht.add, hu.add]; grind⟩
theorem cx_Fun.plus {B : Type} [Zero B] [Add B] [Mul (cx_S B)] [One (cx_S B)] [Add (cx_S B)] [Zero (cx_S B)] [Inhabited (cx_Idx B)] {t u : B → Rat} (ht : cx_Fun t) (hu : cx_Fun u) (e : Rat) : cx_Fun (fun b => t b + e * u b) :=
  ⟨fun a b => by show t (a + b) + e * u (a + b) = _; rw [ht.add, hu.add]; grind⟩
theorem cx_Fun.smul {B : Type} [Zero B] [Add B] [Mul (cx_S B)] [One (cx_S B)] [Add (cx_S B)] [Zero (cx_S B)] [Inhabited (cx_Idx B)] {t : B → Rat} (ht : cx_Fun t) (x : Rat) : cx_Fun (fun b => x * t b) :=
  ⟨fun a b => by show x * t (a + b) = _; rw [ht.add]; grind⟩
abbrev cx_Ptl (B : Type) [Zero B] [Add B] [Mul (cx_S B)] [One (cx_S B)] [Add (cx_S B)] [Zero (cx_S B)] [Inhabited (cx_Idx B)] : Prop := ∀ x y : B, (∀ v : B → Rat, cx_Fun v → v x = v y) → x = y
theorem cx_Pts.pts {B : Type} [Zero B] [Add B] [Mul (cx_S B)] [One (cx_S B)] [Add (cx_S B)] [Zero (cx_S B)] [Inhabited (cx_Idx B)] [Inhabited (PLift (cx_Ptl B))] : ∀ x y : B, (∀ v : B → Rat, cx_Fun v → v x = v y) → x = y := (default : PLift (cx_Ptl B)).down
def cx_Par {B : Type} [Zero B] [Add B] [Mul (cx_S B)] [One (cx_S B)] [Add (cx_S B)] [Zero (cx_S B)] [Inhabited (cx_Idx B)] (a x : B) : Prop := ∀ v : B → Rat, cx_Fun v → v x * cx_dg a = v a * cx_dg x
theorem cx_Par.refl {B : Type} [Zero B] [Add B] [Mul (cx_S B)] [One (cx_S B)] [Add (cx_S B)] [Zero (cx_S B)] [Inhabited (cx_Idx B)] (a : B) : cx_Par a a := fun _ _ => rfl
theorem cx_Par.symm {B : Type} [Zero B] [Add B] [Mul (cx_S B)] [One (cx_S B)] [Add (cx_S B)] [Zero (cx_S B)] [Inhabited (cx_Idx B)] {a x : B} (h : cx_Par a x) : cx_Par x a := fun v hv => (h v hv).symm
theorem cx_canc_pos {x y c : Rat} (hc : 0 < c) (h : x * c = y * c) : x = y := by
  have hc0 : c ≠ 0 := by grind
  have h2 : (x - y) * c = 0 := by grind
  rcases Rat.mul_eq_zero.1 h2 with h3 | h3
  · grind
  · exact absurd h3 hc0
theorem cx_Par.trans {B : Type} [Zero B] [Add B] [Mul (cx_S B)] [One (cx_S B)] [Add (cx_S B)] [Zero (cx_S B)] [Inhabited (cx_Idx B)] {a x y : B} (hx : x ≠ 0) (h : cx_Par a x) (h' : cx_Par x y) : cx_Par a y := by
  intro v hv
  have h1 := h v hv
  have h2 := h' v hv
  refine cx_canc_pos (cx_dg_pos hx) ?_
  grind
theorem cx_Par.clo {B : Type} [Zero B] [Add B] [Mul (cx_S B)] [One (cx_S B)] [Add (cx_S B)] [Zero (cx_S B)] [Inhabited (cx_Idx B)] (a : B) : cx_Clo (cx_Par a) := ⟨fun x y hx hy v hv => by
  have h1 := hx v hv
  have h2 := hy v hv
  rw [hv.add, cx_fun_dg.add]; grind⟩
theorem cx_Par.zero {B : Type} [Zero B] [Add B] [Mul (cx_S B)] [One (cx_S B)] [Add (cx_S B)] [Zero (cx_S B)] [Inhabited (cx_Idx B)] {a x : B} (ha : a ≠ 0) (h : cx_Par a x) {t : B → Rat} (ht : cx_Fun t) (h0 : t a = 0) : t x = 0 := by
  have h1 := h t ht
  refine cx_canc_pos (cx_dg_pos ha) ?_
  rw [h1, h0, Rat.zero_mul, Rat.zero_mul]
theorem cx_Par.form {B : Type} [Zero B] [Add B] [Mul (cx_S B)] [One (cx_S B)] [Add (cx_S B)] [Zero (cx_S B)] [Inhabited (cx_Idx B)] {M : Type} [Add M] [Inhabited (PLift (cx_MGl M))] [Inhabited (cx_Tord B M)] {a x y : B} (ha : a ≠ 0) (hx : cx_Par a x) (hy : cx_Par a y) : cx_pr x (cx_p y : M) = 0 := by
  refine hx.zero ha (cx_fun_pr (cx_p y : M)) ?_
  show cx_pr a (cx_p y : M) = 0
  rw [cx_skew]
  have : cx_pr y (cx_p a : M) = 0 := hy.zero ha (cx_fun_pr (cx_p a : M)) (cx_pr_self a)
  rw [this]; rfl
theorem cx_Par.eq {B : Type} [Zero B] [Add B] [Mul (cx_S B)] [One (cx_S B)] [Add (cx_S B)] [Zero (cx_S B)] [Inhabited (cx_Idx B)] [Inhabited (PLift (cx_Ptl B))] {a x : B} (ha : a ≠ 0) (h : cx_Par a x) (hd : cx_deg x = cx_deg a) : x = a := by
  refine cx_Pts.pts x a (fun v hv => cx_canc_pos (cx_dg_pos ha) ?_)
  have := h v hv
  rw [this]; unfold cx_dg; rw [hd]
theorem cx_small (L : List (Rat × Rat)) : ∃ ε : Rat, 0 < ε ∧ ∀ e, 0 < e → e ≤ ε → ∀ q ∈ L, (0 < q.1 → 0 < q.1 + e * q.2) ∧ (q.1 < 0 → q.1 + e * q.2 < 0) := by
  induction L with
  | nil => exact ⟨1, by grind, fun e _ _ q hq => by simp at hq⟩
  | cons q L ih =>
    obtain ⟨ε, hε, h⟩ := ih

    have cx_one : ∀ x y : Rat, 0 < x → ∃ δ : Rat, 0 < δ ∧ ∀ e, 0 < e → e ≤ δ → 0 < x + e * y := by
      intro x y hx
      by_cases hy : 0 ≤ y
      · refine ⟨1, by grind, fun e he _ => ?_⟩
        have := Rat.mul_nonneg (by grind : 0 ≤ e) hy
        grind
      · have hy' : 0 < -y := by grind
        have hi : 0 < (-y)⁻¹ := Rat.inv_pos.2 hy'
        refine ⟨x * (-y)⁻¹ * (1/2), ?_, fun e he hle => ?_⟩
        · exact Rat.mul_pos (Rat.mul_pos hx hi) (by grind)
        · have h1 : e * (-y) ≤ x * (-y)⁻¹ * (1/2) * (-y) := Rat.mul_le_mul_of_nonneg_right hle (by grind)
          have h2 : (-y)⁻¹ * (-y) = 1 := Rat.inv_mul_cancel _ (by grind)
          have h3 : x * (-y)⁻¹ * (1/2) * (-y) = x * (1/2) * ((-y)⁻¹ * (-y)) := by grind
          rw [h3, h2] at h1
          grind
    have two : ∃ δ : Rat, 0 < δ ∧ ∀ e, 0 < e → e ≤ δ → (0 < q.1 → 0 < q.1 + e * q.2) ∧ (q.1 < 0 → q.1 + e * q.2 < 0) := by
      by_cases h0 : 0 < q.1
      · obtain ⟨δ, h1, h2⟩ := cx_one q.1 q.2 h0
        exact ⟨δ, h1, fun e he hl => ⟨fun _ => h2 e he hl, fun h => by grind⟩⟩
      · by_cases h0' : q.1 < 0
        · obtain ⟨δ, h1, h2⟩ := cx_one (-q.1) (-q.2) (by grind)
          exact ⟨δ, h1, fun e he hl => ⟨fun h => by grind, fun _ => by have := h2 e he hl; grind⟩⟩
        · exact ⟨1, by grind, fun e _ _ => ⟨fun h => by grind, fun h => by grind⟩⟩
    obtain ⟨δ, hδ, h2⟩ := two
    by_cases hle : ε ≤ δ
    · refine ⟨ε, hε, fun e he hl r hr => ?_⟩
      rcases List.mem_cons.1 hr with rfl | hr
      · exact h2 e he (by grind)
      · exact h e he hl r hr
    · refine ⟨δ, hδ, fun e he hl r hr => ?_⟩
      rcases List.mem_cons.1 hr with rfl | hr
      · exact h2 e he hl
      · exact h e he (by grind) r hr
def cx_All {B : Type} [Zero B] [Add B] [Mul (cx_S B)] [One (cx_S B)] [Add (cx_S B)] [Zero (cx_S B)] [Inhabited (cx_Idx B)] : B → Prop := fun _ => True
theorem cx_near_small {B : Type} [Zero B] [Add B] [Mul (cx_S B)] [One (cx_S B)] [Add (cx_S B)] [Zero (cx_S B)] [Inhabited (cx_Idx B)] (d : Nat) (t u : B → Rat) : ∃ ε : Rat, 0 < ε ∧ ∀ e, 0 < e → e ≤ ε → cx_Near cx_All d t u (fun b => t b + e * u b) := by
  obtain ⟨ε, hε, h⟩ := cx_small ((cx_lst d : List B).map fun b => (t b, u b))
  refine ⟨ε, hε, fun e he hl => ?_⟩
  have key : ∀ b : B, cx_deg b ≤ d → (0 < t b → 0 < t b + e * u b) ∧ (t b < 0 → t b + e * u b < 0) := fun b hb =>
    h e he hl (t b, u b) (List.mem_map.2 ⟨b, (cx_mem_lst d b).2 hb, rfl⟩)
  refine ⟨fun b _ hb => (key b hb).1, fun b _ hb => (key b hb).2, fun b _ _ h0 h1 => ?_, fun b _ _ h0 h1 => ?_, fun b _ _ h0 h1 => ?_⟩
  · show 0 < t b + e * u b; rw [h0]; have := Rat.mul_pos he h1; grind
  · show t b + e * u b = 0; rw [h0, h1]; grind
  · show t b + e * u b < 0; rw [h0]
    have := Rat.mul_pos he (by grind : 0 < - u b); grind
theorem cx_generic {B : Type} [Zero B] [Add B] [Mul (cx_S B)] [One (cx_S B)] [Add (cx_S B)] [Zero (cx_S B)] [Inhabited (cx_Idx B)] (V : (B → Rat) → Prop) (hV : ∀ u v, V u → V v → ∀ e : Rat, V (fun b => u b + e * v b)) (h0 : ∃ v, V v)
    (L : List ((B × Rat) × (B × Rat))) (hL : ∀ q ∈ L, ∃ v, V v ∧ v q.1.1 * q.1.2 + v q.2.1 * q.2.2 ≠ 0) :
    ∃ v, V v ∧ ∀ q ∈ L, v q.1.1 * q.1.2 + v q.2.1 * q.2.2 ≠ 0 := by
  induction L with
  | nil => obtain ⟨v, hv⟩ := h0; exact ⟨v, hv, fun q hq => by simp at hq⟩
  | cons q L ih =>
    obtain ⟨v, hv, h1⟩ := ih (fun r hr => hL r (by simp [hr]))
    obtain ⟨v', hv', h2⟩ := hL q (by simp)
    let cx_ev (w : B → Rat) (r : (B × Rat) × (B × Rat)) : Rat := w r.1.1 * r.1.2 + w r.2.1 * r.2.2
    obtain ⟨ε, hε, hs⟩ := cx_small ((q :: L).map fun r => (cx_ev v r, cx_ev v' r))
    have hs := hs ε hε (by grind)
    refine ⟨fun b => v b + ε * v' b, hV v v' hv hv' ε, fun r hr => ?_⟩
    have e1 : (v r.1.1 + ε * v' r.1.1) * r.1.2 + (v r.2.1 + ε * v' r.2.1) * r.2.2 = cx_ev v r + ε * cx_ev v' r := by
      show _ = (v r.1.1 * r.1.2 + v r.2.1 * r.2.2) + ε * (v' r.1.1 * r.1.2 + v' r.2.1 * r.2.2); grind
    show (v r.1.1 + ε * v' r.1.1) * r.1.2 + (v r.2.1 + ε * v' r.2.1) * r.2.2 ≠ 0
    rw [e1]
    have hk := hs (cx_ev v r, cx_ev v' r) (List.mem_map.2 ⟨r, hr, rfl⟩)
    simp only at hk
    by_cases hz : cx_ev v r = 0
    · have hrq : r = q := by
        rcases List.mem_cons.1 hr with h | h
        · exact h
        · exact absurd hz (h1 r h)
      rw [hz, Rat.zero_add]
      intro h
      rcases Rat.mul_eq_zero.1 h with h | h
      · grind
      · rw [hrq] at h; exact h2 h
    · by_cases hp : 0 < cx_ev v r
      · have := hk.1 hp; grind
      · have := hk.2 (by grind); grind
abbrev cx_Gen {B : Type} [Zero B] [Add B] [Mul (cx_S B)] [One (cx_S B)] [Add (cx_S B)] [Zero (cx_S B)] [Inhabited (cx_Idx B)] (K : B → Prop) (d : Nat) (t : B → Rat) : Prop := (cx_Fun t) ∧ (∀ b, b ≠ 0 → cx_deg b ≤ d → (t b = 0 ↔ K b))
theorem cx_Gen.f {B : Type} [Zero B] [Add B] [Mul (cx_S B)] [One (cx_S B)] [Add (cx_S B)] [Zero (cx_S B)] [Inhabited (cx_Idx B)] {K : B → Prop} {d : Nat} {t : B → Rat} (hh_ : cx_Gen K d t) : cx_Fun t := hh_.1
theorem cx_Gen.z {B : Type} [Zero B] [Add B] [Mul (cx_S B)] [One (cx_S B)] [Add (cx_S B)] [Zero (cx_S B)] [Inhabited (cx_Idx B)] {K : B → Prop} {d : Nat} {t : B → Rat} (hh_ : cx_Gen K d t) : ∀ b, b ≠ 0 → cx_deg b ≤ d → (t b = 0 ↔ K b) := hh_.2
def cx_Van {B : Type} [Zero B] [Add B] [Mul (cx_S B)] [One (cx_S B)] [Add (cx_S B)] [Zero (cx_S B)] [Inhabited (cx_Idx B)] (K : B → Prop) (v : B → Rat) : Prop := cx_Fun v ∧ ∀ a, K a → v a = 0
def cx_Sp {B : Type} [Zero B] [Add B] [Mul (cx_S B)] [One (cx_S B)] [Add (cx_S B)] [Zero (cx_S B)] [Inhabited (cx_Idx B)] (K : B → Prop) (b0 b1 : B) : Prop := ∀ v, cx_Van K v → v b0 = 0 → v b1 = 0
def cx_Sgn {B : Type} [Zero B] [Add B] [Mul (cx_S B)] [One (cx_S B)] [Add (cx_S B)] [Zero (cx_S B)] [Inhabited (cx_Idx B)] (d : Nat) (t t' : B → Rat) : Prop := ∀ b : B, cx_deg b ≤ d → (0 < t b ↔ 0 < t' b) ∧ (t b < 0 ↔ t' b < 0)
theorem cx_Sgn.zero {B : Type} [Zero B] [Add B] [Mul (cx_S B)] [One (cx_S B)] [Add (cx_S B)] [Zero (cx_S B)] [Inhabited (cx_Idx B)] {d : Nat} {t t' : B → Rat} (h : cx_Sgn d t t') {b : B} (hb : cx_deg b ≤ d) : t b = 0 ↔ t' b = 0 := by
  have := h b hb
  constructor <;> intro h <;> grind
theorem cx_Sgn.symm {B : Type} [Zero B] [Add B] [Mul (cx_S B)] [One (cx_S B)] [Add (cx_S B)] [Zero (cx_S B)] [Inhabited (cx_Idx B)] {d : Nat} {t t' : B → Rat} (h : cx_Sgn d t t') : cx_Sgn d t' t := fun b hb => ⟨(h b hb).1.symm, (h b hb).2.symm⟩
theorem cx_Sgn.trans {B : Type} [Zero B] [Add B] [Mul (cx_S B)] [One (cx_S B)] [Add (cx_S B)] [Zero (cx_S B)] [Inhabited (cx_Idx B)] {d : Nat} {t t' t'' : B → Rat} (h : cx_Sgn d t t') (h' : cx_Sgn d t' t'') : cx_Sgn d t t'' := fun b hb => ⟨(h b hb).1.trans (h' b hb).1, (h b hb).2.trans (h' b hb).2⟩
theorem cx_Fun.nsm {B : Type} [Zero B] [Add B] [Mul (cx_S B)] [One (cx_S B)] [Add (cx_S B)] [Zero (cx_S B)] [Inhabited (cx_Idx B)] {t : B → Rat} (ht : cx_Fun t) (j : Nat) (a : B) : t (cx_nsm j a) = j * t a := by
  induction j with
  | zero => show t 0 = ((0 : Nat) : Rat) * _; rw [ht.zero, show ((0 : Nat) : Rat) = 0 from rfl, Rat.zero_mul]
  | succ j ih =>
    show t (cx_nsm j a + a) = _
    rw [ht.add, ih]
    have : ((j + 1 : Nat) : Rat) = (j : Rat) + 1 := by exact_mod_cast rfl
    rw [this]; grind
def cx_Lgen {B : Type} [Zero B] [Add B] [Mul (cx_S B)] [One (cx_S B)] [Add (cx_S B)] [Zero (cx_S B)] [Inhabited (cx_Idx B)] (K : B → Prop) (d : Nat) (T t : B → Rat) : Prop :=
  ∀ b0 b1 : B, b0 ≠ 0 → b1 ≠ 0 → cx_deg b0 ≤ d → cx_deg b1 ≤ d → T b0 ≠ 0 → t b0 * T b1 = t b1 * T b0 → cx_Sp K b0 b1
theorem cx_perturb {B : Type} [Zero B] [Add B] [Mul (cx_S B)] [One (cx_S B)] [Add (cx_S B)] [Zero (cx_S B)] [Inhabited (cx_Idx B)] {K : B → Prop} {d : Nat} {T t : B → Rat} (ht : cx_Gen K d t) (hKd : cx_Van K t) (hT : cx_Van K T) :
    ∃ t', cx_Gen K d t' ∧ cx_Van K t' ∧ cx_Sgn d t t' ∧ cx_Lgen K d T t' := by
  classical
  let P : List (B × B) := (cx_lst d).flatMap fun b0 => (cx_lst d).map fun b1 => (b0, b1)
  let L : List ((B × Rat) × (B × Rat)) := (P.filter (fun q => decide (T q.1 ≠ 0 ∧ ¬ cx_Sp K q.1 q.2))).map fun q => ((q.1, T q.2), (q.2, - T q.1))
  have hP : ∀ b0 b1 : B, cx_deg b0 ≤ d → cx_deg b1 ≤ d → (b0, b1) ∈ P := by
    intro b0 b1 h0 h1
    exact List.mem_flatMap.2 ⟨b0, (cx_mem_lst d b0).2 h0, List.mem_map.2 ⟨b1, (cx_mem_lst d b1).2 h1, rfl⟩⟩
  obtain ⟨v, hv, hgen⟩ := cx_generic (cx_Van K) (fun u v hu hv e => ⟨hu.1.plus hv.1 e, fun a ha => by show u a + e * v a = 0; rw [hu.2 a ha, hv.2 a ha]; grind⟩) ⟨T, hT⟩ L (by
    intro q hq
    obtain ⟨⟨b0, b1⟩, hb, rfl⟩ := List.mem_map.1 hq
    have hb := (List.mem_filter.1 hb).2
    simp only [decide_eq_true_eq] at hb
    obtain ⟨hT0, hns⟩ := hb
    have : ∃ v, cx_Van K v ∧ v b0 = 0 ∧ v b1 ≠ 0 := by
      refine Classical.byContradiction (fun hno => hns (fun v hv h0 => ?_))
      exact Classical.byContradiction (fun h1 => hno ⟨v, hv, h0, h1⟩)
    obtain ⟨v, hv, h0, h1⟩ := this
    refine ⟨v, hv, ?_⟩
    show v b0 * T b1 + v b1 * - T b0 ≠ 0
    rw [h0]
    intro h
    have h3 : v b1 * T b0 = 0 := by grind
    rcases Rat.mul_eq_zero.1 h3 with h | h
    · exact h1 h
    · exact hT0 h)
  obtain ⟨ε1, hε1, hn⟩ := cx_near_small d t v
  let evq (w : B → Rat) (r : (B × Rat) × (B × Rat)) : Rat := w r.1.1 * r.1.2 + w r.2.1 * r.2.2
  obtain ⟨ε2, hε2, hs⟩ := cx_small (L.map fun r => (evq t r, evq v r))
  obtain ⟨ε, hε, hle1, hle2⟩ : ∃ ε : Rat, 0 < ε ∧ ε ≤ ε1 ∧ ε ≤ ε2 := by
    by_cases h : ε1 ≤ ε2
    · exact ⟨ε1, hε1, by grind, h⟩
    · exact ⟨ε2, hε2, by grind, by grind⟩
  have hn := hn ε hε hle1
  have hs := hs ε hε hle2
  have hF : cx_Fun (fun b => t b + ε * v b) := ht.f.plus hv.1 ε
  have hvan : cx_Van K (fun b => t b + ε * v b) := ⟨hF, fun a ha => by show t a + ε * v a = 0; rw [hKd.2 a ha, hv.2 a ha]; grind⟩
  have hsg : cx_Sgn d t (fun b => t b + ε * v b) := by
    intro b hb
    by_cases hb0 : b = 0
    · subst hb0
      have h1 := ht.f.zero
      have h2 : t 0 + ε * v 0 = 0 := hF.zero
      show (0 < t 0 ↔ 0 < t 0 + ε * v 0) ∧ (t 0 < 0 ↔ t 0 + ε * v 0 < 0)
      rw [h2, h1]; exact ⟨Iff.rfl, Iff.rfl⟩
    by_cases h0 : t b = 0
    · have hK := (ht.z b hb0 hb).1 h0
      have h2 : t b + ε * v b = 0 := hvan.2 b hK
      show (0 < t b ↔ 0 < t b + ε * v b) ∧ (t b < 0 ↔ t b + ε * v b < 0)
      rw [h2, h0]; exact ⟨Iff.rfl, Iff.rfl⟩
    · have h1 := hn.pos b trivial hb
      have h2 := hn.neg b trivial hb
      show (0 < t b ↔ 0 < t b + ε * v b) ∧ (t b < 0 ↔ t b + ε * v b < 0)
      constructor
      · constructor
        · exact h1
        · intro h; by_cases h3 : 0 < t b
          · exact h3
          · have := h2 (by grind); grind
      · constructor
        · exact h2
        · intro h; by_cases h3 : t b < 0
          · exact h3
          · have := h1 (by grind); grind
  refine ⟨fun b => t b + ε * v b, ⟨hF, fun b hb hd => ?_⟩, hvan, hsg, ?_⟩
  · rw [← hsg.zero hd]; exact ht.z b hb hd
  · intro b0 b1 hb0 hb1 hd0 hd1 hT0 heq
    refine Classical.byContradiction (fun hns => ?_)
    have hmem : ((b0, T b1), (b1, - T b0)) ∈ L := List.mem_map.2 ⟨(b0, b1), List.mem_filter.2 ⟨hP b0 b1 hd0 hd1, by simp only [decide_eq_true_eq]; exact ⟨hT0, hns⟩⟩, rfl⟩
    have hg := hgen _ hmem
    have hk := hs (evq t ((b0, T b1), (b1, - T b0)), evq v ((b0, T b1), (b1, - T b0))) (List.mem_map.2 ⟨_, hmem, rfl⟩)
    simp only at hg hk
    have e1 : evq t ((b0, T b1), (b1, - T b0)) + ε * evq v ((b0, T b1), (b1, - T b0)) = 0 := by
      show (t b0 * T b1 + t b1 * - T b0) + ε * (v b0 * T b1 + v b1 * - T b0) = 0
      simp only at heq
      grind
    have e2 : evq v ((b0, T b1), (b1, - T b0)) ≠ 0 := hg
    by_cases hz : evq t ((b0, T b1), (b1, - T b0)) = 0
    · rw [hz, Rat.zero_add] at e1
      rcases Rat.mul_eq_zero.1 e1 with h | h
      · grind
      · exact e2 h
    · by_cases hp : 0 < evq t ((b0, T b1), (b1, - T b0))
      · have := hk.1 hp; grind
      · have := hk.2 (by grind); grind
end

section
theorem cx_least {α : Type} (l : List α) (f : α → Rat) (h : l ≠ []) : ∃ a ∈ l, ∀ b ∈ l, f a ≤ f b := by
  induction l with
  | nil => exact absurd rfl h
  | cons x l ih =>
    by_cases hl : l = []
    · subst hl; exact ⟨x, by simp, fun b hb => by simp at hb; subst hb; grind⟩
    · obtain ⟨a, ha, hm⟩ := ih hl
      by_cases hx : f x ≤ f a
      · exact ⟨x, by simp, fun b hb => by
          rcases List.mem_cons.1 hb with rfl | hb
          · grind
          · have := hm b hb; grind⟩
      · exact ⟨a, by simp [ha], fun b hb => by
          rcases List.mem_cons.1 hb with rfl | hb
          · grind
          · exact hm b hb⟩
noncomputable def cx_cnt {B : Type} [Zero B] [Add B] [Mul (cx_S B)] [One (cx_S B)] [Add (cx_S B)] [Zero (cx_S B)] [Inhabited (cx_Idx B)] (d : Nat) (T t : B → Rat) : Nat := ((cx_lst d : List B).filter (fun b => decide (t b * T b < 0))).length
theorem cx_filter_len_lt {α : Type} (l : List α) (P Q : α → Bool) (hPQ : ∀ a ∈ l, P a = true → Q a = true) (h : ∃ a ∈ l, P a = false ∧ Q a = true) :
    (l.filter P).length < (l.filter Q).length := by
  have mono : ∀ l : List α, (∀ a ∈ l, P a = true → Q a = true) → (l.filter P).length ≤ (l.filter Q).length := by
    intro l hl
    induction l with
    | nil => simp
    | cons x l ih =>
      have := ih (fun a ha => hl a (by simp [ha]))
      have hx := hl x (by simp)
      by_cases h1 : P x = true
      · rw [List.filter_cons_of_pos h1, List.filter_cons_of_pos (hx h1)]; simp; omega
      · rw [List.filter_cons_of_neg h1]
        by_cases h2 : Q x = true
        · rw [List.filter_cons_of_pos h2]; simp; omega
        · rw [List.filter_cons_of_neg h2]; omega
  induction l with
  | nil => obtain ⟨a, ha, _⟩ := h; simp at ha
  | cons x l ih =>
    have hm := mono l (fun a ha => hPQ a (by simp [ha]))
    have hx := hPQ x (by simp)
    obtain ⟨a, ha, h1, h2⟩ := h
    by_cases hP : P x = true
    · rw [List.filter_cons_of_pos hP, List.filter_cons_of_pos (hx hP)]
      have hax : a ≠ x := fun e => by subst e; rw [hP] at h1; exact absurd h1 (by simp)
      have hal : a ∈ l := by
        rcases List.mem_cons.1 ha with h | h
        · exact absurd h hax
        · exact h
      have := ih (fun a ha => hPQ a (by simp [ha])) ⟨a, hal, h1, h2⟩
      simp; omega
    · rw [List.filter_cons_of_neg hP]
      by_cases hQ : Q x = true
      · rw [List.filter_cons_of_pos hQ]; simp; omega
      · rw [List.filter_cons_of_neg hQ]
        have hax : a ≠ x := fun e => by subst e; exact hQ h2
        have hal : a ∈ l := by
          rcases List.mem_cons.1 ha with h | h
          · exact absurd h hax
          · exact h
        exact ih (fun a ha => hPQ a (by simp [ha])) ⟨a, hal, h1, h2⟩
theorem cx_mul_neg {x y : Rat} (h : x * y < 0) : (0 < x ∧ y < 0) ∨ (x < 0 ∧ 0 < y) := by
  by_cases hx : 0 < x
  · by_cases hy : y < 0
    · exact .inl ⟨hx, hy⟩
    · have := Rat.mul_nonneg (by grind : 0 ≤ x) (by grind : 0 ≤ y); grind
  · by_cases hy : 0 < y
    · by_cases hx' : x < 0
      · exact .inr ⟨hx', hy⟩
      · have : x = 0 := by grind
        subst this; grind
    · have := Rat.mul_nonneg (by grind : 0 ≤ -x) (by grind : 0 ≤ -y); grind
abbrev cx_Joint {B : Type} [Zero B] [Add B] [Mul (cx_S B)] [One (cx_S B)] [Add (cx_S B)] [Zero (cx_S B)] [Inhabited (cx_Idx B)] (K : B → Prop) (d : Nat) (T t1 : B → Rat) (b0 : B) : Prop := (cx_Van K t1) ∧ (b0 ≠ 0) ∧ (cx_deg b0 ≤ d) ∧ (T b0 ≠ 0) ∧ (t1 b0 = 0) ∧ (∀ b, b ≠ 0 → cx_deg b ≤ d → t1 b = 0 → cx_Sp K b0 b)
theorem cx_Joint.van {B : Type} [Zero B] [Add B] [Mul (cx_S B)] [One (cx_S B)] [Add (cx_S B)] [Zero (cx_S B)] [Inhabited (cx_Idx B)] {K : B → Prop} {d : Nat} {T t1 : B → Rat} {b0 : B} (hh_ : cx_Joint K d T t1 b0) : cx_Van K t1 := hh_.1
theorem cx_Joint.nz {B : Type} [Zero B] [Add B] [Mul (cx_S B)] [One (cx_S B)] [Add (cx_S B)] [Zero (cx_S B)] [Inhabited (cx_Idx B)] {K : B → Prop} {d : Nat} {T t1 : B → Rat} {b0 : B} (hh_ : cx_Joint K d T t1 b0) : b0 ≠ 0 := hh_.2.1
theorem cx_Joint.dg {B : Type} [Zero B] [Add B] [Mul (cx_S B)] [One (cx_S B)] [Add (cx_S B)] [Zero (cx_S B)] [Inhabited (cx_Idx B)] {K : B → Prop} {d : Nat} {T t1 : B → Rat} {b0 : B} (hh_ : cx_Joint K d T t1 b0) : cx_deg b0 ≤ d := hh_.2.2.1
theorem cx_Joint.tr {B : Type} [Zero B] [Add B] [Mul (cx_S B)] [One (cx_S B)] [Add (cx_S B)] [Zero (cx_S B)] [Inhabited (cx_Idx B)] {K : B → Prop} {d : Nat} {T t1 : B → Rat} {b0 : B} (hh_ : cx_Joint K d T t1 b0) : T b0 ≠ 0 := hh_.2.2.2.1
theorem cx_Joint.zr {B : Type} [Zero B] [Add B] [Mul (cx_S B)] [One (cx_S B)] [Add (cx_S B)] [Zero (cx_S B)] [Inhabited (cx_Idx B)] {K : B → Prop} {d : Nat} {T t1 : B → Rat} {b0 : B} (hh_ : cx_Joint K d T t1 b0) : t1 b0 = 0 := hh_.2.2.2.2.1
theorem cx_Joint.sp {B : Type} [Zero B] [Add B] [Mul (cx_S B)] [One (cx_S B)] [Add (cx_S B)] [Zero (cx_S B)] [Inhabited (cx_Idx B)] {K : B → Prop} {d : Nat} {T t1 : B → Rat} {b0 : B} (hh_ : cx_Joint K d T t1 b0) : ∀ b, b ≠ 0 → cx_deg b ≤ d → t1 b = 0 → cx_Sp K b0 b := hh_.2.2.2.2.2
theorem cx_step {B : Type} [Zero B] [Add B] [Mul (cx_S B)] [One (cx_S B)] [Add (cx_S B)] [Zero (cx_S B)] [Inhabited (cx_Idx B)] {K : B → Prop} {d : Nat} {T t : B → Rat} (ht : cx_Gen K d t) (hKd : cx_Van K t) (hT : cx_Van K T) (hL : cx_Lgen K d T t)
    (hc : ∃ b : B, cx_deg b ≤ d ∧ t b * T b < 0) :
    ∃ (s : Rat) (t' : B → Rat) (b0 : B), 0 < s ∧ cx_Gen K d t' ∧ cx_Van K t' ∧ cx_Lgen K d T t' ∧ cx_cnt d T t' < cx_cnt d T t ∧ cx_Joint K d T (fun b => t b + s * T b) b0 ∧ t b0 * T b0 < 0 ∧
      cx_Near cx_All d (fun b => t b + s * T b) (fun b => - T b) t ∧ cx_Near cx_All d (fun b => t b + s * T b) T t' ∧ (∃ s', 0 < s' ∧ ∀ b, t' b = t b + s' * T b) := by
  classical
  let C : List B := (cx_lst d).filter (fun b => decide (t b * T b < 0))
  have hC : ∀ b, b ∈ C ↔ cx_deg b ≤ d ∧ t b * T b < 0 := by
    intro b
    show b ∈ List.filter _ _ ↔ _
    rw [List.mem_filter, cx_mem_lst, decide_eq_true_eq]
  have hne : C ≠ [] := by
    obtain ⟨b, h1, h2⟩ := hc
    exact fun h => by have := (hC b).2 ⟨h1, h2⟩; rw [h] at this; simp at this
  obtain ⟨b0, hb0, hmin⟩ := cx_least C (fun b => - (t b / T b)) hne
  have hb0' := (hC b0).1 hb0
  generalize hs : - (t b0 / T b0) = s at hmin
  have hT0 : T b0 ≠ 0 := fun h => by have := hb0'.2; rw [h] at this; grind
  have hdiv : ∀ b, T b ≠ 0 → t b = - (- (t b / T b)) * T b := by
    intro b hb
    have : t b / T b * T b = t b := Rat.div_mul_cancel hb
    grind
  have hts : t b0 = - s * T b0 := by have := hdiv b0 hT0; rw [hs] at this; exact this
  have sq : ∀ b, T b ≠ 0 → 0 < T b * T b := by
    intro b hb
    by_cases h : 0 < T b
    · exact Rat.mul_pos h h
    · have : 0 < - T b := by grind
      have := Rat.mul_pos this this; grind
  have hspos : 0 < s := by
    have h1 := hb0'.2
    rw [hts] at h1
    have h2 := sq b0 hT0
    by_cases h : 0 < s
    · exact h
    · have := Rat.mul_nonneg (by grind : 0 ≤ - s) (by grind : 0 ≤ T b0 * T b0)
      grind

  have before : ∀ b, cx_deg b ≤ d → t b * T b < 0 → (0 < t b → 0 ≤ t b + s * T b) ∧ (t b < 0 → t b + s * T b ≤ 0) := by
    intro b hb hneg
    have hTb : T b ≠ 0 := fun h => by rw [h] at hneg; grind
    have h1 := hmin b ((hC b).2 ⟨hb, hneg⟩)
    have h2 := hdiv b hTb
    generalize - (t b / T b) = r at *
    rcases cx_mul_neg hneg with ⟨h3, h4⟩ | ⟨h3, h4⟩
    · refine ⟨fun _ => ?_, fun h => by grind⟩
      have := Rat.mul_nonneg (by grind : 0 ≤ r - s) (by grind : 0 ≤ - T b)
      grind
    · refine ⟨fun h => by grind, fun _ => ?_⟩
      have := Rat.mul_nonneg (by grind : 0 ≤ r - s) (by grind : 0 ≤ T b)
      grind
  let t1 : B → Rat := fun b => t b + s * T b
  have ft1 : cx_Fun t1 := ht.f.plus hT.1 s
  have vt1 : cx_Van K t1 := ⟨ft1, fun a ha => by show t a + s * T a = 0; rw [hKd.2 a ha, hT.2 a ha]; grind⟩
  have K0 : ∀ b, b ≠ 0 → cx_deg b ≤ d → t b = 0 → T b = 0 := fun b hb hd h => hT.2 b ((ht.z b hb hd).1 h)
  have near1 : cx_Near cx_All d t1 (fun b => - T b) t := by
    have nz : ∀ b, cx_deg b ≤ d → t1 b ≠ 0 → b ≠ 0 := fun b _ h e => h (by rw [e]; exact ft1.zero)
    refine ⟨fun b _ hb h => ?_, fun b _ hb h => ?_, fun b _ hb h h' => ?_, fun b _ hb h h' => ?_, fun b _ hb h h' => ?_⟩
    · have h : 0 < t b + s * T b := h
      by_cases h2 : 0 < t b
      · exact h2
      · by_cases h3 : t b < 0
        · by_cases h4 : 0 < T b
          · have h5 := (before b hb (by have := Rat.mul_pos (by grind : 0 < - t b) h4; grind)).2 h3
            grind
          · have := Rat.mul_nonneg (by grind : 0 ≤ s) (by grind : 0 ≤ - T b)
            grind
        · have h4 : t b = 0 := by grind
          have := K0 b (nz b hb (by show t b + s * T b ≠ 0; grind)) hb h4
          rw [h4, this] at h; grind
    · have h : t b + s * T b < 0 := h
      by_cases h2 : t b < 0
      · exact h2
      · by_cases h3 : 0 < t b
        · by_cases h4 : T b < 0
          · have h5 := (before b hb (by have := Rat.mul_pos h3 (by grind : 0 < - T b); grind)).1 h3
            grind
          · have := Rat.mul_nonneg (by grind : 0 ≤ s) (by grind : 0 ≤ T b)
            grind
        · have h4 : t b = 0 := by grind
          have := K0 b (nz b hb (by show t b + s * T b ≠ 0; grind)) hb h4
          rw [h4, this] at h; grind
    · have h : t b + s * T b = 0 := h
      have h' : 0 < - T b := h'
      have := Rat.mul_pos hspos h'; grind
    · have h : t b + s * T b = 0 := h
      have h' : - T b = 0 := h'
      have : T b = 0 := by grind
      rw [this] at h; grind
    · have h : t b + s * T b = 0 := h
      have h' : - T b < 0 := h'
      have := Rat.mul_pos hspos (by grind : 0 < T b); grind
  obtain ⟨ε, hε, hn⟩ := cx_near_small d t1 T
  have hn := hn ε hε (by grind)
  let t' : B → Rat := fun b => t1 b + ε * T b
  have et' : ∀ b, t' b = t b + (s + ε) * T b := fun b => by show t b + s * T b + ε * T b = _; grind
  have ft' : cx_Fun t' := ft1.plus hT.1 ε
  have vt' : cx_Van K t' := ⟨ft', fun a ha => by show t1 a + ε * T a = 0; rw [vt1.2 a ha, hT.2 a ha]; grind⟩
  have gt' : cx_Gen K d t' := by
    refine ⟨ft', fun b hb hd => ⟨fun h => ?_, fun h => vt'.2 b h⟩⟩
    by_cases h1 : t1 b = 0
    · by_cases h2 : T b = 0
      · refine (ht.z b hb hd).1 ?_
        have : t b + s * T b = 0 := h1
        rw [h2] at this; grind
      · have : t1 b + ε * T b = 0 := h
        rw [h1, Rat.zero_add] at this
        rcases Rat.mul_eq_zero.1 this with h | h
        · grind
        · exact absurd h h2
    · by_cases h2 : 0 < t1 b
      · have := hn.pos b trivial hd h2
        have h : t1 b + ε * T b = 0 := h
        grind
      · have := hn.neg b trivial hd (by grind)
        have h : t1 b + ε * T b = 0 := h
        grind
  refine ⟨s, t', b0, hspos, gt', vt', ?_, ?_, ⟨vt1, ?_, hb0'.1, hT0, ?_, ?_⟩, hb0'.2, near1, hn, ⟨s + ε, by grind, et'⟩⟩
  · intro x y hx hy hdx hdy hTx he
    refine hL x y hx hy hdx hdy hTx ?_
    rw [et', et'] at he
    grind
  · refine cx_filter_len_lt _ _ _ ?_ ⟨b0, (cx_mem_lst d b0).2 hb0'.1, ?_, ?_⟩
    · intro b hb h
      rw [decide_eq_true_eq] at h ⊢
      rw [et'] at h
      have h2 : 0 ≤ T b * T b := by
        by_cases h0 : T b = 0
        · rw [h0]; grind
        · have := sq b h0; grind
      have := Rat.mul_nonneg (by grind : 0 ≤ s + ε) h2
      grind
    · rw [decide_eq_false_iff_not]
      have h2 := sq b0 hT0
      rw [et', hts]
      have := Rat.mul_pos hε h2
      grind
    · rw [decide_eq_true_eq]; exact hb0'.2
  · intro e; rw [e, hT.1.zero] at hT0; exact hT0 rfl
  · show t b0 + s * T b0 = 0; rw [hts]; grind
  · intro b hb hd hz
    have hz : t b + s * T b = 0 := hz
    refine hL b0 b (fun e => hT0 (by rw [e]; exact hT.1.zero)) hb hb0'.1 hd hT0 ?_
    rw [hts]
    have : t b = - s * T b := by grind
    rw [this]; grind
theorem cx_path_ind {B : Type} [Zero B] [Add B] [Mul (cx_S B)] [One (cx_S B)] [Add (cx_S B)] [Zero (cx_S B)] [Inhabited (cx_Idx B)] {K : B → Prop} {d : Nat} {T : B → Rat} (hT : cx_Van K T) (Q : (B → Rat) → Prop)
    (hsgn : ∀ t t', cx_Gen K d t → cx_Van K t → cx_Gen K d t' → cx_Van K t' → cx_Sgn d t t' → Q t' → Q t)
    (hend : ∀ t, cx_Gen K d t → cx_Van K t → (∀ b, cx_deg b ≤ d → 0 ≤ t b * T b) → Q t)
    (hstep : ∀ t t' s b0, cx_Gen K d t → cx_Van K t → cx_Gen K d t' → cx_Van K t' → 0 < s → cx_Joint K d T (fun b => t b + s * T b) b0 → t b0 * T b0 < 0 →
      cx_Near cx_All d (fun b => t b + s * T b) (fun b => - T b) t → cx_Near cx_All d (fun b => t b + s * T b) T t' → (∃ s', 0 < s' ∧ ∀ b, t' b = t b + s' * T b) → Q t' → Q t) :
    ∀ t, cx_Gen K d t → cx_Van K t → Q t := by
  classical
  have main : ∀ n t, cx_Gen K d t → cx_Van K t → cx_Lgen K d T t → cx_cnt d T t < n → Q t := by
    intro n
    induction n with
    | zero => intro t _ _ _ h; omega
    | succ n ih =>
      intro t gt vt lt hc
      by_cases hx : ∃ b : B, cx_deg b ≤ d ∧ t b * T b < 0
      · obtain ⟨s, t', b0, h1, h2, h3, h4, h5, h6, h7, h8, h9, h10⟩ := cx_step gt vt hT lt hx
        exact hstep t t' s b0 gt vt h2 h3 h1 h6 h7 h8 h9 h10 (ih t' h2 h3 h4 (by omega))
      · refine hend t gt vt (fun b hb => ?_)
        by_cases h : 0 ≤ t b * T b
        · exact h
        · exact absurd ⟨b, hb, by grind⟩ hx
  intro t gt vt
  obtain ⟨t', g', v', s', l'⟩ := cx_perturb gt vt hT
  exact hsgn t t' gt vt g' v' s' (main _ t' g' v' l' (Nat.lt_succ_self _))
end

section
theorem cx_Par.pr {B : Type} [Zero B] [Add B] [Mul (cx_S B)] [One (cx_S B)] [Add (cx_S B)] [Zero (cx_S B)] [Inhabited (cx_Idx B)] {M : Type} [Add M] [Inhabited (PLift (cx_MGl M))] [Inhabited (cx_Tord B M)] {a x : B} (h : cx_Par a x) (m : M) : cx_pr x m * cx_dg a = cx_pr a m * cx_dg x := h _ (cx_fun_pr m)
theorem cx_par_nonneg {B : Type} [Zero B] [Add B] [Mul (cx_S B)] [One (cx_S B)] [Add (cx_S B)] [Zero (cx_S B)] [Inhabited (cx_Idx B)] {M : Type} [Add M] [Inhabited (PLift (cx_MGl M))] [Inhabited (cx_Tord B M)] {a : B} (ha : a ≠ 0) {Z : M → Prop} (hZ : ∀ (m : M) (u : B), Z m → Z (m + cx_p u)) {w : List (B × Rat)} (sgn : Rat)
    (hw : ∀ x ∈ w, x.1 ≠ 0 ∧ cx_Par a x.1 ∧ cx_Wl Z x ∧ 0 ≤ sgn * x.2) (m : M) (hm : Z m) (h0 : 0 ≤ sgn * cx_pr a m) (hs : sgn * sgn = 1) (b : B) : 0 ≤ (cx_ev w : M → cx_S B) m b := by
  classical
  induction w generalizing b with
  | nil =>
    show 0 ≤ (1 : cx_S B) b
    by_cases hb : b = 0
    · rw [hb, cx_one_zero]; grind
    · rw [cx_one_ne hb]; grind
  | cons x w ih =>
    have ih := ih (fun y hy => hw y (by simp [hy]))
    have sw : cx_Sup (cx_Par a) (cx_ev w : M → cx_S B) := cx_ev_sup (cx_Par.clo a) (fun y hy => (hw y (by simp [hy])).2.1)
    have hx := hw x (by simp)
    rw [cx_ev_cons, cx_comp_def]
    refine cx_D_nonneg (fun u s _ => ?_)
    have key : ∀ m', Z m' → cx_pr a m' = cx_pr a m → 0 ≤ (cx_E x.1 x.2 : M → cx_S B) m' s := by
      intro m' hm' hpr
      refine cx_E_nonneg (hx.2.2.1 m' hm') ?_ s
      have h1 := hx.2.1.pr m'
      have h2 : 0 ≤ (sgn * x.2) * (sgn * cx_pr a m) := Rat.mul_nonneg hx.2.2.2 h0
      have h3 : (sgn * x.2) * (sgn * cx_pr a m) = (sgn * sgn) * (x.2 * cx_pr a m) := by grind
      rw [h3, hs, Rat.one_mul] at h2
      have h4 : 0 ≤ (x.2 * cx_pr a m) * cx_dg x.1 := Rat.mul_nonneg h2 (by have := cx_dg_pos hx.1; grind)
      rw [hpr] at h1
      have h5 : (x.2 * cx_pr x.1 m') * cx_dg a = (x.2 * cx_pr a m) * cx_dg x.1 := by grind
      by_cases h6 : 0 ≤ x.2 * cx_pr x.1 m'
      · exact h6
      · have := Rat.mul_pos (by grind : 0 < -(x.2 * cx_pr x.1 m')) (cx_dg_pos ha); grind
    by_cases hu : u = 0
    · rw [hu, cx_p_zero]
      exact Rat.mul_nonneg (ih 0) (key m hm rfl)
    · by_cases hr : cx_Par a u
      · refine Rat.mul_nonneg (ih u) (key _ (hZ m u hm) ?_)
        rw [cx_pr_addR, (cx_Par.refl a).form ha hr, Rat.add_zero]
      · rw [sw m u hu hr, Rat.zero_mul]; grind
theorem cx_crossP {B : Type} [Zero B] [Add B] [Mul (cx_S B)] [One (cx_S B)] [Add (cx_S B)] [Zero (cx_S B)] [Inhabited (cx_Idx B)] {M : Type} [Add M] [Inhabited (PLift (cx_MGl M))] [Inhabited (cx_Tord B M)] {a : B} (ha : a ≠ 0) {Z : M → Prop} (hZ : ∀ (m : M) (u : B), Z m → Z (m + cx_p u)) {w : List (B × Rat)} (sgn : Rat) (hs : sgn * sgn = 1)
    (hw : ∀ x ∈ w, x.1 ≠ 0 ∧ cx_Par a x.1 ∧ cx_Wl Z x ∧ 0 ≤ sgn * x.2) {f : M → cx_S B} {m : M} (hm : Z m) {b : B} (h0 : 0 ≤ sgn * cx_pr a (m + cx_p b))
    (hf : ∀ u, cx_deg u < cx_deg b → 0 ≤ f m u) : f m b ≤ cx_comp (cx_ev w) f m b := by
  classical
  have sw : cx_Sup (cx_Par a) (cx_ev w : M → cx_S B) := cx_ev_sup (cx_Par.clo a) (fun y hy => (hw y hy).2.1)
  have cx_one : ∀ m : M, (cx_ev w : M → cx_S B) m 0 = 1 := (cx_ev_good (fun x hx => (hw x hx).1)).unit
  rw [cx_comp_def]
  have e1 : cx_D b (fun u s => f m u * cx_ev w (m + cx_p u) s) = cx_D b (fun u s => (if s = 0 then f m u else 0) + (if s = 0 then 0 else f m u * cx_ev w (m + cx_p u) s)) := by
    refine cx_D_congr (fun u s _ => ?_)
    by_cases hs0 : s = 0
    · rw [if_pos hs0, if_pos hs0, hs0, cx_one]; grind
    · rw [if_neg hs0, if_neg hs0]; grind
  rw [e1, cx_D_add, cx_D_right b (fun u s => if s = 0 then f m u else 0) (fun u s _ h => if_neg h), if_pos rfl]
  have : 0 ≤ cx_D b (fun u s => if s = 0 then 0 else f m u * cx_ev w (m + cx_p u) s) := by
    refine cx_D_nonneg (fun u s hus => ?_)
    by_cases hs0 : s = 0
    · rw [if_pos hs0]; grind
    · rw [if_neg hs0]
      by_cases hr : cx_Par a s
      · have hd := cx_deg_add u s
        rw [hus] at hd
        have : cx_deg s ≠ 0 := fun e => hs0 (cx_deg_pos s e)
        refine Rat.mul_nonneg (hf u (by omega)) (cx_par_nonneg ha hZ sgn hw _ (hZ m u hm) ?_ hs s)
        rw [← hus, cx_p_add, cx_pr_addR, cx_pr_addR, (cx_Par.refl a).form ha hr, Rat.add_zero, ← cx_pr_addR] at h0
        exact h0
      · rw [sw _ s hs0 hr, Rat.mul_zero]; grind
  grind
def cx_cut {B : Type} [Zero B] [Add B] [Mul (cx_S B)] [One (cx_S B)] [Add (cx_S B)] [Zero (cx_S B)] [Inhabited (cx_Idx B)] (d : Nat) (w : List (B × Rat)) : List (B × Rat) := w.filter (fun x => decide (cx_deg x.1 ≤ d))
theorem cx_ev_cut {B : Type} [Zero B] [Add B] [Mul (cx_S B)] [One (cx_S B)] [Add (cx_S B)] [Zero (cx_S B)] [Inhabited (cx_Idx B)] {M : Type} [Add M] [Inhabited (PLift (cx_MGl M))] [Inhabited (cx_Tord B M)] {d : Nat} {w : List (B × Rat)} (hw : cx_NZ w) : cx_Eqd d (cx_ev w : M → cx_S B) (cx_ev (cx_cut d w)) := by
  induction w with
  | nil => exact cx_Eqd.rfl'
  | cons x w ih =>
    have ih := ih (fun y hy => hw y (by simp [hy]))
    by_cases hx : cx_deg x.1 ≤ d
    · have : cx_cut d (x :: w) = x :: cx_cut d w := List.filter_cons_of_pos (by simpa using hx)
      rw [this, cx_ev_cons, cx_ev_cons]
      exact cx_Eqd.comp cx_Eqd.rfl' ih
    · have : cx_cut d (x :: w) = cx_cut d w := List.filter_cons_of_neg (by simpa using hx)
      rw [this, cx_ev_cons]
      have h1 := cx_Eqd.comp (cx_E_far (M := M) (hw x (by simp)) x.2 (by omega : d < cx_deg x.1)) ih
      rw [cx_I_comp] at h1
      exact h1
theorem cx_Lt.cut {B : Type} [Zero B] [Add B] [Mul (cx_S B)] [One (cx_S B)] [Add (cx_S B)] [Zero (cx_S B)] [Inhabited (cx_Idx B)] {T : B → Prop} {d d' : Nat} {w : List (B × Rat)} (h : cx_Lt T d w) : cx_Lt T d' (cx_cut d' w) := ⟨fun x hx => by
  have := List.mem_filter.1 hx
  have h1 := h.all x this.1
  exact ⟨h1.1, h1.2.1, by simpa using this.2⟩⟩
theorem cx_Fac.cut {B : Type} [Zero B] [Add B] [Mul (cx_S B)] [One (cx_S B)] [Add (cx_S B)] [Zero (cx_S B)] [Inhabited (cx_Idx B)] {M : Type} [Add M] [Inhabited (PLift (cx_MGl M))] [Inhabited (cx_Tord B M)] {t : B → Rat} {T : B → Prop} {d d' : Nat} (hd : d' ≤ d) {g : M → cx_S B} {wp w0 wm : List (B × Rat)} (f : cx_Fac t T d g wp w0 wm) :
    cx_Fac t T d' g (cx_cut d' wp) (cx_cut d' w0) (cx_cut d' wm) := ⟨(f.pos.cut),
  (f.nul.cut),
  (f.neg.cut),
  ((f.eq.mono hd).trans (cx_Eqd.comp (cx_ev_cut f.pos.nz) (cx_Eqd.comp (cx_ev_cut f.nul.nz) (cx_ev_cut f.neg.nz))))⟩
theorem cx_Fac.sgn {B : Type} [Zero B] [Add B] [Mul (cx_S B)] [One (cx_S B)] [Add (cx_S B)] [Zero (cx_S B)] [Inhabited (cx_Idx B)] {M : Type} [Add M] [Inhabited (PLift (cx_MGl M))] [Inhabited (cx_Tord B M)] {t t' : B → Rat} {T : B → Prop} {d : Nat} (h : cx_Sgn d t t') {g : M → cx_S B} {wp w0 wm : List (B × Rat)} (f : cx_Fac t T d g wp w0 wm) : cx_Fac t' T d g wp w0 wm := ⟨(⟨fun x hx => by have := f.pos.all x hx; exact ⟨this.1, ⟨this.2.1.1, (h _ this.2.2).1.1 this.2.1.2⟩, this.2.2⟩⟩),
  (⟨fun x hx => by have := f.nul.all x hx; exact ⟨this.1, ⟨this.2.1.1, (h.zero this.2.2).1 this.2.1.2⟩, this.2.2⟩⟩),
  (⟨fun x hx => by have := f.neg.all x hx; exact ⟨this.1, ⟨this.2.1.1, (h _ this.2.2).2.1 this.2.1.2⟩, this.2.2⟩⟩),
  (f.eq)⟩
theorem cx_Fac.word {B : Type} [Zero B] [Add B] [Mul (cx_S B)] [One (cx_S B)] [Add (cx_S B)] [Zero (cx_S B)] [Inhabited (cx_Idx B)] {M : Type} [Add M] [Inhabited (PLift (cx_MGl M))] [Inhabited (cx_Tord B M)] {t : B → Rat} {T : B → Prop} {d : Nat} {g : M → cx_S B} {wp w0 wm w0' : List (B × Rat)} (f : cx_Fac t T d g wp w0 wm)
    (h : cx_Lt (fun b => T b ∧ t b = 0) d w0') (he : cx_Eqd d (cx_ev w0 : M → cx_S B) (cx_ev w0')) : cx_Fac t T d g wp w0' wm := ⟨(f.pos),
  (h),
  (f.neg),
  (f.eq.trans (cx_Eqd.comp cx_Eqd.rfl' (cx_Eqd.comp he cx_Eqd.rfl')))⟩
theorem cx_nf_append {B : Type} [Zero B] [Add B] [Mul (cx_S B)] [One (cx_S B)] [Add (cx_S B)] [Zero (cx_S B)] [Inhabited (cx_Idx B)] {M : Type} [Add M] [Inhabited (PLift (cx_MGl M))] [Inhabited (cx_Tord B M)] (A C : List B) (c : B → Rat) : (cx_nf (A ++ C) c : M → cx_S B) = cx_comp (cx_nf A c) (cx_nf C c) := by
  unfold cx_nf; rw [List.map_append, cx_ev_append]
theorem cx_nf_perm {B : Type} [Zero B] [Add B] [Mul (cx_S B)] [One (cx_S B)] [Add (cx_S B)] [Zero (cx_S B)] [Inhabited (cx_Idx B)] {M : Type} [Add M] [Inhabited (PLift (cx_MGl M))] [Inhabited (cx_Tord B M)] {ord ord' : List B} (h : ord.Perm ord') (hc : ∀ x ∈ ord, ∀ y ∈ ord, cx_pr x (cx_p y : M) = 0) (c : B → Rat) : (cx_nf ord c : M → cx_S B) = cx_nf ord' c := by
  induction h with
  | nil => rfl
  | cons x _ ih => rw [cx_nf_cons, cx_nf_cons, ih (fun x hx y hy => hc x (by simp [hx]) y (by simp [hy]))]
  | swap x y l =>
    rw [cx_nf_cons, cx_nf_cons, cx_nf_cons, cx_nf_cons, ← cx_comp_assoc, ← cx_comp_assoc, cx_E_comm (hc y (by simp) x (by simp))]
  | trans h1 h2 ih1 ih2 =>
    rw [ih1 hc, ih2 (fun x hx y hy => hc x (h1.mem_iff.2 hx) y (h1.mem_iff.2 hy))]
abbrev cx_Rl {B : Type} [Zero B] [Add B] [Mul (cx_S B)] [One (cx_S B)] [Add (cx_S B)] [Zero (cx_S B)] [Inhabited (cx_Idx B)] (a : B) (d : Nat) (ord : List B) : Prop := (ord.Nodup) ∧ (∀ x, x ∈ ord ↔ x ≠ 0 ∧ cx_deg x ≤ d ∧ cx_Par a x)
theorem cx_Rl.nodup {B : Type} [Zero B] [Add B] [Mul (cx_S B)] [One (cx_S B)] [Add (cx_S B)] [Zero (cx_S B)] [Inhabited (cx_Idx B)] {a : B} {d : Nat} {ord : List B} (hh_ : cx_Rl a d ord) : ord.Nodup := hh_.1
theorem cx_Rl.mem {B : Type} [Zero B] [Add B] [Mul (cx_S B)] [One (cx_S B)] [Add (cx_S B)] [Zero (cx_S B)] [Inhabited (cx_Idx B)] {a : B} {d : Nat} {ord : List B} (hh_ : cx_Rl a d ord) : ∀ x, x ∈ ord ↔ x ≠ 0 ∧ cx_deg x ≤ d ∧ cx_Par a x := hh_.2
theorem cx_Rl.perm {B : Type} [Zero B] [Add B] [Mul (cx_S B)] [One (cx_S B)] [Add (cx_S B)] [Zero (cx_S B)] [Inhabited (cx_Idx B)] {a : B} {d : Nat} {ord ord' : List B} (h : cx_Rl a d ord) (h' : cx_Rl a d ord') : ord.Perm ord' :=
  cx_perm_of h.nodup h'.nodup (fun x => by rw [h.mem, h'.mem])
theorem cx_Rl.comm {B : Type} [Zero B] [Add B] [Mul (cx_S B)] [One (cx_S B)] [Add (cx_S B)] [Zero (cx_S B)] [Inhabited (cx_Idx B)] {M : Type} [Add M] [Inhabited (PLift (cx_MGl M))] [Inhabited (cx_Tord B M)] {a : B} (ha : a ≠ 0) {d : Nat} {ord : List B} (h : cx_Rl a d ord) : ∀ x ∈ ord, ∀ y ∈ ord, cx_pr x (cx_p y : M) = 0 :=
  fun x hx y hy => ((h.mem x).1 hx).2.2.form ha ((h.mem y).1 hy).2.2
def cx_Lam {B : Type} [Zero B] [Add B] [Mul (cx_S B)] [One (cx_S B)] [Add (cx_S B)] [Zero (cx_S B)] [Inhabited (cx_Idx B)] {M : Type} [Add M] [Inhabited (PLift (cx_MGl M))] [Inhabited (cx_Tord B M)] (g : M → cx_S B) (a : B) (d : Nat) (t f : B → Rat) : Prop := ∃ ord wp wm, cx_Rl a d ord ∧ cx_Fac t cx_All d g wp (ord.map fun x => (x, f x)) wm
theorem cx_Lam.sgn {B : Type} [Zero B] [Add B] [Mul (cx_S B)] [One (cx_S B)] [Add (cx_S B)] [Zero (cx_S B)] [Inhabited (cx_Idx B)] {M : Type} [Add M] [Inhabited (PLift (cx_MGl M))] [Inhabited (cx_Tord B M)] {g : M → cx_S B} {a : B} {d : Nat} {t t' f : B → Rat} (h : cx_Sgn d t t') (l : cx_Lam g a d t f) : cx_Lam g a d t' f := by
  obtain ⟨ord, wp, wm, hr, hf⟩ := l; exact ⟨ord, wp, wm, hr, hf.sgn h⟩
theorem cx_Lam.unique {B : Type} [Zero B] [Add B] [Mul (cx_S B)] [One (cx_S B)] [Add (cx_S B)] [Zero (cx_S B)] [Inhabited (cx_Idx B)] {M : Type} [Add M] [Inhabited (PLift (cx_MGl M))] [Inhabited (cx_Tord B M)] {g g' : M → cx_S B} {a : B} (ha : a ≠ 0) {d : Nat} {t f f' : B → Rat} (ht : cx_Fun t) (l : cx_Lam g a d t f) (l' : cx_Lam g' a d t f') (he : cx_Eqd d g g') :
    ∀ x, x ≠ 0 → cx_deg x ≤ d → cx_Par a x → f x = f' x := by
  obtain ⟨ord, wp, wm, hr, hf⟩ := l
  obtain ⟨ord', wp', wm', hr', hf'⟩ := l'
  have h := (hf.unique ht hf' he).2.1
  have e1 : (cx_ev (ord'.map fun x => (x, f' x)) : M → cx_S B) = cx_nf ord f' := (cx_nf_perm (hr.perm hr') (hr.comm ha) f').symm
  rw [e1] at h
  intro x hx hd hp
  exact cx_nf_unique (M := M) hr.nodup (fun y hy => ((hr.mem y).1 hy).1) h x ((hr.mem x).2 ⟨hx, hd, hp⟩) hd
theorem cx_Rl.cut {B : Type} [Zero B] [Add B] [Mul (cx_S B)] [One (cx_S B)] [Add (cx_S B)] [Zero (cx_S B)] [Inhabited (cx_Idx B)] {a : B} {d d' : Nat} (hd : d' ≤ d) {ord : List B} (h : cx_Rl a d ord) : cx_Rl a d' (ord.filter fun x => decide (cx_deg x ≤ d')) := ⟨(h.nodup.sublist List.filter_sublist),
  (fun x => by
    rw [List.mem_filter, h.mem, decide_eq_true_eq]
    constructor
    · rintro ⟨⟨h1, _, h3⟩, h4⟩; exact ⟨h1, h4, h3⟩
    · rintro ⟨h1, h2, h3⟩; exact ⟨⟨h1, by omega, h3⟩, h2⟩)⟩
theorem cx_Lam.cut {B : Type} [Zero B] [Add B] [Mul (cx_S B)] [One (cx_S B)] [Add (cx_S B)] [Zero (cx_S B)] [Inhabited (cx_Idx B)] {M : Type} [Add M] [Inhabited (PLift (cx_MGl M))] [Inhabited (cx_Tord B M)] {g : M → cx_S B} {a : B} {d d' : Nat} (hd : d' ≤ d) {t f : B → Rat} (l : cx_Lam g a d t f) : cx_Lam g a d' t f := by
  obtain ⟨ord, wp, wm, hr, hf⟩ := l
  refine ⟨_, cx_cut d' wp, cx_cut d' wm, hr.cut hd, ?_⟩
  have h := hf.cut hd
  have : cx_cut d' (ord.map fun x => (x, f x)) = (ord.filter fun x => decide (cx_deg x ≤ d')).map fun x => (x, f x) := by
    unfold cx_cut
    rw [List.filter_map]; rfl
  rw [this] at h
  exact h
theorem cx_Rl.par {B : Type} [Zero B] [Add B] [Mul (cx_S B)] [One (cx_S B)] [Add (cx_S B)] [Zero (cx_S B)] [Inhabited (cx_Idx B)] {a x : B} (ha : a ≠ 0) (hx : x ≠ 0) (h : cx_Par a x) {d : Nat} {ord : List B} (r : cx_Rl a d ord) : cx_Rl x d ord := ⟨(r.nodup),
  (fun y => by
    rw [r.mem]
    constructor
    · rintro ⟨h1, h2, h3⟩; exact ⟨h1, h2, cx_Par.trans ha h.symm h3⟩
    · rintro ⟨h1, h2, h3⟩; exact ⟨h1, h2, cx_Par.trans hx h h3⟩)⟩
theorem cx_Lam.par {B : Type} [Zero B] [Add B] [Mul (cx_S B)] [One (cx_S B)] [Add (cx_S B)] [Zero (cx_S B)] [Inhabited (cx_Idx B)] {M : Type} [Add M] [Inhabited (PLift (cx_MGl M))] [Inhabited (cx_Tord B M)] {g : M → cx_S B} {a x : B} (ha : a ≠ 0) (hx : x ≠ 0) (h : cx_Par a x) {d : Nat} {t f : B → Rat} (l : cx_Lam g a d t f) : cx_Lam g x d t f := by
  obtain ⟨ord, wp, wm, hr, hf⟩ := l
  exact ⟨ord, wp, wm, hr.par ha hx h, hf⟩
theorem cx_Gen.par {B : Type} [Zero B] [Add B] [Mul (cx_S B)] [One (cx_S B)] [Add (cx_S B)] [Zero (cx_S B)] [Inhabited (cx_Idx B)] {a x : B} (ha : a ≠ 0) (hx : x ≠ 0) (h : cx_Par a x) {d d' : Nat} (hd : d' ≤ d) {t : B → Rat} (r : cx_Gen (cx_Par a) d t) : cx_Gen (cx_Par x) d' t := ⟨(r.f),
  (fun b hb hdb => by
    rw [r.z b hb (by omega)]
    exact ⟨fun h3 => cx_Par.trans ha h.symm h3, fun h3 => cx_Par.trans hx h h3⟩)⟩
theorem cx_Van.par {B : Type} [Zero B] [Add B] [Mul (cx_S B)] [One (cx_S B)] [Add (cx_S B)] [Zero (cx_S B)] [Inhabited (cx_Idx B)] {a : B} (ha : a ≠ 0) {t : B → Rat} (ht : cx_Fun t) (h : t a = 0) : cx_Van (cx_Par a) t := ⟨ht, fun _ hx => hx.zero ha ht h⟩
theorem cx_Gen.van {B : Type} [Zero B] [Add B] [Mul (cx_S B)] [One (cx_S B)] [Add (cx_S B)] [Zero (cx_S B)] [Inhabited (cx_Idx B)] {a : B} (ha : a ≠ 0) {d : Nat} (hd : cx_deg a ≤ d) {t : B → Rat} (h : cx_Gen (cx_Par a) d t) : cx_Van (cx_Par a) t :=
  cx_Van.par ha h.f ((h.z a ha hd).2 (cx_Par.refl a))
theorem cx_exists_list {B : Type} [Zero B] [Add B] [Mul (cx_S B)] [One (cx_S B)] [Add (cx_S B)] [Zero (cx_S B)] [Inhabited (cx_Idx B)] (d : Nat) (P : B → Prop) : ∃ ord : List B, ord.Nodup ∧ ∀ x, x ∈ ord ↔ x ≠ 0 ∧ cx_deg x ≤ d ∧ P x := by
  classical
  refine ⟨(cx_lst d).filter (fun x => decide (x ≠ 0 ∧ P x)), (cx_nodup_lst d).sublist List.filter_sublist, fun x => ?_⟩
  rw [List.mem_filter, cx_mem_lst, decide_eq_true_eq]
  constructor
  · rintro ⟨h1, h2, h3⟩; exact ⟨h2, h1, h3⟩
  · rintro ⟨h1, h2, h3⟩; exact ⟨h2, h1, h3⟩
abbrev cx_Wh {B : Type} [Zero B] [Add B] [Mul (cx_S B)] [One (cx_S B)] [Add (cx_S B)] [Zero (cx_S B)] [Inhabited (cx_Idx B)] {M : Type} [Add M] [Inhabited (PLift (cx_MGl M))] [Inhabited (cx_Tord B M)] (Z : M → Prop) (g : M → cx_S B) : Prop := (cx_Good g) ∧ (∀ (m : M) (u : B), Z m → Z (m + cx_p u)) ∧ (∀ u : B, Z (cx_p u)) ∧ (∀ d, cx_Whole d Z g)
theorem cx_Wh.good {B : Type} [Zero B] [Add B] [Mul (cx_S B)] [One (cx_S B)] [Add (cx_S B)] [Zero (cx_S B)] [Inhabited (cx_Idx B)] {M : Type} [Add M] [Inhabited (PLift (cx_MGl M))] [Inhabited (cx_Tord B M)] {Z : M → Prop} {g : M → cx_S B} (hh_ : cx_Wh Z g) : cx_Good g := hh_.1
theorem cx_Wh.hZ {B : Type} [Zero B] [Add B] [Mul (cx_S B)] [One (cx_S B)] [Add (cx_S B)] [Zero (cx_S B)] [Inhabited (cx_Idx B)] {M : Type} [Add M] [Inhabited (PLift (cx_MGl M))] [Inhabited (cx_Tord B M)] {Z : M → Prop} {g : M → cx_S B} (hh_ : cx_Wh Z g) : ∀ (m : M) (u : B), Z m → Z (m + cx_p u) := hh_.2.1
theorem cx_Wh.hp {B : Type} [Zero B] [Add B] [Mul (cx_S B)] [One (cx_S B)] [Add (cx_S B)] [Zero (cx_S B)] [Inhabited (cx_Idx B)] {M : Type} [Add M] [Inhabited (PLift (cx_MGl M))] [Inhabited (cx_Tord B M)] {Z : M → Prop} {g : M → cx_S B} (hh_ : cx_Wh Z g) : ∀ u : B, Z (cx_p u) := hh_.2.2.1
theorem cx_Wh.whole {B : Type} [Zero B] [Add B] [Mul (cx_S B)] [One (cx_S B)] [Add (cx_S B)] [Zero (cx_S B)] [Inhabited (cx_Idx B)] {M : Type} [Add M] [Inhabited (PLift (cx_MGl M))] [Inhabited (cx_Tord B M)] {Z : M → Prop} {g : M → cx_S B} (hh_ : cx_Wh Z g) : ∀ d, cx_Whole d Z g := hh_.2.2.2
theorem cx_Wh.fac {B : Type} [Zero B] [Add B] [Mul (cx_S B)] [One (cx_S B)] [Add (cx_S B)] [Zero (cx_S B)] [Inhabited (cx_Idx B)] {M : Type} [Add M] [Inhabited (PLift (cx_MGl M))] [Inhabited (cx_Tord B M)] {Z : M → Prop} {g : M → cx_S B} (h : cx_Wh Z g) (t : B → Rat) (d : Nat) : ∃ wp w0 wm : List (B × Rat), cx_Fac t cx_All d g wp w0 wm ∧ ∀ x ∈ wp ++ w0 ++ wm, cx_Wl Z x :=
  cx_Fac.exists (T := cx_All) ⟨fun _ _ _ _ => trivial⟩ (fun m u hm _ => h.hZ m u hm) h.good (fun _ _ _ h => absurd trivial h) h.whole d
theorem cx_zero_nf {B : Type} [Zero B] [Add B] [Mul (cx_S B)] [One (cx_S B)] [Add (cx_S B)] [Zero (cx_S B)] [Inhabited (cx_Idx B)] {M : Type} [Add M] [Inhabited (PLift (cx_MGl M))] [Inhabited (cx_Tord B M)] {Z : M → Prop} {g : M → cx_S B} (h : cx_Wh Z g) {t : B → Rat} {d : Nat} {wp w0 wm : List (B × Rat)} (f : cx_Fac t cx_All d g wp w0 wm) (hw : ∀ x ∈ w0, cx_Wl Z x)
    {T : B → Prop} (hT : cx_Clo T) (hTt : ∀ b, b ≠ 0 → cx_deg b ≤ d → t b = 0 → T b) {ord : List B} (hn : ord.Nodup) (hm : ∀ x, x ∈ ord ↔ x ≠ 0 ∧ cx_deg x ≤ d ∧ T x) :
    ∃ c : B → Rat, cx_Eqd d (cx_ev w0 : M → cx_S B) (cx_nf ord c) ∧ ∀ x ∈ ord, cx_Wl Z (x, c x) := by
  have hT0 : ∀ x ∈ w0, T x.1 := fun x hx => by have := f.nul.all x hx; exact hTt _ this.1 this.2.2 this.2.1.2
  obtain ⟨c, h1, _, h3⟩ := cx_nf_exists (e := d) hT (fun m u hm _ => h.hZ m u hm) hn (fun x hx => ⟨((hm x).1 hx).1, ((hm x).1 hx).2.2⟩)
    (fun b h1 h2 h3 => (hm b).2 ⟨h1, h2, h3⟩) (cx_ev_good (M := M) f.nul.nz) ((cx_ev_sup hT hT0).upto d) (cx_ev_whole hT (fun m u hm _ => h.hZ m u hm) (fun x hx => ⟨hT0 x hx, hw x hx⟩)) d (Nat.le_refl d)
  exact ⟨c, h1, h3⟩
theorem cx_Lam.exists {B : Type} [Zero B] [Add B] [Mul (cx_S B)] [One (cx_S B)] [Add (cx_S B)] [Zero (cx_S B)] [Inhabited (cx_Idx B)] {M : Type} [Add M] [Inhabited (PLift (cx_MGl M))] [Inhabited (cx_Tord B M)] {Z : M → Prop} {g : M → cx_S B} (h : cx_Wh Z g) {a : B} {d : Nat} {t : B → Rat} (ht : cx_Gen (cx_Par a) d t) :
    ∃ f : B → Rat, cx_Lam g a d t f ∧ ∀ x, x ≠ 0 → cx_deg x ≤ d → cx_Par a x → cx_Wl Z (x, f x) := by
  obtain ⟨ord, hn, hm⟩ := cx_exists_list (B := B) d (cx_Par a)
  obtain ⟨wp, w0, wm, hf, hw⟩ := h.fac t d
  obtain ⟨c, hc, hcw⟩ := cx_zero_nf h hf (fun x hx => hw x (by simp [hx])) (cx_Par.clo a) (fun b h1 h2 h3 => (ht.z b h1 h2).1 h3) hn hm
  refine ⟨c, ⟨ord, wp, wm, ⟨hn, hm⟩, hf.word ⟨fun x hx => ?_⟩ hc⟩, fun x h1 h2 h3 => hcw x ((hm x).2 ⟨h1, h2, h3⟩)⟩
  obtain ⟨y, hy, rfl⟩ := List.mem_map.1 hx
  have := (hm y).1 hy
  exact ⟨this.1, ⟨trivial, (ht.z y this.1 this.2.1).2 this.2.2⟩, this.2.1⟩
theorem cx_joint_lam {B : Type} [Zero B] [Add B] [Mul (cx_S B)] [One (cx_S B)] [Add (cx_S B)] [Zero (cx_S B)] [Inhabited (cx_Idx B)] {M : Type} [Add M] [Inhabited (PLift (cx_MGl M))] [Inhabited (cx_Tord B M)] {g : M → cx_S B} {t1 t' u : B → Rat} {d : Nat} {wp w0 wm : List (B × Rat)} (f : cx_Fac t1 cx_All d g wp w0 wm)
    {A O C : List B} {c : B → Rat} (hz : ∀ x ∈ A ++ O ++ C, x ≠ 0 ∧ cx_deg x ≤ d ∧ t1 x = 0) (he : cx_Eqd d (cx_ev w0 : M → cx_S B) (cx_nf (A ++ O ++ C) c))
    (hA : ∀ x ∈ A, 0 < u x) (hO : ∀ x ∈ O, u x = 0) (hC : ∀ x ∈ C, u x < 0) (hn : cx_Near cx_All d t1 u t') {x : B} (hr : cx_Rl x d O) : cx_Lam g x d t' c := by
  refine ⟨O, _, _, hr, cx_Fac.near (vp := A.map fun x => (x, c x)) (vm := C.map fun x => (x, c x)) hn f ?_⟩
  refine ⟨⟨fun y hy => ?_⟩, ⟨fun y hy => ?_⟩, ⟨fun y hy => ?_⟩, ?_⟩
  · obtain ⟨z, hz', rfl⟩ := List.mem_map.1 hy
    have := hz z (by simp [hz'])
    exact ⟨this.1, ⟨⟨trivial, this.2.2⟩, hA z hz'⟩, this.2.1⟩
  · obtain ⟨z, hz', rfl⟩ := List.mem_map.1 hy
    have := hz z (by simp [hz'])
    exact ⟨this.1, ⟨⟨trivial, this.2.2⟩, hO z hz'⟩, this.2.1⟩
  · obtain ⟨z, hz', rfl⟩ := List.mem_map.1 hy
    have := hz z (by simp [hz'])
    exact ⟨this.1, ⟨⟨trivial, this.2.2⟩, hC z hz'⟩, this.2.1⟩
  · refine he.trans ?_
    rw [cx_nf_append, cx_nf_append, cx_comp_assoc]
    exact cx_Eqd.rfl'
end

section
theorem cx_split_sorted {B : Type} [Zero B] [Add B] [Mul (cx_S B)] [One (cx_S B)] [Add (cx_S B)] [Zero (cx_S B)] [Inhabited (cx_Idx B)] {l : List B} {κ : B → Rat} (h : l.Pairwise (fun x y => κ x ≤ κ y)) (σ : Rat) :
    l = l.filter (fun x => decide (κ x < σ)) ++ l.filter (fun x => decide (κ x = σ)) ++ l.filter (fun x => decide (σ < κ x)) := by
  induction l with
  | nil => rfl
  | cons x l ih =>
    rw [List.pairwise_cons] at h
    have ih := ih h.2
    by_cases h1 : κ x < σ
    · rw [List.filter_cons_of_pos (by simpa using h1), List.filter_cons_of_neg (by simp; grind), List.filter_cons_of_neg (by simp; grind)]
      rw [List.cons_append, List.cons_append, ← ih]
    · have e1 : l.filter (fun x => decide (κ x < σ)) = [] := by
        rw [List.filter_eq_nil_iff]; intro y hy; have := h.1 y hy; simp; grind
      rw [e1, List.nil_append] at ih
      by_cases h2 : κ x = σ
      · rw [List.filter_cons_of_neg (by simpa using h1), List.filter_cons_of_pos (by simpa using h2), List.filter_cons_of_neg (by simp; grind)]
        rw [e1, List.nil_append, List.cons_append, ← ih]
      · have e2 : l.filter (fun x => decide (κ x = σ)) = [] := by
          rw [List.filter_eq_nil_iff]; intro y hy; have := h.1 y hy; simp; grind
        rw [e2, List.nil_append] at ih
        rw [List.filter_cons_of_neg (by simpa using h1), List.filter_cons_of_neg (by simpa using h2), List.filter_cons_of_pos (by simp; grind)]
        rw [e1, e2, List.nil_append, List.nil_append, ← ih]
theorem cx_suf_pair {B : Type} [Zero B] [Add B] [Mul (cx_S B)] [One (cx_S B)] [Add (cx_S B)] [Zero (cx_S B)] [Inhabited (cx_Idx B)] {M : Type} [Add M] [Inhabited (PLift (cx_MGl M))] [Inhabited (cx_Tord B M)] {T : B → Prop} {e : Nat} (r : List B) (hs : cx_Suf M T e r) : r.Pairwise (fun x y => 0 ≤ cx_pr y (cx_p x : M)) := by
  induction r with
  | nil => exact List.Pairwise.nil
  | cons x r ih =>
    obtain ⟨_, h2, _, h4⟩ := hs
    exact List.Pairwise.cons h2 (ih h4)
def cx_Ta {B : Type} [Zero B] [Add B] [Mul (cx_S B)] [One (cx_S B)] [Add (cx_S B)] [Zero (cx_S B)] [Inhabited (cx_Idx B)] (M : Type) [Add M] [Inhabited (PLift (cx_MGl M))] [Inhabited (cx_Tord B M)] (a : B) : B → Rat := fun b => cx_pr b (cx_p a : M)
theorem cx_Ta_fun {B : Type} [Zero B] [Add B] [Mul (cx_S B)] [One (cx_S B)] [Add (cx_S B)] [Zero (cx_S B)] [Inhabited (cx_Idx B)] {M : Type} [Add M] [Inhabited (PLift (cx_MGl M))] [Inhabited (cx_Tord B M)] (a : B) : cx_Fun (cx_Ta M a) := cx_fun_pr (cx_p a : M)
theorem cx_Ta_van {B : Type} [Zero B] [Add B] [Mul (cx_S B)] [One (cx_S B)] [Add (cx_S B)] [Zero (cx_S B)] [Inhabited (cx_Idx B)] {M : Type} [Add M] [Inhabited (PLift (cx_MGl M))] [Inhabited (cx_Tord B M)] {a : B} (ha : a ≠ 0) : cx_Van (cx_Par a) (cx_Ta M a) := cx_Van.par ha (cx_Ta_fun a) (cx_pr_self a)
theorem cx_joint_coord {B : Type} [Zero B] [Add B] [Mul (cx_S B)] [One (cx_S B)] [Add (cx_S B)] [Zero (cx_S B)] [Inhabited (cx_Idx B)] {a b0 : B} {T : B → Rat} (hT : cx_Van (cx_Par a) T) (ha : a ≠ 0) (hT0 : T b0 ≠ 0) (v : B → Rat) (hv : cx_Fun v) :
    ∃ α β : Rat, ∀ x, cx_Sp (cx_Par a) b0 x → v x = α * cx_dg x + β * T x := by
  have hda := cx_dg_pos ha
  have e1 : v a / cx_dg a * cx_dg a = v a := Rat.div_mul_cancel (by grind)
  generalize v a / cx_dg a = α at e1
  have e2 : (v b0 - α * cx_dg b0) / T b0 * T b0 = v b0 - α * cx_dg b0 := Rat.div_mul_cancel hT0
  generalize (v b0 - α * cx_dg b0) / T b0 = β at e2
  refine ⟨α, β, fun x hx => ?_⟩
  have hTa : T a = 0 := hT.2 a (cx_Par.refl a)
  have fw : cx_Fun (fun b => v b + (-1) * (α * cx_dg b + β * T b)) := hv.plus (cx_fun_dg.lin hT.1 α β) (-1)
  have h1 := hx _ (cx_Van.par ha fw (by show v a + (-1) * (α * cx_dg a + β * T a) = 0; rw [hTa]; grind)) (by show v b0 + (-1) * (α * cx_dg b0 + β * T b0) = 0; grind)
  grind
theorem cx_joint_form {B : Type} [Zero B] [Add B] [Mul (cx_S B)] [One (cx_S B)] [Add (cx_S B)] [Zero (cx_S B)] [Inhabited (cx_Idx B)] {M : Type} [Add M] [Inhabited (PLift (cx_MGl M))] [Inhabited (cx_Tord B M)] {a b0 : B} (ha : a ≠ 0) (x y : B) (hx : cx_Sp (cx_Par a) b0 x) (hy : cx_Sp (cx_Par a) b0 y) :
    cx_pr y (cx_p x : M) * cx_dg a = cx_Ta M a y * cx_dg x - cx_Ta M a x * cx_dg y := by
  have w1 : ∀ x, cx_Sp (cx_Par a) b0 x → cx_pr b0 (cx_p x : M) * cx_dg a = cx_Ta M a b0 * cx_dg x - cx_Ta M a x * cx_dg b0 := by
    intro x hx
    have fw : cx_Fun (fun z : B => (-(cx_dg a)) * cx_pr z (cx_p b0 : M) + (-1) * (cx_Ta M a b0 * cx_dg z + (-(cx_dg b0)) * cx_Ta M a z)) :=
      (cx_fun_pr (cx_p b0 : M)).lin (cx_fun_dg.lin (cx_Ta_fun a) (cx_Ta M a b0) (-(cx_dg b0))) (-(cx_dg a)) (-1)
    have h := hx _ (cx_Van.par ha fw (by
      show (-(cx_dg a)) * cx_pr a (cx_p b0 : M) + (-1) * (cx_Ta M a b0 * cx_dg a + (-(cx_dg b0)) * cx_Ta M a a) = 0
      have e1 : cx_Ta M a a = 0 := cx_pr_self a
      have e2 : cx_pr a (cx_p b0 : M) = - cx_Ta M a b0 := cx_skew a b0
      rw [e1, e2]; grind)) (by
      show (-(cx_dg a)) * cx_pr b0 (cx_p b0 : M) + (-1) * (cx_Ta M a b0 * cx_dg b0 + (-(cx_dg b0)) * cx_Ta M a b0) = 0
      rw [cx_pr_self]; grind)
    have e3 : cx_pr b0 (cx_p x : M) = - cx_pr x (cx_p b0 : M) := cx_skew b0 x
    rw [e3]; grind
  have fw : cx_Fun (fun z : B => cx_dg a * cx_pr z (cx_p x : M) + (-1) * (cx_dg x * cx_Ta M a z + (- cx_Ta M a x) * cx_dg z)) :=
    (cx_fun_pr (cx_p x : M)).lin ((cx_Ta_fun a).lin cx_fun_dg (cx_dg x) (- cx_Ta M a x)) (cx_dg a) (-1)
  have h := hy _ (cx_Van.par ha fw (by
    show cx_dg a * cx_pr a (cx_p x : M) + (-1) * (cx_dg x * cx_Ta M a a + (- cx_Ta M a x) * cx_dg a) = 0
    have e1 : cx_Ta M a a = 0 := cx_pr_self a
    have e2 : cx_pr a (cx_p x : M) = - cx_Ta M a x := cx_skew a x
    rw [e1, e2]; grind)) (by
    show cx_dg a * cx_pr b0 (cx_p x : M) + (-1) * (cx_dg x * cx_Ta M a b0 + (- cx_Ta M a x) * cx_dg b0) = 0
    have := w1 x hx
    grind)
  grind
theorem cx_div_eq {x y c d : Rat} (hc : 0 < c) (hd : 0 < d) : x / c = y / d ↔ x * d = y * c := by
  have e1 : x / c * c = x := Rat.div_mul_cancel (by grind)
  have e2 : y / d * d = y := Rat.div_mul_cancel (by grind)
  generalize x / c = u at *
  generalize y / d = v at *
  constructor
  · intro h; subst h; grind
  · intro h
    refine cx_canc_pos (Rat.mul_pos hc hd) ?_
    grind
def cx_PosAt {B : Type} [Zero B] [Add B] [Mul (cx_S B)] [One (cx_S B)] [Add (cx_S B)] [Zero (cx_S B)] [Inhabited (cx_Idx B)] {M : Type} [Add M] [Inhabited (PLift (cx_MGl M))] [Inhabited (cx_Tord B M)] (g : M → cx_S B) (a : B) : Prop := ∀ t, cx_Gen (cx_Par a) (cx_deg a) t → ∀ f, cx_Lam g a (cx_deg a) t f → 0 ≤ f a
def cx_Inc {B : Type} [Zero B] [Add B] [Mul (cx_S B)] [One (cx_S B)] [Add (cx_S B)] [Zero (cx_S B)] [Inhabited (cx_Idx B)] {M : Type} [Add M] [Inhabited (PLift (cx_MGl M))] [Inhabited (cx_Tord B M)] (g : M → cx_S B) (cx_std : B → Rat) : Prop := ∀ a, a ≠ 0 → ∀ t, cx_Gen (cx_Par a) (cx_deg a) t → (∀ b, cx_deg b ≤ cx_deg a → 0 ≤ t b * cx_pr b (cx_p a : M)) →
  ∀ f, cx_Lam g a (cx_deg a) t f → f a = cx_std a
theorem cx_wall_step {B : Type} [Zero B] [Add B] [Mul (cx_S B)] [One (cx_S B)] [Add (cx_S B)] [Zero (cx_S B)] [Inhabited (cx_Idx B)] {M : Type} [Add M] [Inhabited (PLift (cx_MGl M))] [Inhabited (cx_Tord B M)] {Z : M → Prop} {g : M → cx_S B} (h : cx_Wh Z g) {a b0 : B} (ha : a ≠ 0) (hlow : ∀ x : B, x ≠ 0 → cx_deg x < cx_deg a → cx_PosAt g x)
    {t t' t1 : B → Rat} (ht : cx_Gen (cx_Par a) (cx_deg a) t) (ht' : cx_Gen (cx_Par a) (cx_deg a) t') (hj : cx_Joint (cx_Par a) (cx_deg a) (cx_Ta M a) t1 b0)
    (hn : cx_Near cx_All (cx_deg a) t1 (fun b => - cx_Ta M a b) t) (hn' : cx_Near cx_All (cx_deg a) t1 (cx_Ta M a) t')
    (hp : ∀ f, cx_Lam g a (cx_deg a) t' f → 0 ≤ f a) : ∀ f, cx_Lam g a (cx_deg a) t f → 0 ≤ f a := by
  classical
  let T := cx_Ta M a
  have hT : cx_Van (cx_Par a) T := cx_Ta_van ha
  let J : B → Prop := fun x => x ≠ 0 ∧ cx_Sp (cx_Par a) b0 x
  have cJ : cx_Clo J := ⟨fun x y hx hy => ⟨fun e => hx.1 (cx_deg_pos x (by have := congrArg cx_deg e; rw [cx_deg_add, cx_deg_zero] at this; omega)),
    fun v hv h0 => by rw [hv.1.add, hx.2 v hv h0, hy.2 v hv h0]; grind⟩⟩
  have J1 : ∀ b, b ≠ 0 → cx_deg b ≤ cx_deg a → t1 b = 0 → J b := fun b h1 h2 h3 => ⟨h1, hj.sp b h1 h2 h3⟩
  have J2 : ∀ b, J b → t1 b = 0 := fun b hb => hb.2 t1 hj.van hj.zr
  let κ : B → Rat := fun x => T x / cx_dg x
  have hform : ∀ x y, J x → J y → cx_pr y (cx_p x : M) * cx_dg a = T y * cx_dg x - T x * cx_dg y := fun x y hx hy => cx_joint_form ha x y hx.2 hy.2
  have hda := cx_dg_pos ha
  have hκ : ∀ x y, J x → J y → (0 < cx_pr y (cx_p x : M) ↔ κ x < κ y) := by
    intro x y hx hy
    show _ ↔ T x / cx_dg x < T y / cx_dg y
    rw [cx_div_lt (cx_dg_pos hx.1) (cx_dg_pos hy.1)]
    have h1 := hform x y hx hy
    constructor
    · intro h2; have := Rat.mul_pos h2 hda; grind
    · intro h2
      by_cases h3 : 0 < cx_pr y (cx_p x : M)
      · exact h3
      · have := Rat.mul_nonneg (by grind : 0 ≤ - cx_pr y (cx_p x : M)) (by grind : 0 ≤ cx_dg a); grind
  obtain ⟨ord, hnod, hmem, hsuf⟩ := cx_suf_of M (T := J) κ (cx_deg a) hκ
  have hmem' : ∀ x, x ∈ ord ↔ x ≠ 0 ∧ cx_deg x ≤ cx_deg a ∧ J x := fun x => by rw [hmem]; exact ⟨fun h => ⟨h.1, h.2.2, h.2.1⟩, fun h => ⟨h.1, h.2.2, h.2.1⟩⟩
  have hsort : ord.Pairwise (fun x y => κ x ≤ κ y) := by
    refine (List.Pairwise.and_mem.1 (cx_suf_pair ord hsuf)).imp ?_
    rintro x y ⟨hx, hy, h0⟩
    have jx := ((hmem x).1 hx).2.1
    have jy := ((hmem y).1 hy).2.1
    by_cases hk : κ x ≤ κ y
    · exact hk
    · have := (hκ y x jy jx).2 (by grind)
      rw [cx_skew] at this
      grind
  have hrev : ord.reverse.Pairwise (fun x y => (fun z => - κ z) x ≤ (fun z => - κ z) y) := by
    rw [List.pairwise_reverse]
    exact hsort.imp (fun h => by grind)
  obtain ⟨wp, w0, wm, hf, hw⟩ := h.fac t1 (cx_deg a)
  have hnodr : ord.reverse.Nodup := by
    rw [List.nodup_iff_pairwise_ne, List.pairwise_reverse]
    exact (List.nodup_iff_pairwise_ne.1 hnod).imp (fun h => h.symm)
  obtain ⟨c, hc, hcw⟩ := cx_zero_nf h hf (fun x hx => hw x (by simp [hx])) cJ J1 hnodr (fun x => by rw [List.mem_reverse]; exact hmem' x)
  have hzz : ∀ x ∈ ord, x ≠ 0 ∧ cx_deg x ≤ cx_deg a ∧ t1 x = 0 := fun x hx => by have := (hmem' x).1 hx; exact ⟨this.1, this.2.1, J2 x this.2.2⟩
  have hzzr : ∀ x ∈ ord.reverse, x ≠ 0 ∧ cx_deg x ≤ cx_deg a ∧ t1 x = 0 := fun x hx => hzz x (List.mem_reverse.1 hx)

  have slope : ∀ x y, J x → J y → κ x = κ y → cx_Par x y := by
    intro x y hx hy hk v hv
    obtain ⟨α, β, hc⟩ := cx_joint_coord hT ha hj.tr v hv
    rw [hc x hx.2, hc y hy.2]
    have := (cx_div_eq (cx_dg_pos hx.1) (cx_dg_pos hy.1)).1 hk
    have h2 : T x * cx_dg y = T y * cx_dg x := this
    show (α * cx_dg y + β * T y) * cx_dg x = (α * cx_dg x + β * T x) * cx_dg y
    grind
  have par_slope : ∀ x y, J x → y ≠ 0 → cx_Par x y → J y ∧ κ y = κ x := by
    intro x y hx hy0 hp
    refine ⟨⟨hy0, fun v hv h0 => hp.zero hx.1 hv.1 (hx.2 v hv h0)⟩, ?_⟩
    refine (cx_div_eq (cx_dg_pos hy0) (cx_dg_pos hx.1)).2 ?_
    exact hp T hT.1

  have hpos : ∀ x ∈ ord, cx_deg x < cx_deg a → 0 ≤ c x := by
    intro x hx hd
    have hx' := (hmem' x).1 hx
    let u : B → Rat := fun b => T b + (- κ x) * cx_dg b
    have fu : cx_Fun u := hT.1.plus cx_fun_dg _
    have hu : ∀ y, J y → u y = (κ y - κ x) * cx_dg y := by
      intro y hy
      have : κ y * cx_dg y = T y := Rat.div_mul_cancel (by have := cx_dg_pos hy.1; grind)
      show T y + (- κ x) * cx_dg y = _
      rw [← this]; grind
    obtain ⟨ε, hε, hns⟩ := cx_near_small (cx_deg a) t1 u
    have hns := hns ε hε (by grind)
    have ftx : cx_Fun (fun b => t1 b + ε * u b) := hj.van.1.plus fu ε
    have gx : cx_Gen (cx_Par x) (cx_deg x) (fun b => t1 b + ε * u b) := by
      refine ⟨ftx, fun b hb hdb => ⟨fun h0 => ?_, fun hpb => ?_⟩⟩
      · have h0 : t1 b + ε * u b = 0 := h0
        have ht1 : t1 b = 0 := by
          by_cases h1 : 0 < t1 b
          · have h2 : 0 < t1 b + ε * u b := hns.pos b trivial (by omega) h1
            grind
          · by_cases h2 : t1 b < 0
            · have h2 : t1 b + ε * u b < 0 := hns.neg b trivial (by omega) h2
              grind
            · grind
        have jb := J1 b hb (by omega) ht1
        have hub : u b = 0 := by
          rw [ht1, Rat.zero_add] at h0
          rcases Rat.mul_eq_zero.1 h0 with h | h
          · grind
          · exact h
        rw [hu b jb] at hub
        rcases Rat.mul_eq_zero.1 hub with h | h
        · exact slope x b hx'.2.2 jb (by grind)
        · have := cx_dg_pos hb; grind
      · have ⟨jb, hk⟩ := par_slope x b hx'.2.2 hb hpb
        show t1 b + ε * u b = 0
        rw [J2 b jb, hu b jb, hk]; grind
    have hsp := cx_split_sorted hrev (- κ x)
    rw [hsp] at hc hzzr
    have hl := cx_joint_lam (u := u) hf hzzr hc (by
      intro y hy
      have h1 := List.mem_filter.1 hy
      have h2 := (hmem' y).1 (List.mem_reverse.1 h1.1)
      have h3 : - κ y < - κ x := by simpa using h1.2
      rw [hu y h2.2.2]
      exact Rat.mul_pos (by grind) (cx_dg_pos h2.1)) (by
      intro y hy
      have h1 := List.mem_filter.1 hy
      have h2 := (hmem' y).1 (List.mem_reverse.1 h1.1)
      have h3 : - κ y = - κ x := by simpa using h1.2
      rw [hu y h2.2.2, show κ y - κ x = 0 by grind, Rat.zero_mul]) (by
      intro y hy
      have h1 := List.mem_filter.1 hy
      have h2 := (hmem' y).1 (List.mem_reverse.1 h1.1)
      have h3 : - κ x < - κ y := by simpa using h1.2
      rw [hu y h2.2.2]
      have := Rat.mul_pos (by grind : 0 < κ x - κ y) (cx_dg_pos h2.1)
      grind) hns (x := x) ⟨hnodr.sublist List.filter_sublist, fun y => by
        rw [List.mem_filter, List.mem_reverse, decide_eq_true_eq]
        constructor
        · rintro ⟨h1, h2⟩
          have h3 := (hmem' y).1 h1
          exact ⟨h3.1, h3.2.1, slope x y hx'.2.2 h3.2.2 (by grind)⟩
        · rintro ⟨h1, h2, h3⟩
          have h4 := par_slope x y hx'.2.2 h1 h3
          exact ⟨(hmem' y).2 ⟨h1, h2, h4.1⟩, by rw [h4.2]⟩⟩
    exact hlow x hx'.1 hd _ gx c (hl.cut (by omega))

  have hTdg : ∀ y, J y → T y = κ y * cx_dg y := fun y hy => (Rat.div_mul_cancel (by have := cx_dg_pos hy.1; grind)).symm
  have hTk : ∀ y, J y → (κ y = 0 ↔ cx_Par a y) := by
    intro y hy
    constructor
    · intro hk v hv
      obtain ⟨α, β, hc⟩ := cx_joint_coord hT ha hj.tr v hv
      have hTa : T a = 0 := hT.2 a (cx_Par.refl a)
      have e1 := hc a (fun v hv _ => hv.2 a (cx_Par.refl a))
      have e2 := hc y hy.2
      rw [hTdg y hy, hk] at e2
      rw [hTa] at e1
      rw [e1, e2]; grind
    · intro hp
      have h0 : T y = 0 := hT.2 y hp
      show T y / cx_dg y = 0
      rw [h0, Rat.div_def, Rat.zero_mul]
  have aJ : ∀ y, y ≠ 0 → cx_Par a y → J y := fun y hy hp => ⟨hy, fun v hv _ => hv.2 y hp⟩
  have lam' : cx_Lam g a (cx_deg a) t' c := by
    have hsp := cx_split_sorted hrev 0
    rw [hsp] at hc hzzr
    refine cx_joint_lam (u := T) hf hzzr hc (fun y hy => ?_) (fun y hy => ?_) (fun y hy => ?_) hn' ⟨hnodr.sublist List.filter_sublist, fun y => ?_⟩
    · have h1 := List.mem_filter.1 hy
      have h2 := (hmem' y).1 (List.mem_reverse.1 h1.1)
      have h3 : - κ y < 0 := by simpa using h1.2
      rw [hTdg y h2.2.2]
      exact Rat.mul_pos (by grind) (cx_dg_pos h2.1)
    · have h1 := List.mem_filter.1 hy
      have h2 := (hmem' y).1 (List.mem_reverse.1 h1.1)
      have h3 : - κ y = 0 := by simpa using h1.2
      rw [hTdg y h2.2.2, show κ y = 0 by grind, Rat.zero_mul]
    · have h1 := List.mem_filter.1 hy
      have h2 := (hmem' y).1 (List.mem_reverse.1 h1.1)
      have h3 : 0 < - κ y := by simpa using h1.2
      rw [hTdg y h2.2.2]
      have := Rat.mul_pos h3 (cx_dg_pos h2.1)
      grind
    · rw [List.mem_filter, List.mem_reverse, decide_eq_true_eq]
      constructor
      · rintro ⟨h1, h2⟩
        have h3 := (hmem' y).1 h1
        exact ⟨h3.1, h3.2.1, (hTk y h3.2.2).1 (by grind)⟩
      · rintro ⟨h1, h2, h3⟩
        have h4 := aJ y h1 h3
        exact ⟨(hmem' y).2 ⟨h1, h2, h4⟩, by rw [(hTk y h4).2 h3]; grind⟩
  have hca := hp c lam'

  let c1 : B → Rat := fun x => if cx_deg x < cx_deg a then c x else 0
  have hc1 : ∀ x ∈ ord, cx_Pl J Z (cx_deg a) (x, c1 x) := by
    intro x hx
    have hx' := (hmem' x).1 hx
    refine ⟨hx'.1, hx'.2.2, ?_, ?_, hx'.2.1⟩
    · show 0 ≤ if cx_deg x < cx_deg a then c x else 0
      by_cases hd : cx_deg x < cx_deg a
      · rw [if_pos hd]; exact hpos x hx hd
      · rw [if_neg hd]; grind
    · show cx_Wl Z (x, if cx_deg x < cx_deg a then c x else 0)
      by_cases hd : cx_deg x < cx_deg a
      · rw [if_pos hd]; exact hcw x (List.mem_reverse.2 hx)
      · rw [if_neg hd]; intro m _; show cx_IsI (0 * _); rw [Rat.zero_mul]; exact cx_IsI.zero
  obtain ⟨c2, hc2, hec2⟩ := cx_sortW (M := M) (T := J) (Z := Z) (e := cx_deg a) ord hsuf (by
    intro z hz x hx hzx q1 c1 hq1 hc1
    have mz := (hmem' z).1 hz
    have mx := (hmem' x).1 hx
    obtain ⟨X, hX, hXe⟩ := cx_swap (M := M) (cx_deg a) (cx_deg a + 1) J Z z x cJ (fun m u hm _ => h.hZ m u hm) (fun u _ => h.hp u) mz.1 mx.1 mz.2.2 mx.2.2 hzx (by omega) q1 c1 hq1 hc1
    refine ⟨X, fun y hy => ⟨(hX y hy).1, ?_⟩, hXe⟩
    obtain ⟨i, j, hij⟩ := (hX y hy).2
    rw [hij, cx_pr_addL, cx_pr_nsm, cx_pr_nsm, cx_pr_self, Rat.mul_zero, Rat.add_zero]
    have h1 : (0 : Rat) ≤ (i : Rat) := by exact_mod_cast Nat.zero_le i
    have e1 : ((i + 1 : Nat) : Rat) = (i : Rat) + 1 := by exact_mod_cast rfl
    rw [e1]
    have h3 : 0 ≤ (i : Rat) * cx_pr z (cx_p x : M) := Rat.mul_nonneg h1 (by grind)
    grind) (ord.reverse.map fun x => (x, c1 x)) (by
    intro y hy
    obtain ⟨x, hx, rfl⟩ := List.mem_map.1 hy
    exact ⟨hc1 x (List.mem_reverse.1 hx), List.mem_reverse.1 hx⟩) (fun _ => 0) (by
    intro x hx
    have h := (hmem' x).1 hx
    exact ⟨h.1, h.2.2, by show (0 : Rat) ≤ 0; grind, fun m _ => by show cx_IsI (0 * _); rw [Rat.zero_mul]; exact cx_IsI.zero, h.2.1⟩)
  rw [cx_nf_zero (fun x hx => ((hmem x).1 hx).1), cx_comp_I] at hec2
  have hec2 : cx_Eqd (cx_deg a) (cx_nf ord.reverse c1 : M → cx_S B) (cx_nf ord c2) := hec2
  let c3 : B → Rat := fun x => if cx_deg x < cx_deg a then c2 x else c2 x + c x
  have hda0 : 0 < cx_deg a := by
    rcases Nat.eq_zero_or_pos (cx_deg a) with h | h
    · exact absurd (cx_deg_pos a h) ha
    · exact h
  have h0ord : ∀ x ∈ ord, x ≠ 0 := fun x hx => ((hmem x).1 hx).1
  have h0rev : ∀ x ∈ ord.reverse, x ≠ 0 := fun x hx => h0ord x (List.mem_reverse.1 hx)
  have final : cx_Eqd (cx_deg a) (cx_ev w0 : M → cx_S B) (cx_nf ord c3) := by
    intro m b hb
    rw [hc m b hb]
    rw [cx_nf_low (M := M) hnodr h0rev c c1 (cx_deg a) hda0 (fun x _ hd => by show _ = if _ then _ else _; rw [if_pos hd]) (fun x _ hd => by show (if _ then _ else _) = _; rw [if_neg (by omega)]) m b hb]
    rw [hec2 m b hb]
    let c4 : B → Rat := fun x => if cx_deg x < cx_deg a then c2 x else 0
    rw [cx_nf_low (M := M) hnod h0ord c2 c4 (cx_deg a) hda0 (fun x _ hd => by show _ = if _ then _ else _; rw [if_pos hd]) (fun x _ hd => by show (if _ then _ else _) = _; rw [if_neg (by omega)]) m b hb]
    rw [cx_nf_low (M := M) hnod h0ord c3 c4 (cx_deg a) hda0 (fun x _ hd => by show (if _ then _ else _) = if _ then _ else _; rw [if_pos hd, if_pos hd]) (fun x _ hd => by show (if _ then _ else _) = _; rw [if_neg (by omega)]) m b hb]
    by_cases hcond : cx_deg b = cx_deg a ∧ b ∈ ord
    · rw [if_pos hcond, if_pos hcond, if_pos ⟨hcond.1, List.mem_reverse.2 hcond.2⟩]
      have : c3 b = c2 b + c b := by show (if _ then _ else _) = _; rw [if_neg (by omega)]
      rw [this]; grind
    · rw [if_neg hcond, if_neg hcond, if_neg (fun h => hcond ⟨h.1, List.mem_reverse.1 h.2⟩)]; grind
  have lam : cx_Lam g a (cx_deg a) t c3 := by
    have hsp := cx_split_sorted hsort 0
    rw [hsp] at final hzz
    refine cx_joint_lam (u := fun b => - T b) hf hzz final (fun y hy => ?_) (fun y hy => ?_) (fun y hy => ?_) hn ⟨hnod.sublist List.filter_sublist, fun y => ?_⟩
    · have h1 := List.mem_filter.1 hy
      have h2 := (hmem' y).1 h1.1
      have h3 : κ y < 0 := by simpa using h1.2
      show 0 < - T y
      rw [hTdg y h2.2.2]
      have := Rat.mul_pos (by grind : 0 < - κ y) (cx_dg_pos h2.1)
      grind
    · have h1 := List.mem_filter.1 hy
      have h2 := (hmem' y).1 h1.1
      have h3 : κ y = 0 := by simpa using h1.2
      show - T y = 0
      rw [hTdg y h2.2.2, h3]; grind
    · have h1 := List.mem_filter.1 hy
      have h2 := (hmem' y).1 h1.1
      have h3 : 0 < κ y := by simpa using h1.2
      show - T y < 0
      rw [hTdg y h2.2.2]
      have := Rat.mul_pos h3 (cx_dg_pos h2.1)
      grind
    · rw [List.mem_filter, decide_eq_true_eq]
      constructor
      · rintro ⟨h1, h2⟩
        have h3 := (hmem' y).1 h1
        exact ⟨h3.1, h3.2.1, (hTk y h3.2.2).1 h2⟩
      · rintro ⟨h1, h2, h3⟩
        have h4 := aJ y h1 h3
        exact ⟨(hmem' y).2 ⟨h1, h2, h4⟩, (hTk y h4).2 h3⟩
  intro f lf
  rw [lf.unique ha ht.f lam cx_Eqd.rfl' a ha (Nat.le_refl _) (cx_Par.refl a)]
  have e3 : c3 a = c2 a + c a := by show (if _ then _ else _) = _; rw [if_neg (by omega)]
  rw [e3]
  have := (hc2 a ((hmem' a).2 ⟨ha, Nat.le_refl _, aJ a ha (cx_Par.refl a)⟩)).1.pos
  have h5 : 0 ≤ c2 a := this
  grind
theorem cx_walls {B : Type} [Zero B] [Add B] [Mul (cx_S B)] [One (cx_S B)] [Add (cx_S B)] [Zero (cx_S B)] [Inhabited (cx_Idx B)] {M : Type} [Add M] [Inhabited (PLift (cx_MGl M))] [Inhabited (cx_Tord B M)] {Z : M → Prop} {g : M → cx_S B} (h : cx_Wh Z g) {cx_std : B → Rat} (hstd : ∀ a, 0 ≤ cx_std a) (hi : cx_Inc g cx_std) : ∀ a : B, a ≠ 0 → cx_PosAt g a := by
  have main : ∀ n, ∀ a : B, a ≠ 0 → cx_deg a < n → cx_PosAt g a := by
    intro n
    induction n with
    | zero => intro a _ h; omega
    | succ n ih =>
      intro a ha hd t ht
      have hT := cx_Ta_van (M := M) ha
      refine cx_path_ind (K := cx_Par a) (d := cx_deg a) hT (fun t => ∀ f, cx_Lam g a (cx_deg a) t f → 0 ≤ f a) ?_ ?_ ?_ t ht (ht.van ha (Nat.le_refl _))
      · intro t t' _ _ _ _ hs hq f lf
        exact hq f (lf.sgn hs)
      · intro t gt _ hc f lf
        rw [hi a ha t gt hc f lf]
        exact hstd a
      · intro t t' s b0 gt _ gt' _ _ hj _ hn hn' _ hq
        exact cx_wall_step h ha (fun x hx hdx => ih x hx (by omega)) gt gt' hj hn hn' hq
  intro a ha
  exact main (cx_deg a + 1) a ha (Nat.lt_succ_self _)
end
