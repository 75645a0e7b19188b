abbrev cx_Ex (n : Nat) := Fin n → Nat
theorem cx_Ex.ext {n : Nat} {a b : cx_Ex n} (h : ∀ i, a i = b i) : a = b := funext h
def cx_boxes : (n : Nat) → (Fin n → Nat) → List (Fin n → Nat)
  | 0, _ => [fun i => i.elim0]
  | n + 1, b => (List.range (b 0 + 1)).flatMap fun i => (cx_boxes n (fun j => b j.succ)).map fun f => fun x => Fin.cases (motive := fun _ => Nat) i f x
theorem cx_mem_boxes {n : Nat} (b u : Fin n → Nat) : u ∈ cx_boxes n b ↔ ∀ i, u i ≤ b i := by
  induction n with
  | zero =>
    simp only [cx_boxes, List.mem_singleton]
    constructor
    · intro _ i; exact i.elim0
    · intro _; funext i; exact i.elim0
  | succ n ih =>
    simp only [cx_boxes, List.mem_flatMap, List.mem_range, List.mem_map]
    constructor
    · rintro ⟨i, hi, f, hf, rfl⟩ x
      have := (ih _ f).1 hf
      refine Fin.cases ?_ (fun j => ?_) x
      · show i ≤ b 0; omega
      · exact this j
    · intro h
      refine ⟨u 0, by have := h 0; omega, fun j => u j.succ, (ih _ _).2 (fun j => h j.succ), ?_⟩
      funext x
      refine Fin.cases ?_ (fun j => ?_) x <;> rfl
theorem cx_nodup_boxes {n : Nat} (b : Fin n → Nat) : (cx_boxes n b).Nodup := by
  induction n with
  | zero => simp [cx_boxes]
  | succ n ih =>
    simp only [cx_boxes]
    generalize hl : List.range (b 0 + 1) = l
    have hn : l.Nodup := hl ▸ List.nodup_range
    clear hl
    induction l with
    | nil => simp
    | cons i l ihl =>
      rw [List.nodup_cons] at hn
      rw [List.flatMap_cons, List.nodup_append]
      refine ⟨?_, ihl hn.2, ?_⟩
      · have h1 := ih (fun j => b j.succ)
        rw [List.nodup_iff_pairwise_ne] at h1 ⊢
        rw [List.pairwise_map]
        refine h1.imp (fun {f g} hne e => hne ?_)
        funext j
        exact congrFun e j.succ
      · intro f hf g hg e
        subst e
        obtain ⟨f1, _, rfl⟩ := List.mem_map.1 hf
        obtain ⟨i2, hi2, hg⟩ := List.mem_flatMap.1 hg
        obtain ⟨f2, _, e⟩ := List.mem_map.1 hg
        have := congrFun e 0
        have : i2 = i := this
        subst this
        exact hn.1 hi2
def cx_nsum {n : Nat} (f : Fin n → Nat) : Nat := (List.finRange n).foldr (fun i s => f i + s) 0
theorem cx_nsum_list_add {α : Type} (l : List α) (f g : α → Nat) : l.foldr (fun i s => (f i + g i) + s) 0 = l.foldr (fun i s => f i + s) 0 + l.foldr (fun i s => g i + s) 0 := by
  induction l with
  | nil => rfl
  | cons x l ih => simp only [List.foldr_cons, ih]; omega
theorem cx_nsum_add {n : Nat} (f g : Fin n → Nat) : cx_nsum (fun i => f i + g i) = cx_nsum f + cx_nsum g := cx_nsum_list_add _ f g
theorem cx_nsum_le {α : Type} (l : List α) (f : α → Nat) (x : α) (hx : x ∈ l) : f x ≤ l.foldr (fun i s => f i + s) 0 := by
  induction l with
  | nil => simp at hx
  | cons y l ih =>
    simp only [List.foldr_cons]
    rcases List.mem_cons.1 hx with rfl | h
    · omega
    · have := ih h; omega
theorem cx_nsum_ge {n : Nat} (f : Fin n → Nat) (i : Fin n) : f i ≤ cx_nsum f := cx_nsum_le _ f i (List.mem_finRange i)
theorem cx_nsum_cast {n : Nat} (f : Fin n → Nat) : ((cx_nsum f : Nat) : Rat) = cx_sm (List.finRange n) (fun i => (f i : Rat)) := by
  unfold cx_nsum
  generalize List.finRange n = l
  induction l with
  | nil => rfl
  | cons x l ih =>
    rw [cx_sm_cons, ← ih, List.foldr_cons]
    exact_mod_cast rfl
theorem cx_nsum_zero {n : Nat} {f : Fin n → Nat} (h : ∀ i, f i = 0) : cx_nsum f = 0 := by
  unfold cx_nsum
  generalize List.finRange n = l
  induction l with
  | nil => rfl
  | cons x l ih => rw [List.foldr_cons, ih, h x]
abbrev cx_Exl (n : Nat) [Zero (cx_Ex n)] [Add (cx_Ex n)] [Mul (cx_S (cx_Ex n))] [One (cx_S (cx_Ex n))] [Add (cx_S (cx_Ex n))] [Zero (cx_S (cx_Ex n))] [Inhabited (cx_Idx (cx_Ex n))] : Prop := (∀ (a b : cx_Ex n) (i : Fin n), (a + b) i = a i + b i) ∧ (∀ i : Fin n, (0 : cx_Ex n) i = 0) ∧ ∀ a : cx_Ex n, cx_deg a = cx_nsum a
theorem cx_ex_add {n : Nat} [Zero (cx_Ex n)] [Add (cx_Ex n)] [Mul (cx_S (cx_Ex n))] [One (cx_S (cx_Ex n))] [Add (cx_S (cx_Ex n))] [Zero (cx_S (cx_Ex n))] [Inhabited (cx_Idx (cx_Ex n))] [Inhabited (PLift (cx_Exl n))] (a b : cx_Ex n) (i : Fin n) : (a + b) i = a i + b i := (default : PLift (cx_Exl n)).down.1 a b i
theorem cx_ex_zero {n : Nat} [Zero (cx_Ex n)] [Add (cx_Ex n)] [Mul (cx_S (cx_Ex n))] [One (cx_S (cx_Ex n))] [Add (cx_S (cx_Ex n))] [Zero (cx_S (cx_Ex n))] [Inhabited (cx_Idx (cx_Ex n))] [Inhabited (PLift (cx_Exl n))] (i : Fin n) : (0 : cx_Ex n) i = 0 := (default : PLift (cx_Exl n)).down.2.1 i
theorem cx_ex_deg {n : Nat} [Zero (cx_Ex n)] [Add (cx_Ex n)] [Mul (cx_S (cx_Ex n))] [One (cx_S (cx_Ex n))] [Add (cx_S (cx_Ex n))] [Zero (cx_S (cx_Ex n))] [Inhabited (cx_Idx (cx_Ex n))] [Inhabited (PLift (cx_Exl n))] (a : cx_Ex n) : cx_deg a = cx_nsum a := (default : PLift (cx_Exl n)).down.2.2 a
def cx_ee {n : Nat} [Zero (cx_Ex n)] [Add (cx_Ex n)] [Mul (cx_S (cx_Ex n))] [One (cx_S (cx_Ex n))] [Add (cx_S (cx_Ex n))] [Zero (cx_S (cx_Ex n))] [Inhabited (cx_Idx (cx_Ex n))] [Inhabited (PLift (cx_Exl n))] (k : Fin n) : cx_Ex n := fun i => if i = k then 1 else 0
theorem cx_ee_self {n : Nat} [Zero (cx_Ex n)] [Add (cx_Ex n)] [Mul (cx_S (cx_Ex n))] [One (cx_S (cx_Ex n))] [Add (cx_S (cx_Ex n))] [Zero (cx_S (cx_Ex n))] [Inhabited (cx_Idx (cx_Ex n))] [Inhabited (PLift (cx_Exl n))] (k : Fin n) : cx_ee k k = 1 := if_pos rfl
theorem cx_ee_ne {n : Nat} [Zero (cx_Ex n)] [Add (cx_Ex n)] [Mul (cx_S (cx_Ex n))] [One (cx_S (cx_Ex n))] [Add (cx_S (cx_Ex n))] [Zero (cx_S (cx_Ex n))] [Inhabited (cx_Idx (cx_Ex n))] [Inhabited (PLift (cx_Exl n))] {k i : Fin n} (h : i ≠ k) : cx_ee k i = 0 := if_neg h
theorem cx_ee_nz {n : Nat} [Zero (cx_Ex n)] [Add (cx_Ex n)] [Mul (cx_S (cx_Ex n))] [One (cx_S (cx_Ex n))] [Add (cx_S (cx_Ex n))] [Zero (cx_S (cx_Ex n))] [Inhabited (cx_Idx (cx_Ex n))] [Inhabited (PLift (cx_Exl n))] (k : Fin n) : cx_ee k ≠ 0 := fun e => by
  have := congrFun e k
  rw [cx_ee_self] at this
  rw [cx_ex_zero] at this
  omega
theorem cx_nsm_at {n : Nat} [Zero (cx_Ex n)] [Add (cx_Ex n)] [Mul (cx_S (cx_Ex n))] [One (cx_S (cx_Ex n))] [Add (cx_S (cx_Ex n))] [Zero (cx_S (cx_Ex n))] [Inhabited (cx_Idx (cx_Ex n))] [Inhabited (PLift (cx_Exl n))] (j : Nat) (a : cx_Ex n) (i : Fin n) : (cx_nsm j a) i = j * a i := by
  induction j with
  | zero => show (0 : cx_Ex n) i = 0 * a i; rw [cx_ex_zero]; omega
  | succ j ih => show (cx_nsm j a + a) i = _; rw [cx_ex_add, ih, Nat.succ_mul]
theorem cx_sm_single {n : Nat} [Zero (cx_Ex n)] [Add (cx_Ex n)] [Mul (cx_S (cx_Ex n))] [One (cx_S (cx_Ex n))] [Add (cx_S (cx_Ex n))] [Zero (cx_S (cx_Ex n))] [Inhabited (cx_Idx (cx_Ex n))] [Inhabited (PLift (cx_Exl n))] {l : List (Fin n)} (hn : l.Nodup) (k : Fin n) (hk : k ∈ l) (f : Fin n → Rat) : cx_sm l f = f k + cx_sm l (fun i => if i = k then 0 else f i) := by
  induction l with
  | nil => simp at hk
  | cons x l ih =>
    rw [List.nodup_cons] at hn
    rw [cx_sm_cons, cx_sm_cons]
    by_cases hx : x = k
    · subst hx
      rw [if_pos rfl, Rat.zero_add]
      congr 1
      exact cx_sm_congr (fun i hi => by rw [if_neg (fun e : i = x => hn.1 (by rw [← e]; exact hi))])
    · rw [if_neg hx, ih hn.2 (by rcases List.mem_cons.1 hk with h | h; exact absurd h.symm hx; exact h)]; grind
def cx_fr (n : Nat) : List (Fin n) := List.finRange n
theorem cx_fr_split {n : Nat} [Zero (cx_Ex n)] [Add (cx_Ex n)] [Mul (cx_S (cx_Ex n))] [One (cx_S (cx_Ex n))] [Add (cx_S (cx_Ex n))] [Zero (cx_S (cx_Ex n))] [Inhabited (cx_Idx (cx_Ex n))] [Inhabited (PLift (cx_Exl n))] (k : Fin n) (f : Fin n → Rat) : cx_sm (cx_fr n) f = f k + cx_sm (cx_fr n) (fun i => if i = k then 0 else f i) := cx_sm_single (List.nodup_finRange n) k (List.mem_finRange k) f
theorem cx_fr_only {n : Nat} [Zero (cx_Ex n)] [Add (cx_Ex n)] [Mul (cx_S (cx_Ex n))] [One (cx_S (cx_Ex n))] [Add (cx_S (cx_Ex n))] [Zero (cx_S (cx_Ex n))] [Inhabited (cx_Idx (cx_Ex n))] [Inhabited (PLift (cx_Exl n))] (k : Fin n) (f : Fin n → Rat) (h : ∀ i, i ≠ k → f i = 0) : cx_sm (cx_fr n) f = f k := by
  rw [cx_fr_split k, cx_sm_zero (fun i _ => by by_cases hi : i = k; rw [if_pos hi]; rw [if_neg hi, h i hi]), Rat.add_zero]
theorem cx_sm_comm {α : Type} {β : Type} (l : List α) (k : List β) (f : α → β → Rat) : cx_sm l (fun i => cx_sm k (fun j => f i j)) = cx_sm k (fun j => cx_sm l (fun i => f i j)) := by
  induction l with
  | nil => exact (cx_sm_zero (fun _ _ => rfl)).symm
  | cons x l ih => rw [cx_sm_cons, ih, ← cx_sm_add]; rfl
def cx_dt {n : Nat} [Zero (cx_Ex n)] [Add (cx_Ex n)] [Mul (cx_S (cx_Ex n))] [One (cx_S (cx_Ex n))] [Add (cx_S (cx_Ex n))] [Zero (cx_S (cx_Ex n))] [Inhabited (cx_Idx (cx_Ex n))] [Inhabited (PLift (cx_Exl n))] (τ : Fin n → Rat) (b : cx_Ex n) : Rat := cx_sm (cx_fr n) (fun i => τ i * (b i : Rat))
theorem cx_dt_fun {n : Nat} [Zero (cx_Ex n)] [Add (cx_Ex n)] [Mul (cx_S (cx_Ex n))] [One (cx_S (cx_Ex n))] [Add (cx_S (cx_Ex n))] [Zero (cx_S (cx_Ex n))] [Inhabited (cx_Idx (cx_Ex n))] [Inhabited (PLift (cx_Exl n))] (τ : Fin n → Rat) : cx_Fun (cx_dt τ) := ⟨fun a b => by
  unfold cx_dt
  rw [← cx_sm_add]
  refine cx_sm_congr (fun i _ => ?_)
  rw [cx_ex_add]
  have : ((a i + b i : Nat) : Rat) = (a i : Rat) + (b i : Rat) := by exact_mod_cast rfl
  rw [this]; grind⟩
theorem cx_coord_fun {n : Nat} [Zero (cx_Ex n)] [Add (cx_Ex n)] [Mul (cx_S (cx_Ex n))] [One (cx_S (cx_Ex n))] [Add (cx_S (cx_Ex n))] [Zero (cx_S (cx_Ex n))] [Inhabited (cx_Idx (cx_Ex n))] [Inhabited (PLift (cx_Exl n))] (i : Fin n) : cx_Fun (fun b : cx_Ex n => (b i : Rat)) := ⟨fun a b => by
  show (((a + b) i : Nat) : Rat) = (a i : Rat) + (b i : Rat); rw [cx_ex_add]; exact_mod_cast rfl⟩
theorem cx_fun_dt {n : Nat} [Zero (cx_Ex n)] [Add (cx_Ex n)] [Mul (cx_S (cx_Ex n))] [One (cx_S (cx_Ex n))] [Add (cx_S (cx_Ex n))] [Zero (cx_S (cx_Ex n))] [Inhabited (cx_Idx (cx_Ex n))] [Inhabited (PLift (cx_Exl n))] {t : cx_Ex n → Rat} (ht : cx_Fun t) (b : cx_Ex n) : t b = cx_dt (fun i => t (cx_ee i)) b := by
  have main : ∀ l : List (Fin n), l.Nodup → t (fun i => if i ∈ l then b i else 0) = cx_sm l (fun i => t (cx_ee i) * (b i : Rat)) := by
    intro l
    induction l with
    | nil =>
      intro _
      rw [cx_sm_nil]
      have e0 : (fun i => if i ∈ ([] : List (Fin n)) then b i else 0 : cx_Ex n) = 0 := funext fun i => by rw [cx_ex_zero]; exact if_neg (by simp)
      rw [e0]; exact ht.zero
    | cons x l ih =>
      intro hn
      rw [List.nodup_cons] at hn
      rw [cx_sm_cons, ← ih hn.2]
      have e : (fun i => if i ∈ x :: l then b i else 0 : cx_Ex n) = (cx_nsm (b x) (cx_ee x) : cx_Ex n) + (show cx_Ex n from fun i => if i ∈ l then b i else 0) := by
        funext i
        rw [cx_ex_add, cx_nsm_at]
        by_cases hi : i = x
        · subst hi
          rw [if_pos (by simp), if_neg hn.1, cx_ee_self]; omega
        · rw [cx_ee_ne hi]
          by_cases hl : i ∈ l
          · rw [if_pos (by simp [hl]), if_pos hl]; omega
          · rw [if_neg (by simp [hi, hl]), if_neg hl]; omega
      rw [e, ht.add, ht.nsm]; grind
  have := main (List.finRange n) (List.nodup_finRange n)
  have e : (fun i => if i ∈ List.finRange n then b i else 0 : cx_Ex n) = b := funext fun i => if_pos (List.mem_finRange i)
  rw [e] at this
  exact this
theorem cx_dt_ee {n : Nat} [Zero (cx_Ex n)] [Add (cx_Ex n)] [Mul (cx_S (cx_Ex n))] [One (cx_S (cx_Ex n))] [Add (cx_S (cx_Ex n))] [Zero (cx_S (cx_Ex n))] [Inhabited (cx_Idx (cx_Ex n))] [Inhabited (PLift (cx_Exl n))] (τ : Fin n → Rat) (i : Fin n) : cx_dt τ (cx_ee i) = τ i := by
  unfold cx_dt
  rw [cx_fr_only i _ (fun j hj => by rw [cx_ee_ne hj]; show _ * ((0 : Nat) : Rat) = 0; rw [show ((0 : Nat) : Rat) = 0 from rfl, Rat.mul_zero]), cx_ee_self]
  show _ * ((1 : Nat) : Rat) = _
  rw [show ((1 : Nat) : Rat) = 1 from rfl, Rat.mul_one]
theorem cx_ee_deg {n : Nat} [Zero (cx_Ex n)] [Add (cx_Ex n)] [Mul (cx_S (cx_Ex n))] [One (cx_S (cx_Ex n))] [Add (cx_S (cx_Ex n))] [Zero (cx_S (cx_Ex n))] [Inhabited (cx_Idx (cx_Ex n))] [Inhabited (PLift (cx_Exl n))] (k : Fin n) : cx_deg (cx_ee k) = 1 := by
  have h : ((cx_deg (cx_ee k) : Nat) : Rat) = ((1 : Nat) : Rat) := by
    rw [cx_ex_deg, cx_nsum_cast]
    show cx_sm (cx_fr n) _ = _
    rw [cx_fr_only k _ (fun j hj => by rw [cx_ee_ne hj]; rfl), cx_ee_self]
  exact_mod_cast h
abbrev cx_Sd (n : Nat) : Type := {x : (Fin n → Fin n → Int) × (Fin n → Nat) // (∀ i, 0 < x.2 i) ∧ ∀ i j, (x.2 i : Int) * x.1 i j = - ((x.2 j : Int) * x.1 j i)}
def cx_Sd.b {n : Nat} (s : cx_Sd n) : Fin n → Fin n → Int := s.1.1
def cx_Sd.d {n : Nat} (s : cx_Sd n) : Fin n → Nat := s.1.2
theorem cx_Sd.dpos {n : Nat} (s : cx_Sd n) : ∀ i, 0 < s.d i := s.2.1
theorem cx_Sd.sk {n : Nat} (s : cx_Sd n) : ∀ i j, (s.d i : Int) * s.b i j = - ((s.d j : Int) * s.b j i) := s.2.2
abbrev cx_MM {n : Nat} (s : cx_Sd n) : Type := {x : Fin n → Rat // s = s}
def cx_MM.v {n : Nat} {s : cx_Sd n} (m : cx_MM s) : Fin n → Rat := m.1
theorem cx_Sd.self {n : Nat} (s : cx_Sd n) (k : Fin n) : s.b k k = 0 := by
  have := s.sk k k
  have h1 := s.dpos k
  have h2 : (s.d k : Int) * s.b k k = 0 := by omega
  rcases Int.mul_eq_zero.1 h2 with h | h
  · omega
  · exact h
theorem cx_MM.ext {n : Nat} {s : cx_Sd n} {m k : cx_MM s} (h : ∀ i, m.v i = k.v i) : m = k := Subtype.ext (funext h)

def cx_prS {n : Nat} [Zero (cx_Ex n)] [Add (cx_Ex n)] [Mul (cx_S (cx_Ex n))] [One (cx_S (cx_Ex n))] [Add (cx_S (cx_Ex n))] [Zero (cx_S (cx_Ex n))] [Inhabited (cx_Idx (cx_Ex n))] [Inhabited (PLift (cx_Exl n))] (s : cx_Sd n) (a : cx_Ex n) (m : cx_MM s) : Rat := cx_sm (cx_fr n) (fun i => (a i : Rat) * (s.d i : Rat) * m.v i)
def cx_pS {n : Nat} (s : cx_Sd n) (a : cx_Ex n) : cx_MM s := ⟨fun i => cx_sm (cx_fr n) (fun j => (s.b i j : Rat) * (a j : Rat)), rfl⟩
theorem cx_castR (a b : Nat) : ((a + b : Nat) : Rat) = (a : Rat) + (b : Rat) := by exact_mod_cast rfl
theorem cx_d_pos {n : Nat} [Zero (cx_Ex n)] [Add (cx_Ex n)] [Mul (cx_S (cx_Ex n))] [One (cx_S (cx_Ex n))] [Add (cx_S (cx_Ex n))] [Zero (cx_S (cx_Ex n))] [Inhabited (cx_Idx (cx_Ex n))] [Inhabited (PLift (cx_Exl n))] (s : cx_Sd n) (i : Fin n) : (0 : Rat) < (s.d i : Rat) := by exact_mod_cast s.dpos i
theorem cx_skR {n : Nat} [Zero (cx_Ex n)] [Add (cx_Ex n)] [Mul (cx_S (cx_Ex n))] [One (cx_S (cx_Ex n))] [Add (cx_S (cx_Ex n))] [Zero (cx_S (cx_Ex n))] [Inhabited (cx_Idx (cx_Ex n))] [Inhabited (PLift (cx_Exl n))] (s : cx_Sd n) (i j : Fin n) : (s.d i : Rat) * (s.b i j : Rat) = - ((s.d j : Rat) * (s.b j i : Rat)) := by
  have h := s.sk i j
  have h1 : (((s.d i : Int) * s.b i j : Int) : Rat) = ((-((s.d j : Int) * s.b j i) : Int) : Rat) := by rw [h]
  have e1 : (((s.d i : Int) * s.b i j : Int) : Rat) = (s.d i : Rat) * (s.b i j : Rat) := by exact_mod_cast rfl
  have e2 : ((-((s.d j : Int) * s.b j i) : Int) : Rat) = - ((s.d j : Rat) * (s.b j i : Rat)) := by exact_mod_cast rfl
  rw [e1, e2] at h1
  exact h1
abbrev cx_MMl (n : Nat) [Zero (cx_Ex n)] [Add (cx_Ex n)] [Mul (cx_S (cx_Ex n))] [One (cx_S (cx_Ex n))] [Add (cx_S (cx_Ex n))] [Zero (cx_S (cx_Ex n))] [Inhabited (cx_Idx (cx_Ex n))] [Inhabited (PLift (cx_Exl n))] [∀ s : cx_Sd n, Add (cx_MM s)] [∀ s : cx_Sd n, Inhabited (PLift (cx_MGl (cx_MM s)))] [∀ s : cx_Sd n, Inhabited (cx_Tord (cx_Ex n) (cx_MM s))] : Prop := ∀ s : cx_Sd n, (∀ (m k : cx_MM s) (i : Fin n), (m + k).v i = m.v i + k.v i) ∧ (∀ (a : cx_Ex n) (m : cx_MM s), cx_pr a m = cx_prS s a m) ∧ (∀ a : cx_Ex n, (cx_p a : cx_MM s) = cx_pS s a) ∧ ∀ (m : cx_MM s) (i : Fin n), (cx_neg (B := cx_Ex n) m).v i = - m.v i
theorem cx_mm_add {n : Nat} [Zero (cx_Ex n)] [Add (cx_Ex n)] [Mul (cx_S (cx_Ex n))] [One (cx_S (cx_Ex n))] [Add (cx_S (cx_Ex n))] [Zero (cx_S (cx_Ex n))] [Inhabited (cx_Idx (cx_Ex n))] [Inhabited (PLift (cx_Exl n))] [∀ s : cx_Sd n, Add (cx_MM s)] [∀ s : cx_Sd n, Inhabited (PLift (cx_MGl (cx_MM s)))] [∀ s : cx_Sd n, Inhabited (cx_Tord (cx_Ex n) (cx_MM s))] [Inhabited (PLift (cx_MMl n))] (s : cx_Sd n) (m k : cx_MM s) (i : Fin n) : (m + k).v i = m.v i + k.v i := ((default : PLift (cx_MMl n)).down s).1 m k i
theorem cx_pr_def {n : Nat} [Zero (cx_Ex n)] [Add (cx_Ex n)] [Mul (cx_S (cx_Ex n))] [One (cx_S (cx_Ex n))] [Add (cx_S (cx_Ex n))] [Zero (cx_S (cx_Ex n))] [Inhabited (cx_Idx (cx_Ex n))] [Inhabited (PLift (cx_Exl n))] [∀ s : cx_Sd n, Add (cx_MM s)] [∀ s : cx_Sd n, Inhabited (PLift (cx_MGl (cx_MM s)))] [∀ s : cx_Sd n, Inhabited (cx_Tord (cx_Ex n) (cx_MM s))] [Inhabited (PLift (cx_MMl n))] (s : cx_Sd n) (a : cx_Ex n) (m : cx_MM s) : cx_pr a m = cx_sm (cx_fr n) (fun i => (a i : Rat) * (s.d i : Rat) * m.v i) := ((default : PLift (cx_MMl n)).down s).2.1 a m
theorem cx_p_def {n : Nat} [Zero (cx_Ex n)] [Add (cx_Ex n)] [Mul (cx_S (cx_Ex n))] [One (cx_S (cx_Ex n))] [Add (cx_S (cx_Ex n))] [Zero (cx_S (cx_Ex n))] [Inhabited (cx_Idx (cx_Ex n))] [Inhabited (PLift (cx_Exl n))] [∀ s : cx_Sd n, Add (cx_MM s)] [∀ s : cx_Sd n, Inhabited (PLift (cx_MGl (cx_MM s)))] [∀ s : cx_Sd n, Inhabited (cx_Tord (cx_Ex n) (cx_MM s))] [Inhabited (PLift (cx_MMl n))] (s : cx_Sd n) (a : cx_Ex n) (i : Fin n) : (cx_p a : cx_MM s).v i = cx_sm (cx_fr n) (fun j => (s.b i j : Rat) * (a j : Rat)) := by rw [((default : PLift (cx_MMl n)).down s).2.2.1 a]; rfl
theorem cx_pr_ee {n : Nat} [Zero (cx_Ex n)] [Add (cx_Ex n)] [Mul (cx_S (cx_Ex n))] [One (cx_S (cx_Ex n))] [Add (cx_S (cx_Ex n))] [Zero (cx_S (cx_Ex n))] [Inhabited (cx_Idx (cx_Ex n))] [Inhabited (PLift (cx_Exl n))] [∀ s : cx_Sd n, Add (cx_MM s)] [∀ s : cx_Sd n, Inhabited (PLift (cx_MGl (cx_MM s)))] [∀ s : cx_Sd n, Inhabited (cx_Tord (cx_Ex n) (cx_MM s))] [Inhabited (PLift (cx_MMl n))] (s : cx_Sd n) (k : Fin n) (m : cx_MM s) : cx_pr (cx_ee k) m = (s.d k : Rat) * m.v k := by
  rw [cx_pr_def, cx_fr_only k _ (fun j hj => by rw [cx_ee_ne hj, show ((0 : Nat) : Rat) = 0 from rfl]; grind), cx_ee_self, show ((1 : Nat) : Rat) = 1 from rfl]; grind
def cx_ZZ {n : Nat} [Zero (cx_Ex n)] [Add (cx_Ex n)] [Mul (cx_S (cx_Ex n))] [One (cx_S (cx_Ex n))] [Add (cx_S (cx_Ex n))] [Zero (cx_S (cx_Ex n))] [Inhabited (cx_Idx (cx_Ex n))] [Inhabited (PLift (cx_Exl n))] [∀ s : cx_Sd n, Add (cx_MM s)] [∀ s : cx_Sd n, Inhabited (PLift (cx_MGl (cx_MM s)))] [∀ s : cx_Sd n, Inhabited (cx_Tord (cx_Ex n) (cx_MM s))] [Inhabited (PLift (cx_MMl n))] (s : cx_Sd n) (m : cx_MM s) : Prop := ∀ i, cx_IsI (m.v i)
theorem cx_ZZ_p {n : Nat} [Zero (cx_Ex n)] [Add (cx_Ex n)] [Mul (cx_S (cx_Ex n))] [One (cx_S (cx_Ex n))] [Add (cx_S (cx_Ex n))] [Zero (cx_S (cx_Ex n))] [Inhabited (cx_Idx (cx_Ex n))] [Inhabited (PLift (cx_Exl n))] [∀ s : cx_Sd n, Add (cx_MM s)] [∀ s : cx_Sd n, Inhabited (PLift (cx_MGl (cx_MM s)))] [∀ s : cx_Sd n, Inhabited (cx_Tord (cx_Ex n) (cx_MM s))] [Inhabited (PLift (cx_MMl n))] (s : cx_Sd n) (u : cx_Ex n) : cx_ZZ s (cx_p u) := fun i => by
  rw [cx_p_def]
  refine cx_IsI.sm (fun j _ => cx_IsI.mul ⟨s.b i j, rfl⟩ ⟨(u j : Int), by exact_mod_cast rfl⟩)
theorem cx_ZZ_add {n : Nat} [Zero (cx_Ex n)] [Add (cx_Ex n)] [Mul (cx_S (cx_Ex n))] [One (cx_S (cx_Ex n))] [Add (cx_S (cx_Ex n))] [Zero (cx_S (cx_Ex n))] [Inhabited (cx_Idx (cx_Ex n))] [Inhabited (PLift (cx_Exl n))] [∀ s : cx_Sd n, Add (cx_MM s)] [∀ s : cx_Sd n, Inhabited (PLift (cx_MGl (cx_MM s)))] [∀ s : cx_Sd n, Inhabited (cx_Tord (cx_Ex n) (cx_MM s))] [Inhabited (PLift (cx_MMl n))] (s : cx_Sd n) (m : cx_MM s) (u : cx_Ex n) (hm : cx_ZZ s m) : cx_ZZ s (m + cx_p u) := fun i => by
  rw [cx_mm_add]; exact (hm i).add (cx_ZZ_p s u i)
