def cz_exZ (n : Nat) : Zero (cx_Ex n) := ⟨fun _ => 0⟩
def cz_exA (n : Nat) : Add (cx_Ex n) := ⟨fun a b i => a i + b i⟩
def cz_mul (B : Type) (dec : B → List (B × B)) : Mul (cx_S B) := ⟨fun f g b => cx_sm (dec b) (fun q => f q.1 * g q.2)⟩
def cz_one (B : Type) (deg : B → Nat) : One (cx_S B) := ⟨fun b => if deg b = 0 then 1 else 0⟩
def cz_add (B : Type) : Add (cx_S B) := ⟨fun f g b => f b + g b⟩
def cz_zero (B : Type) : Zero (cx_S B) := ⟨fun _ => 0⟩
def cz_decE (n : Nat) (b : cx_Ex n) : List (cx_Ex n × cx_Ex n) := (cx_boxes n b).map fun u => (u, fun i => b i - u i)
def cz_levE (n : Nat) (k : Nat) : List (cx_Ex n) := (cx_boxes n (fun _ => k)).filter (fun b => decide (cx_nsum b = k))
def cz_decN (b : Nat) : List (Nat × Nat) := (List.range (b + 1)).map fun i => (b - i, i)
theorem cz_idxE (n : Nat) : Nonempty {x : @cx_Idx (cx_Ex n) (cz_exZ n) (cz_exA n) (cz_mul (cx_Ex n) (cz_decE n)) (cz_one (cx_Ex n) cx_nsum) (cz_add (cx_Ex n)) (cz_zero (cx_Ex n)) // x.1.1 = cz_decE n ∧ x.1.2.1 = cx_nsum} := by
  letI i1 : Zero (cx_Ex n) := cz_exZ n
  letI i2 : Add (cx_Ex n) := cz_exA n
  letI i3 : Mul (cx_S (cx_Ex n)) := cz_mul (cx_Ex n) (cz_decE n)
  letI i4 : One (cx_S (cx_Ex n)) := cz_one (cx_Ex n) cx_nsum
  letI i5 : Add (cx_S (cx_Ex n)) := cz_add (cx_Ex n)
  letI i6 : Zero (cx_S (cx_Ex n)) := cz_zero (cx_Ex n)
  refine ⟨⟨⟨(cz_decE n, cx_nsum, cz_levE n), ?_, ?_, ?_, ?_, ?_, ?_, ?_, ?_, ?_, ?_, ?_, ?_, ?_, ?_⟩, rfl, rfl⟩⟩
  · exact fun a b c => funext fun i => Nat.add_assoc _ _ _
  · exact fun a b => funext fun i => Nat.add_comm _ _
  · exact fun a => funext fun i => Nat.add_zero _
  · exact fun a b c h => funext fun i => by
      have h1 : a i + b i = a i + c i := congrFun h i
      omega
  · intro b u v
    show (u, v) ∈ (cx_boxes n b).map (fun u => (u, fun i => b i - u i)) ↔ _
    rw [List.mem_map]
    constructor
    · rintro ⟨w, hw, e⟩
      have hw := (cx_mem_boxes b w).1 hw
      simp only [Prod.mk.injEq] at e
      obtain ⟨rfl, rfl⟩ := e
      funext i
      have := hw i
      show w i + (b i - w i) = b i
      omega
    · intro h
      have h1 : ∀ i, u i + v i = b i := fun i => congrFun h i
      refine ⟨u, (cx_mem_boxes b u).2 (fun i => by have := h1 i; omega), ?_⟩
      simp only [Prod.mk.injEq, true_and]
      funext i
      have := h1 i; omega
  · intro b
    have h1 := cx_nodup_boxes b
    show ((cx_boxes n b).map (fun u => (u, fun i => b i - u i))).Nodup
    rw [List.nodup_iff_pairwise_ne] at h1 ⊢
    rw [List.pairwise_map]
    refine h1.imp (fun {f g} hne e => hne ?_)
    simp only [Prod.mk.injEq] at e
    exact e.1
  · exact fun a b => cx_nsum_add a b
  · exact fun b h => funext fun i => by
      have := cx_nsum_ge b i
      have h' : cx_nsum b = 0 := h
      show b i = 0
      omega
  · intro k b
    show b ∈ (cx_boxes n (fun _ => k)).filter (fun b => decide (cx_nsum b = k)) ↔ cx_nsum b = k
    rw [List.mem_filter, cx_mem_boxes, decide_eq_true_eq]
    exact ⟨fun h => h.2, fun h => ⟨fun i => by have := cx_nsum_ge b i; omega, h⟩⟩
  · exact fun k => (cx_nodup_boxes _).sublist List.filter_sublist
  · exact fun f g b => rfl
  · exact fun b => rfl
  · exact fun f g b => rfl
  · exact fun b => rfl
theorem cz_idxN : Nonempty {x : @cx_Idx Nat inferInstance inferInstance (cz_mul Nat cz_decN) (cz_one Nat id) (cz_add Nat) (cz_zero Nat) // x.1.1 = cz_decN} := by
  letI i3 : Mul (cx_S Nat) := cz_mul Nat cz_decN
  letI i4 : One (cx_S Nat) := cz_one Nat id
  letI i5 : Add (cx_S Nat) := cz_add Nat
  letI i6 : Zero (cx_S Nat) := cz_zero Nat
  refine ⟨⟨⟨(cz_decN, id, fun k => [k]), ?_, ?_, ?_, ?_, ?_, ?_, ?_, ?_, ?_, ?_, ?_, ?_, ?_, ?_⟩, rfl⟩⟩
  · exact fun a b c => Nat.add_assoc a b c
  · exact fun a b => Nat.add_comm a b
  · exact fun a => Nat.add_zero a
  · exact fun a b c h => by omega
  · intro b u v
    show (u, v) ∈ (List.range (b + 1)).map (fun i => (b - i, i)) ↔ u + v = b
    rw [List.mem_map]
    constructor
    · rintro ⟨i, hi, e⟩
      rw [List.mem_range] at hi
      simp only [Prod.mk.injEq] at e
      omega
    · intro h
      refine ⟨v, List.mem_range.2 (by omega), ?_⟩
      simp only [Prod.mk.injEq, and_true]
      omega
  · intro b
    have h1 : (List.range (b + 1)).Nodup := List.nodup_range
    show ((List.range (b + 1)).map (fun i => (b - i, i))).Nodup
    rw [List.nodup_iff_pairwise_ne] at h1 ⊢
    rw [List.pairwise_map]
    refine h1.imp (fun {f g} hne e => hne ?_)
    simp only [Prod.mk.injEq] at e
    exact e.2
  · exact fun a b => rfl
  · exact fun b h => h
  · intro k b
    show b ∈ [k] ↔ b = k
    rw [List.mem_singleton]
  · exact fun k => by simp
  · exact fun f g b => rfl
  · exact fun b => rfl
  · exact fun f g b => rfl
  · exact fun b => rfl
def cz_mmA {n : Nat} (s : cx_Sd n) : Add (cx_MM s) := ⟨fun m k => ⟨fun i => m.v i + k.v i, rfl⟩⟩
def cz_prS {n : Nat} (s : cx_Sd n) (a : cx_Ex n) (m : cx_MM s) : Rat := cx_sm (cx_fr n) (fun i => (a i : Rat) * (s.d i : Rat) * m.v i)
theorem cz_d_pos {n : Nat} (s : cx_Sd n) (i : Fin n) : (0 : Rat) < (s.d i : Rat) := by exact_mod_cast s.dpos i
theorem cz_skR {n : Nat} (s : cx_Sd n) (i j : Fin n) : (s.d i : Rat) * (s.b i j : Rat) = - ((s.d j : Rat) * (s.b j i : Rat)) := by
  have h := s.sk i j
  have h1 : (((s.d i : Int) * s.b i j : Int) : Rat) = ((-((s.d j : Int) * s.b j i) : Int) : Rat) := by rw [h]
  have e1 : (((s.d i : Int) * s.b i j : Int) : Rat) = (s.d i : Rat) * (s.b i j : Rat) := by exact_mod_cast rfl
  have e2 : ((-((s.d j : Int) * s.b j i) : Int) : Rat) = - ((s.d j : Rat) * (s.b j i : Rat)) := by exact_mod_cast rfl
  rw [e1, e2] at h1
  exact h1
theorem cz_single {n : Nat} {l : List (Fin n)} (hn : l.Nodup) (k : Fin n) (hk : k ∈ l) (f : Fin n → Rat) (h : ∀ i, i ≠ k → f i = 0) : cx_sm l f = f k := by
  induction l with
  | nil => simp at hk
  | cons x l ih =>
    rw [List.nodup_cons] at hn
    rw [cx_sm_cons]
    by_cases hx : x = k
    · subst hx
      rw [cx_sm_zero (fun i hi => h i (fun e => hn.1 (by rw [← e]; exact hi))), Rat.add_zero]
    · rw [h x hx, Rat.zero_add]
      exact ih hn.2 (by rcases List.mem_cons.1 hk with h | h; exact absurd h.symm hx; exact h)
theorem cz_tor {n : Nat} (X : @cx_Idx (cx_Ex n) (cz_exZ n) (cz_exA n) (cz_mul (cx_Ex n) (cz_decE n)) (cz_one (cx_Ex n) cx_nsum) (cz_add (cx_Ex n)) (cz_zero (cx_Ex n))) (s : cx_Sd n) (hm : @cx_MGl (cx_MM s) (cz_mmA s)) :
    Nonempty {x : @cx_Tord (cx_Ex n) (cx_MM s) (cz_exZ n) (cz_exA n) (cz_mul (cx_Ex n) (cz_decE n)) (cz_one (cx_Ex n) cx_nsum) (cz_add (cx_Ex n)) (cz_zero (cx_Ex n)) ⟨X⟩ (cz_mmA s) ⟨⟨hm⟩⟩ // x.1.1 = cz_prS s ∧ x.1.2.1 = cx_pS s ∧ x.1.2.2 = fun m => ⟨fun i => - m.v i, rfl⟩} := by
  letI i1 : Zero (cx_Ex n) := cz_exZ n
  letI i2 : Add (cx_Ex n) := cz_exA n
  letI i7 : Add (cx_MM s) := cz_mmA s
  have exa : ∀ (a b : cx_Ex n) (i : Fin n), (a + b) i = a i + b i := fun _ _ _ => rfl
  have mma : ∀ (m k : cx_MM s) (i : Fin n), (m + k).v i = m.v i + k.v i := fun _ _ _ => rfl
  refine ⟨⟨⟨(cz_prS s, cx_pS s, fun m => ⟨fun i => - m.v i, rfl⟩), ?_, ?_, ?_, ?_, ?_, ?_, ?_⟩, rfl, rfl, rfl⟩⟩
  · intro a b m
    show cz_prS s (a + b) m = cz_prS s a m + cz_prS s b m
    unfold cz_prS
    rw [← cx_sm_add]
    refine cx_sm_congr (fun i _ => ?_)
    rw [exa, cx_castR]; grind
  · intro a m k
    show cz_prS s a (m + k) = cz_prS s a m + cz_prS s a k
    unfold cz_prS
    rw [← cx_sm_add]
    refine cx_sm_congr (fun i _ => ?_)
    rw [mma]; grind
  · intro a b
    refine cx_MM.ext fun i => ?_
    show cx_sm (cx_fr n) _ = cx_sm (cx_fr n) _ + cx_sm (cx_fr n) _
    rw [← cx_sm_add]
    refine cx_sm_congr (fun j _ => ?_)
    rw [exa, cx_castR]; grind
  · intro m
    refine cx_MM.ext fun i => ?_
    show m.v i + cx_sm (cx_fr n) (fun j => (s.b i j : Rat) * (((0 : Nat) : Nat) : Rat)) = m.v i
    rw [cx_sm_zero (fun j _ => by rw [show ((0 : Nat) : Rat) = 0 from rfl, Rat.mul_zero]), Rat.add_zero]
  · intro a c
    show cx_sm (cx_fr n) (fun i => (a i : Rat) * (s.d i : Rat) * cx_sm (cx_fr n) (fun j => (s.b i j : Rat) * (c j : Rat))) = - cx_sm (cx_fr n) (fun i => (c i : Rat) * (s.d i : Rat) * cx_sm (cx_fr n) (fun j => (s.b i j : Rat) * (a j : Rat)))
    have e1 : cx_sm (cx_fr n) (fun i => (a i : Rat) * (s.d i : Rat) * cx_sm (cx_fr n) (fun j => (s.b i j : Rat) * (c j : Rat))) = cx_sm (cx_fr n) (fun i => cx_sm (cx_fr n) (fun j => (a i : Rat) * (s.d i : Rat) * ((s.b i j : Rat) * (c j : Rat)))) :=
      cx_sm_congr (fun i _ => (cx_sm_mulL _ _ _).symm)
    have e2 : cx_sm (cx_fr n) (fun i => (c i : Rat) * (s.d i : Rat) * cx_sm (cx_fr n) (fun j => (s.b i j : Rat) * (a j : Rat))) = cx_sm (cx_fr n) (fun i => cx_sm (cx_fr n) (fun j => (c i : Rat) * (s.d i : Rat) * ((s.b i j : Rat) * (a j : Rat)))) :=
      cx_sm_congr (fun i _ => (cx_sm_mulL _ _ _).symm)
    rw [e1, e2, cx_sm_comm]
    have e3 : ∀ x : Rat, - x = (-1) * x := fun x => by grind
    rw [e3, ← cx_sm_mulL]
    refine cx_sm_congr (fun j _ => ?_)
    rw [← cx_sm_mulL]
    refine cx_sm_congr (fun i _ => ?_)
    have := cz_skR s i j
    grind
  · intro a ha
    have : ∃ i, a i ≠ 0 := by
      refine Classical.byContradiction (fun hno => ha (funext fun i => ?_))
      exact Classical.byContradiction (fun h => hno ⟨i, h⟩)
    obtain ⟨i, hi⟩ := this
    have hai : (0 : Rat) < (a i : Rat) := by exact_mod_cast Nat.pos_of_ne_zero hi
    have hdi := cz_d_pos s i
    refine ⟨⟨fun j => if j = i then ((a i : Rat) * (s.d i : Rat))⁻¹ else 0, rfl⟩, ?_⟩
    show cx_sm (cx_fr n) (fun j => (a j : Rat) * (s.d j : Rat) * (if j = i then ((a i : Rat) * (s.d i : Rat))⁻¹ else 0)) = 1
    refine (cz_single (List.nodup_finRange n) i (List.mem_finRange i) (fun j => (a j : Rat) * (s.d j : Rat) * (if j = i then ((a i : Rat) * (s.d i : Rat))⁻¹ else 0)) (fun j hj => by show (a j : Rat) * (s.d j : Rat) * (if j = i then ((a i : Rat) * (s.d i : Rat))⁻¹ else 0) = 0; rw [if_neg hj]; grind)).trans ?_
    show (a i : Rat) * (s.d i : Rat) * (if i = i then ((a i : Rat) * (s.d i : Rat))⁻¹ else 0) = 1
    rw [if_pos rfl]
    exact Rat.mul_inv_cancel _ (by have := Rat.mul_pos hai hdi; grind)
  · intro m
    refine cx_MM.ext fun i => ?_
    show m.v i + - m.v i = cx_sm (cx_fr n) (fun j => (s.b i j : Rat) * (((0 : Nat) : Nat) : Rat))
    rw [cx_sm_zero (fun j _ => by rw [show ((0 : Nat) : Rat) = 0 from rfl, Rat.mul_zero])]; grind
def cr_turnB {n : Nat} (b : Fin n → Fin n → Int) (k i j : Fin n) : Int := if i = k ∨ j = k then - b i j else b i j + ((cx_pos (b i k) : Int) * b k j + b i k * (cx_pos (- b k j) : Int))
theorem cr_pos_sk {n : Nat} (s : cx_Sd n) (i k : Fin n) : (s.d i : Int) * (cx_pos (s.b i k) : Int) = (s.d k : Int) * (cx_pos (- s.b k i) : Int) := by
  rw [← cx_pos_mul, ← cx_pos_mul, s.sk i k, Int.mul_neg]
theorem cr_pos_sk' {n : Nat} (s : cx_Sd n) (i k : Fin n) : (s.d i : Int) * (cx_pos (- s.b i k) : Int) = (s.d k : Int) * (cx_pos (s.b k i) : Int) := by
  rw [← cx_pos_mul, ← cx_pos_mul, Int.mul_neg, s.sk i k, Int.neg_neg]
def cr_turn {n : Nat} (s : cx_Sd n) (k : Fin n) : cx_Sd n := ⟨(cr_turnB s.b k, s.d), s.dpos, fun i j => by
    show (s.d i : Int) * cr_turnB s.b k i j = - ((s.d j : Int) * cr_turnB s.b k j i)
    unfold cr_turnB
    by_cases h : i = k ∨ j = k
    · rw [if_pos h, if_pos (by rcases h with h | h; exact .inr h; exact .inl h)]
      have := s.sk i j
      rw [Int.mul_neg, Int.mul_neg, this]
    · rw [if_neg h, if_neg (fun h2 => h (by rcases h2 with h2 | h2; exact .inr h2; exact .inl h2))]
      have e1 := s.sk i j
      have e2 := s.sk i k
      have e3 := s.sk j k
      have e4 := cr_pos_sk s i k
      have e5 := cr_pos_sk s j k
      have e6 := cx_posI (s.b k i)
      have e7 := cx_posI (s.b k j)

      have f1 : (s.d i : Int) * ((cx_pos (s.b i k) : Int) * s.b k j) = (s.d k : Int) * ((cx_pos (- s.b k i) : Int) * s.b k j) := by
        rw [← Int.mul_assoc, e4, Int.mul_assoc]
      have f2 : (s.d i : Int) * (s.b i k * (cx_pos (- s.b k j) : Int)) = - ((s.d k : Int) * (s.b k i * (cx_pos (- s.b k j) : Int))) := by
        rw [← Int.mul_assoc, e2, Int.neg_mul, Int.mul_assoc]
      have f3 : (s.d j : Int) * ((cx_pos (s.b j k) : Int) * s.b k i) = (s.d k : Int) * ((cx_pos (- s.b k j) : Int) * s.b k i) := by
        rw [← Int.mul_assoc, e5, Int.mul_assoc]
      have f4 : (s.d j : Int) * (s.b j k * (cx_pos (- s.b k i) : Int)) = - ((s.d k : Int) * (s.b k j * (cx_pos (- s.b k i) : Int))) := by
        rw [← Int.mul_assoc, e3, Int.neg_mul, Int.mul_assoc]
      rw [Int.mul_add, Int.mul_add, Int.mul_add, Int.mul_add, f1, f2, f3, f4, e1]
      rw [Int.mul_comm (cx_pos (- s.b k i) : Int) (s.b k j), Int.mul_comm (cx_pos (- s.b k j) : Int) (s.b k i)]
      omega⟩
def cr_go {n : Nat} : (Fin n → Fin n → Int) → (Fin n → Rat) → List (Fin n) → (Fin n → Fin n → Int) × (Fin n → Rat)
  | b, v, [] => (b, v)
  | b, v, k :: ks => cr_go (cr_turnB b k) (cr_stepv b k v) ks
theorem cr_main {n : Nat} (s : cx_Sd n) (ks : List (Fin n)) (j : Fin n) : ∃ L : cr_Pl_ n, (∀ y ∈ L, 0 < y.1) ∧ ∀ x : cr_Pv n, (cr_go s.b x.1 ks).2 j = cr_vl x.1 L := by
  obtain ⟨⟨X, hX1, hX2⟩⟩ := cz_idxE n
  obtain ⟨⟨Y, hY⟩⟩ := cz_idxN
  letI i1 : Zero (cx_Ex n) := cz_exZ n
  letI i2 : Add (cx_Ex n) := cz_exA n
  letI i3 : Mul (cx_S (cx_Ex n)) := cz_mul (cx_Ex n) (cz_decE n)
  letI i4 : One (cx_S (cx_Ex n)) := cz_one (cx_Ex n) cx_nsum
  letI i5 : Add (cx_S (cx_Ex n)) := cz_add (cx_Ex n)
  letI i6 : Zero (cx_S (cx_Ex n)) := cz_zero (cx_Ex n)
  letI i7 : Inhabited (cx_Idx (cx_Ex n)) := ⟨X⟩
  letI j3 : Mul (cx_S Nat) := cz_mul Nat cz_decN
  letI j4 : One (cx_S Nat) := cz_one Nat id
  letI j5 : Add (cx_S Nat) := cz_add Nat
  letI j6 : Zero (cx_S Nat) := cz_zero Nat
  letI j7 : Inhabited (cx_Idx Nat) := ⟨Y⟩
  letI j8 : Inhabited (PLift cx_Natl) := ⟨⟨fun j => congrFun hY j⟩⟩
  letI i8 : Inhabited (PLift (cx_Exl n)) := ⟨⟨fun _ _ _ => rfl, fun _ => rfl, fun a => congrFun hX2 a⟩⟩
  letI k1 : ∀ s : cx_Sd n, Add (cx_MM s) := fun s => cz_mmA s
  have hm : ∀ s : cx_Sd n, cx_MGl (cx_MM s) := fun s => ⟨fun a b c => cx_MM.ext fun i => Rat.add_assoc _ _ _, fun a b => cx_MM.ext fun i => Rat.add_comm _ _⟩
  letI k2 : ∀ s : cx_Sd n, Inhabited (PLift (cx_MGl (cx_MM s))) := fun s => ⟨⟨hm s⟩⟩
  have ht : ∀ s : cx_Sd n, ∃ x : cx_Tord (cx_Ex n) (cx_MM s), x.1.1 = cz_prS s ∧ x.1.2.1 = cx_pS s ∧ x.1.2.2 = fun m => ⟨fun i => - m.v i, rfl⟩ := fun s => by
    obtain ⟨⟨x, h⟩⟩ := cz_tor X s (hm s)
    exact ⟨x, h⟩
  letI k3 : ∀ s : cx_Sd n, Inhabited (cx_Tord (cx_Ex n) (cx_MM s)) := fun s => ⟨Classical.choose (ht s)⟩
  letI k4 : Inhabited (PLift (cx_MMl n)) := ⟨⟨fun s => ⟨fun _ _ _ => rfl, fun a m => by
    have := congrFun (congrFun (Classical.choose_spec (ht s)).1 a) m
    exact this, fun a => congrFun (Classical.choose_spec (ht s)).2.1 a, fun m i => by
    have := congrFun (Classical.choose_spec (ht s)).2.2 m
    exact congrArg (fun z : cx_MM s => z.v i) this⟩⟩⟩
  have gen : ∀ (ks : List (Fin n)) (s : cx_Sd n) (v : cx_Pv n → Fin n → Rat), cx_Ok s v → ∃ s' : cx_Sd n, cx_Ok s' (fun x => (cr_go s.b (v x) ks).2) := by
    intro ks
    induction ks with
    | nil => exact fun s v h => ⟨s, h⟩
    | cons k ks ih => exact fun s v h => ih (cx_turn s k) _ (cx_ok_turn h k)
  obtain ⟨s', h⟩ := gen ks s (fun x => x.1) (cx_ok_start s j)
  obtain ⟨L, hL, hv⟩ := cx_ok_laurent h j
  refine ⟨L.map fun y => ((y.1 : Int), y.2), fun y hy => ?_, fun x => ?_⟩
  · obtain ⟨z, hz, rfl⟩ := List.mem_map.1 hy
    have := hL z hz
    show (0 : Int) < (z.1 : Int)
    omega
  · refine Eq.trans (hv x) ?_
    unfold cr_vl
    rw [cx_sm_map]
    exact cx_sm_congr (fun y _ => by
      show (y.1 : Rat) * cr_mo x.1 y.2 = (((y.1 : Nat) : Int) : Rat) * cr_mo x.1 y.2
      congr 1)
