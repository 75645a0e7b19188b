theorem cr_turnB_turnB {n : Nat} (b : Fin n → Fin n → Int) (k : Fin n) : cr_turnB (cr_turnB b k) k = b := by
  funext i j
  unfold cr_turnB
  by_cases h : i = k ∨ j = k
  · rw [if_pos h, if_pos h]; omega
  · rw [if_neg h, if_neg h, if_pos (.inr rfl), if_pos (.inl rfl)]
    have e1 := cx_posI (b i k)
    have e2 := cx_posI (b k j)
    rw [Int.neg_neg]
    generalize hp : (cx_pos (b i k) : Int) = p at *
    generalize hq : (cx_pos (- b i k) : Int) = q at *
    generalize hr : (cx_pos (b k j) : Int) = r at *
    generalize ht : (cx_pos (- b k j) : Int) = t at *
    have f1 : q = p - b i k := by omega
    have f2 : t = r - b k j := by omega
    rw [f1, f2]
    grind
theorem cr_turnB_col {n : Nat} (b : Fin n → Fin n → Int) (k i : Fin n) : cr_turnB b k i k = - b i k := if_pos (.inr rfl)
theorem cr_stepv_col {n : Nat} {b b' : Fin n → Fin n → Int} {k : Fin n} (h : ∀ i, b' i k = b i k) (v : Fin n → Rat) : cr_stepv b' k v = cr_stepv b k v := by
  funext j
  unfold cr_stepv
  have e1 : (fun i => (cx_pos (b' i k) : Int)) = fun i => (cx_pos (b i k) : Int) := funext fun i => by rw [h i]
  have e2 : (fun i => (cx_pos (- b' i k) : Int)) = fun i => (cx_pos (- b i k) : Int) := funext fun i => by rw [h i]
  rw [e1, e2]
theorem cr_sp_turn {n : Nat} (b : Fin n → Fin n → Int) {k : Fin n} (hb : b k k = 0) (x : cr_Pv n) : cr_sp (cr_turnB b k) k (cr_sp b k x) = x := by
  refine Subtype.ext ?_
  show cr_stepv (cr_turnB b k) k (cr_stepv b k x.1) = x.1
  rw [cr_stepv_neg (fun i => cr_turnB_col b k i), cr_step_step b hb x.2]
def cr_gp {n : Nat} : (Fin n → Fin n → Int) → List (Fin n) → cr_Pv n → cr_Pv n
  | _, [], x => x
  | b, k :: ks, x => cr_gp (cr_turnB b k) ks (cr_sp b k x)
def cr_bs {n : Nat} : (Fin n → Fin n → Int) → List (Fin n) → Fin n → Fin n → Int
  | b, [] => b
  | b, k :: ks => cr_bs (cr_turnB b k) ks
theorem cr_go_gp {n : Nat} (ks : List (Fin n)) : ∀ (b : Fin n → Fin n → Int) (x : cr_Pv n), (cr_go b x.1 ks).2 = (cr_gp b ks x).1 := by
  induction ks with
  | nil => exact fun b x => rfl
  | cons k ks ih => exact fun b x => ih (cr_turnB b k) (cr_sp b k x)
theorem cr_rel {n : Nat} (p : List (Fin n)) : ∀ (s : cx_Sd n) (q : List (Fin n)) (i : Fin n), ∃ L : cr_Pl_ n, (∀ y ∈ L, 0 < y.1) ∧ ∀ x, (cr_gp s.b q x).1 i = cr_vl (cr_gp s.b p x).1 L := by
  induction p with
  | nil =>
    intro s q i
    obtain ⟨L, hL, h⟩ := cr_main s q i
    exact ⟨L, hL, fun x => by rw [← cr_go_gp]; exact h x⟩
  | cons k p ih =>
    intro s q i
    obtain ⟨L, hL, h⟩ := ih (cr_turn s k) (k :: q) i
    refine ⟨L, hL, fun x => ?_⟩
    have h1 := h (cr_sp s.b k x)
    have e : cr_gp (cr_turn s k).b (k :: q) (cr_sp s.b k x) = cr_gp s.b q x := by
      show cr_gp (cr_turnB (cr_turnB s.b k) k) q (cr_sp (cr_turnB s.b k) k (cr_sp s.b k x)) = _
      rw [cr_turnB_turnB, cr_sp_turn s.b (s.self k)]
    rw [e] at h1
    exact h1
theorem cr_rel_lau {n : Nat} (s : cx_Sd n) (p q : List (Fin n)) (i : Fin n) : cr_Lau (cr_gp s.b p) (fun x => (cr_gp s.b q x).1 i) := by
  obtain ⟨L, _, h⟩ := cr_rel p s q i
  exact ⟨L, h⟩
theorem cr_gp_ne {n : Nat} (p : List (Fin n)) : ∀ (b : Fin n → Fin n → Int) (x : cr_Pv n) {i : Fin n}, i ∉ p → (cr_gp b p x).1 i = x.1 i := by
  induction p with
  | nil => exact fun b x i _ => rfl
  | cons k p ih =>
    intro b x i hi
    show (cr_gp (cr_turnB b k) p (cr_sp b k x)).1 i = _
    rw [ih _ _ (fun h => hi (by simp [h]))]
    exact cr_step_ne b x.1 (fun e => hi (by simp [e]))
theorem cr_unit_lau {n : Nat} (b : Fin n → Fin n → Int) (p : List (Fin n)) (a : cr_Xp n) (h : ∀ i ∈ p, a i = 0) : cr_Lau (cr_gp b p) (fun x => cr_mo x.1 a) :=
  (cr_Lau.mono _ a).congr (fun x => cr_mo_congr (fun i => by
    by_cases hi : i ∈ p
    · rw [h i hi, Rat.zpow_zero, Rat.zpow_zero]
    · rw [cr_gp_ne p b x hi]))
def cr_Tp {n : Nat} (j : Fin n) (d : Int) (f r : cr_Pv n → Rat) : Prop := ∃ l l' : cr_Pl_ n, (∀ y ∈ l, y.2 j = d) ∧ (∀ y ∈ l', d < y.2 j) ∧ (∀ x, r x = cr_vl x.1 l) ∧ ∀ x, f x = cr_vl x.1 l + cr_vl x.1 l'
theorem cr_Tp.congr {n : Nat} {j : Fin n} {d d' : Int} {f r f' r' : cr_Pv n → Rat} (h : cr_Tp j d f r) (e : d' = d) (hf : ∀ x, f' x = f x) (hr : ∀ x, r' x = r x) : cr_Tp j d' f' r' := by
  obtain ⟨l, l', h1, h2, h3, h4⟩ := h
  subst e
  exact ⟨l, l', h1, h2, fun x => by rw [hr, h3], fun x => by rw [hf, h4]⟩
theorem cr_Tp.add {n : Nat} {j : Fin n} {d : Int} {f r f' r' : cr_Pv n → Rat} (h : cr_Tp j d f r) (h' : cr_Tp j d f' r') : cr_Tp j d (fun x => f x + f' x) (fun x => r x + r' x) := by
  obtain ⟨l, l', h1, h2, h3, h4⟩ := h
  obtain ⟨m, m', k1, k2, k3, k4⟩ := h'
  refine ⟨l ++ m, l' ++ m', fun y hy => ?_, fun y hy => ?_, fun x => ?_, fun x => ?_⟩
  · rcases List.mem_append.1 hy with h | h; exact h1 y h; exact k1 y h
  · rcases List.mem_append.1 hy with h | h; exact h2 y h; exact k2 y h
  · show r x + r' x = _; rw [cr_vl_app, h3, k3]
  · show f x + f' x = _; rw [cr_vl_app, cr_vl_app, h4, k4]; grind
theorem cr_Tp.mul {n : Nat} {j : Fin n} {d d' : Int} {f r f' r' : cr_Pv n → Rat} (h : cr_Tp j d f r) (h' : cr_Tp j d' f' r') : cr_Tp j (d + d') (fun x => f x * f' x) (fun x => r x * r' x) := by
  obtain ⟨l, l', h1, h2, h3, h4⟩ := h
  obtain ⟨m, m', k1, k2, k3, k4⟩ := h'
  refine ⟨cr_pmz l m, cr_pmz l m' ++ cr_pmz l' (m ++ m'), fun y hy => ?_, fun y hy => ?_, fun x => ?_, fun x => ?_⟩
  · obtain ⟨u, hu, w, hw, rfl⟩ := cr_mem_pmz hy
    show u.2 j + w.2 j = _; rw [h1 u hu, k1 w hw]
  · rcases List.mem_append.1 hy with hy | hy
    · obtain ⟨u, hu, w, hw, rfl⟩ := cr_mem_pmz hy
      show _ < u.2 j + w.2 j
      have := h1 u hu; have := k2 w hw; omega
    · obtain ⟨u, hu, w, hw, rfl⟩ := cr_mem_pmz hy
      show _ < u.2 j + w.2 j
      have := h2 u hu
      rcases List.mem_append.1 hw with hw | hw
      · have := k1 w hw; omega
      · have := k2 w hw; omega
  · show r x * r' x = _; rw [cr_vl_pmz x.2, h3, k3]
  · show f x * f' x = _; rw [cr_vl_app, cr_vl_pmz x.2, cr_vl_pmz x.2, cr_vl_pmz x.2, cr_vl_app, h4, k4]; grind
theorem cr_Tp.mono {n : Nat} (j : Fin n) (a : cr_Xp n) : cr_Tp j (a j) (fun x : cr_Pv n => cr_mo x.1 a) (fun x => cr_mo x.1 a) :=
  ⟨[(1, a)], [], fun y hy => by simp at hy; rw [hy], fun y hy => by simp at hy, fun x => (cr_vl_sing _ a).symm, fun x => by rw [cr_vl_sing, cr_vl_nil]; grind⟩
theorem cr_Tp.int {n : Nat} (j : Fin n) (c : Int) : cr_Tp j 0 (fun _ : cr_Pv n => (c : Rat)) (fun _ => (c : Rat)) :=
  ⟨[(c, fun _ => 0)], [], fun y hy => by simp at hy; rw [hy], fun y hy => by simp at hy, fun x => by rw [cr_vl_cons, cr_vl_nil, cr_mo_zero]; grind, fun x => by rw [cr_vl_cons, cr_vl_nil, cr_mo_zero]; grind⟩
theorem cr_Tp.pow {n : Nat} {j : Fin n} {f r : cr_Pv n → Rat} (h : cr_Tp j 0 f r) (hf : ∀ x, 0 < f x) (hr : ∀ x, 0 < r x) : ∀ e : Nat, cr_Tp j 0 (fun x => f x ^ (e : Int)) (fun x => r x ^ (e : Int))
  | 0 => (cr_Tp.int j 1).congr rfl (fun x => by rw [show ((0 : Nat) : Int) = 0 from rfl, Rat.zpow_zero]; rfl) (fun x => by rw [show ((0 : Nat) : Int) = 0 from rfl, Rat.zpow_zero]; rfl)
  | e + 1 => (h.mul (cr_Tp.pow h hf hr e)).congr rfl (fun x => by rw [show ((e + 1 : Nat) : Int) = 1 + (e : Int) by omega, cr_zp_add (hf x), Rat.zpow_one]) (fun x => by rw [show ((e + 1 : Nat) : Int) = 1 + (e : Int) by omega, cr_zp_add (hr x), Rat.zpow_one])
theorem cr_Tp.up {n : Nat} {j : Fin n} {d d' : Int} {f r : cr_Pv n → Rat} (h : cr_Tp j d f r) (hd : d' < d) : cr_Tp j d' f (fun _ => 0) := by
  obtain ⟨l, l', h1, h2, h3, h4⟩ := h
  refine ⟨[], l ++ l', fun y hy => by simp at hy, fun y hy => ?_, fun x => rfl, fun x => by rw [cr_vl_nil, cr_vl_app, h4]; grind⟩
  rcases List.mem_append.1 hy with h | h
  · have := h1 y h; omega
  · have := h2 y h; omega
theorem cr_Tp.sum {α : Type} {n : Nat} {j : Fin n} {d : Int} {f r : α → cr_Pv n → Rat} : ∀ l : List α, (∀ y ∈ l, cr_Tp j d (f y) (r y)) → cr_Tp j d (fun x => cx_sm l (fun y => f y x)) (fun x => cx_sm l (fun y => r y x))
  | [], _ => ⟨[], [], fun y hy => by simp at hy, fun y hy => by simp at hy, fun x => rfl, fun x => by rw [cr_vl_nil]; show (0 : Rat) = 0 + 0; grind⟩
  | y :: l, h => ((h y (by simp)).add (cr_Tp.sum l (fun z hz => h z (by simp [hz])))).congr rfl (fun x => by rw [cx_sm_cons]) (fun x => by rw [cx_sm_cons])
theorem cr_Tp.uniq {n : Nat} {j : Fin n} {d : Int} {f r r' : cr_Pv n → Rat} (h : cr_Tp j d f r) (h' : cr_Tp j d f r') (x : cr_Pv n) : r x = r' x := by
  obtain ⟨l, l', h1, h2, h3, h4⟩ := h
  obtain ⟨m, m', k1, k2, k3, k4⟩ := h'
  have key : ∀ l l' : cr_Pl_ n, (∀ y ∈ l, y.2 j = d) → (∀ y ∈ l', d < y.2 j) → cr_fl (fun a => decide (a j = d)) (l ++ l') = l := fun l l' h1 h2 => by
    unfold cr_fl
    rw [List.filter_append, List.filter_eq_self.2 (fun y hy => by simpa using h1 y hy), List.filter_eq_nil_iff.2 (fun y hy => by have := h2 y hy; simp; omega), List.append_nil]
  have e := cr_fl_unique (l := l ++ l') (l' := m ++ m') (fun x => by rw [cr_vl_app, cr_vl_app, ← h4, ← k4]) (fun a => decide (a j = d)) x.1
  rw [key l l' h1 h2, key m m' k1 k2] at e
  rw [h3, k3, e]
theorem cr_Tp.get {n : Nat} (j : Fin n) {d : Int} {l : cr_Pl_ n} (h : ∀ y ∈ l, d ≤ y.2 j) : cr_Tp j d (fun x : cr_Pv n => cr_vl x.1 l) (fun x => cr_vl x.1 (cr_fl (fun a => decide (a j = d)) l)) := by
  refine ⟨cr_fl (fun a => decide (a j = d)) l, cr_fl (fun a => !decide (a j = d)) l, fun y hy => by simpa using (cr_mem_fl.1 hy).2, fun y hy => ?_, fun x => rfl, fun x => cr_fl_split _ _ _⟩
  obtain ⟨hy, h2⟩ := cr_mem_fl.1 hy
  have := h y hy
  have h3 : y.2 j ≠ d := by simpa using h2
  omega
