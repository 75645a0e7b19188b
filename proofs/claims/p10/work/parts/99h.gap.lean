theorem cr_lead {n : Nat} {U : List (cr_Xp n)} (hU : U.Nodup) (c : cr_Xp n → Int) (w : cr_Xp n) {a : cr_Xp n} (ha : a ∈ U) (hmax : ∀ b ∈ U, b ≠ a → cr_wd w b < cr_wd w a) (h : ∀ x : cr_Pv n, 0 ≤ cx_sm U (fun a => (c a : Rat) * cr_mo x.1 a)) : 0 ≤ c a := by
  classical
  refine Classical.byContradiction (fun hneg => ?_)
  let R := U.filter (fun b => decide (b ≠ a))
  let C : Rat := cx_sm R (fun b => ((c b).natAbs : Rat))
  have hC0 : 0 ≤ C := cx_sm_nonneg (fun b _ => cx_natR_nonneg _)
  let T : Rat := C + 1
  have hT1 : 1 ≤ T := by show 1 ≤ C + 1; grind
  have hT0 : 0 < T := by grind
  let x : cr_Pv n := ⟨fun i => T ^ w i, fun i => Rat.zpow_pos hT0⟩
  have h1 := h x
  have hsplit : ∀ V : List (cr_Xp n), V.Nodup → a ∈ V → cx_sm V (fun b => (c b : Rat) * cr_mo x.1 b) = (c a : Rat) * cr_mo x.1 a + cx_sm (V.filter (fun b => decide (b ≠ a))) (fun b => (c b : Rat) * cr_mo x.1 b) := by
    intro V
    induction V with
    | nil => intro _ h; simp at h
    | cons z V ih =>
      intro hn hm
      rw [List.nodup_cons] at hn
      by_cases hz : z = a
      · subst hz
        rw [List.filter_cons_of_neg (by simp), cx_sm_cons]
        congr 1
        rw [List.filter_eq_self.2 (fun b hb => by
          have : b ≠ z := fun e => hn.1 (by rw [← e]; exact hb)
          simpa using this)]
      · rw [List.filter_cons_of_pos (by simpa using hz), cx_sm_cons, cx_sm_cons, ih hn.2 (by rcases List.mem_cons.1 hm with h | h; exact absurd h.symm hz; exact h)]; grind
  rw [hsplit U hU ha] at h1
  have hmo : ∀ b, cr_mo x.1 b = T ^ cr_wd w b := fun b => cr_mo_wd hT0 w b
  have hR : ∀ R : List (cr_Xp n), (∀ b ∈ R, cr_wd w b ≤ cr_wd w a - 1) → cx_sm R (fun b => (c b : Rat) * cr_mo x.1 b) ≤ cx_sm R (fun b => ((c b).natAbs : Rat)) * T ^ (cr_wd w a - 1) := by
    intro R
    induction R with
    | nil => intro _; rw [cx_sm_nil, cx_sm_nil]; grind
    | cons b R ih =>
      intro hb
      have ih := ih (fun z hz => hb z (by simp [hz]))
      rw [cx_sm_cons, cx_sm_cons, hmo b]
      have h2 := cr_zp_mono hT1 (hb b (by simp))
      have h3 : 0 < T ^ cr_wd w b := Rat.zpow_pos hT0
      have h4 := cx_natR_nonneg (c b).natAbs
      have h5 : (c b : Rat) ≤ ((c b).natAbs : Rat) := by
        have : c b ≤ ((c b).natAbs : Int) := Int.le_natAbs
        exact_mod_cast this
      have m1 := Rat.mul_nonneg (by grind : 0 ≤ ((c b).natAbs : Rat) - (c b : Rat)) (by grind : 0 ≤ T ^ cr_wd w b)
      have m3 := Rat.mul_nonneg h4 (by grind : 0 ≤ T ^ (cr_wd w a - 1) - T ^ cr_wd w b)
      grind
  have hb := hR R (fun b hb => by
    have hb := List.mem_filter.1 hb
    have hne : b ≠ a := by simpa using hb.2
    have := hmax b hb.1 hne
    omega)
  rw [hmo a] at h1
  have e5 : T ^ cr_wd w a = T ^ (cr_wd w a - 1) * T := by
    have : cr_wd w a = (cr_wd w a - 1) + 1 := by omega
    rw [this, cr_zp_add hT0, Rat.zpow_one]
    congr 2
    omega
  have hp : 0 < T ^ (cr_wd w a - 1) := Rat.zpow_pos hT0
  have h7 : (c a : Rat) ≤ -1 := by
    have h8 : c a ≤ -1 := by omega
    have h9 : ((c a : Int) : Rat) ≤ ((-1 : Int) : Rat) := by exact_mod_cast h8
    have e9 : ((-1 : Int) : Rat) = -1 := by exact_mod_cast rfl
    rw [e9] at h9
    exact h9
  have hTC : T = C + 1 := rfl
  have hbC : cx_sm (U.filter (fun b => decide (b ≠ a))) (fun b => (c b : Rat) * cr_mo x.1 b) ≤ C * T ^ (cr_wd w a - 1) := hb
  have m1 := Rat.mul_nonneg (by grind : 0 ≤ -1 - (c a : Rat)) (by have := Rat.mul_pos hp hT0; grind : 0 ≤ T ^ (cr_wd w a - 1) * T)
  rw [e5] at h1
  have m2 : T ^ (cr_wd w a - 1) * T = C * T ^ (cr_wd w a - 1) + T ^ (cr_wd w a - 1) := by
    have : ∀ q : Rat, q * T = C * q + q := fun q => by rw [hTC]; grind
    exact this _
  grind
theorem cr_split {n : Nat} {l l' : cr_Pl_ n} {a0 : cr_Xp n} (h1 : ∀ y : cr_Pv n, 0 < cr_vl y.1 l) (h2 : ∀ y : cr_Pv n, 0 < cr_vl y.1 l') (h : ∀ y : cr_Pv n, cr_vl y.1 l + cr_vl y.1 l' = cr_mo y.1 a0) : False := by
  classical
  obtain ⟨U, hn, hm⟩ := cr_nodup_list ((l ++ l').map (·.2))
  have hl : ∀ y ∈ l, y.2 ∈ U := fun y hy => (hm _).2 (List.mem_map.2 ⟨y, by simp [hy], rfl⟩)
  have hl' : ∀ y ∈ l', y.2 ∈ U := fun y hy => (hm _).2 (List.mem_map.2 ⟨y, by simp [hy], rfl⟩)
  have hco : ∀ a, cr_co l a + cr_co l' a = if a0 = a then 1 else 0 := fun a => by
    have := cr_vl_unique (l := l ++ l') (l' := [(1, a0)]) (fun y => by rw [cr_vl_app, h y, cr_vl_sing]) a
    rw [cr_co_app, cr_co_cons] at this
    rw [this]
    by_cases e : a0 = a
    · rw [if_pos e]; rfl
    · rw [if_neg e]; rfl
  let V := U.filter (fun a => decide (cr_co l a ≠ 0 ∨ cr_co l' a ≠ 0))
  have hV : ∀ a, a ∈ V ↔ a ∈ U ∧ (cr_co l a ≠ 0 ∨ cr_co l' a ≠ 0) := fun a => by
    show a ∈ U.filter _ ↔ _
    rw [List.mem_filter, decide_eq_true_eq]
  have hVn : V.Nodup := hn.sublist List.filter_sublist
  have e1 : ∀ x : Fin n → Rat, cr_vl x l = cx_sm V (fun a => (cr_co l a : Rat) * cr_mo x a) := fun x => by
    rw [cr_vl_list hn x l hl]
    refine cx_sm_filter U _ _ (fun a _ ha => ?_)
    have h3 : ¬ (cr_co l a ≠ 0 ∨ cr_co l' a ≠ 0) := by simpa using ha
    have : cr_co l a = 0 := Classical.byContradiction (fun h => h3 (.inl h))
    rw [this, show ((0 : Int) : Rat) = 0 from rfl, Rat.zero_mul]
  have e2 : ∀ x : Fin n → Rat, cr_vl x l' = cx_sm V (fun a => (cr_co l' a : Rat) * cr_mo x a) := fun x => by
    rw [cr_vl_list hn x l' hl']
    refine cx_sm_filter U _ _ (fun a _ ha => ?_)
    have h3 : ¬ (cr_co l a ≠ 0 ∨ cr_co l' a ≠ 0) := by simpa using ha
    have : cr_co l' a = 0 := Classical.byContradiction (fun h => h3 (.inr h))
    rw [this, show ((0 : Int) : Rat) = 0 from rfl, Rat.zero_mul]
  have key : ∀ (w t : cr_Xp n), t ∈ V → (∀ b ∈ V, b ≠ t → cr_wd w b < cr_wd w t) → t = a0 := by
    intro w t ht hmax
    refine Classical.byContradiction (fun hne => ?_)
    have c1 := cr_lead hVn (cr_co l) w ht hmax (fun x => by rw [← e1]; have := h1 x; grind)
    have c2 := cr_lead hVn (cr_co l') w ht hmax (fun x => by rw [← e2]; have := h2 x; grind)
    have c3 := hco t
    rw [if_neg (fun e => hne e.symm)] at c3
    rcases ((hV t).1 ht).2 with h | h <;> omega
  let o : cr_Pv n := ⟨fun _ => 1, fun _ => by grind⟩
  have hne : V ≠ [] := by
    intro e
    have := h1 o
    rw [e1, e, cx_sm_nil] at this
    grind
  obtain ⟨w, hw⟩ := cr_weights ((V.flatMap fun a => (V.filter fun b => decide (b ≠ a)).map fun b => fun i => a i - b i)) (by
    intro z hz
    obtain ⟨a, ha, hz⟩ := List.mem_flatMap.1 hz
    obtain ⟨b, hb, rfl⟩ := List.mem_map.1 hz
    have hb := List.mem_filter.1 hb
    have hne : b ≠ a := by simpa using hb.2
    intro e
    apply hne
    funext i
    have h1 : a i - b i = 0 := congrFun e i
    omega)
  have hw' : ∀ a ∈ V, ∀ b ∈ V, b ≠ a → cr_wd w a ≠ cr_wd w b := by
    intro a ha b hb hne e
    refine hw (fun i => a i - b i) (List.mem_flatMap.2 ⟨a, ha, List.mem_map.2 ⟨b, List.mem_filter.2 ⟨hb, by simpa using hne⟩, rfl⟩⟩) ?_
    have := cr_wd_sub w a b
    unfold cr_wd at this e
    rw [this]; omega
  have hwn : ∀ a, cr_wd (fun i => (-1) * w i) a = - cr_wd w a := fun a => by
    rw [cr_wd_comm, cr_wd_smul, cr_wd_comm]; omega
  obtain ⟨t, ht, htm⟩ := cr_most V (cr_wd w) hne
  obtain ⟨u, hu, hum⟩ := cr_most V (fun a => - cr_wd w a) hne
  have k1 := key w t ht (fun b hb hbt => by have := htm b hb; have := hw' t ht b hb hbt; omega)
  have k2 := key (fun i => (-1) * w i) u hu (fun b hb hbu => by rw [hwn, hwn]; have := hum b hb; have := hw' u hu b hb hbu; omega)
  have hall : ∀ b ∈ V, b = a0 := fun b hb => by
    refine Classical.byContradiction (fun hbn => ?_)
    have a1 := htm b hb
    have a2 := hum b hb
    have a3 := hw' t ht b hb (by rw [k1]; exact hbn)
    rw [k1] at a1 a3
    rw [k2] at a2
    omega
  have hone : V = [a0] := by
    revert hall hVn hne
    cases V with
    | nil => exact fun _ h _ => absurd rfl h
    | cons p V =>
      intro hVn _ hall
      cases V with
      | nil => rw [hall p (by simp)]
      | cons q V =>
        exfalso
        have e1 := hall p (by simp)
        have e2 := hall q (by simp)
        rw [List.nodup_cons] at hVn
        exact hVn.1 (by rw [e1, ← e2]; simp)
  have p1 := h1 o
  have p2 := h2 o
  rw [e1, hone, cx_sm_cons, cx_sm_nil] at p1
  rw [e2, hone, cx_sm_cons, cx_sm_nil] at p2
  have hmo := cr_mo_pos o.2 a0
  have q : ∀ c : Int, 0 < (c : Rat) * cr_mo o.1 a0 + 0 → 1 ≤ c := fun c hc => by
    refine Classical.byContradiction (fun hneg => ?_)
    have h8 : c ≤ 0 := by omega
    have h9 : (c : Rat) ≤ ((0 : Int) : Rat) := by exact_mod_cast h8
    rw [show ((0 : Int) : Rat) = 0 from rfl] at h9
    have := Rat.mul_nonneg (by grind : 0 ≤ - (c : Rat)) (by grind : 0 ≤ cr_mo o.1 a0)
    grind
  have q1 := q _ p1
  have q2 := q _ p2
  have := hco a0
  rw [if_pos rfl] at this
  omega
theorem cr_vl_pos {n : Nat} {x : Fin n → Rat} (hx : ∀ j, 0 < x j) {l : cr_Pl_ n} (h : ∀ y ∈ l, 0 < y.1) (hne : l ≠ []) : 0 < cr_vl x l := by
  have nn : ∀ l : cr_Pl_ n, (∀ y ∈ l, 0 < y.1) → 0 ≤ cr_vl x l := fun l h => cx_sm_nonneg (fun y hy => by
    have h1 : (0 : Rat) < (y.1 : Rat) := by exact_mod_cast h y hy
    have := Rat.mul_pos h1 (cr_mo_pos hx y.2)
    grind)
  cases l with
  | nil => exact absurd rfl hne
  | cons y l =>
    rw [cr_vl_cons]
    have h1 : (0 : Rat) < (y.1 : Rat) := by exact_mod_cast h y (by simp)
    have h2 := Rat.mul_pos h1 (cr_mo_pos hx y.2)
    have h3 := nn l (fun z hz => h z (by simp [hz]))
    grind
theorem cr_co_pos {n : Nat} {l : cr_Pl_ n} (h : ∀ y ∈ l, 0 < y.1) {y : Int × cr_Xp n} (hy : y ∈ l) : 0 < cr_co l y.2 := by
  classical
  induction l with
  | nil => simp at hy
  | cons z l ih =>
    rw [cr_co_cons]
    have hn := cr_Shr.nonneg (l := l) (fun z hz => h z (by simp [hz])) y.2
    have hz := h z (by simp)
    rcases List.mem_cons.1 hy with rfl | hy
    · rw [if_pos rfl]; omega
    · have := ih (fun z hz => h z (by simp [hz])) hy
      by_cases e : z.2 = y.2
      · rw [if_pos e]; omega
      · rw [if_neg e]; omega
theorem cr_ladder {n : Nat} (b : Fin n → Fin n → Int) (k v : Fin n) (G : Int) (h1 : b v k ≤ G) (h2 : - G ≤ b v k) : ∀ m, (∀ u ∈ cr_pw (cr_Pk b k) m, 0 ≤ u.2 v) ∧ ∀ u ∈ cr_pw (cr_Pk b k) m, ∀ A : Int, 0 ≤ A → A < u.2 v → ∃ u' ∈ cr_pw (cr_Pk b k) m, A < u'.2 v ∧ u'.2 v ≤ A + G
  | 0 => by
    constructor
    · intro u hu
      have : u = (1, fun _ => 0) := by simpa [cr_pw] using hu
      rw [this]; exact Int.le_refl 0
    · intro u hu A hA hlt
      have : u = (1, fun _ => 0) := by simpa [cr_pw] using hu
      rw [this] at hlt
      have : A < 0 := hlt
      omega
  | m + 1 => by
    obtain ⟨i1, i2⟩ := cr_ladder b k v G h1 h2 m
    have hP : ∀ y ∈ cr_Pk b k, 0 ≤ y.2 v ∧ y.2 v ≤ G := by
      intro y hy
      unfold cr_Pk at hy
      simp only [List.mem_cons, List.not_mem_nil, or_false] at hy
      rcases hy with rfl | rfl
      · show 0 ≤ ((cx_pos (b v k) : Nat) : Int) ∧ ((cx_pos (b v k) : Nat) : Int) ≤ G
        unfold cx_pos; omega
      · show 0 ≤ ((cx_pos (- b v k) : Nat) : Int) ∧ ((cx_pos (- b v k) : Nat) : Int) ≤ G
        unfold cx_pos; omega
    have hZ : ∃ y ∈ cr_Pk b k, y.2 v = 0 := by
      unfold cr_Pk
      by_cases hb : b v k ≤ 0
      · refine ⟨(1, fun i => (cx_pos (b i k) : Int)), by simp, ?_⟩
        show ((cx_pos (b v k) : Nat) : Int) = 0
        unfold cx_pos; omega
      · refine ⟨(1, fun i => (cx_pos (- b i k) : Int)), by simp, ?_⟩
        show ((cx_pos (- b v k) : Nat) : Int) = 0
        unfold cx_pos; omega
    constructor
    · intro u hu
      obtain ⟨y, hy, w, hw, rfl⟩ := cr_mem_pmz hu
      show 0 ≤ y.2 v + w.2 v
      have := hP y hy; have := i1 w hw; omega
    · intro u hu A hA hlt
      obtain ⟨y, hy, w, hw, rfl⟩ := cr_mem_pmz hu
      have hlt' : A < y.2 v + w.2 v := hlt
      by_cases hc : A < w.2 v
      · obtain ⟨u', hu', g1, g2⟩ := i2 w hw A hA hc
        obtain ⟨z, hz, ez⟩ := hZ
        refine ⟨(z.1 * u'.1, fun i => z.2 i + u'.2 i), List.mem_flatMap.2 ⟨z, hz, List.mem_map.2 ⟨u', hu', rfl⟩⟩, ?_, ?_⟩
        · show A < z.2 v + u'.2 v; omega
        · show z.2 v + u'.2 v ≤ A + G; omega
      · refine ⟨_, hu, hlt, ?_⟩
        show y.2 v + w.2 v ≤ A + G
        have := (hP y hy).2
        omega
theorem cr_fl_comm {n : Nat} (p q : cr_Xp n → Bool) (l : cr_Pl_ n) : cr_fl p (cr_fl q l) = cr_fl q (cr_fl p l) := by
  unfold cr_fl
  rw [List.filter_filter, List.filter_filter]
  congr 1
  funext y
  exact Bool.and_comm _ _
theorem cr_gapk {n : Nat} (b : Fin n → Fin n → Int) {k v : Fin n} (hb : b k k = 0) (hvk : v ≠ k) (G : Int) (hb1 : b v k ≤ G) (hb2 : - G ≤ b v k) {L l1 : cr_Pl_ n} (hL : ∀ y ∈ L, 0 < y.1) (hl1 : ∀ y ∈ l1, 0 < y.1) (h : ∀ x : cr_Pv n, cr_vl x.1 L = cr_vl (cr_stepv b k x.1) l1)
    (A : Int) (hno : ∀ y ∈ L, y.2 v ≤ A ∨ A + G < y.2 v) : cr_Lau (cr_sp b k) (fun x => cr_vl x.1 (cr_fl (fun a => decide (a v ≤ A)) L)) := by
  let Ln := cr_fl (fun a => decide (a k < 0)) L
  let G1 := cr_fl (fun a => decide (cr_up a k (- a k) k < 0)) l1
  have hG1 : ∀ y ∈ G1, 0 ≤ ((0 : Nat) : Int) + y.2 k := fun y hy => by
    have h2 := (cr_mem_fl.1 hy).2
    have h3 : cr_up y.2 k (- y.2 k) k < 0 := by simpa using h2
    rw [cr_up_k] at h3
    omega
  have e1 : ∀ x : cr_Pv n, cr_vl x.1 Ln = cr_vl (cr_stepv b k x.1) G1 := fun x => cr_row hb h (fun z => decide (z < 0)) x
  have e2 : ∀ (H : cr_Pl_ n), (∀ y ∈ H, 0 ≤ ((0 : Nat) : Int) + y.2 k) → ∀ x : cr_Pv n, cr_vl x.1 (H.flatMap (cr_ex b k 0)) = cr_vl (cr_stepv b k x.1) H := fun H hH x => by
    rw [cr_vl_exs b k x.2 0 H hH, show ((0 : Nat) : Int) = 0 from rfl, Rat.zpow_zero, Rat.mul_one]
  have e3 : ∀ x : cr_Pv n, cr_vl x.1 Ln = cr_vl x.1 (G1.flatMap (cr_ex b k 0)) := fun x => by rw [e2 G1 hG1, e1]
  have hPkp : ∀ u ∈ cr_Pk b k, 0 < u.1 := by
    intro u hu
    unfold cr_Pk at hu
    simp only [List.mem_cons, List.not_mem_nil, or_false] at hu
    rcases hu with rfl | rfl
    · show (0 : Int) < 1; omega
    · show (0 : Int) < 1; omega
  have hEp : ∀ z ∈ G1.flatMap (cr_ex b k 0), 0 < z.1 := fun z hz => by
    obtain ⟨y, hy, hz⟩ := List.mem_flatMap.1 hz
    obtain ⟨u, hu, rfl⟩ := cr_mem_shz hz
    exact Int.mul_pos (hl1 y (cr_mem_fl.1 hy).1) (cr_pw_pos hPkp _ u hu)
  have hin : ∀ z ∈ G1.flatMap (cr_ex b k 0), ∃ y ∈ L, y.2 = z.2 := fun z hz => by
    have h2 := cr_co_pos hEp hz
    rw [← cr_vl_unique e3] at h2
    obtain ⟨y, hy, ey⟩ := cr_co_mem (l := Ln) (a := z.2) (by omega)
    exact ⟨y, (cr_mem_fl.1 hy).1, ey⟩
  have hq : ∀ y ∈ G1, ∀ z ∈ cr_ex b k 0 y, (fun a : cr_Xp n => decide (a v ≤ A)) z.2 = decide (y.2 v ≤ A) := by
    intro y hy z hz
    obtain ⟨u, hu, ez⟩ := cr_mem_shz hz
    have hv : z.2 v = y.2 v + u.2 v := by rw [ez]; show cr_up y.2 k (- y.2 k) v + u.2 v = _; rw [cr_up_ne _ _ hvk]
    obtain ⟨i1, i2⟩ := cr_ladder b k v G hb1 hb2 (((0 : Nat) : Int) + y.2 k).toNat
    have hu0 := i1 u hu
    show decide (z.2 v ≤ A) = decide (y.2 v ≤ A)
    by_cases hyA : y.2 v ≤ A
    · by_cases hzA : z.2 v ≤ A
      · rw [decide_eq_true hyA, decide_eq_true hzA]
      · exfalso
        obtain ⟨u', hu', g1, g2⟩ := i2 u hu (A - y.2 v) (by omega) (by omega)
        obtain ⟨q, hq, eq⟩ := hin (y.1 * u'.1, fun i => cr_up y.2 k (- y.2 k) i + u'.2 i) (List.mem_flatMap.2 ⟨y, hy, List.mem_map.2 ⟨u', hu', rfl⟩⟩)
        have ev : q.2 v = y.2 v + u'.2 v := by rw [eq]; show cr_up y.2 k (- y.2 k) v + u'.2 v = _; rw [cr_up_ne _ _ hvk]
        rcases hno q hq with h | h <;> omega
    · rw [decide_eq_false hyA, decide_eq_false (by omega)]
  have e4 : ∀ x : cr_Pv n, cr_vl x.1 (cr_fl (fun a => decide (a v ≤ A)) Ln) = cr_vl (cr_sp b k x).1 (cr_fl (fun a => decide (a v ≤ A)) G1) := fun x => by
    rw [cr_fl_unique e3 (fun a => decide (a v ≤ A)) x.1, cr_fl_flat G1 _ _ (fun y => decide (y.2 v ≤ A)) hq]
    exact e2 (cr_fl (fun a => decide (a v ≤ A)) G1) (fun y hy => hG1 y (cr_mem_fl.1 hy).1) x
  have hB := cr_Lau.nonneg b hb (l := cr_fl (fun a => !decide (a k < 0)) (cr_fl (fun a => decide (a v ≤ A)) L)) (fun y hy => by
    have h2 := (cr_mem_fl.1 hy).2
    have h3 : ¬ y.2 k < 0 := by simpa using h2
    omega)
  have hA : cr_Lau (cr_sp b k) (fun x => cr_vl x.1 (cr_fl (fun a => decide (a v ≤ A)) Ln)) := ⟨_, e4⟩
  refine (hA.add hB).congr (fun x => ?_)
  rw [cr_fl_split x.1 (fun a => decide (a k < 0)) (cr_fl (fun a => decide (a v ≤ A)) L), cr_fl_comm]
theorem cr_gap {n : Nat} (s : cx_Sd n) {Q : Fin n → Prop} (hI : cr_Ind s.b Q) (ks : List (Fin n)) (hks : ∀ k ∈ ks, Q k) (jj v : Fin n) (G : Int) (hb : ∀ k, Q k → s.b v k ≤ G ∧ - G ≤ s.b v k) {L : cr_Pl_ n} (hLp : ∀ y ∈ L, 0 < y.1) (hL : ∀ x, (cr_gp s.b ks x).1 jj = cr_vl x.1 L)
    (A : Int) (hlo : ∃ y ∈ L, y.2 v ≤ A) (hhi : ∃ y ∈ L, A + G < y.2 v) (hG : 0 ≤ G) : ∃ y ∈ L, A < y.2 v ∧ y.2 v ≤ A + G := by
  refine Classical.byContradiction (fun hcon => ?_)
  have hno : ∀ y ∈ L, y.2 v ≤ A ∨ A + G < y.2 v := fun y hy => by
    refine Classical.byContradiction (fun h => hcon ⟨y, hy, by omega, by omega⟩)
  let Lo := cr_fl (fun a => decide (a v ≤ A)) L
  let Hi := cr_fl (fun a => !decide (a v ≤ A)) L
  have hLo : ∀ x : cr_Pv n, 0 < cr_vl x.1 Lo := fun x => by
    obtain ⟨y, hy, h⟩ := hlo
    exact cr_vl_pos x.2 (fun y hy => hLp y (cr_mem_fl.1 hy).1) (fun e => by
      have : y ∈ Lo := cr_mem_fl.2 ⟨hy, by simpa using h⟩
      rw [e] at this; simp at this)
  have hHi : ∀ x : cr_Pv n, 0 < cr_vl x.1 Hi := fun x => by
    obtain ⟨y, hy, h⟩ := hhi
    exact cr_vl_pos x.2 (fun y hy => hLp y (cr_mem_fl.1 hy).1) (fun e => by
      have : y ∈ Hi := cr_mem_fl.2 ⟨hy, by simp; omega⟩
      rw [e] at this; simp at this)
  have hlau : cr_Lau (cr_gp s.b ks) (fun x => cr_vl x.1 Lo) := by
    refine cr_upper ks s hI hks _ ⟨Lo, fun x => rfl⟩ (fun k hk => ?_)
    obtain ⟨l1, hl1, h1⟩ := cr_rel [k] s ks jj
    have h2 : ∀ x : cr_Pv n, cr_vl x.1 L = cr_vl (cr_stepv s.b k x.1) l1 := fun x => by rw [← hL x]; exact h1 x
    by_cases hvk : v = k
    · subst hvk
      exact ⟨_, fun x => cr_row (s.self v) h2 (fun z => decide (z ≤ A)) x⟩
    · exact cr_gapk s.b (s.self k) hvk G (hb k hk).1 (hb k hk).2 hLp hl1 h2 A hno
  have hlau2 : cr_Lau (cr_gp s.b ks) (fun x => cr_vl x.1 Hi) :=
    ((cr_Lau.mono (cr_gp s.b ks) (cr_up (fun _ => 0) jj 1)).add hlau.neg).congr (fun x => by
      rw [cr_mo_e, Rat.zpow_one, hL x, cr_fl_split x.1 (fun a => decide (a v ≤ A)) L]
      show cr_vl x.1 Hi = cr_vl x.1 Lo + cr_vl x.1 Hi + - cr_vl x.1 Lo
      grind)
  obtain ⟨l, hl⟩ := hlau
  obtain ⟨l', hl'⟩ := hlau2
  refine cr_split (l := l) (l' := l') (a0 := cr_up (fun _ => 0) jj 1) (fun y => ?_) (fun y => ?_) (fun y => ?_)
  · obtain ⟨x, hx⟩ := cr_surj ks s y
    rw [← hx, ← hl x]; exact hLo x
  · obtain ⟨x, hx⟩ := cr_surj ks s y
    rw [← hx, ← hl' x]; exact hHi x
  · obtain ⟨x, hx⟩ := cr_surj ks s y
    rw [← hx, ← hl x, ← hl' x, cr_mo_e, Rat.zpow_one, hL x]
    exact (cr_fl_split x.1 (fun a => decide (a v ≤ A)) L).symm
