theorem cr_vl_ge {n : Nat} {x : Fin n → Rat} (hx : ∀ j, 0 < x j) {l : cr_Pl_ n} (h : ∀ y ∈ l, 0 < y.1) (p : cr_Xp n → Bool) : cr_vl x (cr_fl p l) ≤ cr_vl x l := by
  rw [cr_fl_split x p l]
  have : 0 ≤ cr_vl x (cr_fl (fun a => !p a) l) := cx_sm_nonneg (fun y hy => by
    have h1 : (0 : Rat) < (y.1 : Rat) := by exact_mod_cast h y (cr_mem_fl.1 hy).1
    have := Rat.mul_pos h1 (cr_mo_pos hx y.2)
    grind)
  grind
theorem cr_mo_ones {n : Nat} (a : cr_Xp n) : cr_mo (fun _ => (1 : Rat)) a = 1 := by
  refine Eq.trans (cr_mo_congr (v' := fun _ => (1 : Rat)) (a' := fun _ => 0) (fun j => ?_)) (cr_mo_zero _)
  rw [cr_one_zp, cr_one_zp]
theorem cr_low {n : Nat} (s : cx_Sd n) (ks : List (Fin n)) (jj v : Fin n) {L : cr_Pl_ n} (hLp : ∀ y ∈ L, 0 < y.1) (hL : ∀ x, (cr_gp s.b ks x).1 jj = cr_vl x.1 L) {y : Int × cr_Xp n} (hy : y ∈ L) : (2 : Rat) ^ (- y.2 v) ≤ cr_vl (fun _ => 1) L := by
  obtain ⟨l1, hl1, h1⟩ := cr_rel [v] s ks jj
  have h2 : ∀ x : cr_Pv n, cr_vl x.1 L = cr_vl (cr_stepv s.b v x.1) l1 := fun x => by rw [← hL x]; exact h1 x
  let o : cr_Pv n := ⟨fun _ => 1, fun _ => by grind⟩
  have e := cr_row (s.self v) h2 (fun z => decide (z = y.2 v)) o
  let m := cr_fl (fun a => decide (cr_up a v (- a v) v = y.2 v)) l1
  have hm : ∀ z ∈ m, z.2 v = - y.2 v := fun z hz => by
    have h3 := (cr_mem_fl.1 hz).2
    have h4 : cr_up z.2 v (- z.2 v) v = y.2 v := by simpa using h3
    rw [cr_up_k] at h4
    omega
  have hle := cr_vl_ge o.2 hLp (fun a => decide (a v = y.2 v))
  have hpos : 0 < cr_vl o.1 (cr_fl (fun a => decide (a v = y.2 v)) L) := cr_vl_pos o.2 (fun z hz => hLp z (cr_mem_fl.1 hz).1) (fun h => by
    have : y ∈ cr_fl (fun a => decide (a v = y.2 v)) L := cr_mem_fl.2 ⟨hy, by simp⟩
    rw [h] at this; simp at this)
  have hP : cr_P s.b v o.1 = 2 := by
    unfold cr_P
    have h3 : ∀ a : cr_Xp n, cr_mo o.1 a = 1 := fun a => cr_mo_ones a
    rw [h3, h3]; grind
  have hmo : ∀ z ∈ m, cr_mo (cr_stepv s.b v o.1) z.2 = (2 : Rat) ^ (- y.2 v) := fun z hz => by
    rw [cr_mo_step s.b v o.2, hP, hm z hz]
    have : cr_mo o.1 (cr_up z.2 v (- - y.2 v)) = 1 := cr_mo_ones _
    rw [this, Rat.mul_one]
  have e2 : cr_vl o.1 (cr_fl (fun a => decide (a v = y.2 v)) L) = cr_vl (cr_stepv s.b v o.1) m := e
  have hne : m ≠ [] := fun h => by
    rw [e2, h, cr_vl_nil] at hpos
    grind
  have hge : (2 : Rat) ^ (- y.2 v) ≤ cr_vl (cr_stepv s.b v o.1) m := by
    have hmp : ∀ z ∈ m, 0 < z.1 := fun z hz => hl1 z (cr_mem_fl.1 hz).1
    revert hmp hmo hne
    clear hm e2 e
    generalize m = m
    intro hmo hne hmp
    cases m with
    | nil => exact absurd rfl hne
    | cons z t =>
      rw [cr_vl_cons, hmo z (by simp)]
      have h3 : (1 : Rat) ≤ (z.1 : Rat) := by
        have : 1 ≤ z.1 := hmp z (by simp)
        exact_mod_cast this
      have h4 : 0 < (2 : Rat) ^ (- y.2 v) := Rat.zpow_pos (by grind)
      have h5 := Rat.mul_nonneg (by grind : 0 ≤ (z.1 : Rat) - 1) (by grind : 0 ≤ (2 : Rat) ^ (- y.2 v))
      have h6 : 0 ≤ cr_vl (cr_stepv s.b v o.1) t := cx_sm_nonneg (fun q hq => by
        have h7 : (0 : Rat) < (q.1 : Rat) := by exact_mod_cast hmp q (by simp [hq])
        have := Rat.mul_pos h7 (cr_mo_pos (cr_stepv_pos s.b v o.2) q.2)
        grind)
      grind
  have e3 : cr_vl (fun _ => 1) L = cr_vl o.1 L := rfl
  rw [e3]
  rw [e2] at hle
  grind
def cr_eb {n : Nat} (b : Fin n → Fin n → Int) (i j : Fin (n + n)) : Int :=
  if hi : i.1 < n then (if hj : j.1 < n then b ⟨i.1, hi⟩ ⟨j.1, hj⟩ else if j.1 = i.1 + n then -1 else 0)
  else (if j.1 < n then (if i.1 = j.1 + n then 1 else 0) else 0)
def cr_ed {n : Nat} (d : Fin n → Nat) (i : Fin (n + n)) : Nat := if hi : i.1 < n then d ⟨i.1, hi⟩ else d ⟨i.1 - n, by omega⟩
def cr_es {n : Nat} (s : cx_Sd n) : cx_Sd (n + n) := ⟨(cr_eb s.b, cr_ed s.d), fun i => by
    show 0 < cr_ed s.d i
    unfold cr_ed
    by_cases hi : i.1 < n
    · rw [dif_pos hi]; exact s.dpos _
    · rw [dif_neg hi]; exact s.dpos _, fun i j => by
    show (cr_ed s.d i : Int) * cr_eb s.b i j = - ((cr_ed s.d j : Int) * cr_eb s.b j i)
    unfold cr_ed cr_eb
    by_cases hi : i.1 < n
    · by_cases hj : j.1 < n
      · rw [dif_pos hi, dif_pos hj, dif_pos hi, dif_pos hj, dif_pos hj, dif_pos hi]; exact s.sk _ _
      · rw [dif_pos hi, dif_neg hj, dif_pos hi, dif_neg hj, dif_neg hj, if_pos hi]
        by_cases e : j.1 = i.1 + n
        · rw [if_pos e, if_pos e]
          have : (⟨j.1 - n, by omega⟩ : Fin n) = ⟨i.1, hi⟩ := Fin.ext (by show j.1 - n = i.1; omega)
          rw [this]; omega
        · rw [if_neg e, if_neg e]; omega
    · by_cases hj : j.1 < n
      · rw [dif_neg hi, dif_pos hj, dif_neg hi, if_pos hj, dif_pos hj, dif_neg hi]
        by_cases e : i.1 = j.1 + n
        · rw [if_pos e, if_pos e]
          have : (⟨i.1 - n, by omega⟩ : Fin n) = ⟨j.1, hj⟩ := Fin.ext (by show i.1 - n = j.1; omega)
          rw [this]; omega
        · rw [if_neg e, if_neg e]; omega
      · rw [dif_neg hi, dif_neg hj, dif_neg hi, dif_neg hj, if_neg hj, if_neg hi]; omega⟩
theorem cr_es_ind {n : Nat} (s : cx_Sd n) : cr_Ind (cr_es s).b (fun i => i.1 < n) := by
  intro z hz he j
  by_cases hj : j.1 < n
  · have h1 := he ⟨j.1 + n, by omega⟩
    have e : (cr_es s).b ⟨j.1 + n, by omega⟩ = cr_up (fun _ => 0) j 1 := funext fun i => by
      show cr_eb s.b ⟨j.1 + n, by omega⟩ i = _
      unfold cr_eb
      rw [dif_neg (by show ¬ j.1 + n < n; omega)]
      by_cases hi : i = j
      · rw [hi, cr_up_k, if_pos hj, if_pos rfl]
      · rw [cr_up_ne _ _ hi]
        have : i.1 ≠ j.1 := fun e => hi (Fin.ext e)
        by_cases hi2 : i.1 < n
        · rw [if_pos hi2, if_neg (by show ¬ j.1 + n = i.1 + n; omega)]
        · rw [if_neg hi2]
    rw [e, cr_wd_comm, cr_wd_e] at h1
    omega
  · exact hz j hj
theorem cr_mo_last {n : Nat} (v : Fin (n + 1) → Rat) (a : cr_Xp (n + 1)) : cr_mo v a = cr_mo (fun i : Fin n => v i.castSucc) (fun i => a i.castSucc) * v (Fin.last n) ^ a (Fin.last n) := by
  unfold cr_mo
  rw [List.finRange_succ_last, List.foldr_append]
  have main : ∀ (l : List (Fin n)) (c : Rat), (l.map Fin.castSucc).foldr (fun j r => v j ^ a j * r) c = l.foldr (fun j r => v j.castSucc ^ a j.castSucc * r) 1 * c := by
    intro l c
    induction l with
    | nil => rw [List.map_nil, List.foldr_nil, List.foldr_nil, Rat.one_mul]
    | cons x l ih => rw [List.map_cons, List.foldr_cons, List.foldr_cons, ih, Rat.mul_assoc]
  rw [main]
  congr 1
  rw [List.foldr_cons, List.foldr_nil, Rat.mul_one]
theorem cr_mo_ext {n : Nat} : ∀ (m : Nat) (v : Fin (n + m) → Rat) (a : cr_Xp (n + m)), (∀ i, n ≤ i.1 → v i = 1) → cr_mo v a = cr_mo (fun i : Fin n => v (Fin.castAdd m i)) (fun i => a (Fin.castAdd m i))
  | 0, v, a, _ => rfl
  | m + 1, v, a, h => by
    have e := cr_mo_last (n := n + m) v a
    have h1 : v (Fin.last (n + m)) = 1 := h _ (by show n ≤ n + m; omega)
    rw [h1, cr_one_zp, Rat.mul_one, cr_mo_ext m (fun i => v i.castSucc) (fun i => a i.castSucc) (fun i hi => h _ hi)] at e
    exact e
theorem cr_gp_ext {n : Nat} (ks : List (Fin n)) : ∀ (b : Fin n → Fin n → Int) (b' : Fin (n + n) → Fin (n + n) → Int) (x : cr_Pv n) (x' : cr_Pv (n + n)), (∀ i j, b' (Fin.castAdd n i) (Fin.castAdd n j) = b i j) → (∀ i, x'.1 (Fin.castAdd n i) = x.1 i) → (∀ i, n ≤ i.1 → x'.1 i = 1) →
    ∀ i, (cr_gp b' (ks.map (Fin.castAdd n)) x').1 (Fin.castAdd n i) = (cr_gp b ks x).1 i := by
  induction ks with
  | nil => exact fun b b' x x' _ hx _ i => hx i
  | cons k ks ih =>
    intro b b' x x' hb hx h1
    have inj : ∀ i j : Fin n, Fin.castAdd n i = Fin.castAdd n j ↔ i = j := fun i j => ⟨fun e => Fin.ext (by have := congrArg Fin.val e; exact this), fun e => by rw [e]⟩
    refine ih (cr_turnB b k) (cr_turnB b' (Fin.castAdd n k)) (cr_sp b k x) (cr_sp b' (Fin.castAdd n k) x') (fun i j => ?_) (fun i => ?_) (fun i hi => ?_)
    · unfold cr_turnB
      rw [hb, hb, hb]
      by_cases h : i = k ∨ j = k
      · rw [if_pos h, if_pos (by rw [inj, inj]; exact h)]
      · rw [if_neg h, if_neg (by rw [inj, inj]; exact h)]
    · show cr_stepv b' (Fin.castAdd n k) x'.1 (Fin.castAdd n i) = cr_stepv b k x.1 i
      have hm : ∀ (a : cr_Xp (n + n)) (a' : cr_Xp n), (∀ i, a (Fin.castAdd n i) = a' i) → cr_mo x'.1 a = cr_mo x.1 a' := fun a a' ha => by
        rw [cr_mo_ext n x'.1 a h1]
        exact cr_mo_congr (fun j => by rw [hx, ha])
      by_cases h : i = k
      · subst h
        rw [cr_step_k, cr_step_k, hx]
        unfold cr_P
        rw [hm _ (fun j => (cx_pos (b j i) : Int)) (fun j => by rw [hb]), hm _ (fun j => (cx_pos (- b j i) : Int)) (fun j => by rw [hb])]
      · rw [cr_step_ne _ _ (by rw [Ne, inj]; exact h), cr_step_ne _ _ h, hx]
    · show cr_stepv b' (Fin.castAdd n k) x'.1 i = 1
      rw [cr_step_ne _ _ (fun e => by rw [e] at hi; have : n ≤ k.1 := hi; omega), h1 i hi]
theorem cr_len {α : Type} : ∀ (l m : List α), l.Nodup → (∀ a ∈ l, a ∈ m) → l.length ≤ m.length
  | [], m, _, _ => Nat.zero_le _
  | a :: l, m, hn, h => by
    classical
    rw [List.nodup_cons] at hn
    have ha := h a (by simp)
    have h1 := cr_len l (m.erase a) hn.2 (fun b hb => (List.mem_erase_of_ne (fun e => hn.1 (by rw [← e]; exact hb))).2 (h b (by simp [hb])))
    have h2 := List.length_erase_of_mem ha
    have h3 : 0 < m.length := List.length_pos_of_mem ha
    rw [List.length_cons]
    omega
theorem cr_exp {n : Nat} (s : cx_Sd n) {Q : Fin n → Prop} (ks : List (Fin n)) (hks : ∀ k ∈ ks, Q k) (jj : Fin n) (hb : ∀ v k, Q k → s.b v k ≤ 9 ∧ -9 ≤ s.b v k) {L : cr_Pl_ n} (hLp : ∀ y ∈ L, 0 < y.1) (hL : ∀ x, (cr_gp s.b ks x).1 jj = cr_vl x.1 L) (hlen : L.length ≤ 200) (hsum : cr_vl (fun _ => 1) L < (2 : Rat) ^ (48 : Int)) :
    ∀ y ∈ L, ∀ v, -47 ≤ y.2 v ∧ y.2 v ≤ 1810 := by
  intro y hy v
  constructor
  · refine Classical.byContradiction (fun h => ?_)
    have h1 := cr_low s ks jj v hLp hL hy
    have h2 := cr_zp_mono (T := 2) (by grind) (by omega : (48 : Int) ≤ - y.2 v)
    grind
  · refine Classical.byContradiction (fun hbig => ?_)
    let c : Fin n → Fin (n + n) := Fin.castAdd n
    have hext : ∀ (x : cr_Pv n) (x' : cr_Pv (n + n)), (∀ i, x'.1 (c i) = x.1 i) → (∀ i, n ≤ i.1 → x'.1 i = 1) → ∀ i, (cr_gp (cr_es s).b (ks.map c) x').1 (c i) = (cr_gp s.b ks x).1 i := fun x x' h1 h2 => cr_gp_ext ks s.b (cr_es s).b x x' (fun i j => by
      show cr_eb s.b (Fin.castAdd n i) (Fin.castAdd n j) = s.b i j
      unfold cr_eb
      rw [dif_pos (by exact i.2), dif_pos (by exact j.2)]
      rfl) h1 h2
    obtain ⟨L', hLp', hL'⟩ := cr_rel [] (cr_es s) (ks.map c) (c jj)
    have hL' : ∀ x, (cr_gp (cr_es s).b (ks.map c) x).1 (c jj) = cr_vl x.1 L' := hL'
    let M : cr_Pl_ n := L'.map fun z => (z.1, fun i => z.2 (c i))
    have hM : ∀ x : cr_Pv n, cr_vl x.1 L = cr_vl x.1 M := fun x => by
      let x' : cr_Pv (n + n) := ⟨fun i => if hi : i.1 < n then x.1 ⟨i.1, hi⟩ else 1, fun i => by
        show 0 < if hi : i.1 < n then x.1 ⟨i.1, hi⟩ else 1
        by_cases hi : i.1 < n
        · rw [dif_pos hi]; exact x.2 _
        · rw [dif_neg hi]; grind⟩
      have a1 : ∀ i, x'.1 (c i) = x.1 i := fun i => dif_pos i.2
      have a2 : ∀ i : Fin (n + n), n ≤ i.1 → x'.1 i = 1 := fun i hi => dif_neg (by omega)
      rw [← hL x, ← hext x x' a1 a2 jj, hL' x']
      show cx_sm L' _ = cx_sm (L'.map _) _
      rw [cx_sm_map]
      refine cx_sm_congr (fun z _ => ?_)
      congr 1
      rw [cr_mo_ext n x'.1 z.2 a2]
      exact cr_mo_congr (fun j => by rw [show x'.1 (Fin.castAdd n j) = x.1 j from a1 j])
    have hMp : ∀ z ∈ M, 0 < z.1 := fun z hz => by
      obtain ⟨u, hu, rfl⟩ := List.mem_map.1 hz
      exact hLp' u hu
    have hco := cr_vl_unique hM
    have to : ∀ z ∈ L', ∃ y ∈ L, y.2 v = z.2 (c v) := fun z hz => by
      have h1 := cr_co_pos hMp (y := (z.1, fun i => z.2 (c i))) (List.mem_map.2 ⟨z, hz, rfl⟩)
      rw [← hco] at h1
      obtain ⟨y, hy, ey⟩ := cr_co_mem (l := L) (a := fun i => z.2 (c i)) (fun e => by
        have h2 : 0 < cr_co L (fun i => z.2 (c i)) := h1
        omega)
      exact ⟨y, hy, by rw [ey]⟩
    obtain ⟨y', hy', ey'⟩ : ∃ z ∈ L', z.2 (c v) = y.2 v := by
      have h1 := cr_co_pos hLp hy
      rw [hco] at h1
      obtain ⟨z, hz, ez⟩ := cr_co_mem (l := M) (a := y.2) (by omega)
      obtain ⟨u, hu, rfl⟩ := List.mem_map.1 hz
      exact ⟨u, hu, congrFun ez v⟩
    have hIn : cr_Ind (cr_es s).b (fun i => i.1 < n) := cr_es_ind s
    have hIQ : cr_Ind (cr_es s).b (fun i => ∃ k, Q k ∧ i = c k) := fun z hz he => hIn z (fun j hj => hz j (fun ⟨k, _, e⟩ => hj (by rw [e]; exact k.2))) he
    obtain ⟨y0, hy0, e0⟩ := cr_anchor (cr_es s) hIn (ks.map c) (fun k hk => by
      obtain ⟨q, _, rfl⟩ := List.mem_map.1 hk
      exact q.2) (c jj) (c v) jj.2 v.2 hL'
    have win : ∀ i : Nat, i < 201 → ∃ z ∈ L, 1 + 9 * (i : Int) < z.2 v ∧ z.2 v ≤ 1 + 9 * (i : Int) + 9 := fun i hi => by
      obtain ⟨z, hz, g1, g2⟩ := cr_gap (cr_es s) hIQ (ks.map c) (fun k hk => by
        obtain ⟨q, hq, rfl⟩ := List.mem_map.1 hk
        exact ⟨q, hks q hq, rfl⟩) (c jj) (c v) 9 (fun k ⟨q, hq, e⟩ => by
        rw [e]
        have h1 : (cr_es s).b (c v) (c q) = s.b v q := by
          show cr_eb s.b (Fin.castAdd n v) (Fin.castAdd n q) = s.b v q
          unfold cr_eb
          rw [dif_pos (by exact v.2), dif_pos (by exact q.2)]
          rfl
        rw [h1]; exact hb v q hq) hLp' hL' (1 + 9 * (i : Int)) ⟨y0, hy0, by omega⟩ ⟨y', hy', by omega⟩ (by omega)
      obtain ⟨q, hq, eq⟩ := to z hz
      exact ⟨q, hq, by omega, by omega⟩
    have h201 := cr_len (List.range 201) (L.map fun z => ((z.2 v - 2) / 9).toNat) List.nodup_range (fun i hi => by
      obtain ⟨z, hz, g1, g2⟩ := win i (List.mem_range.1 hi)
      exact List.mem_map.2 ⟨z, hz, by omega⟩)
    rw [List.length_range, List.length_map] at h201
    omega
