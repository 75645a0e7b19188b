theorem cr_wd_add {n : Nat} (w a c : cr_Xp n) : cr_wd w (fun i => a i + c i) = cr_wd w a + cr_wd w c := by
  unfold cr_wd
  generalize List.finRange n = l
  induction l with
  | nil => rfl
  | cons i l ih => rw [List.foldr_cons, List.foldr_cons, List.foldr_cons, ih, Int.mul_add]; omega
theorem cr_wd_zero {n : Nat} (w : cr_Xp n) : cr_wd w (fun _ => 0) = 0 := by
  unfold cr_wd
  generalize List.finRange n = l
  induction l with
  | nil => rfl
  | cons i l ih => rw [List.foldr_cons, ih, Int.mul_zero]; rfl
theorem cr_cop1 {n : Nat} (lam : cr_Xp n) {K : cr_Pl_ n} (hK : ∀ u ∈ K, cr_wd lam u.2 = 0) (hKp : ∀ x : cr_Pv n, 0 < cr_vl x.1 K) (w : cr_Xp n) (hw : 0 < cr_wd lam w) : ∀ (N : Nat) (m : Int) (h1 h2 : cr_Pl_ n), (∀ y ∈ h2, m ≤ cr_wd lam y.2 ∧ cr_wd lam y.2 < m + (N : Int)) →
    (∀ x : cr_Pv n, cr_vl x.1 K * cr_vl x.1 h1 = (1 + cr_mo x.1 w) * cr_vl x.1 h2) → ∃ h : cr_Pl_ n, ∀ x : cr_Pv n, cr_vl x.1 h1 = (1 + cr_mo x.1 w) * cr_vl x.1 h
  | 0, m, h1, h2, hr, he => by
    have : h2 = [] := by
      cases h2 with
      | nil => rfl
      | cons y l => have := hr y (by simp); omega
    subst this
    refine ⟨[], fun x => ?_⟩
    have e := he x
    rw [cr_vl_nil, Rat.mul_zero] at e
    have := hKp x
    rcases Rat.mul_eq_zero.1 e with h | h
    · grind
    · rw [h, cr_vl_nil, Rat.mul_zero]
  | N + 1, m, h1, h2, hr, he => by
    let p : cr_Xp n → Bool := fun a => decide (cr_wd lam a = m)
    have e1 : ∀ x : cr_Pv n, cr_vl x.1 (h1.flatMap (fun y => cr_shz y K)) = cr_vl x.1 (h2 ++ cr_shz (1, w) h2) := fun x => by
      show cr_vl x.1 (cr_pmz h1 K) = _
      rw [cr_vl_pmz x.2, cr_vl_app, cr_vl_shz x.2, show ((1 : Int) : Rat) = 1 from rfl]
      have := he x
      grind
    have e2 : ∀ x : cr_Pv n, cr_vl x.1 K * cr_vl x.1 (cr_fl p h1) = cr_vl x.1 (cr_fl p h2) := fun x => by
      have e := cr_fl_unique e1 p x.1
      rw [cr_fl_flat h1 _ p (fun y => p y.2) (fun y _ z hz => by
        obtain ⟨u, hu, rfl⟩ := cr_mem_shz hz
        show decide (cr_wd lam (fun i => y.2 i + u.2 i) = m) = decide (cr_wd lam y.2 = m)
        rw [cr_wd_add, hK u hu, Int.add_zero])] at e
      have e3 : cr_fl p (h2 ++ cr_shz (1, w) h2) = cr_fl p h2 := by
        have hnil : (cr_shz (1, w) h2).filter (fun y => p y.2) = [] := List.filter_eq_nil_iff.2 (fun z hz => by
          obtain ⟨u, hu, rfl⟩ := cr_mem_shz hz
          have h3 := (hr u hu).1
          show ¬ decide (cr_wd lam (fun i => w i + u.2 i) = m) = true
          rw [cr_wd_add, decide_eq_true_eq]
          omega)
        unfold cr_fl
        rw [List.filter_append, hnil, List.append_nil]
      rw [e3] at e
      have e4 : cr_vl x.1 (cr_pmz (cr_fl p h1) K) = cr_vl x.1 (cr_fl p h2) := e
      rw [cr_vl_pmz x.2] at e4
      grind
    let g : cr_Pl_ n := h1 ++ cr_shz (-1, fun _ => 0) (cr_fl p h1 ++ cr_shz (1, w) (cr_fl p h1))
    have hg : ∀ x : cr_Pv n, cr_vl x.1 g = cr_vl x.1 h1 - (1 + cr_mo x.1 w) * cr_vl x.1 (cr_fl p h1) := fun x => by
      show cr_vl x.1 (h1 ++ cr_shz (-1, fun _ => 0) (cr_fl p h1 ++ cr_shz (1, w) (cr_fl p h1))) = _
      rw [cr_vl_app, cr_vl_shz x.2, cr_vl_app, cr_vl_shz x.2, cr_mo_zero, show ((1 : Int) : Rat) = 1 from rfl, show ((-1 : Int) : Rat) = -1 from rfl]
      grind
    obtain ⟨h, hh⟩ := cr_cop1 lam hK hKp w hw N (m + 1) g (cr_fl (fun a => !p a) h2) (fun y hy => by
      obtain ⟨hy, h3⟩ := cr_mem_fl.1 hy
      have h4 : cr_wd lam y.2 ≠ m := by simpa [p] using h3
      have := hr y hy
      omega) (fun x => by
      have a1 := he x
      have a2 := e2 x
      have a3 := cr_fl_split x.1 p h2
      rw [hg x]
      rw [a3] at a1
      grind)
    exact ⟨h ++ cr_fl p h1, fun x => by
      have := hh x
      rw [hg x] at this
      rw [cr_vl_app]
      grind⟩
theorem cr_range {n : Nat} (lam : cr_Xp n) (l : cr_Pl_ n) : ∃ (m : Int) (N : Nat), ∀ y ∈ l, m ≤ cr_wd lam y.2 ∧ cr_wd lam y.2 < m + (N : Int) := by
  induction l with
  | nil => exact ⟨0, 0, fun y hy => by simp at hy⟩
  | cons y l ih =>
    obtain ⟨m, N, h⟩ := ih
    refine ⟨m - (cr_wd lam y.2).natAbs - m.natAbs, N + 2 * (cr_wd lam y.2).natAbs + 2 * m.natAbs + 1, fun z hz => ?_⟩
    rcases List.mem_cons.1 hz with rfl | hz
    · omega
    · have := h z hz; omega
theorem cr_cop {n : Nat} (lam : cr_Xp n) {K : cr_Pl_ n} (hK : ∀ u ∈ K, cr_wd lam u.2 = 0) (hKp : ∀ x : cr_Pv n, 0 < cr_vl x.1 K) (w : cr_Xp n) (hw : 0 < cr_wd lam w) : ∀ (d : Nat) (h1 h2 : cr_Pl_ n),
    (∀ x : cr_Pv n, cr_vl x.1 K * cr_vl x.1 h1 = (1 + cr_mo x.1 w) ^ (d : Int) * cr_vl x.1 h2) → ∃ h : cr_Pl_ n, ∀ x : cr_Pv n, cr_vl x.1 h1 = (1 + cr_mo x.1 w) ^ (d : Int) * cr_vl x.1 h
  | 0, h1, h2, _ => ⟨h1, fun x => by rw [show ((0 : Nat) : Int) = 0 from rfl, Rat.zpow_zero, Rat.one_mul]⟩
  | d + 1, h1, h2, he => by
    have hq : ∀ x : cr_Pv n, 0 < 1 + cr_mo x.1 w := fun x => by have := cr_mo_pos x.2 w; grind
    have hz : ∀ x : cr_Pv n, (1 + cr_mo x.1 w) ^ ((d + 1 : Nat) : Int) = (1 + cr_mo x.1 w) * (1 + cr_mo x.1 w) ^ (d : Int) := fun x => by
      rw [show ((d + 1 : Nat) : Int) = 1 + (d : Int) by omega, cr_zp_add (hq x), Rat.zpow_one]
    let W : cr_Pl_ n := [(1, fun _ => 0), (1, w)]
    have hW : ∀ x : cr_Pv n, cr_vl x.1 W = 1 + cr_mo x.1 w := fun x => by
      show cr_vl x.1 [(1, fun _ => 0), (1, w)] = _
      rw [cr_vl_cons, cr_vl_sing, cr_mo_zero, show ((1 : Int) : Rat) = 1 from rfl, Rat.mul_one]
    let g := cr_pmz (cr_pw W d) h2
    have hg : ∀ x : cr_Pv n, cr_vl x.1 g = (1 + cr_mo x.1 w) ^ (d : Int) * cr_vl x.1 h2 := fun x => by
      show cr_vl x.1 (cr_pmz (cr_pw W d) h2) = _
      rw [cr_vl_pmz x.2, cr_vl_pw x.2 (by rw [hW]; exact hq x), hW]
    obtain ⟨m, N, hr⟩ := cr_range lam g
    obtain ⟨h', hh'⟩ := cr_cop1 lam hK hKp w hw N m h1 g hr (fun x => by rw [he x, hg x, hz x]; grind)
    obtain ⟨h, hh⟩ := cr_cop lam hK hKp w hw d h' h2 (fun x => by
      have a1 := he x
      rw [hh' x, hz x] at a1
      refine cx_canc_pos (hq x) ?_
      grind)
    exact ⟨h, fun x => by rw [hh' x, hh x, hz x]; grind⟩
theorem cr_P_unit {n : Nat} (b : Fin n → Fin n → Int) (k : Fin n) {x : Fin n → Rat} (hx : ∀ j, 0 < x j) : cr_P b k x = cr_mo x (fun i => (cx_pos (- b i k) : Int)) * (1 + cr_mo x (fun i => b i k)) := by
  unfold cr_P
  have : cr_mo x (fun i => (cx_pos (- b i k) : Int)) * cr_mo x (fun i => b i k) = cr_mo x (fun i => (cx_pos (b i k) : Int)) := by
    rw [← cr_mo_add hx]
    exact cr_mo_congr (fun i => by rw [cr_posI2])
  grind
theorem cr_copP {n : Nat} (b : Fin n → Fin n → Int) (k j : Fin n) (lam : cr_Xp n) (hk : cr_wd lam (fun i => b i k) = 0) (hj : 0 < cr_wd lam (fun i => b i j)) (e d : Nat) (h1 h2 : cr_Pl_ n)
    (he : ∀ x : cr_Pv n, cr_P b k x.1 ^ (e : Int) * cr_vl x.1 h1 = cr_P b j x.1 ^ (d : Int) * cr_vl x.1 h2) : ∃ h : cr_Pl_ n, ∀ x : cr_Pv n, cr_vl x.1 h1 = cr_P b j x.1 ^ (d : Int) * cr_vl x.1 h := by
  let U : cr_Pl_ n := [(1, fun _ => 0), (1, fun i => b i k)]
  have hU : ∀ x : cr_Pv n, cr_vl x.1 U = 1 + cr_mo x.1 (fun i => b i k) := fun x => by
    show cr_vl x.1 [(1, fun _ => 0), (1, fun i => b i k)] = _
    rw [cr_vl_cons, cr_vl_sing, cr_mo_zero, show ((1 : Int) : Rat) = 1 from rfl, Rat.mul_one]
  have hUp : ∀ x : cr_Pv n, 0 < 1 + cr_mo x.1 (fun i => b i k) := fun x => by have := cr_mo_pos x.2 (fun i => b i k); grind
  have hVp : ∀ x : cr_Pv n, 0 < 1 + cr_mo x.1 (fun i => b i j) := fun x => by have := cr_mo_pos x.2 (fun i => b i j); grind
  have hK : ∀ u ∈ cr_pw U e, cr_wd lam u.2 = 0 := cr_pw_all (cr_wd lam) (cr_wd_zero lam) (cr_wd_add lam) (fun u hu => by
    simp only [U, List.mem_cons, List.not_mem_nil, or_false] at hu
    rcases hu with rfl | rfl
    · exact cr_wd_zero lam
    · exact hk) e
  have hKv : ∀ x : cr_Pv n, cr_vl x.1 (cr_pw U e) = (1 + cr_mo x.1 (fun i => b i k)) ^ (e : Int) := fun x => by
    rw [cr_vl_pw x.2 (by rw [hU]; exact hUp x), hU]
  let ak : cr_Xp n := fun i => (cx_pos (- b i k) : Int) * (-(e : Int))
  let aj : cr_Xp n := fun i => (cx_pos (- b i j) : Int) * (d : Int)
  have hak : ∀ x : cr_Pv n, cr_mo x.1 ak * cr_mo x.1 (fun i => (cx_pos (- b i k) : Int)) ^ (e : Int) = 1 := fun x => by
    show cr_mo x.1 (fun i => (cx_pos (- b i k) : Int) * (-(e : Int))) * _ = 1
    rw [cr_mo_pow x.2 (fun i => (cx_pos (- b i k) : Int)), ← cr_zp_add (cr_mo_pos x.2 _), Int.add_left_neg, Rat.zpow_zero]
  have haj : ∀ x : cr_Pv n, cr_mo x.1 aj = cr_mo x.1 (fun i => (cx_pos (- b i j) : Int)) ^ (d : Int) := fun x => cr_mo_pow x.2 (fun i => (cx_pos (- b i j) : Int)) _
  have hPk : ∀ x : cr_Pv n, cr_P b k x.1 ^ (e : Int) = cr_mo x.1 (fun i => (cx_pos (- b i k) : Int)) ^ (e : Int) * (1 + cr_mo x.1 (fun i => b i k)) ^ (e : Int) := fun x => by
    rw [cr_P_unit b k x.2, cr_mul_zp (cr_mo_pos x.2 _) (hUp x)]
  have hPj : ∀ x : cr_Pv n, cr_P b j x.1 ^ (d : Int) = cr_mo x.1 aj * (1 + cr_mo x.1 (fun i => b i j)) ^ (d : Int) := fun x => by
    rw [cr_P_unit b j x.2, cr_mul_zp (cr_mo_pos x.2 _) (hVp x), haj]
  obtain ⟨h, hh⟩ := cr_cop lam hK (fun x => by rw [hKv]; exact Rat.zpow_pos (hUp x)) (fun i => b i j) hj d h1 (cr_shz (1, fun i => ak i + aj i) h2) (fun x => by
    have a1 := he x
    rw [hPk x, hPj x] at a1
    rw [hKv x, cr_vl_shz x.2, show ((1 : Int) : Rat) = 1 from rfl, cr_mo_add x.2 ak aj]
    have a2 := hak x
    grind)
  refine ⟨cr_shz (1, fun i => - aj i) h, fun x => ?_⟩
  rw [hh x, cr_vl_shz x.2, hPj x, show ((1 : Int) : Rat) = 1 from rfl, ← cr_mo_inv x.2 aj]
  have hp := cr_mo_pos x.2 aj
  have : cr_mo x.1 aj * (cr_mo x.1 aj)⁻¹ = 1 := Rat.mul_inv_cancel _ (by grind)
  grind
theorem cr_classes {n m m' : Nat} {q : cr_Pv n → cr_Pv m'} (g : cr_Pv n → Fin m → Rat) (i : Fin m) : ∀ (N : Nat) (H : cr_Pl_ m), H.length ≤ N → (∀ c : Int, cr_Lau q (fun x => cr_vl (g x) (cr_fl (fun a => decide (a i = c)) H))) → cr_Lau q (fun x => cr_vl (g x) H)
  | 0, H, hl, _ => by
    have : H = [] := List.length_eq_zero_iff.1 (by omega)
    subst this
    exact (cr_Lau.int q 0).congr (fun x => rfl)
  | N + 1, [], _, _ => (cr_Lau.int q 0).congr (fun x => rfl)
  | N + 1, y :: t, hl, h => by
    let H' := cr_fl (fun a => !decide (a i = y.2 i)) (y :: t)
    have hlen : H'.length ≤ N := by
      have e : H' = t.filter (fun z => !decide (z.2 i = y.2 i)) := List.filter_cons_of_neg (by simp)
      rw [e]
      have := List.length_filter_le (fun z : Int × cr_Xp m => !decide (z.2 i = y.2 i)) t
      simp only [List.length_cons] at hl
      omega
    have ih := cr_classes g i N H' hlen (fun c => by
      by_cases hc : c = y.2 i
      · have : cr_fl (fun a => decide (a i = c)) H' = [] := List.filter_eq_nil_iff.2 (fun z hz => by
          have h2 := (cr_mem_fl.1 hz).2
          have h3 : z.2 i ≠ y.2 i := by simpa using h2
          rw [decide_eq_true_eq, hc]; exact h3)
        rw [this]
        exact (cr_Lau.int q 0).congr (fun x => rfl)
      · have : cr_fl (fun a => decide (a i = c)) H' = cr_fl (fun a => decide (a i = c)) (y :: t) := by
          show List.filter _ (List.filter _ (y :: t)) = List.filter _ (y :: t)
          rw [List.filter_filter]
          congr 1
          funext z
          by_cases hz : z.2 i = c
          · have : z.2 i ≠ y.2 i := fun e => hc (by rw [← hz, e])
            simp [hz, this]
            exact hc
          · simp [hz]
        rw [this]
        exact h c)
    exact ((h (y.2 i)).add ih).congr (fun x => cr_fl_split _ _ _)
theorem cr_turnB_col0 {n : Nat} (b : Fin n → Fin n → Int) {k j : Fin n} (hjk : j ≠ k) (h : b k j = 0) (i : Fin n) : cr_turnB b k i j = b i j := by
  unfold cr_turnB
  by_cases hi : i = k
  · rw [if_pos (.inl hi), hi, h]; rfl
  · rw [if_neg (fun e => e.elim hi hjk), h, Int.mul_zero, show (cx_pos (-0) : Int) = 0 from rfl, Int.mul_zero]; omega
theorem cr_P_ne {n : Nat} (b : Fin n → Fin n → Int) {k j : Fin n} (h : b k j = 0) (x : Fin n → Rat) : cr_P b j (cr_stepv b k x) = cr_P b j x := by
  unfold cr_P
  rw [cr_mo_agree k (fun i hi => cr_step_ne b x hi) (fun i => (cx_pos (b i j) : Int)) (by rw [h]; rfl), cr_mo_agree k (fun i hi => cr_step_ne b x hi) (fun i => (cx_pos (- b i j) : Int)) (by rw [h]; rfl)]
theorem cr_sp_comm {n : Nat} (b : Fin n → Fin n → Int) {k j : Fin n} (hjk : j ≠ k) (h : b k j = 0) (h' : b j k = 0) (x : cr_Pv n) : cr_sp b j (cr_sp b k x) = cr_sp b k (cr_sp b j x) := by
  refine Subtype.ext (funext fun i => ?_)
  show cr_stepv b j (cr_stepv b k x.1) i = cr_stepv b k (cr_stepv b j x.1) i
  by_cases hj : i = j
  · subst hj
    rw [cr_step_k, cr_P_ne b h, cr_step_ne b x.1 hjk, cr_step_ne b _ hjk, cr_step_k]
  · rw [cr_step_ne b _ hj]
    by_cases hk : i = k
    · subst hk
      rw [cr_step_k, cr_step_k, cr_P_ne b h', cr_step_ne b x.1 hj]
    · rw [cr_step_ne b _ hk, cr_step_ne b _ hk, cr_step_ne b _ hj]
theorem cr_gp_kj {n : Nat} (b : Fin n → Fin n → Int) {k j : Fin n} (hjk : j ≠ k) (h : b k j = 0) (x : cr_Pv n) : cr_gp b [k, j] x = cr_sp b j (cr_sp b k x) :=
  Subtype.ext (cr_stepv_col (fun i => cr_turnB_col0 b hjk h i) _)
theorem cr_vl_map_step {n : Nat} (b : Fin n → Fin n → Int) (k : Fin n) {x : Fin n → Rat} (hx : ∀ j, 0 < x j) (e : Int) (M : cr_Pl_ n) (h : ∀ y ∈ M, y.2 k = e) : cr_vl (cr_stepv b k x) M = cr_P b k x ^ e * cr_vl x (M.map fun y => (y.1, cr_up y.2 k (- y.2 k))) := by
  induction M with
  | nil => rw [List.map_nil, cr_vl_nil, cr_vl_nil, Rat.mul_zero]
  | cons y M ih =>
    rw [List.map_cons, cr_vl_cons, cr_vl_cons, ih (fun z hz => h z (by simp [hz])), cr_mo_step b k hx, h y (by simp)]
    grind
theorem cr_caseB {n : Nat} (b : Fin n → Fin n → Int) {k j : Fin n} (hjk : j ≠ k) (hkk : b k k = 0) (hjj : b j j = 0) (hkj : b k j = 0) (hjk0 : b j k = 0) (lam : cr_Xp n) (hlk : cr_wd lam (fun i => b i k) = 0) (hlj : 0 < cr_wd lam (fun i => b i j))
    {f : cr_Pv n → Rat} {l0 l1 l2 : cr_Pl_ n} (h0 : ∀ x, f x = cr_vl x.1 l0) (h1 : ∀ x, f x = cr_vl (cr_sp b k x).1 l1) (h2 : ∀ x, f x = cr_vl (cr_sp b j x).1 l2) : cr_Lau (fun x => cr_sp b j (cr_sp b k x)) f := by
  have hkj' : k ≠ j := fun e => hjk e.symm
  have nnj : ∀ G : cr_Pl_ n, (∀ y ∈ G, 0 ≤ y.2 j) → cr_Lau (fun x => cr_sp b j (cr_sp b k x)) (fun x => cr_vl (cr_stepv b k x.1) G) := fun G hG => by
    obtain ⟨l, hl⟩ := cr_Lau.nonneg b hjj hG
    exact ⟨l, fun x => hl (cr_sp b k x)⟩
  have nnk : ∀ G : cr_Pl_ n, (∀ y ∈ G, 0 ≤ y.2 k) → cr_Lau (fun x => cr_sp b j (cr_sp b k x)) (fun x => cr_vl (cr_stepv b j x.1) G) := fun G hG => by
    obtain ⟨l, hl⟩ := cr_Lau.nonneg b hkk hG
    exact ⟨l, fun x => by show _ = cr_vl (cr_sp b j (cr_sp b k x)).1 l; rw [cr_sp_comm b hjk hkj hjk0]; exact hl (cr_sp b j x)⟩
  have e1 : ∀ x : cr_Pv n, cr_vl x.1 l0 = cr_vl (cr_stepv b k x.1) l1 := fun x => by rw [← h0 x]; exact h1 x
  have e2 : ∀ x : cr_Pv n, cr_vl x.1 l0 = cr_vl (cr_stepv b j x.1) l2 := fun x => by rw [← h0 x]; exact h2 x
  have hplus : cr_Lau (fun x => cr_sp b j (cr_sp b k x)) (fun x => cr_vl x.1 (cr_fl (fun a => !decide (a k < 0)) l0)) :=
    (nnk (cr_fl (fun a => !decide (cr_up a j (- a j) k < 0)) l2) (fun y hy => by
      have h3 := (cr_mem_fl.1 hy).2
      have h4 : ¬ cr_up y.2 j (- y.2 j) k < 0 := by simpa using h3
      rw [cr_up_ne _ _ hkj'] at h4
      omega)).congr (fun x => cr_row hkj e2 (fun z => !decide (z < 0)) x)
  let L0 := cr_fl (fun a => decide (a k < 0)) l0
  have f1 : ∀ x : cr_Pv n, cr_vl x.1 L0 = cr_vl (cr_stepv b k x.1) (cr_fl (fun a => decide (cr_up a k (- a k) k < 0)) l1) := fun x => cr_row hkk e1 (fun z => decide (z < 0)) x
  have f2 : ∀ x : cr_Pv n, cr_vl x.1 L0 = cr_vl (cr_stepv b j x.1) (cr_fl (fun a => decide (cr_up a j (- a j) k < 0)) l2) := fun x => cr_row hkj e2 (fun z => decide (z < 0)) x
  have hmin : cr_Lau (fun x => cr_sp b j (cr_sp b k x)) (fun x => cr_vl x.1 (cr_fl (fun a => !decide (a j < 0)) L0)) :=
    (nnj (cr_fl (fun a => !decide (cr_up a k (- a k) j < 0)) (cr_fl (fun a => decide (cr_up a k (- a k) k < 0)) l1)) (fun y hy => by
      have h3 := (cr_mem_fl.1 hy).2
      have h4 : ¬ cr_up y.2 k (- y.2 k) j < 0 := by simpa using h3
      rw [cr_up_ne _ _ hjk] at h4
      omega)).congr (fun x => cr_row hjk0 f1 (fun z => !decide (z < 0)) x)
  let L00 := cr_fl (fun a => decide (a j < 0)) L0
  have g1 : ∀ x : cr_Pv n, cr_vl x.1 L00 = cr_vl (cr_stepv b k x.1) (cr_fl (fun a => decide (cr_up a k (- a k) j < 0)) (cr_fl (fun a => decide (cr_up a k (- a k) k < 0)) l1)) := fun x => cr_row hjk0 f1 (fun z => decide (z < 0)) x
  have g2 : ∀ x : cr_Pv n, cr_vl x.1 L00 = cr_vl (cr_stepv b j x.1) (cr_fl (fun a => decide (cr_up a j (- a j) j < 0)) (cr_fl (fun a => decide (cr_up a j (- a j) k < 0)) l2)) := fun x => cr_row hjj f2 (fun z => decide (z < 0)) x
  have hlast : cr_Lau (fun x => cr_sp b j (cr_sp b k x)) (fun x => cr_vl x.1 L00) := by
    refine cr_classes (fun x : cr_Pv n => x.1) k _ L00 (Nat.le_refl _) (fun c1 => cr_classes (fun x : cr_Pv n => x.1) j _ _ (Nat.le_refl _) (fun c2 => ?_))
    let M0 := cr_fl (fun a => decide (a j = c2)) (cr_fl (fun a => decide (a k = c1)) L00)
    by_cases hne : M0 = []
    · show cr_Lau _ (fun x => cr_vl x.1 M0)
      rw [hne]
      exact (cr_Lau.int _ 0).congr (fun x => rfl)
    have hneg : c1 < 0 ∧ c2 < 0 := by
      cases hM : M0 with
      | nil => exact absurd hM hne
      | cons y t =>
        have hy : y ∈ M0 := by rw [hM]; simp
        obtain ⟨hy1, hy2⟩ := cr_mem_fl.1 hy
        obtain ⟨hy3, hy4⟩ := cr_mem_fl.1 hy1
        obtain ⟨hy5, hy6⟩ := cr_mem_fl.1 hy3
        obtain ⟨hy7, hy8⟩ := cr_mem_fl.1 hy5
        have a1 : y.2 j = c2 := by simpa using hy2
        have a2 : y.2 k = c1 := by simpa using hy4
        have a3 : y.2 j < 0 := by simpa using hy6
        have a4 : y.2 k < 0 := by simpa using hy8
        omega
    obtain ⟨e, he⟩ : ∃ e : Nat, c1 = -(e : Int) := ⟨(-c1).toNat, by omega⟩
    obtain ⟨d, hd⟩ : ∃ d : Nat, c2 = -(d : Int) := ⟨(-c2).toNat, by omega⟩
    have k1 := cr_row hjk0 (fun x => cr_row hkk g1 (fun z => decide (z = c1)) x) (fun z => decide (z = c2))
    have k2 := cr_row hjj (fun x => cr_row hkj g2 (fun z => decide (z = c1)) x) (fun z => decide (z = c2))
    revert k1 k2
    generalize hM1 : cr_fl (fun a => decide (cr_up a k (- a k) j = c2)) (cr_fl (fun a => decide (cr_up a k (- a k) k = c1)) (cr_fl (fun a => decide (cr_up a k (- a k) j < 0)) (cr_fl (fun a => decide (cr_up a k (- a k) k < 0)) l1))) = M1
    generalize hM2 : cr_fl (fun a => decide (cr_up a j (- a j) j = c2)) (cr_fl (fun a => decide (cr_up a j (- a j) k = c1)) (cr_fl (fun a => decide (cr_up a j (- a j) j < 0)) (cr_fl (fun a => decide (cr_up a j (- a j) k < 0)) l2))) = M2
    intro k1 k2
    have hM1k : ∀ y ∈ M1, y.2 k = (e : Int) ∧ y.2 j = c2 := fun y hy => by
      rw [← hM1] at hy
      obtain ⟨hy1, hy2⟩ := cr_mem_fl.1 hy
      obtain ⟨hy3, hy4⟩ := cr_mem_fl.1 hy1
      have a1 : cr_up y.2 k (- y.2 k) j = c2 := by simpa using hy2
      have a2 : cr_up y.2 k (- y.2 k) k = c1 := by simpa using hy4
      rw [cr_up_ne _ _ hjk] at a1
      rw [cr_up_k] at a2
      omega
    have hM2k : ∀ y ∈ M2, y.2 j = (d : Int) := fun y hy => by
      rw [← hM2] at hy
      obtain ⟨hy1, hy2⟩ := cr_mem_fl.1 hy
      have a1 : cr_up y.2 j (- y.2 j) j = c2 := by simpa using hy2
      rw [cr_up_k] at a1
      omega
    let q1 : cr_Pl_ n := M1.map fun y => (y.1, cr_up y.2 k (- y.2 k))
    let q2 : cr_Pl_ n := M2.map fun y => (y.1, cr_up y.2 j (- y.2 j))
    have v1 : ∀ x : cr_Pv n, cr_vl x.1 M0 = cr_P b k x.1 ^ (e : Int) * cr_vl x.1 q1 := fun x => (k1 x).trans (cr_vl_map_step b k x.2 e M1 (fun y hy => (hM1k y hy).1))
    have v2 : ∀ x : cr_Pv n, cr_vl x.1 M0 = cr_P b j x.1 ^ (d : Int) * cr_vl x.1 q2 := fun x => (k2 x).trans (cr_vl_map_step b j x.2 d M2 hM2k)
    obtain ⟨h, hh⟩ := cr_copP b k j lam hlk hlj e d q1 q2 (fun x => by rw [← v1 x, v2 x])
    have hPp : ∀ x : cr_Pv n, 0 < cr_vl x.1 (cr_Pk b j) := fun x => by rw [cr_vl_Pk]; exact cr_P_pos b j x.2
    have w0 : ∀ (h : cr_Pl_ n) (x : cr_Pv n), cr_vl x.1 (h.flatMap (fun y => cr_shz y (cr_pw (cr_Pk b j) d))) = cr_P b j x.1 ^ (d : Int) * cr_vl x.1 h := fun h x => by
      show cr_vl x.1 (cr_pmz h (cr_pw (cr_Pk b j) d)) = _
      rw [cr_vl_pmz x.2, cr_vl_pw x.2 (hPp x), cr_vl_Pk]; grind
    have w1 : ∀ (i : Fin n) (c : Int) (q h : cr_Pl_ n), b i j = 0 → (∀ y ∈ q, y.2 i = c) → (∀ x : cr_Pv n, cr_vl x.1 q = cr_P b j x.1 ^ (d : Int) * cr_vl x.1 h) → ∀ x : cr_Pv n, cr_vl x.1 q = cr_P b j x.1 ^ (d : Int) * cr_vl x.1 (cr_fl (fun a => decide (a i = c)) h) := by
      intro i c q h hi hq hv x
      have e := cr_fl_unique (l := q) (l' := h.flatMap (fun y => cr_shz y (cr_pw (cr_Pk b j) d))) (fun x => by rw [hv x, ← w0 h x]) (fun a => decide (a i = c)) x.1
      rw [cr_fl_flat h _ _ (fun y => decide (y.2 i = c)) (fun y _ z hz => by
        obtain ⟨u, hu, rfl⟩ := cr_mem_shz hz
        have := cr_pw_all (fun a => a i) rfl (fun _ _ => rfl) (cr_Pk_at hi) _ u hu
        have h2 : u.2 i = 0 := this
        show decide (y.2 i + u.2 i = c) = _
        rw [h2, Int.add_zero])] at e
      have e2 : cr_fl (fun a => decide (a i = c)) q = q := List.filter_eq_self.2 (fun y hy => by simpa using hq y hy)
      rw [e2] at e
      exact e.trans (w0 _ x)
    have w2 := w1 k c1 q1 h hkj (fun y hy => by
      obtain ⟨z, hz, rfl⟩ := List.mem_map.1 hy
      show cr_up z.2 k (- z.2 k) k = c1
      rw [cr_up_k, (hM1k z hz).1]; omega) hh
    have w3 := w1 j c2 q1 _ hjj (fun y hy => by
      obtain ⟨z, hz, rfl⟩ := List.mem_map.1 hy
      show cr_up z.2 k (- z.2 k) j = c2
      rw [cr_up_ne _ _ hjk, (hM1k z hz).2]) w2
    let hf : cr_Pl_ n := cr_fl (fun a => decide (a j = c2)) (cr_fl (fun a => decide (a k = c1)) h)
    refine ⟨hf.map fun y => (y.1, cr_up (cr_up y.2 k e) j d), fun x => ?_⟩
    show cr_vl x.1 M0 = _
    rw [v1 x, w3 x]
    show cr_P b k x.1 ^ (e : Int) * (cr_P b j x.1 ^ (d : Int) * cr_vl x.1 hf) = cr_vl (cr_stepv b j (cr_stepv b k x.1)) _
    have hfe : ∀ y ∈ hf, y.2 k = c1 ∧ y.2 j = c2 := fun y hy => by
      obtain ⟨hy1, hy2⟩ := cr_mem_fl.1 hy
      obtain ⟨hy3, hy4⟩ := cr_mem_fl.1 hy1
      exact ⟨by simpa using hy4, by simpa using hy2⟩
    clear_value hf
    induction hf with
    | nil => rw [List.map_nil, cr_vl_nil, cr_vl_nil]; grind
    | cons y hf ih =>
      have ih := ih (fun z hz => hfe z (by simp [hz]))
      obtain ⟨a1, a2⟩ := hfe y (by simp)
      rw [List.map_cons, cr_vl_cons, cr_vl_cons, ← ih]
      have e5 : cr_mo (cr_stepv b j (cr_stepv b k x.1)) (cr_up (cr_up y.2 k e) j d) = cr_P b j x.1 ^ (d : Int) * (cr_P b k x.1 ^ (e : Int) * cr_mo x.1 y.2) := by
        rw [cr_mo_step b j (cr_stepv_pos b k x.2), cr_P_ne b hkj, cr_up_k, cr_mo_step b k x.2, cr_up_ne _ _ hkj', cr_up_ne _ _ hkj', cr_up_k]
        congr 2
        refine congrArg (cr_mo x.1) (funext fun i => ?_)
        by_cases hi : i = k
        · rw [hi, cr_up_k, a1, he]
        · rw [cr_up_ne _ _ hi]
          by_cases hj : i = j
          · rw [hj, cr_up_k, a2, hd]
          · rw [cr_up_ne _ _ hj, cr_up_ne _ _ hj, cr_up_ne _ _ hi]
      show _ = (y.1 : Rat) * cr_mo (cr_stepv b j (cr_stepv b k x.1)) (cr_up (cr_up y.2 k e) j d) + _
      rw [e5]
      grind
  refine (hplus.add (hmin.add hlast)).congr (fun x => ?_)
  rw [h0 x, cr_fl_split x.1 (fun a => decide (a k < 0)) l0]
  have := cr_fl_split x.1 (fun a => decide (a j < 0)) L0
  grind
