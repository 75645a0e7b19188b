theorem cr_seed {n : Nat} (ks : List (Fin n)) : ∀ s : cx_Sd n, ∃ s' : cx_Sd n, s'.b = cr_bs s.b ks := by
  induction ks with
  | nil => exact fun s => ⟨s, rfl⟩
  | cons k ks ih => exact fun s => ih (cr_turn s k)
theorem cr_gp_snoc {n : Nat} (ks : List (Fin n)) (i : Fin n) : ∀ (b : Fin n → Fin n → Int) (x : cr_Pv n), cr_gp b (ks ++ [i]) x = cr_sp (cr_bs b ks) i (cr_gp b ks x) := by
  induction ks with
  | nil => exact fun b x => rfl
  | cons k ks ih => exact fun b x => ih (cr_turnB b k) (cr_sp b k x)
theorem cr_nn {n : Nat} (s : cx_Sd n) (ks : List (Fin n)) (i : Fin n) (c : cr_Xp n) (h : cr_Lau (cr_gp s.b (ks ++ [i])) (fun x => cr_mo (cr_gp s.b ks x).1 c)) : 0 ≤ c i := by
  refine Classical.byContradiction (fun hneg => ?_)
  obtain ⟨s', hs'⟩ := cr_seed ks s
  obtain ⟨e, he⟩ : ∃ e : Nat, c i = -((e : Int) + 1) := ⟨(-(c i) - 1).toNat, by omega⟩
  have hii : (cr_bs s.b ks) i i = 0 := by rw [← hs']; exact s'.self i
  have hback : ∀ x, cr_sp (cr_bs s.b ks) i (cr_gp s.b (ks ++ [i]) x) = cr_gp s.b ks x := fun x => by rw [cr_gp_snoc, cr_sp_sp _ hii]
  obtain ⟨l, hl⟩ := h
  let b := cr_bs s.b ks
  let R := cr_pmz (cr_pw (cr_Pk b i) e) l
  have hPp : ∀ z : cr_Pv n, 0 < cr_vl z.1 (cr_Pk b i) := fun z => by rw [cr_vl_Pk]; exact cr_P_pos b i z.2
  have hR : ∀ x, cr_vl (cr_gp s.b (ks ++ [i]) x).1 R = cr_P b i (cr_gp s.b (ks ++ [i]) x).1 ^ (e : Int) * cr_mo (cr_gp s.b ks x).1 c := fun x => by
    show cr_vl _ (cr_pmz (cr_pw (cr_Pk b i) e) l) = _
    rw [cr_vl_pmz (cr_gp s.b (ks ++ [i]) x).2, cr_vl_pw (cr_gp s.b (ks ++ [i]) x).2 (hPp _), cr_vl_Pk, ← hl x]
  have hprod : ∀ x, cr_P b i (cr_gp s.b (ks ++ [i]) x).1 * cr_vl (cr_gp s.b (ks ++ [i]) x).1 R = cr_mo (cr_gp s.b (ks ++ [i]) x).1 (cr_up c i (- c i)) := fun x => by
    have h1 : cr_mo (cr_gp s.b ks x).1 c = cr_P b i (cr_gp s.b (ks ++ [i]) x).1 ^ c i * cr_mo (cr_gp s.b (ks ++ [i]) x).1 (cr_up c i (- c i)) := by
      have := cr_mo_step b i (cr_gp s.b (ks ++ [i]) x).2 c
      have e2 : cr_stepv b i (cr_gp s.b (ks ++ [i]) x).1 = (cr_gp s.b ks x).1 := congrArg Subtype.val (hback x)
      rw [e2] at this
      exact this
    have hp := cr_P_pos b i (cr_gp s.b (ks ++ [i]) x).2
    have h2 : cr_P b i (cr_gp s.b (ks ++ [i]) x).1 * (cr_P b i (cr_gp s.b (ks ++ [i]) x).1 ^ (e : Int) * cr_P b i (cr_gp s.b (ks ++ [i]) x).1 ^ c i) = 1 := by
      rw [← cr_zp_add hp, he, show ((e : Int) + -((e : Int) + 1)) = -1 by omega, ← cr_inv_e hp]
      exact Rat.mul_inv_cancel _ (by grind)
    rw [hR x, h1]
    grind
  have hRp : ∀ x, 0 < cr_vl (cr_gp s.b (ks ++ [i]) x).1 R := fun x => by
    rw [hR x]; exact Rat.mul_pos (Rat.zpow_pos (cr_P_pos b i (cr_gp s.b (ks ++ [i]) x).2)) (cr_mo_pos (cr_gp s.b ks x).2 c)
  refine cr_split (l := cr_shz (1, fun j => (cx_pos (b j i) : Int)) R) (l' := cr_shz (1, fun j => (cx_pos (- b j i) : Int)) R) (a0 := cr_up c i (- c i)) (fun y => ?_) (fun y => ?_) (fun y => ?_)
  · obtain ⟨x, hx⟩ := cr_surj (ks ++ [i]) s y
    rw [← hx, cr_vl_shz (cr_gp s.b (ks ++ [i]) x).2, show ((1 : Int) : Rat) = 1 from rfl, Rat.one_mul]
    exact Rat.mul_pos (cr_mo_pos (cr_gp s.b (ks ++ [i]) x).2 _) (hRp x)
  · obtain ⟨x, hx⟩ := cr_surj (ks ++ [i]) s y
    rw [← hx, cr_vl_shz (cr_gp s.b (ks ++ [i]) x).2, show ((1 : Int) : Rat) = 1 from rfl, Rat.one_mul]
    exact Rat.mul_pos (cr_mo_pos (cr_gp s.b (ks ++ [i]) x).2 _) (hRp x)
  · obtain ⟨x, hx⟩ := cr_surj (ks ++ [i]) s y
    rw [← hx, cr_vl_shz (cr_gp s.b (ks ++ [i]) x).2, cr_vl_shz (cr_gp s.b (ks ++ [i]) x).2, ← hprod x, show ((1 : Int) : Rat) = 1 from rfl]
    unfold cr_P
    grind
theorem cr_anchor {n : Nat} (s : cx_Sd n) {Q : Fin n → Prop} (hI : cr_Ind s.b Q) (ks : List (Fin n)) (hks : ∀ k ∈ ks, Q k) (jj v : Fin n) (hj : Q jj) (hv : Q v) {L : cr_Pl_ n} (hL : ∀ x, (cr_gp s.b ks x).1 jj = cr_vl x.1 L) : ∃ y ∈ L, y.2 v ≤ 1 := by
  refine Classical.byContradiction (fun hcon => ?_)
  have hge : ∀ y ∈ L, 2 ≤ y.2 v := fun y hy => by
    refine Classical.byContradiction (fun h => hcon ⟨y, hy, by omega⟩)
  let f : cr_Pv n → Rat := fun x => (cr_gp s.b ks x).1 jj * (x.1 v)⁻¹
  have hinv : ∀ x : cr_Pv n, (x.1 v)⁻¹ = cr_mo x.1 (cr_up (fun _ => 0) v (-1)) := fun x => by rw [cr_mo_e, cr_inv_e (x.2 v)]
  let Lm := cr_shz (1, cr_up (fun _ => 0) v (-1)) L
  have hLm : ∀ x : cr_Pv n, f x = cr_vl x.1 Lm := fun x => by
    show (cr_gp s.b ks x).1 jj * (x.1 v)⁻¹ = cr_vl x.1 (cr_shz (1, cr_up (fun _ => 0) v (-1)) L)
    rw [cr_vl_shz x.2, ← hL x, hinv x, show ((1 : Int) : Rat) = 1 from rfl]; grind
  have hfl : ∀ ks' : List (Fin n), (∀ k ∈ ks', Q k) → cr_Lau (cr_gp s.b ks') f := fun ks' hks' => by
    refine cr_upper ks' s hI hks' f ⟨Lm, hLm⟩ (fun k hk => ?_)
    by_cases hvk : v = k
    · subst hvk
      refine (cr_Lau.nonneg s.b (s.self v) (l := Lm) (fun y hy => ?_)).congr hLm
      obtain ⟨u, hu, rfl⟩ := cr_mem_shz hy
      show 0 ≤ cr_up (fun _ => 0) v (-1) v + u.2 v
      rw [cr_up_k]
      have := hge u hu
      omega
    · have h1 : cr_Lau (cr_sp s.b k) (fun x => (cr_gp s.b ks x).1 jj) := cr_rel_lau s [k] ks jj
      have h2 : cr_Lau (cr_sp s.b k) (fun x => (x.1 v)⁻¹) := (cr_Lau.mono (cr_sp s.b k) (cr_up (fun _ => 0) v (-1))).congr (fun x => by
        rw [hinv x]
        exact (cr_mo_agree k (fun i hi => cr_step_ne s.b x.1 hi) _ (by rw [cr_up_ne _ _ (fun e => hvk e.symm)])).symm)
      exact h1.mul h2
  have hfp : ∀ x, 0 < f x := fun x => Rat.mul_pos ((cr_gp s.b ks x).2 jj) (Rat.inv_pos.2 (x.2 v))
  obtain ⟨lq, hlq⟩ := hfl ks hks
  obtain ⟨Lx, hLxp, hLx⟩ := cr_rel ks s [] v
  have hLx : ∀ x : cr_Pv n, x.1 v = cr_vl (cr_gp s.b ks x).1 Lx := hLx
  have hprod : ∀ x : cr_Pv n, x.1 v * f x = (cr_gp s.b ks x).1 jj := fun x => by
    show x.1 v * ((cr_gp s.b ks x).1 jj * (x.1 v)⁻¹) = _
    have h0 := x.2 v
    have : x.1 v * (x.1 v)⁻¹ = 1 := Rat.mul_inv_cancel _ (by grind)
    grind
  have two : ∀ (l l' : cr_Pl_ n), (∀ y ∈ l, 0 < y.1) → (∀ y ∈ l', 0 < y.1) → l ≠ [] → l' ≠ [] → (∀ x : cr_Pv n, x.1 v = cr_vl (cr_gp s.b ks x).1 l + cr_vl (cr_gp s.b ks x).1 l') → False := by
    intro l l' hl hl' hn hn' he
    refine cr_split (l := cr_pmz l lq) (l' := cr_pmz l' lq) (a0 := cr_up (fun _ => 0) jj 1) (fun y => ?_) (fun y => ?_) (fun y => ?_)
    · obtain ⟨x, hx⟩ := cr_surj ks s y
      rw [← hx, cr_vl_pmz (cr_gp s.b ks x).2, ← hlq x]
      exact Rat.mul_pos (cr_vl_pos (cr_gp s.b ks x).2 hl hn) (hfp x)
    · obtain ⟨x, hx⟩ := cr_surj ks s y
      rw [← hx, cr_vl_pmz (cr_gp s.b ks x).2, ← hlq x]
      exact Rat.mul_pos (cr_vl_pos (cr_gp s.b ks x).2 hl' hn') (hfp x)
    · obtain ⟨x, hx⟩ := cr_surj ks s y
      rw [← hx, cr_vl_pmz (cr_gp s.b ks x).2, cr_vl_pmz (cr_gp s.b ks x).2, ← hlq x, cr_mo_e, Rat.zpow_one, ← hprod x, he x]
      grind
  have hsing : ∃ a : cr_Xp n, ∀ x : cr_Pv n, x.1 v = cr_mo (cr_gp s.b ks x).1 a := by
    cases hLxe : Lx with
    | nil =>
      exfalso
      let o : cr_Pv n := ⟨fun _ => 1, fun _ => by grind⟩
      have h1 := hLx o
      rw [hLxe, cr_vl_nil] at h1
      have := o.2 v
      grind
    | cons y t =>
      have hyp : 0 < y.1 := hLxp y (by rw [hLxe]; simp)
      by_cases ht : t = []
      · by_cases hc : y.1 = 1
        · refine ⟨y.2, fun x => ?_⟩
          rw [hLx x, hLxe, ht, cr_vl_cons, cr_vl_nil, hc, show ((1 : Int) : Rat) = 1 from rfl]; grind
        · exfalso
          refine two [(1, y.2)] [(y.1 - 1, y.2)] (fun z hz => by simp at hz; rw [hz]; show (0 : Int) < 1; omega) (fun z hz => by simp at hz; rw [hz]; show (0 : Int) < y.1 - 1; omega) (by simp) (by simp) (fun x => ?_)
          rw [hLx x, hLxe, ht, cr_vl_cons, cr_vl_cons, cr_vl_cons, cr_vl_nil, show ((1 : Int) : Rat) = 1 from rfl]
          have : ((y.1 - 1 : Int) : Rat) = (y.1 : Rat) - 1 := by exact_mod_cast rfl
          rw [this]; grind
      · exfalso
        refine two [y] t (fun z hz => by simp at hz; rw [hz]; exact hyp) (fun z hz => hLxp z (by rw [hLxe]; simp [hz])) (by simp) ht (fun x => ?_)
        rw [hLx x, hLxe, cr_vl_cons, cr_vl_cons, cr_vl_nil]; grind
  obtain ⟨a, ha⟩ := hsing
  have hai : ∀ i, Q i → 0 ≤ a i := fun i hi => cr_nn s ks i a ((cr_rel_lau s (ks ++ [i]) [] v).congr (fun x => (ha x).symm))
  have hci : ∀ i, Q i → 0 ≤ cr_up (fun _ => 0) jj 1 i - a i := fun i hi => cr_nn s ks i (fun i => cr_up (fun _ => 0) jj 1 i - a i) ((hfl (ks ++ [i]) (fun k hk => by
      rcases List.mem_append.1 hk with h | h
      · exact hks k h
      · simp at h; rw [h]; exact hi)).congr (fun x => by
      show _ = (cr_gp s.b ks x).1 jj * (x.1 v)⁻¹
      rw [ha x, cr_mo_inv (cr_gp s.b ks x).2]
      have e := cr_mo_add (cr_gp s.b ks x).2 (cr_up (fun _ => 0) jj 1) (fun i => - a i)
      rw [cr_mo_e, Rat.zpow_one] at e
      rw [← e]
      exact cr_mo_congr (fun j => by congr 1)))
  have hne0 : ∀ i, Q i → i ≠ jj → a i = 0 := fun i hi hne => by
    have h1 := hai i hi
    have h2 := hci i hi
    rw [cr_up_ne _ _ hne] at h2
    omega
  have hjj : 0 ≤ a jj ∧ a jj ≤ 1 := by
    have h1 := hai jj hj
    have h2 := hci jj hj
    rw [cr_up_k] at h2
    omega
  have hfix : ∀ (c : cr_Xp n), (∀ i, Q i → c i = 0) → ∀ x : cr_Pv n, cr_mo (cr_gp s.b ks x).1 c = cr_mo x.1 c := fun c hc x => cr_mo_congr (fun i => by
    by_cases hi : i ∈ ks
    · rw [hc i (hks i hi), Rat.zpow_zero, Rat.zpow_zero]
    · rw [cr_gp_ne ks s.b x hi])
  by_cases h1 : a jj = 0
  · have hz : ∀ i, Q i → a i = 0 := fun i hi => by
      by_cases e : i = jj
      · rw [e, h1]
      · exact hne0 i hi e
    have hu := cr_vl_unique (l := [(1, cr_up (fun _ => 0) v 1)]) (l' := [(1, a)]) (fun x => by rw [cr_vl_sing, cr_vl_sing, cr_mo_e, Rat.zpow_one, ha x, hfix a hz x]) (cr_up (fun _ => 0) v 1)
    rw [cr_co_cons, cr_co_cons, if_pos rfl] at hu
    by_cases e : a = cr_up (fun _ => 0) v 1
    · have h2 := hz v hv
      rw [e, cr_up_k] at h2
      omega
    · rw [if_neg e] at hu
      have hu : (1 : Int) + 0 = 0 + 0 := hu
      omega
  · have h1 : a jj = 1 := by omega
    have hz : ∀ i, Q i → cr_up a jj 0 i = 0 := fun i hi => by
      by_cases e : i = jj
      · rw [e, cr_up_k]
      · rw [cr_up_ne _ _ e, hne0 i hi e]
    have hu := cr_vl_unique (l := L) (l' := [(1, fun i => cr_up (fun _ => 0) v 1 i + - cr_up a jj 0 i)]) (fun x => by
      rw [cr_vl_sing, ← hL x, cr_mo_add x.2 (cr_up (fun _ => 0) v 1) (fun i => - cr_up a jj 0 i), cr_mo_e, Rat.zpow_one, ← cr_mo_inv x.2, ha x, cr_mo_up0 (cr_gp s.b ks x).1 a jj, h1, Rat.zpow_one, hfix _ hz x]
      have hp := cr_mo_pos x.2 (cr_up a jj 0)
      have : cr_mo x.1 (cr_up a jj 0) * (cr_mo x.1 (cr_up a jj 0))⁻¹ = 1 := Rat.mul_inv_cancel _ (by grind)
      grind) (fun i => cr_up (fun _ => 0) v 1 i + - cr_up a jj 0 i)
    rw [cr_co_cons, if_pos rfl] at hu
    obtain ⟨y, hy, ey⟩ := cr_co_mem (l := L) (a := fun i => cr_up (fun _ => 0) v 1 i + - cr_up a jj 0 i) (by
      rw [hu]
      show (1 : Int) + 0 ≠ 0
      omega)
    have h2 := hge y hy
    rw [ey] at h2
    have h3 : 2 ≤ cr_up (fun _ => 0) v 1 v + - cr_up a jj 0 v := h2
    rw [cr_up_k, hz v hv] at h3
    omega
