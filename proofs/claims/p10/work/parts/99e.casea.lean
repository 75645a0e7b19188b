theorem cr_mo_e {n : Nat} (x : Fin n → Rat) (k : Fin n) (c : Int) : cr_mo x (cr_up (fun _ => 0) k c) = x k ^ c := by
  rw [cr_mo_up]
  have : cr_up (fun _ => 0) k 0 = fun _ : Fin n => (0 : Int) := funext fun i => by unfold cr_up; by_cases h : i = k; rw [if_pos h]; rw [if_neg h]
  rw [this, cr_mo_zero, Rat.mul_one]
theorem cr_mo_inv {n : Nat} {x : Fin n → Rat} (hx : ∀ j, 0 < x j) (a : cr_Xp n) : (cr_mo x a)⁻¹ = cr_mo x (fun i => - a i) := by
  have h := cr_mo_pos hx a
  refine cx_canc_pos h ?_
  rw [Rat.inv_mul_cancel _ (by grind), ← cr_mo_add hx]
  have : (fun i => - a i + a i) = fun _ => (0 : Int) := funext fun i => by omega
  rw [this, cr_mo_zero]
noncomputable def cr_bB {n : Nat} (b : Fin n → Fin n → Int) (k j : Fin n) : cr_Xp n := fun i => if 0 < b j k then (cx_pos (- b i k) : Int) else (cx_pos (b i k) : Int)
noncomputable def cr_bA {n : Nat} (b : Fin n → Fin n → Int) (k j : Fin n) : cr_Xp n := fun i => if 0 < b j k then (cx_pos (b i k) : Int) else (cx_pos (- b i k) : Int)
theorem cr_bB_j {n : Nat} (b : Fin n → Fin n → Int) (k j : Fin n) : cr_bB b k j j = 0 := by
  unfold cr_bB cx_pos
  by_cases h : 0 < b j k
  · rw [if_pos h]; omega
  · rw [if_neg h]; omega
theorem cr_bB_k {n : Nat} {b : Fin n → Fin n → Int} {k : Fin n} (hb : b k k = 0) (j : Fin n) : cr_bB b k j k = 0 := by
  unfold cr_bB cx_pos
  rw [hb]
  by_cases h : 0 < b j k
  · rw [if_pos h]; rfl
  · rw [if_neg h]; rfl
theorem cr_bA_j {n : Nat} {b : Fin n → Fin n → Int} {k j : Fin n} (hb : b j k ≠ 0) : 0 < cr_bA b k j j := by
  unfold cr_bA cx_pos
  by_cases h : 0 < b j k
  · rw [if_pos h]; omega
  · rw [if_neg h]; omega
theorem cr_P_AB {n : Nat} (b : Fin n → Fin n → Int) (k j : Fin n) (x : Fin n → Rat) : cr_P b k x = cr_mo x (cr_bB b k j) + cr_mo x (cr_bA b k j) := by
  unfold cr_P cr_bA cr_bB
  by_cases h : 0 < b j k
  · have e1 : (fun i => if 0 < b j k then (cx_pos (- b i k) : Int) else (cx_pos (b i k) : Int)) = fun i => (cx_pos (- b i k) : Int) := funext fun i => if_pos h
    have e2 : (fun i => if 0 < b j k then (cx_pos (b i k) : Int) else (cx_pos (- b i k) : Int)) = fun i => (cx_pos (b i k) : Int) := funext fun i => if_pos h
    rw [e1, e2]; grind
  · have e1 : (fun i => if 0 < b j k then (cx_pos (- b i k) : Int) else (cx_pos (b i k) : Int)) = fun i => (cx_pos (b i k) : Int) := funext fun i => if_neg h
    have e2 : (fun i => if 0 < b j k then (cx_pos (b i k) : Int) else (cx_pos (- b i k) : Int)) = fun i => (cx_pos (- b i k) : Int) := funext fun i => if_neg h
    rw [e1, e2]
theorem cr_inv_e {x : Rat} (h : 0 < x) : x⁻¹ = x ^ (-1 : Int) := by
  have := cr_inv_zp h 1
  rw [Rat.zpow_one] at this
  exact this
theorem cr_Tk {n : Nat} {b : Fin n → Fin n → Int} {k j : Fin n} (hjk : j ≠ k) (hb : b j k ≠ 0) : cr_Tp j 0 (fun x : cr_Pv n => (cr_sp b k x).1 k) (fun x => cr_mo x.1 (cr_bB b k j) * (x.1 k)⁻¹) := by
  have h1 := ((cr_Tp.mono j (cr_bB b k j)).congr (d' := 0) (cr_bB_j b k j).symm (fun _ => rfl) (fun _ => rfl)).add ((cr_Tp.mono j (cr_bA b k j)).up (cr_bA_j hb))
  have h2 : cr_Tp j 0 (fun x : cr_Pv n => (x.1 k)⁻¹) (fun x => (x.1 k)⁻¹) := (cr_Tp.mono j (cr_up (fun _ => 0) k (-1))).congr (by rw [cr_up_ne _ _ hjk]) (fun x => by rw [cr_mo_e, cr_inv_e (x.2 k)]) (fun x => by rw [cr_mo_e, cr_inv_e (x.2 k)])
  refine (h1.mul h2).congr rfl (fun x => ?_) (fun x => by grind)
  show cr_stepv b k x.1 k = _
  rw [cr_step_k, cr_P_AB b k j]
theorem cr_Tj {n : Nat} {b : Fin n → Fin n → Int} {j : Fin n} (hb : b j j = 0) (D : Nat) : cr_Tp j (-(D : Int)) (fun x : cr_Pv n => (cr_sp b j x).1 j ^ (D : Int)) (fun x => (cr_sp b j x).1 j ^ (D : Int)) := by
  have e : ∀ x : cr_Pv n, (cr_sp b j x).1 j ^ (D : Int) = cr_vl x.1 (cr_ex b j 0 (1, cr_up (fun _ => 0) j D)) := fun x => by
    rw [cr_vl_ex b j x.2 0 _ (by show 0 ≤ ((0 : Nat) : Int) + cr_up (fun _ => 0) j D j; rw [cr_up_k]; omega)]
    show _ = ((1 : Int) : Rat) * cr_mo (cr_stepv b j x.1) (cr_up (fun _ => 0) j D) * cr_P b j x.1 ^ ((0 : Nat) : Int)
    rw [cr_mo_e, show ((0 : Nat) : Int) = 0 from rfl, Rat.zpow_zero, show ((1 : Int) : Rat) = 1 from rfl, Rat.one_mul, Rat.mul_one]; rfl
  refine ⟨_, [], fun y hy => ?_, fun y hy => by simp at hy, e, fun x => by show (cr_sp b j x).1 j ^ (D : Int) = _; rw [cr_vl_nil, e x]; grind⟩
  rw [cr_ex_at hb 0 _ y hy]
  show cr_up (cr_up (fun _ => 0) j D) j (- cr_up (fun _ => 0) j D j) j = _
  rw [cr_up_k, cr_up_k]
noncomputable def cr_ka {n : Nat} (b : Fin n → Fin n → Int) (k j : Fin n) (z : Int) (x : cr_Pv n) : Rat := if 0 ≤ z then x.1 k ^ z else ((cr_sp b k x).1 k * (cr_mo x.1 (cr_bB b k j))⁻¹) ^ (-z)
theorem cr_ka_lau {n : Nat} (s : cx_Sd n) (k j : Fin n) (p : List (Fin n)) (hp : ∀ i ∈ p, i = k ∨ i = j) (z : Int) : cr_Lau (cr_gp s.b p) (cr_ka s.b k j z) := by
  unfold cr_ka
  by_cases hz : 0 ≤ z
  · refine (cr_Lau.pow (cr_rel_lau s p [] k) (fun x => x.2 k) z.toNat).congr (fun x => ?_)
    rw [if_pos hz, Int.toNat_of_nonneg hz]; rfl
  · have h1 : cr_Lau (cr_gp s.b p) (fun x => (cr_sp s.b k x).1 k) := cr_rel_lau s p [k] k
    have h2 : cr_Lau (cr_gp s.b p) (fun x => (cr_mo x.1 (cr_bB s.b k j))⁻¹) := (cr_unit_lau s.b p (fun i => - cr_bB s.b k j i) (fun i hi => by
      rcases hp i hi with rfl | rfl
      · rw [cr_bB_k (s.self i)]; rfl
      · rw [cr_bB_j]; rfl)).congr (fun x => cr_mo_inv x.2 _)
    refine (cr_Lau.pow (h1.mul h2) (fun x => Rat.mul_pos ((cr_sp s.b k x).2 k) (Rat.inv_pos.2 (cr_mo_pos x.2 _))) (-z).toNat).congr (fun x => ?_)
    rw [if_neg hz, Int.toNat_of_nonneg (by omega)]
theorem cr_ka_tp {n : Nat} {b : Fin n → Fin n → Int} {k j : Fin n} (hjk : j ≠ k) (hb : b j k ≠ 0) (z : Int) : cr_Tp j 0 (cr_ka b k j z) (fun x => x.1 k ^ z) := by
  unfold cr_ka
  by_cases hz : 0 ≤ z
  · exact (cr_Tp.mono j (cr_up (fun _ => 0) k z)).congr (by rw [cr_up_ne _ _ hjk]) (fun x => by rw [if_pos hz, cr_mo_e]) (fun x => by rw [cr_mo_e])
  · have h2 : cr_Tp j 0 (fun x : cr_Pv n => (cr_mo x.1 (cr_bB b k j))⁻¹) (fun x => (cr_mo x.1 (cr_bB b k j))⁻¹) := (cr_Tp.mono j (fun i => - cr_bB b k j i)).congr (by rw [cr_bB_j]; rfl) (fun x => cr_mo_inv x.2 _) (fun x => cr_mo_inv x.2 _)
    have h3 := ((cr_Tk hjk hb).mul h2).congr (d' := 0) (r' := fun x => (x.1 k)⁻¹) rfl (fun _ => rfl) (fun x => by
      have hp := cr_mo_pos x.2 (cr_bB b k j)
      have : cr_mo x.1 (cr_bB b k j) * (cr_mo x.1 (cr_bB b k j))⁻¹ = 1 := Rat.mul_inv_cancel _ (by grind)
      grind)
    refine (h3.pow (fun x => Rat.mul_pos ((cr_sp b k x).2 k) (Rat.inv_pos.2 (cr_mo_pos x.2 _))) (fun x => Rat.inv_pos.2 (x.2 k)) (-z).toNat).congr rfl (fun x => ?_) (fun x => ?_)
    · rw [if_neg hz, Int.toNat_of_nonneg (by omega)]
    · rw [Int.toNat_of_nonneg (by omega), cr_inv_zp (x.2 k), Int.neg_neg]
noncomputable def cr_gy {n : Nat} (b : Fin n → Fin n → Int) (k j : Fin n) (D : Nat) (y : Int × cr_Xp n) (x : cr_Pv n) : Rat := (y.1 : Rat) * ((cr_sp b j x).1 j ^ (D : Int) * (cr_ka b k j (y.2 k) x * cr_mo x.1 (cr_up (cr_up y.2 k 0) j 0)))
theorem cr_gy_lau {n : Nat} (s : cx_Sd n) (k j : Fin n) (p : List (Fin n)) (hp : ∀ i ∈ p, i = k ∨ i = j) (D : Nat) (y : Int × cr_Xp n) : cr_Lau (cr_gp s.b p) (cr_gy s.b k j D y) := by
  have h1 : cr_Lau (cr_gp s.b p) (fun x => (cr_sp s.b j x).1 j) := cr_rel_lau s p [j] j
  have h2 := cr_unit_lau s.b p (cr_up (cr_up y.2 k 0) j 0) (fun i hi => by
    by_cases hj : i = j
    · rw [hj, cr_up_k]
    · rw [cr_up_ne _ _ hj]
      rcases hp i hi with rfl | h
      · rw [cr_up_k]
      · exact absurd h hj)
  exact (cr_Lau.int _ y.1).mul ((h1.pow (fun x => (cr_sp s.b j x).2 j) D).mul ((cr_ka_lau s k j p hp (y.2 k)).mul h2))
theorem cr_gy_tp {n : Nat} {b : Fin n → Fin n → Int} {k j : Fin n} (hjk : j ≠ k) (hb : b j k ≠ 0) (hj0 : b j j = 0) (D : Nat) (y : Int × cr_Xp n) (hy : y.2 j = D) : cr_Tp j (-(D : Int)) (cr_gy b k j D y) (fun x => (y.1 : Rat) * cr_mo (cr_stepv b j x.1) y.2) := by
  have h := (cr_Tp.int (n := n) j y.1).mul ((cr_Tj hj0 D).mul ((cr_ka_tp hjk hb (y.2 k)).mul (cr_Tp.mono j (cr_up (cr_up y.2 k 0) j 0))))
  refine h.congr (by rw [cr_up_k]; omega) (fun x => rfl) (fun x => ?_)
  congr 1
  rw [cr_mo_up0 (cr_stepv b j x.1) y.2 j, cr_mo_agree j (fun i hi => cr_step_ne b x.1 hi) (cr_up y.2 j 0) (cr_up_k _ _ _), cr_mo_up0 x.1 (cr_up y.2 j 0) k, cr_up_ne _ _ (fun e => hjk e.symm), hy]
  have : cr_up (cr_up y.2 j 0) k 0 = cr_up (cr_up y.2 k 0) j 0 := funext fun i => by
    by_cases h1 : i = k
    · rw [h1, cr_up_k, cr_up_ne _ _ (fun e => hjk e.symm), cr_up_k]
    · by_cases h2 : i = j
      · rw [h2, cr_up_k, cr_up_ne _ _ hjk, cr_up_k]
      · rw [cr_up_ne _ _ h1, cr_up_ne _ _ h2, cr_up_ne _ _ h2, cr_up_ne _ _ h1]
  rw [this]; rfl
theorem cr_vl_sm {n : Nat} (x : Fin n → Rat) (l : cr_Pl_ n) : cr_vl x l = cx_sm l (fun y => (y.1 : Rat) * cr_mo x y.2) := rfl
theorem cr_clean {n : Nat} {b : Fin n → Fin n → Int} {k j : Fin n} (hjk : j ≠ k) (hb : b j k ≠ 0) (hk0 : b k k = 0) (l0 : cr_Pl_ n) (hl0 : ∀ y ∈ l0, 0 ≤ y.2 j) : ∀ (N : Nat) (G : cr_Pl_ n), (∀ y ∈ G, 0 ≤ y.2 k) → (∀ y ∈ G, -(N : Int) ≤ y.2 j) →
    (∀ x : cr_Pv n, cr_vl (cr_stepv b k x.1) G = cr_vl x.1 l0) → ∃ G' : cr_Pl_ n, (∀ y ∈ G', 0 ≤ y.2 j) ∧ ∀ x : cr_Pv n, cr_vl (cr_stepv b k x.1) G' = cr_vl x.1 l0
  | 0, G, _, hj, h => ⟨G, fun y hy => by have := hj y hy; omega, h⟩
  | N + 1, G, hk, hj, h => by
    classical
    let ρ : Int × cr_Xp n → cr_Pv n → Rat := fun y x => (y.1 : Rat) * ((cr_mo x.1 (cr_bB b k j) * (x.1 k)⁻¹) ^ y.2 k * cr_mo x.1 (cr_up y.2 k 0))
    have htp : ∀ y ∈ G, cr_Tp j (y.2 j) (fun x : cr_Pv n => (y.1 : Rat) * cr_mo (cr_stepv b k x.1) y.2) (ρ y) := fun y hy => by
      have h1 := (cr_Tk hjk hb).pow (fun x => (cr_sp b k x).2 k) (fun x => Rat.mul_pos (cr_mo_pos x.2 _) (Rat.inv_pos.2 (x.2 k))) (y.2 k).toNat
      refine ((cr_Tp.int (n := n) j y.1).mul (h1.mul (cr_Tp.mono j (cr_up y.2 k 0)))).congr (by rw [cr_up_ne _ _ hjk]; omega) (fun x => ?_) (fun x => ?_)
      · rw [cr_mo_up0 (cr_stepv b k x.1) y.2 k, cr_mo_agree k (fun i hi => cr_step_ne b x.1 hi) (cr_up y.2 k 0) (cr_up_k _ _ _), Int.toNat_of_nonneg (hk y hy)]; rfl
      · rw [Int.toNat_of_nonneg (hk y hy)]
    have htp2 : ∀ y ∈ G, cr_Tp j (-((N + 1 : Nat) : Int)) (fun x : cr_Pv n => (y.1 : Rat) * cr_mo (cr_stepv b k x.1) y.2) (fun x => if y.2 j = -((N + 1 : Nat) : Int) then ρ y x else 0) := fun y hy => by
      by_cases e : y.2 j = -((N + 1 : Nat) : Int)
      · exact (htp y hy).congr e.symm (fun _ => rfl) (fun x => if_pos e)
      · exact ((htp y hy).up (by have := hj y hy; omega)).congr rfl (fun _ => rfl) (fun x => if_neg e)
    have hs := cr_Tp.sum G htp2
    have hz : cr_Tp j (-((N + 1 : Nat) : Int)) (fun x : cr_Pv n => cx_sm G (fun y => (y.1 : Rat) * cr_mo (cr_stepv b k x.1) y.2)) (fun _ => 0) :=
      ((cr_Tp.get j (d := 0) hl0).up (by omega)).congr rfl (fun x => h x) (fun _ => rfl)
    have hzero : ∀ x : cr_Pv n, cr_vl (cr_stepv b k x.1) (cr_fl (fun a => decide (a j = -((N + 1 : Nat) : Int))) G) = 0 := fun x => by
      let x' : cr_Pv n := ⟨fun i => if i = k then cr_mo x.1 (cr_bB b k j) * (cr_stepv b k x.1 k)⁻¹ else x.1 i, fun i => by
        show 0 < if i = k then cr_mo x.1 (cr_bB b k j) * (cr_stepv b k x.1 k)⁻¹ else x.1 i
        by_cases hi : i = k
        · rw [if_pos hi]; exact Rat.mul_pos (cr_mo_pos x.2 _) (Rat.inv_pos.2 (cr_stepv_pos b k x.2 k))
        · rw [if_neg hi]; exact x.2 i⟩
      have e0 := hs.uniq hz x'
      have hag : ∀ i, i ≠ k → x'.1 i = x.1 i := fun i hi => if_neg hi
      have hρ : ∀ y, ρ y x' = (y.1 : Rat) * cr_mo (cr_stepv b k x.1) y.2 := fun y => by
        show (y.1 : Rat) * ((cr_mo x'.1 (cr_bB b k j) * (x'.1 k)⁻¹) ^ y.2 k * cr_mo x'.1 (cr_up y.2 k 0)) = _
        rw [cr_mo_agree k hag (cr_bB b k j) (cr_bB_k hk0 j), cr_mo_agree k hag (cr_up y.2 k 0) (cr_up_k _ _ _)]
        have hk' : x'.1 k = cr_mo x.1 (cr_bB b k j) * (cr_stepv b k x.1 k)⁻¹ := if_pos rfl
        have hp := cr_mo_pos x.2 (cr_bB b k j)
        have hm : cr_mo x.1 (cr_bB b k j) * (x'.1 k)⁻¹ = cr_stepv b k x.1 k := by
          rw [hk', Rat.inv_mul_rev, Rat.inv_inv]
          have : cr_mo x.1 (cr_bB b k j) * (cr_mo x.1 (cr_bB b k j))⁻¹ = 1 := Rat.mul_inv_cancel _ (by grind)
          grind
        rw [hm, cr_mo_up0 (cr_stepv b k x.1) y.2 k, cr_mo_agree k (fun i hi => cr_step_ne b x.1 hi) (cr_up y.2 k 0) (cr_up_k _ _ _)]
      have e1 : cx_sm G (fun y => if y.2 j = -((N + 1 : Nat) : Int) then ρ y x' else 0) = 0 := e0
      rw [cx_sm_filter G (fun y => decide (y.2 j = -((N + 1 : Nat) : Int))) _ (fun y _ hy => if_neg (by simpa using hy))] at e1
      refine Eq.trans ?_ e1
      show cx_sm (G.filter (fun y => decide (y.2 j = -((N + 1 : Nat) : Int)))) _ = _
      refine cx_sm_congr (fun y hy => ?_)
      have := (List.mem_filter.1 hy).2
      rw [if_pos (by simpa using this), hρ y]
    obtain ⟨G', h1, h2⟩ := cr_clean hjk hb hk0 l0 hl0 N (cr_fl (fun a => !decide (a j = -((N + 1 : Nat) : Int))) G) (fun y hy => hk y (cr_mem_fl.1 hy).1) (fun y hy => by
      obtain ⟨hy, h3⟩ := cr_mem_fl.1 hy
      have h4 : y.2 j ≠ -((N + 1 : Nat) : Int) := by simpa using h3
      have := hj y hy
      omega) (fun x => by
      rw [← h x, cr_fl_split (cr_stepv b k x.1) (fun a => decide (a j = -((N + 1 : Nat) : Int))) G, hzero x]; grind)
    exact ⟨G', h1, h2⟩
theorem cr_caseA0 {n : Nat} (s : cx_Sd n) {k j : Fin n} (hjk : j ≠ k) (hb : s.b j k ≠ 0) {f : cr_Pv n → Rat} {l0 : cr_Pl_ n} (hl0 : ∀ y ∈ l0, 0 ≤ y.2 j) (h0 : ∀ x, f x = cr_vl x.1 l0) (h1 : cr_Lau (cr_sp s.b k) f) : cr_Lau (cr_gp s.b [k, j]) f := by
  obtain ⟨l1, h1⟩ := h1
  have hr := cr_row (s.self k) (l0 := l0) (l1 := l1) (fun x => by rw [← h0]; exact h1 x) (fun z => decide (z < 0))
  let G := cr_fl (fun a => decide (cr_up a k (- a k) k < 0)) l1
  have hGk : ∀ y ∈ G, 0 ≤ y.2 k := fun y hy => by
    have h2 := (cr_mem_fl.1 hy).2
    have h3 : cr_up y.2 k (- y.2 k) k < 0 := by simpa using h2
    rw [cr_up_k] at h3
    omega
  obtain ⟨N, hN⟩ := cr_bound G j
  obtain ⟨G', hG', hv⟩ := cr_clean hjk hb (s.self k) (cr_fl (fun a => decide (a k < 0)) l0) (fun y hy => hl0 y (cr_mem_fl.1 hy).1) N G hGk (fun y hy => by have := hN y hy; omega) (fun x => (hr x).symm)
  have hA : cr_Lau (cr_gp s.b [k, j]) (fun x => cr_vl (cr_sp s.b k x).1 G') := by
    obtain ⟨l, hl⟩ := cr_Lau.nonneg (cr_turnB s.b k) ((cr_turn s k).self j) hG'
    exact ⟨l, fun x => hl (cr_sp s.b k x)⟩
  have hB : cr_Lau (cr_gp s.b [k, j]) (fun x => cr_vl x.1 (cr_fl (fun a => !decide (a k < 0)) l0)) := by
    refine cr_Lau.sum (f := fun (y : Int × cr_Xp n) (x : cr_Pv n) => (y.1 : Rat) * cr_mo x.1 y.2) _ (fun y hy => ?_)
    obtain ⟨hy, h2⟩ := cr_mem_fl.1 hy
    have hyk : 0 ≤ y.2 k := by
      have h3 : ¬ y.2 k < 0 := by simpa using h2
      omega
    have hyj := hl0 y hy
    have g1 := cr_Lau.pow (cr_rel_lau s [k, j] [] k) (fun x => x.2 k) (y.2 k).toNat
    have g2 := cr_Lau.pow (cr_rel_lau s [k, j] [] j) (fun x => x.2 j) (y.2 j).toNat
    have g3 := cr_unit_lau s.b [k, j] (cr_up (cr_up y.2 k 0) j 0) (fun i hi => by
      by_cases hj : i = j
      · rw [hj, cr_up_k]
      · rw [cr_up_ne _ _ hj]
        simp only [List.mem_cons, List.not_mem_nil, or_false] at hi
        rcases hi with rfl | h
        · rw [cr_up_k]
        · exact absurd h hj)
    refine ((cr_Lau.int _ y.1).mul (g1.mul (g2.mul g3))).congr (fun x => ?_)
    congr 1
    rw [cr_mo_up0 x.1 y.2 k, cr_mo_up0 x.1 (cr_up y.2 k 0) j, cr_up_ne _ _ hjk, Int.toNat_of_nonneg hyk, Int.toNat_of_nonneg hyj]; rfl
  refine (hA.add hB).congr (fun x => ?_)
  rw [h0 x, cr_fl_split x.1 (fun a => decide (a k < 0)) l0, ← hv x]; rfl
theorem cr_caseA {n : Nat} (s : cx_Sd n) {k j : Fin n} (hjk : j ≠ k) (hb : s.b j k ≠ 0) : ∀ (D : Nat) (f : cr_Pv n → Rat) (l0 : cr_Pl_ n), (∀ y ∈ l0, -(D : Int) ≤ y.2 j) → (∀ x, f x = cr_vl x.1 l0) → cr_Lau (cr_sp s.b k) f → cr_Lau (cr_sp s.b j) f → cr_Lau (cr_gp s.b [k, j]) f
  | 0, f, l0, hD, h0, h1, _ => cr_caseA0 s hjk hb (fun y hy => by have := hD y hy; omega) h0 h1
  | D + 1, f, l0, hD, h0, h1, h2 => by
    obtain ⟨l2, h2'⟩ := h2
    have hr := cr_row (s.self j) (l0 := l0) (l1 := l2) (fun x => by rw [← h0]; exact h2' x) (fun z => decide (z = -((D + 1 : Nat) : Int)))
    let m2 := cr_fl (fun a => decide (cr_up a j (- a j) j = -((D + 1 : Nat) : Int))) l2
    have hm : ∀ y ∈ m2, y.2 j = ((D + 1 : Nat) : Int) := fun y hy => by
      have h3 := (cr_mem_fl.1 hy).2
      have h4 : cr_up y.2 j (- y.2 j) j = -((D + 1 : Nat) : Int) := by simpa using h3
      rw [cr_up_k] at h4
      omega
    let g : cr_Pv n → Rat := fun x => cx_sm m2 (fun y => cr_gy s.b k j (D + 1) y x)
    have hg : ∀ p : List (Fin n), (∀ i ∈ p, i = k ∨ i = j) → cr_Lau (cr_gp s.b p) g := fun p hp => cr_Lau.sum m2 (fun y _ => cr_gy_lau s k j p hp (D + 1) y)
    have ht := cr_Tp.sum (j := j) (d := -((D + 1 : Nat) : Int)) m2 (fun y hy => cr_gy_tp hjk hb (s.self j) (D + 1) y (hm y hy))
    have hf := (cr_Tp.get j hD).add ((((cr_Tp.int (n := n) j (-1)).mul ht)).congr (d' := -((D + 1 : Nat) : Int)) (by omega) (fun _ => rfl) (fun _ => rfl))
    obtain ⟨l, l', k1, k2, k3, k4⟩ := hf
    have hz : ∀ x : cr_Pv n, cr_vl x.1 l = 0 := fun x => by
      rw [← k3 x]
      have e := hr x
      show cr_vl x.1 (cr_fl (fun a => decide (a j = -((D + 1 : Nat) : Int))) l0) + ((-1 : Int) : Rat) * cx_sm m2 (fun y => (y.1 : Rat) * cr_mo (cr_stepv s.b j x.1) y.2) = 0
      have e2 : cr_vl (cr_stepv s.b j x.1) m2 = cx_sm m2 (fun y => (y.1 : Rat) * cr_mo (cr_stepv s.b j x.1) y.2) := rfl
      rw [e, ← e2, show ((-1 : Int) : Rat) = -1 from rfl]; grind
    have hl' : ∀ x, f x + - g x = cr_vl x.1 l' := fun x => by
      have := k4 x
      rw [hz x] at this
      rw [h0 x]
      have e3 : cr_vl x.1 l0 + ((-1 : Int) : Rat) * g x = 0 + cr_vl x.1 l' := this
      rw [show ((-1 : Int) : Rat) = -1 from rfl] at e3
      grind
    have ih := cr_caseA s hjk hb D (fun x => f x + - g x) l' (fun y hy => by have := k2 y hy; omega) hl' (h1.add (hg [k] (fun i hi => by simp at hi; exact .inl hi)).neg) (cr_Lau.add (⟨l2, h2'⟩ : cr_Lau (cr_sp s.b j) f) (hg [j] (fun i hi => by simp at hi; exact .inr hi)).neg)
    exact (ih.add (hg [k, j] (fun i hi => by simpa using hi))).congr (fun x => by grind)
