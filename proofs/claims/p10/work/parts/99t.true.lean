theorem shr_ins {l : cr_Pl_ 12} (h : cr_Shr l) {c : Int} (hc : 0 < c) (a : cr_Xp 12) : ∃ l', cr_Shr l' ∧ (∀ b, cr_co l' b = cr_co l b + si (c, a) b) ∧ ∀ z ∈ l', z.2 = a ∨ ∃ w ∈ l, w.2 = z.2 := by
  induction l with
  | nil =>
    refine ⟨[(c, a)], ⟨by simp, fun y hy => by simp at hy; rw [hy]; exact hc⟩, fun b => ?_, fun z hz => by simp at hz; rw [hz]; exact Or.inl rfl⟩
    rw [cr_co_cons]; show si (c, a) b + (0 : Int) = (0 : Int) + si (c, a) b; omega
  | cons y l ih =>
    have hs := List.pairwise_cons.1 h.1
    have hy := h.2 y (by simp)
    rcases cr_Gt.total y.2 a with e | e | e
    · refine ⟨(y.1 + c, a) :: l, ⟨List.pairwise_cons.2 ⟨fun z hz => by rw [← e]; exact hs.1 z hz, hs.2⟩, fun z hz => ?_⟩, fun b => ?_, fun z hz => ?_⟩
      · rcases List.mem_cons.1 hz with rfl | hz
        · show 0 < y.1 + c; omega
        · exact h.2 z (by simp [hz])
      · rw [cr_co_cons, cr_co_cons]
        show si (y.1 + c, a) b + _ = si y b + _ + si (c, a) b
        have : si y b = si (y.1, a) b := by rw [← e]
        rw [si_add, this]; omega
      · rcases List.mem_cons.1 hz with rfl | hz
        · exact Or.inl rfl
        · exact Or.inr ⟨z, by simp [hz], rfl⟩
    · obtain ⟨l', h1, h2, h3⟩ := ih ⟨hs.2, fun z hz => h.2 z (by simp [hz])⟩
      refine ⟨y :: l', ⟨List.pairwise_cons.2 ⟨fun z hz => ?_, h1.1⟩, fun z hz => ?_⟩, fun b => ?_, fun z hz => ?_⟩
      · rcases h3 z hz with e2 | ⟨w, hw, ew⟩
        · rw [e2]; exact e
        · rw [← ew]; exact hs.1 w hw
      · rcases List.mem_cons.1 hz with rfl | hz
        · exact hy
        · exact h1.2 z hz
      · rw [cr_co_cons, cr_co_cons, h2 b]; omega
      · rcases List.mem_cons.1 hz with rfl | hz
        · exact Or.inr ⟨z, by simp, rfl⟩
        · rcases h3 z hz with e2 | ⟨w, hw, ew⟩
          · exact Or.inl e2
          · exact Or.inr ⟨w, by simp [hw], ew⟩
    · refine ⟨(c, a) :: y :: l, ⟨List.pairwise_cons.2 ⟨fun z hz => ?_, h.1⟩, fun z hz => ?_⟩, fun b => ?_, fun z hz => ?_⟩
      · rcases List.mem_cons.1 hz with rfl | hz
        · exact e
        · exact e.trans (hs.1 z hz)
      · rcases List.mem_cons.1 hz with rfl | hz
        · exact hc
        · exact h.2 z hz
      · rw [cr_co_cons]; show si (c, a) b + _ = _ + si (c, a) b; omega
      · rcases List.mem_cons.1 hz with rfl | hz
        · exact Or.inl rfl
        · exact Or.inr ⟨z, hz, rfl⟩
theorem shr_ex : ∀ l : cr_Pl_ 12, (∀ y ∈ l, 0 < y.1) → ∃ l', cr_Shr l' ∧ ∀ a, cr_co l' a = cr_co l a
  | [], _ => ⟨[], ⟨by simp, fun y hy => by simp at hy⟩, fun _ => rfl⟩
  | y :: l, h => by
    obtain ⟨l1, h1, h2⟩ := shr_ex l (fun z hz => h z (by simp [hz]))
    obtain ⟨l2, h3, h4, _⟩ := shr_ins h1 (h y (by simp)) y.2
    refine ⟨l2, h3, fun a => ?_⟩
    rw [h4 a, h2 a, cr_co_cons]
    show _ + si y a = si y a + _
    omega
theorem rat_le {a b : Int} (h : a ≤ b) : (a : Rat) ≤ (b : Rat) := by exact_mod_cast h
theorem vl_ones_le {l : cr_Pl_ 12} (h : ∀ y ∈ l, y.1 ≤ 1000000000000) : cr_vl (fun _ => 1) l ≤ (l.length : Rat) * 1000000000000 := by
  induction l with
  | nil => rw [cr_vl_nil]; show (0 : Rat) ≤ ((0 : Nat) : Rat) * 1000000000000; rw [show ((0 : Nat) : Rat) = 0 from rfl]; grind
  | cons y l ih =>
    rw [cr_vl_cons, cr_mo_ones, List.length_cons]
    have h1 := ih (fun z hz => h z (by simp [hz]))
    have h2 : (y.1 : Rat) ≤ ((1000000000000 : Int) : Rat) := rat_le (h y (by simp))
    rw [show ((1000000000000 : Int) : Rat) = 1000000000000 from rfl] at h2
    have h3 : ((l.length + 1 : Nat) : Rat) = (l.length : Rat) + 1 := by exact_mod_cast rfl
    rw [h3]
    grind
theorem two48 : (200000000000000 : Rat) < (2 : Rat) ^ (48 : Int) := by decide +kernel
def Tru (s : cx_Sd 12) (ks : List (Fin 12)) (A : pm_A) : Prop := gH wM A ∧ (1 ≤ A 0 7) ∧ (∀ i j : Fin 12, (j.1 : Int) < A 0 7 → ((i.1 : Int) < A 0 7 + A 0 8 → cr_bs s.b ks i j = A 5 (6 * (i.1 : Int) + (j.1 : Int))) ∧ (A 0 7 + A 0 8 ≤ (i.1 : Int) → cr_bs s.b ks i j = 0)) ∧ (∀ k ∈ ks, (k.1 : Int) < A 0 7) ∧ (∀ v k : Fin 12, (k.1 : Int) < A 0 7 → s.b v k ≤ 9 ∧ -9 ≤ s.b v k) ∧ arB A ∧ ∀ i : Fin 12, (i.1 : Int) < A 0 7 → srtd A i.1 ∧ cfs A i.1 ∧ ∀ x, (cr_gp s.b ks x).1 i = VS A i.1 x
theorem Tru.one {s : cx_Sd 12} {ks : List (Fin 12)} {A : pm_A} (h : Tru s ks A) {i : Fin 12} (hi : (i.1 : Int) < A 0 7) : 1 ≤ A 1 i.1 := by
  refine Classical.byContradiction (fun hneg => ?_)
  let o : cr_Pv 12 := ⟨fun _ => 1, fun _ => by grind⟩
  have h1 := (h.2.2.2.2.2.2 i hi).2.2 o
  have m := eM_1 h.1 (r := 1) (by omega) kn1 (j := i.1) (by omega) (by have := i.2; omega)
  have h0 : VS A i.1 o = 0 := by
    unfold VS LSm
    rw [show A 1 (i.1 : Int) = 0 by omega]; rfl
  rw [h0] at h1
  have := (cr_gp s.b ks o).2 i
  grind
theorem Tru.lt {s : cx_Sd 12} {ks : List (Fin 12)} {A : pm_A} (h : Tru s ks A) : ltH A := by
  refine ⟨h.1, fun i i0 i1 => ?_, h.2.2.2.2.2.1⟩
  have p7 := fM_0_7 h.1 (r := 0) (by omega) km0
  obtain ⟨hg, h1, hb, hk, h9, ha, hl⟩ := h
  have hi : i = ((⟨i.toNat, by omega⟩ : Fin 12).1 : Int) := by show i = ((i.toNat : Nat) : Int); omega
  obtain ⟨l1, l2, l3⟩ := hl ⟨i.toNat, by omega⟩ (by rw [← hi]; exact i1)
  rw [← hi] at l1 l2
  have l3 : ∀ x, (cr_gp s.b ks x).1 ⟨i.toNat, by omega⟩ = cr_vl x.1 (LSm A i) := fun x => by rw [l3 x, ← hi]; rfl
  have m := eM_1 hg (r := 1) (by omega) kn1 i0 (show i < 152 by omega)
  have hone : 1 ≤ A 1 i := by
    have := Tru.one ⟨hg, h1, hb, hk, h9, ha, hl⟩ (i := ⟨i.toNat, by omega⟩) (by rw [← hi]; exact i1)
    rw [← hi] at this
    exact this
  refine ⟨l1, l2, hone, ?_⟩
  have hlen : (LSm A i).length ≤ 200 := by rw [LSm_len]; omega
  have hx := cr_exp s (Q := fun k => (k.1 : Int) < A 0 7) ks hk ⟨i.toNat, by omega⟩ (fun v k hk => h9 v k hk) (pos_LSm l2) l3 hlen (by
    have h3 := vl_ones_le (l := LSm A i) (fun y hy => by
      obtain ⟨q, q0, q1, rfl⟩ := mem_LSm hy
      exact (l2 q q0 q1).2)
    have h4 : ((LSm A i).length : Rat) ≤ ((200 : Nat) : Rat) := by exact_mod_cast hlen
    rw [show ((200 : Nat) : Rat) = 200 from rfl] at h4
    have h5 := two48
    have h6 := Rat.mul_nonneg (by grind : 0 ≤ (200 : Rat) - ((LSm A i).length : Rat)) (by grind : (0 : Rat) ≤ 1000000000000)
    grind)
  intro q v q0 q1 v0 v1
  have := hx _ (in_LSm q0 q1) ⟨v.toNat, by omega⟩
  have e : -47 ≤ A 3 (12 * (200 * i + q) + ((v.toNat : Nat) : Int)) ∧ A 3 (12 * (200 * i + q) + ((v.toNat : Nat) : Int)) ≤ 1810 := this
  rw [Int.toNat_of_nonneg v0] at e
  omega
theorem pvl_mo (A : pm_A) (k sg : Int) (x : cr_Pv 12) : ∀ m : Nat, m ≤ 12 → pvl A k sg x m = cr_mo (fun i : Fin 12 => yv A x i.1) (fun i : Fin 12 => if i.1 < m then (cx_pos (sg * A 5 (6 * (i.1 : Int) + k)) : Int) else 0)
  | 0, _ => by
    show (1 : Rat) = _
    refine Eq.symm (Eq.trans (congrArg (cr_mo _) (funext fun i => if_neg (by omega))) (cr_mo_zero _))
  | m + 1, h => by
    show pvl A k sg x m * yv A x m ^ (cx_pos (sg * A 5 (6 * (m : Int) + k)) : Int) = _
    rw [pvl_mo A k sg x m (by omega)]
    have e1 : (fun i : Fin 12 => if i.1 < m + 1 then (cx_pos (sg * A 5 (6 * (i.1 : Int) + k)) : Int) else 0) = cr_up (fun i : Fin 12 => if i.1 < m then (cx_pos (sg * A 5 (6 * (i.1 : Int) + k)) : Int) else 0) ⟨m, by omega⟩ (cx_pos (sg * A 5 (6 * (m : Int) + k)) : Int) := funext fun i => by
      by_cases hi : i = ⟨m, by omega⟩
      · rw [hi, cr_up_k, if_pos (by show m < m + 1; omega)]
      · rw [cr_up_ne _ _ hi]
        have : i.1 ≠ m := fun e => hi (Fin.ext e)
        by_cases h2 : i.1 < m
        · rw [if_pos (by omega), if_pos h2]
        · rw [if_neg (by omega), if_neg h2]
    have e2 : cr_up (fun i : Fin 12 => if i.1 < m then (cx_pos (sg * A 5 (6 * (i.1 : Int) + k)) : Int) else 0) ⟨m, by omega⟩ 0 = (fun i : Fin 12 => if i.1 < m then (cx_pos (sg * A 5 (6 * (i.1 : Int) + k)) : Int) else 0) := funext fun i => by
      by_cases hi : i = ⟨m, by omega⟩
      · rw [hi, cr_up_k, if_neg (by show ¬ m < m; omega)]
      · rw [cr_up_ne _ _ hi]
    rw [e1, cr_mo_up, e2]
    grind
theorem Tru.pvl {s : cx_Sd 12} {ks : List (Fin 12)} {A : pm_A} (h : Tru s ks A) {k : Fin 12} (hk : (k.1 : Int) < A 0 7) (sg : Int) (x : cr_Pv 12) : pvl A k.1 sg x (A 0 7 + A 0 8).toNat = cr_mo (cr_gp s.b ks x).1 (fun i => (cx_pos (sg * cr_bs s.b ks i k) : Int)) := by
  have p7 := fM_0_7 h.1 (r := 0) (by omega) km0
  have p8 := fM_0_8 h.1 (r := 0) (by omega) km0
  obtain ⟨hg, h1, hb, hks, h9, ha, hl⟩ := h
  rw [pvl_mo A k.1 sg x _ (by omega)]
  have e1 : (fun i : Fin 12 => yv A x i.1) = (cr_gp s.b ks x).1 := funext fun i => by
    unfold yv
    by_cases hi : (i.1 : Int) < A 0 7
    · rw [if_pos hi, (hl i hi).2.2 x]
    · rw [if_neg hi, dif_pos i.2, cr_gp_ne ks s.b x (fun hm => hi (hks i hm))]
  rw [e1]
  refine congrArg (cr_mo _) (funext fun i => ?_)
  by_cases hi : (i.1 : Int) < A 0 7 + A 0 8
  · rw [if_pos (by omega), (hb i k hk).1 hi]
  · rw [if_neg (by omega), (hb i k hk).2 (by omega), Int.mul_zero]; rfl
theorem cr_bs_snoc {n : Nat} (ks : List (Fin n)) (k : Fin n) : ∀ b : Fin n → Fin n → Int, cr_bs b (ks ++ [k]) = cr_turnB (cr_bs b ks) k := by
  induction ks with
  | nil => exact fun b => rfl
  | cons q ks ih => exact fun b => ih (cr_turnB b q)
theorem tru_quot {s : cx_Sd 12} {ks : List (Fin 12)} {A : pm_A} (h : Tru s ks A) {k : Fin 12} (hk : (k.1 : Int) < A 0 7) {N : cr_Pl_ 12} (hNs : cr_Shr N) (hNc : ∀ y ∈ N, y.1 ≤ 1000000000000) (hNl : N.length ≤ 200) (hN : ∀ x : cr_Pv 12, cr_vl x.1 N = cr_P (cr_bs s.b ks) k (cr_gp s.b ks x).1) :
    ∃ Q : cr_Pl_ 12, cr_Shr Q ∧ (∀ x, (cr_gp s.b (ks ++ [k]) x).1 k = cr_vl x.1 Q) ∧ (∀ c, cr_co N c = cr_co (cr_pmz Q (LSm A k.1)) c) ∧ Q.length ≤ 200 ∧ ∀ y ∈ Q, y.1 ≤ 1000000000000 := by
  obtain ⟨Q0, hQ0, hv⟩ := cr_rel [] s (ks ++ [k]) k
  obtain ⟨Q, hQ, hQc⟩ := shr_ex Q0 hQ0
  have hone := h.one hk
  obtain ⟨hg, h1, hb, hks, h9, ha, hl⟩ := h
  obtain ⟨l1, l2, l3⟩ := hl k hk
  have hQv : ∀ x, (cr_gp s.b (ks ++ [k]) x).1 k = cr_vl x.1 Q := fun x => by rw [hv x]; exact (cr_vl_co x.1 hQc).symm
  have hprod : ∀ c, cr_co N c = cr_co (cr_pmz Q (LSm A k.1)) c := cr_vl_unique (fun x => by
    rw [cr_vl_pmz x.2, hN x, ← hQv x, cr_gp_snoc]
    show _ = cr_stepv (cr_bs s.b ks) k (cr_gp s.b ks x).1 k * cr_vl x.1 (LSm A k.1)
    have e := l3 x
    have e2 : cr_vl x.1 (LSm A k.1) = (cr_gp s.b ks x).1 k := e.symm
    rw [e2, cr_step_k]
    have hp := (cr_gp s.b ks x).2 k
    have : ((cr_gp s.b ks x).1 k)⁻¹ * (cr_gp s.b ks x).1 k = 1 := Rat.inv_mul_cancel _ (by grind)
    grind)
  have hl0 := in_LSm (A := A) (p := k.1) (q := 0) (by omega) (by omega)
  have hLp := pos_LSm l2
  have hpp : ∀ y ∈ cr_pmz Q (LSm A k.1), 0 < y.1 := fun y hy => by
    obtain ⟨u, hu, w, hw, rfl⟩ := cr_mem_pmz hy
    exact Int.mul_pos (hQ.2 u hu) (hLp w hw)
  have hin : ∀ y ∈ Q, ∃ z ∈ N, z.2 = (fun i => y.2 i + xe A k.1 0 i) ∧ y.1 ≤ z.1 := fun y hy => by
    have hm : (y.1 * A 2 (200 * (k.1 : Int) + 0), fun i => y.2 i + xe A k.1 0 i) ∈ cr_pmz Q (LSm A k.1) := List.mem_flatMap.2 ⟨y, hy, List.mem_map.2 ⟨_, hl0, rfl⟩⟩
    have hp := cr_co_pos hpp hm
    rw [← hprod] at hp
    obtain ⟨z, hz, ez⟩ := cr_co_mem (l := N) (a := fun i => y.2 i + xe A k.1 0 i) (fun e => by
      have hp2 : 0 < cr_co N (fun i => y.2 i + xe A k.1 0 i) := hp
      omega)
    refine ⟨z, hz, ez, ?_⟩
    have h2 : cr_co N z.2 = z.1 := hNs.at hz
    rw [ez, hprod, cr_co_pmz] at h2
    have hge : y.1 * cr_co (LSm A k.1) (fun i => (y.2 i + xe A k.1 0 i) - y.2 i) ≤ ((Q.map fun w => w.1 * cr_co (LSm A k.1) (fun i => (y.2 i + xe A k.1 0 i) - w.2 i)).sum) := by
      have nn : ∀ w ∈ Q, 0 ≤ w.1 * cr_co (LSm A k.1) (fun i => (y.2 i + xe A k.1 0 i) - w.2 i) := fun w hw => Int.mul_nonneg (Int.le_of_lt (hQ.2 w hw)) (cr_Shr.nonneg hLp _)
      have gen : ∀ (l : cr_Pl_ 12) (g : Int × cr_Xp 12 → Int), (∀ w ∈ l, 0 ≤ g w) → y ∈ l → g y ≤ (l.map g).sum := by
        intro l g hn hm
        induction l with
        | nil => simp at hm
        | cons w l ih =>
          rw [List.map_cons, List.sum_cons]
          have hw := hn w (by simp)
          have hs : 0 ≤ (l.map g).sum := by
            clear ih hm
            have hn2 : ∀ w ∈ l, 0 ≤ g w := fun w hw => hn w (by simp [hw])
            clear hn
            induction l with
            | nil => simp
            | cons v l ih2 =>
              rw [List.map_cons, List.sum_cons]
              have := hn2 v (by simp)
              have := ih2 (fun w hw => hn2 w (by simp [hw]))
              omega
          rcases List.mem_cons.1 hm with rfl | hm
          · omega
          · have := ih (fun w hw => hn w (by simp [hw])) hm
            omega
      exact gen Q _ nn hy
    have e3 : (fun i => (y.2 i + xe A k.1 0 i) - y.2 i) = xe A k.1 0 := funext fun i => by omega
    rw [e3] at hge
    have h4 := cr_co_pos hLp hl0
    have h4 : 0 < cr_co (LSm A k.1) (xe A k.1 0) := h4
    have h5 := Int.mul_le_mul_of_nonneg_left (show 1 ≤ cr_co (LSm A k.1) (xe A k.1 0) by omega) (Int.le_of_lt (hQ.2 y hy))
    omega
  refine ⟨Q, hQ, hQv, hprod, ?_, fun y hy => ?_⟩
  · have := cr_len (Q.map fun y => (fun i => y.2 i + xe A k.1 0 i)) (N.map (·.2)) (by
      rw [List.nodup_iff_pairwise_ne, List.pairwise_map]
      refine hQ.1.imp (fun {u w} hg e => ?_)
      have : u.2 = w.2 := funext fun i => by have := congrFun e i; have h6 : u.2 i + xe A k.1 0 i = w.2 i + xe A k.1 0 i := this; omega
      rw [this] at hg
      exact cr_Gt.irrefl _ hg) (fun c hc => by
      obtain ⟨y, hy, rfl⟩ := List.mem_map.1 hc
      obtain ⟨z, hz, ez, _⟩ := hin y hy
      exact List.mem_map.2 ⟨z, hz, ez⟩)
    rw [List.length_map, List.length_map] at this
    omega
  · obtain ⟨z, hz, _, hle⟩ := hin y hy
    have := hNc z hz
    omega
