/-! timesOften, heldSlot -/
def VS (A : pm_A) (p : Int) (x : cr_Pv 12) : Rat := cr_vl x.1 (LSm A p)
theorem VS_of {A B : pm_A} {p q : Int} (h : LSm A p = LSm B q) : VS A p = VS B q := by unfold VS; rw [h]
theorem mem_LSm {A : pm_A} {p : Int} {y : Int × cr_Xp 12} (h : y ∈ LSm A p) : ∃ q : Int, 0 ≤ q ∧ q < A 1 p ∧ y = (A 2 (200 * p + q), xe A p q) := by
  obtain ⟨q, hq, rfl⟩ := List.mem_map.1 h
  have := List.mem_range.1 hq
  exact ⟨q, by omega, by omega, rfl⟩
theorem in_LSm {A : pm_A} {p q : Int} (q0 : 0 ≤ q) (q1 : q < A 1 p) : (A 2 (200 * p + q), xe A p q) ∈ LSm A p := by
  refine List.mem_map.2 ⟨q.toNat, List.mem_range.2 (by omega), ?_⟩
  rw [Int.toNat_of_nonneg q0]
theorem pos_LSm {A : pm_A} {p : Int} (h : cfs A p) : ∀ y ∈ LSm A p, 0 < y.1 := fun y hy => by
  obtain ⟨q, q0, q1, rfl⟩ := mem_LSm hy
  have := (h q q0 q1).1
  show 0 < A 2 (200 * p + q)
  omega
theorem VS_pos {A : pm_A} {p : Int} (h : cfs A p) (hm : 1 ≤ A 1 p) (x : cr_Pv 12) : 0 < VS A p x := cr_vl_pos x.2 (pos_LSm h) (fun e => by
  have := in_LSm (A := A) (p := p) (q := 0) (by omega) (by omega)
  rw [e] at this; simp at this)
theorem xb_prod {A B : pm_A} {to a b E1 E2 : Int} (hc : cfs B to) (h : ∀ c, cr_co (LSm B to) c = cr_co (cr_pmz (LSm A a) (LSm A b)) c) (h1 : xb A a E1) (h2 : xb A b E2) : xb B to (E1 + E2) := by
  intro q v q0 q1 v0 v1
  have hm := in_LSm (A := B) (p := to) q0 q1
  have hp := cr_co_pos (pos_LSm hc) hm
  rw [h] at hp
  obtain ⟨z, hz, ez⟩ := cr_co_mem (l := cr_pmz (LSm A a) (LSm A b)) (a := xe B to q) (by have : 0 < cr_co (cr_pmz (LSm A a) (LSm A b)) (xe B to q) := hp; omega)
  obtain ⟨y, hy, w, hw, rfl⟩ := cr_mem_pmz hz
  obtain ⟨i, i0, i1, rfl⟩ := mem_LSm hy
  obtain ⟨j, j0, j1, rfl⟩ := mem_LSm hw
  have e := congrFun ez ⟨v.toNat, by omega⟩
  have e2 : A 3 (12 * (200 * a + i) + ((v.toNat : Nat) : Int)) + A 3 (12 * (200 * b + j) + ((v.toNat : Nat) : Int)) = B 3 (12 * (200 * to + q) + ((v.toNat : Nat) : Int)) := e
  rw [Int.toNat_of_nonneg v0] at e2
  have := h1 i v i0 i1 v0 v1
  have := h2 j v j0 j1 v0 v1
  omega
theorem VS_prod {A B : pm_A} {to a b : Int} (h : ∀ c, cr_co (LSm B to) c = cr_co (cr_pmz (LSm A a) (LSm A b)) c) (x : cr_Pv 12) : VS B to x = VS A a x * VS A b x := by
  unfold VS
  rw [cr_vl_co x.1 h, cr_vl_pmz x.2]
theorem xb_same {A B : pm_A} {p E : Int} (hm : A 1 p ≤ 200) (h : ∀ r j, inS p r j → B r j = A r j) (hx : xb A p E) : xb B p E := by
  intro q v q0 q1 v0 v1
  rw [h 1 p (Or.inl ⟨rfl, rfl⟩)] at q1
  rw [h 3 _ (by unfold inS; omega)]
  exact hx q v q0 q1 v0 v1
theorem cfs_same {A B : pm_A} {p : Int} (hm : A 1 p ≤ 200) (h : ∀ r j, inS p r j → B r j = A r j) (hx : cfs A p) : cfs B p := by
  intro q q0 q1
  rw [h 1 p (Or.inl ⟨rfl, rfl⟩)] at q1
  rw [h 2 _ (by unfold inS; omega)]
  exact hx q q0 q1
theorem ls_xe {A B : pm_A} {p q : Int} (h : LSm B p = LSm A q) (hp : 0 ≤ B 1 p) (hq : 0 ≤ A 1 q) : B 1 p = A 1 q ∧ ∀ i : Int, 0 ≤ i → i < A 1 q → B 2 (200 * p + i) = A 2 (200 * q + i) ∧ xe B p i = xe A q i := by
  have hl : B 1 p = A 1 q := by
    have := congrArg List.length h
    rw [LSm_len, LSm_len] at this
    omega
  refine ⟨hl, fun i i0 i1 => ?_⟩
  have h2 : (LSm B p)[i.toNat]? = (LSm A q)[i.toNat]? := by rw [h]
  unfold LSm at h2
  rw [List.getElem?_map, List.getElem?_map, List.getElem?_range (by omega), List.getElem?_range (by omega)] at h2
  have h3 : (B 2 (200 * p + ((i.toNat : Nat) : Int)), xe B p ((i.toNat : Nat) : Int)) = (A 2 (200 * q + ((i.toNat : Nat) : Int)), xe A q ((i.toNat : Nat) : Int)) := Option.some.inj h2
  rw [Int.toNat_of_nonneg i0] at h3
  exact ⟨congrArg Prod.fst h3, congrArg Prod.snd h3⟩
theorem ls_srtd {A B : pm_A} {p q : Int} (h : LSm B p = LSm A q) (hp : 0 ≤ B 1 p) (hq : 0 ≤ A 1 q) (hs : srtd A q) : srtd B p := by
  obtain ⟨h1, h2⟩ := ls_xe h hp hq
  intro i j i0 ij j1
  rw [h1] at j1
  rw [(h2 i i0 (by omega)).2, (h2 j (by omega) j1).2]
  exact hs i j i0 ij j1
theorem ls_cfs {A B : pm_A} {p q : Int} (h : LSm B p = LSm A q) (hp : 0 ≤ B 1 p) (hq : 0 ≤ A 1 q) (hs : cfs A q) : cfs B p := by
  obtain ⟨h1, h2⟩ := ls_xe h hp hq
  intro i i0 i1
  rw [h1] at i1
  rw [(h2 i i0 i1).1]
  exact hs i i0 i1
theorem ls_xb {A B : pm_A} {p q E : Int} (h : LSm B p = LSm A q) (hp : 0 ≤ B 1 p) (hq : 0 ≤ A 1 q) (hs : xb A q E) : xb B p E := by
  obtain ⟨h1, h2⟩ := ls_xe h hp hq
  intro i v i0 i1 v0 v1
  rw [h1] at i1
  have := congrFun (h2 i i0 i1).2 ⟨v.toNat, by omega⟩
  have e2 : B 3 (12 * (200 * p + i) + ((v.toNat : Nat) : Int)) = A 3 (12 * (200 * q + i) + ((v.toNat : Nat) : Int)) := this
  rw [Int.toNat_of_nonneg v0] at e2
  rw [e2]
  exact hs i v i0 i1 v0 v1
theorem srt_timesOften : pm_srt o_X10_timesOften = true := by decide +kernel
def toF (A B : pm_A) (s bs : Int) : Prop := gH wM B ∧ ∀ r j, ¬ inS s r j → ¬ inS bs r j → r ≠ 4 → ¬ (r = 0 ∧ (j = 4 ∨ j = 5)) → B r j = A r j
def to_post (A : pm_A) (s bb n bs E1 E2 : Int) (r : pm_R) : Prop := r.1 = none ∧ toF A r.2 s bs ∧ (r.2 0 4 = 1 ∨ (r.2 0 4 = 0 ∧ srtd r.2 s ∧ cfs r.2 s ∧ 1 ≤ r.2 1 s ∧ xb r.2 s (E1 + n * E2) ∧ ∀ x, VS r.2 s x = VS A s x * VS A bb x ^ n))
def toH (A : pm_A) (s bb n bs E1 E2 : Int) : Prop := gH wM A ∧ (0 ≤ s ∧ s ≤ 151) ∧ (0 ≤ bb ∧ bb ≤ 151) ∧ (0 ≤ bs ∧ bs ≤ 151) ∧ (s ≠ bb ∧ s ≠ bs ∧ bb ≠ bs) ∧ srtd A s ∧ cfs A s ∧ cfs A bb ∧ xb A s E1 ∧ xb A bb E2 ∧ (0 ≤ E1 ∧ 0 ≤ E2 ∧ 0 ≤ n ∧ E1 + n * E2 ≤ 2147483647) ∧ (1 ≤ A 1 s ∧ 1 ≤ A 1 bb) ∧ A 0 4 = 0
def moI (A B : pm_A) (s bb n t : Int) : Prop := gH wM B ∧ (∀ r j, ¬ inS s r j → B r j = A r j) ∧ (∀ j, B 1 j = A 1 j ∧ B 2 j = A 2 j) ∧ (∀ q v : Int, 0 ≤ q → q < t → 0 ≤ v → v < 12 → B 3 (12 * (200 * s + q) + v) = A 3 (12 * (200 * s + q) + v) + n * A 3 (2400 * bb + v)) ∧ ∀ q v : Int, t ≤ q → q < 200 → 0 ≤ v → v < 12 → B 3 (12 * (200 * s + q) + v) = A 3 (12 * (200 * s + q) + v)
def moJ (A B : pm_A) (s bb n t u : Int) : Prop := gH wM B ∧ (∀ r j, ¬ inS s r j → B r j = A r j) ∧ (∀ j, B 1 j = A 1 j ∧ B 2 j = A 2 j) ∧ (∀ q v : Int, 0 ≤ q → q < t → 0 ≤ v → v < 12 → B 3 (12 * (200 * s + q) + v) = A 3 (12 * (200 * s + q) + v) + n * A 3 (2400 * bb + v)) ∧ (∀ q v : Int, t < q → q < 200 → 0 ≤ v → v < 12 → B 3 (12 * (200 * s + q) + v) = A 3 (12 * (200 * s + q) + v)) ∧ (∀ v : Int, 0 ≤ v → v < u → B 3 (12 * (200 * s + t) + v) = A 3 (12 * (200 * s + t) + v) + n * A 3 (2400 * bb + v)) ∧ ∀ v : Int, u ≤ v → v < 12 → B 3 (12 * (200 * s + t) + v) = A 3 (12 * (200 * s + t) + v)
theorem to_mul {n e E : Int} (hn : 0 ≤ n) (h : - E ≤ e ∧ e ≤ E) : -(n * E) ≤ n * e ∧ n * e ≤ n * E := by
  have h1 := Int.mul_le_mul_of_nonneg_left h.1 hn
  have h2 := Int.mul_le_mul_of_nonneg_left h.2 hn
  rw [Int.mul_neg] at h1
  exact ⟨h1, h2⟩
theorem to_42 {A : pm_A} {s bb n bs E1 E2 t : Int} (hH : toH A s bb n bs E1 E2) (t0 : 0 ≤ t) (t1 : t < A 1 s) {z : pm_R → Prop} (H : ∀ C v6, moI A C s bb n (t + 1) → Tm pmt (an_sh wM) o_X10_timesOften 28 ([(2, 0), (0, s), (0, bb), (0, n), (0, bs), (0, t + 1), v6], [], C) z) : ∀ (m : Nat) (u : Int) (B : pm_A), (12 - u).toNat < m → 0 ≤ u → u ≤ 12 → moJ A B s bb n t u → Tm pmt (an_sh wM) o_X10_timesOften 42 ([(2, 0), (0, s), (0, bb), (0, n), (0, bs), (0, t), (0, u)], [], B) z := by
  obtain ⟨hA, hs, hb, hbs, hne, hsr, hcs, hcb, xs, xbb, hE, hm, h4⟩ := hH
  have ms := eM_1 hA (r := 1) (by omega) kn1 hs.1 (show s < 152 by omega)
  intro m
  induction m with
  | zero => intro u B h; omega
  | succ m ih =>
    intro u B hn u0 u1 hJ
    obtain ⟨g1, g2, g3, g4, g5, g6, g7⟩ := hJ
    have c3 := pM_3 g1
    have hbe : u < 12 → B 3 (2400 * bb + u) = A 3 (2400 * bb + u) := fun h => g2 3 _ (by unfold inS; omega)
    have hme : u < 12 → -(n * E2) ≤ n * B (B 0 3) (2400 * bb + u) ∧ n * B (B 0 3) (2400 * bb + u) ≤ n * E2 := fun h => by
      rw [c3, hbe h]
      have := xbb 0 u (by omega) (by omega) u0 h
      rw [show 12 * (200 * bb + 0) + u = 2400 * bb + u by omega] at this
      exact to_mul hE.2.2.1 this
    have hse : u < 12 → - E1 ≤ B 3 (12 * (200 * s + t) + u) ∧ B 3 (12 * (200 * s + t) + u) ≤ E1 := fun h => by
      rw [g7 u (by omega) h]; exact xs t u t0 t1 u0 h
    refine wq_ok srt_timesOften (fr := []) (cuts := [28, 42]) (J := fun pc st => (pc = 28 ∧ (12 ≤ u) ∧ st = ([(2, 0), (0, s), (0, bb), (0, n), (0, bs), (0, t + 1), (0, u)], [], B)) ∨ (pc = 42 ∧ (u < 12) ∧ st = ([(2, 0), (0, s), (0, bb), (0, n), (0, bs), (0, t), (0, u + 1)], [], pm_upd B (B 0 3) ((12 * ((200 * s) + t)) + u) ((B (B 0 3) ((12 * ((200 * s) + t)) + u)) + (n * (B (B 0 3) ((2400 * bb) + u))))))) ?_ 35 42 _ ?_
    · rintro pc st (⟨rfl, h0, rfl⟩ | ⟨rfl, h0, rfl⟩)
      · refine H B _ ⟨g1, g2, g3, fun q v q0 q1 v0 v1 => ?_, fun q v q0 q1 v0 v1 => g5 q v (by omega) q1 v0 v1⟩
        by_cases hq : q = t
        · rw [hq]; exact g6 v v0 (by omega)
        · exact g4 q v q0 (by omega) v0 v1
      · have r1 := hme h0
        have r2 := hse h0
        have r3 := hbe h0
        rw [c3] at r1 ⊢
        refine ih (u + 1) _ (by omega) (by omega) (by omega) ⟨uM_3 g1 kn3 (by omega) (by omega), fun r j hr => ?_, fun j => ⟨?_, ?_⟩, fun q v q0 q1 v0 v1 => ?_, fun q v q0 q1 v0 v1 => ?_, fun v v0 v1 => ?_, fun v v0 v1 => ?_⟩
        · rw [upd_o (fun e => hr (by unfold inS; omega))]; exact g2 r j hr
        · rw [upd_o (by omega)]; exact (g3 j).1
        · rw [upd_o (by omega)]; exact (g3 j).2
        · rw [upd_o (by omega)]; exact g4 q v q0 q1 v0 v1
        · rw [upd_o (by omega)]; exact g5 q v q0 q1 v0 v1
        · by_cases hv : v = u
          · rw [hv, upd_at, r3, g7 u (by omega) (by omega)]
          · rw [upd_o (by omega)]; exact g6 v v0 (by omega)
        · rw [upd_o (by omega)]; exact g7 v (by omega) v1
    · refine ⟨fun h0 => ?_, fun h0 => ?_⟩
      · refine ⟨⟨by omega, by omega⟩, ?_⟩
        exact Or.inl (⟨rfl, h0, rfl⟩)
      · refine ⟨oM_0 (by omega) km0 3 rfl, ?_⟩
        refine ⟨⟨by omega, by omega⟩, ?_⟩
        refine ⟨⟨by omega, by omega⟩, ?_⟩
        refine ⟨⟨by omega, by omega⟩, ?_⟩
        refine ⟨⟨by omega, by omega⟩, ?_⟩
        refine ⟨aM_3 (r := B 0 3) (by rw [c3]; omega) (by rw [c3]; exact kn3) (by omega) (by omega), ?_⟩
        have e1 : B (B 0 3) ((12 * ((200 * s) + t)) + u) = B 3 ((12 * ((200 * s) + t)) + u) := by rw [c3]
        refine ⟨oM_0 (by omega) km0 3 rfl, ?_⟩
        refine ⟨⟨by omega, by omega⟩, ?_⟩
        refine ⟨⟨by omega, by omega⟩, ?_⟩
        refine ⟨aM_3 (r := B 0 3) (by rw [c3]; omega) (by rw [c3]; exact kn3) (by omega) (by omega), ?_⟩
        have e2 : B (B 0 3) ((2400 * bb) + u) = B 3 ((2400 * bb) + u) := by rw [c3]
        refine ⟨⟨by omega, by omega⟩, ?_⟩
        refine ⟨⟨by omega, by omega⟩, ?_⟩
        refine ⟨tM_3 (r := B 0 3) (by rw [c3]; omega) (by rw [c3]; exact kn3) (by omega) (by omega) rfl, ?_⟩
        refine ⟨⟨by omega, by omega⟩, ?_⟩
        exact Or.inr (⟨rfl, h0, rfl⟩)
theorem to_mono {A B : pm_A} {s bb n bs E1 E2 t : Int} (hH : toH A s bb n bs E1 E2) (hm1 : A 1 bb = 1) (hn1 : A 2 (200 * bb) = 1) (ht : A 1 s ≤ t) (hI : moI A B s bb n t) : to_post A s bb n bs E1 E2 (none, B) := by
  obtain ⟨hA, hs, hb, hbs, hne, hsr, hcs, hcb, xs, xbb, hE, hm, h4⟩ := hH
  obtain ⟨g1, g2, g3, g4, g5⟩ := hI
  have ms := eM_1 hA (r := 1) (by omega) kn1 hs.1 (show s < 152 by omega)
  let e : cr_Xp 12 := fun v => A 3 (2400 * bb + (v.1 : Int))
  have hx : ∀ q : Int, 0 ≤ q → q < A 1 s → xe B s q = fun i => xe A s q i + e i * n := fun q q0 q1 => funext fun v => by
    show B 3 (12 * (200 * s + q) + (v.1 : Int)) = A 3 (12 * (200 * s + q) + (v.1 : Int)) + A 3 (2400 * bb + (v.1 : Int)) * n
    rw [g4 q v.1 q0 (by omega) (by omega) (by have := v.2; omega), Int.mul_comm n]
  have hls : LSm B s = cr_shz (1, fun i => e i * n) (LSm A s) := by
    unfold cr_shz LSm
    rw [(g3 s).1, List.map_map]
    refine List.map_congr_left (fun q hq => ?_)
    have hq := List.mem_range.1 hq
    refine Prod.ext ?_ ?_
    · show B 2 (200 * s + (q : Int)) = 1 * A 2 (200 * s + (q : Int))
      rw [(g3 _).2]; omega
    · show xe B s (q : Int) = fun i => e i * n + xe A s (q : Int) i
      rw [hx q (by omega) (by omega)]
      exact funext fun i => Int.add_comm _ _
  have hbl : LSm A bb = [(1, e)] := by
    unfold LSm
    rw [hm1]
    show [(A 2 (200 * bb + ((0 : Nat) : Int)), xe A bb ((0 : Nat) : Int))] = _
    rw [show 200 * bb + ((0 : Nat) : Int) = 200 * bb by omega, hn1]
    refine congrArg (fun z => [((1 : Int), z)]) (funext fun v => ?_)
    show A 3 (12 * (200 * bb + ((0 : Nat) : Int)) + (v.1 : Int)) = A 3 (2400 * bb + (v.1 : Int))
    congr 1
    omega
  refine ⟨rfl, ⟨g1, fun r j hr _ _ _ => g2 r j hr⟩, Or.inr ⟨by show B 0 4 = 0; rw [g2 0 4 (by unfold inS; omega)]; exact h4, ?_, ?_, ?_, ?_, fun x => ?_⟩⟩
  · show srtd B s
    intro q q' q0 hq hq'
    rw [(g3 s).1] at hq'
    show cr_Gt (xe B s q) (xe B s q')
    rw [hx q q0 (by omega), hx q' (by omega) hq']
    exact (hsr q q' q0 hq hq').add _
  · show cfs B s
    intro q q0 q1
    rw [(g3 s).1] at q1
    show 1 ≤ B 2 (200 * s + q) ∧ B 2 (200 * s + q) ≤ 1000000000000
    rw [(g3 _).2]
    exact hcs q q0 q1
  · show 1 ≤ B 1 s
    rw [(g3 s).1]; exact hm.1
  · show xb B s (E1 + n * E2)
    intro q v q0 q1 v0 v1
    rw [(g3 s).1] at q1
    show -(E1 + n * E2) ≤ B 3 (12 * (200 * s + q) + v) ∧ B 3 (12 * (200 * s + q) + v) ≤ E1 + n * E2
    rw [g4 q v q0 (by omega) v0 v1]
    have a1 := xs q v q0 q1 v0 v1
    have a2 := xbb 0 v (by omega) (by omega) v0 v1
    rw [show 12 * (200 * bb + 0) + v = 2400 * bb + v by omega] at a2
    have a3 := to_mul hE.2.2.1 a2
    omega
  · show VS B s x = VS A s x * VS A bb x ^ n
    unfold VS
    rw [hls, hbl, cr_vl_shz x.2, cr_vl_sing, show ((1 : Int) : Rat) = 1 from rfl, cr_mo_pow x.2 e n]
    grind
theorem to_28 {A : pm_A} {s bb n bs E1 E2 : Int} (hH : toH A s bb n bs E1 E2) (hm1 : A 1 bb = 1) (hn1 : A 2 (200 * bb) = 1) : ∀ (m : Nat) (t : Int) (v6 : pm_V) (B : pm_A), (A 1 s - t).toNat < m → 0 ≤ t → t ≤ A 1 s → moI A B s bb n t → Tm pmt (an_sh wM) o_X10_timesOften 28 ([(2, 0), (0, s), (0, bb), (0, n), (0, bs), (0, t), v6], [], B) (to_post A s bb n bs E1 E2) := by
  have hs := hH.2.1
  intro m
  induction m with
  | zero => intro t v6 B h; omega
  | succ m ih =>
    intro t v6 B hn t0 t1 hI
    have c1 := pM_1 hI.1
    have e0 := (hI.2.2.1 s).1
    refine wq_ok srt_timesOften (fr := []) (cuts := [42]) (J := fun pc st => (pc = 42 ∧ (t < (B (B 0 1) s)) ∧ st = ([(2, 0), (0, s), (0, bb), (0, n), (0, bs), (0, t), (0, 0)], [], B))) ?_ 13 28 _ ?_
    · rintro pc st (⟨rfl, h0, rfl⟩)
      rw [c1, e0] at h0
      obtain ⟨g1, g2, g3, g4, g5⟩ := hI
      exact to_42 hH t0 h0 (fun C v6 hC => ih (t + 1) v6 C (by omega) (by omega) (by omega) hC) _ 0 B (Nat.lt_succ_self _) (by omega) (by omega) ⟨g1, g2, g3, g4, fun q v q0 q1 v0 v1 => g5 q v (by omega) q1 v0 v1, fun v v0 v1 => by omega, fun v v0 v1 => g5 t v (by omega) (by have := eM_1 hH.1 (r := 1) (by omega) kn1 hs.1 (show s < 152 by omega); omega) (by omega) v1⟩
    · refine ⟨oM_0 (by omega) km0 1 rfl, ?_⟩
      refine ⟨aM_1 (r := B 0 1) (by rw [c1]; omega) (by rw [c1]; exact kn1) (by omega) (by omega), ?_⟩
      have e1 : B (B 0 1) s = B 1 s := by rw [c1]
      refine ⟨fun h0 => ?_, fun h0 => ?_⟩
      · exact to_mono hH hm1 hn1 (by rw [c1, e0] at h0; exact h0) hI
      · exact ⟨rfl, h0, rfl⟩
def toL (A B : pm_A) (s bb bs E1 E2 k : Int) : Prop := toF A B s bs ∧ (B 0 4 = 1 ∨ (B 0 4 = 0 ∧ srtd B s ∧ cfs B s ∧ 1 ≤ B 1 s ∧ xb B s (E1 + k * E2) ∧ ∀ x, VS B s x = VS A s x * VS A bb x ^ k))
theorem to_137 {C : pm_A} {s bb n bs k : Int} {v6 : pm_V} (k0 : 0 ≤ k) (k1 : k < n) (hn : n ≤ 2147483647) {z : pm_R → Prop} (H : Tm pmt (an_sh wM) o_X10_timesOften 102 ([(2, 0), (0, s), (0, bb), (0, n), (0, bs), (0, k + 1), v6], [], C) z) : Tm pmt (an_sh wM) o_X10_timesOften 137 ([(2, 0), (0, s), (0, bb), (0, n), (0, bs), (0, k), v6], [], C) z := by
  refine wq_ok srt_timesOften (fr := []) (cuts := [102]) (J := fun pc st => (pc = 102 ∧ st = ([(2, 0), (0, s), (0, bb), (0, n), (0, bs), (0, k + 1), v6], [], C))) ?_ 7 137 _ ?_
  · rintro pc st (⟨rfl, rfl⟩)
    exact H
  · refine ⟨⟨by omega, by omega⟩, ?_⟩
    exact ⟨rfl, rfl⟩
theorem to_102 {A : pm_A} {s bb n bs E1 E2 : Int} (hH : toH A s bb n bs E1 E2) (hn : n ≤ 2147483647) : ∀ (m : Nat) (k : Int) (v6 : pm_V) (B : pm_A), (n - k).toNat < m → 0 ≤ k → k ≤ n → toL A B s bb bs E1 E2 k → Tm pmt (an_sh wM) o_X10_timesOften 102 ([(2, 0), (0, s), (0, bb), (0, n), (0, bs), (0, k), v6], [], B) (to_post A s bb n bs E1 E2) := by
  obtain ⟨hA, hs, hb, hbs, hne, hsr, hcs, hcb, xs, xbb, hE, hm, h4⟩ := hH
  have mb := eM_1 hA (r := 1) (by omega) kn1 hb.1 (show bb < 152 by omega)
  intro m
  induction m with
  | zero => intro k v6 B h; omega
  | succ m ih =>
    intro k v6 B hk k0 k1 hL
    obtain ⟨hF, hL2⟩ := hL
    have s4 := fM_0_4 hF.1 (r := 0) (by omega) km0
    have hbS : ∀ r j, inS bb r j → B r j = A r j := fun r j h => hF.2 r j (by unfold inS at *; omega) (by unfold inS at *; omega) (by unfold inS at h; omega) (by unfold inS at h; omega)
    have msB := eM_1 hF.1 (r := 1) (by omega) kn1 hs.1 (show s < 152 by omega)
    have hend : (B 0 4 ≠ 0 ∨ n ≤ k) → to_post A s bb n bs E1 E2 (none, B) := fun hc => ⟨rfl, hF, by
      rcases hL2 with h | h
      · exact Or.inl h
      · have e : k = n := by rcases hc with h5 | h5; exact absurd h.1 h5; omega
        rw [e] at h
        exact Or.inr h⟩
    have hlast : ∀ C v6, k < n → B 0 4 = 0 → tmF B C bs → C 0 4 = 0 → srtd C bs → cfs C bs → (∀ c, cr_co (LSm C bs) c = cr_co (cr_pmz (LSm B s) (LSm B bb)) c) → Cl pmt (an_sh wM) 134 [(2, 0), (0, s), (0, bs)] C (fun r => r.1 = none ∧ Tm pmt (an_sh wM) o_X10_timesOften 137 ([(2, 0), (0, s), (0, bb), (0, n), (0, bs), (0, k), v6], [], r.2) (to_post A s bb n bs E1 E2)) := fun C v6 hkn hB4 hCF hC4 hCs hCc hCo => by
      refine (copy_ex hCF.1 (by omega) hs.1 hs.2 hbs.1 hbs.2).imp ?_
      rintro ⟨r1, D⟩ ⟨q1, q2, q3, q4⟩
      simp only at q1 q2 q3 q4
      obtain ⟨hB1, hB2, hB3, hB4', hB5, hB6⟩ : B 0 4 = 0 ∧ srtd B s ∧ cfs B s ∧ 1 ≤ B 1 s ∧ xb B s (E1 + k * E2) ∧ ∀ x, VS B s x = VS A s x * VS A bb x ^ k := by rcases hL2 with h | h; omega; exact h
      have mD := eM_1 q2 (r := 1) (by omega) kn1 hs.1 (show s < 152 by omega)
      have mC := eM_1 hCF.1 (r := 1) (by omega) kn1 hbs.1 (show bs < 152 by omega)
      have hxp := xb_prod hCc hCo hB5 (xb_same mb.2 hbS xbb)
      have hVb : VS B bb = VS A bb := VS_of (LSm_same mb.2 hbS)
      have hVp : ∀ x, VS C bs x = VS A s x * VS A bb x ^ (k + 1) := fun x => by
        rw [VS_prod hCo x, hVb, hB6 x, cr_zp_add (VS_pos hcb hm.2 x), Rat.zpow_one]; grind
      have hCm : 1 ≤ C 1 bs := by
        refine Classical.byContradiction (fun hneg => ?_)
        let o : cr_Pv 12 := ⟨fun _ => 1, fun _ => by grind⟩
        have h0 : VS C bs o = 0 := by
          unfold VS LSm
          rw [show C 1 bs = 0 by omega]; rfl
        rw [hVp o] at h0
        have := Rat.mul_pos (VS_pos hcs hm.1 o) (Rat.zpow_pos (VS_pos hcb hm.2 o) : 0 < VS A bb o ^ (k + 1))
        grind
      refine ⟨q1, to_137 k0 hkn hn (ih (k + 1) v6 D (by omega) (by omega) (by omega) ⟨⟨q2, fun r j hr hr2 h4 h5 => ?_⟩, Or.inr ⟨?_, ls_srtd q4 mD.1 mC.1 hCs, ls_cfs q4 mD.1 mC.1 hCc, ?_, ?_, fun x => ?_⟩⟩)⟩
      · rw [q3 r j hr, hCF.2 r j hr2 h4 h5]; exact hF.2 r j hr hr2 h4 h5
      · rw [q3 0 4 (by unfold inS; omega)]; exact hC4
      · rw [(ls_xe q4 mD.1 mC.1).1]; exact hCm
      · have := ls_xb q4 mD.1 mC.1 hxp
        rw [show E1 + (k + 1) * E2 = E1 + k * E2 + E2 by rw [Int.add_mul]; omega]
        exact this
      · rw [VS_of q4]; exact hVp x
    refine wq_ok srt_timesOften (fr := []) (cuts := [123]) (J := fun pc st => (pc = 123 ∧ k < n ∧ B 0 4 = 0 ∧ ∃ C, tmF B C bs ∧ (C 0 4 = 1 ∨ (C 0 4 = 0 ∧ srtd C bs ∧ cfs C bs ∧ ∀ c, cr_co (LSm C bs) c = cr_co (cr_pmz (LSm B s) (LSm B bb)) c)) ∧ st = ([(2, 0), (0, s), (0, bb), (0, n), (0, bs), (0, k), v6], [], C))) ?_ 15 102 _ ?_
    · rintro pc st (⟨rfl, hkn, hB4, C, hCF, hC, rfl⟩)
      refine wq_ok srt_timesOften (fr := []) (cuts := [137]) (J := fun pc st => (pc = 137 ∧ (¬ (C 0 4) = 0) ∧ st = ([(2, 0), (0, s), (0, bb), (0, n), (0, bs), (0, k), v6], [], C)) ∨ (pc = 137 ∧ ∃ D, Tm pmt (an_sh wM) o_X10_timesOften 137 ([(2, 0), (0, s), (0, bb), (0, n), (0, bs), (0, k), v6], [], D) (to_post A s bb n bs E1 E2) ∧ st = ([(2, 0), (0, s), (0, bb), (0, n), (0, bs), (0, k), v6], [], D))) ?_ 11 123 _ ?_
      · rintro pc st (⟨rfl, h0, rfl⟩ | ⟨rfl, D, hD, rfl⟩)
        · have hC1 : C 0 4 = 1 := by rcases hC with h | h; exact h; exact absurd h.1 h0
          exact to_137 k0 hkn hn (ih (k + 1) v6 C (by omega) (by omega) (by omega) ⟨⟨hCF.1, fun r j hr hr2 h4 h5 => (hCF.2 r j hr2 h4 h5).trans (hF.2 r j hr hr2 h4 h5)⟩, Or.inl hC1⟩)
        · exact hD
      · refine ⟨oM_0 (by omega) km0 4 rfl, ?_⟩
        refine ⟨fun h0 => ?_, fun h0 => ?_⟩
        · exact Or.inl (⟨rfl, h0, rfl⟩)
        · refine ⟨rM_0 (by omega) km0, ?_⟩
          obtain ⟨hC4, hCs, hCc, hCo⟩ : C 0 4 = 0 ∧ srtd C bs ∧ cfs C bs ∧ ∀ c, cr_co (LSm C bs) c = cr_co (cr_pmz (LSm B s) (LSm B bb)) c := by rcases hC with h | h; omega; exact h
          refine (hlast C v6 hkn hB4 hCF hC4 hCs hCc hCo).imp ?_
          rintro ⟨r1, D⟩ ⟨q1, q2⟩
          simp only at q1 q2
          subst q1
          exact Or.inr (⟨rfl, D, q2, rfl⟩)
    · refine ⟨fun h0 => ?_, fun h0 => ?_⟩
      · exact hend (Or.inr h0)
      · refine ⟨oM_0 (by omega) km0 4 rfl, ?_⟩
        refine ⟨fun h1 => ?_, fun h1 => ?_⟩
        · exact hend (Or.inl h1)
        · refine ⟨rM_0 (by omega) km0, ?_⟩
          have hB1 : B 0 4 = 0 := h1
          obtain ⟨_, hB2, hB3, hB4, hB5, hB6⟩ : B 0 4 = 0 ∧ srtd B s ∧ cfs B s ∧ 1 ≤ B 1 s ∧ xb B s (E1 + k * E2) ∧ ∀ x, VS B s x = VS A s x * VS A bb x ^ k := by rcases hL2 with h | h; omega; exact h
          have hk1 := Int.mul_le_mul_of_nonneg_right (show k + 1 ≤ n by omega) hE.2.1
          have hk2 := Int.mul_nonneg k0 hE.2.1
          rw [Int.add_mul] at hk1
          refine (times_ex (to := bs) (a := s) (b := bb) (E1 := E1 + k * E2) (E2 := E2) ⟨hF.1, hbs, hs, hb, ⟨by omega, by omega⟩, hB3, cfs_same mb.2 hbS hcb, hB5, xb_same mb.2 hbS xbb, by omega, by omega, by omega⟩ hB1).imp ?_
          rintro ⟨r1, C⟩ ⟨q1, q2, q3⟩
          simp only at q1 q2 q3
          subst q1
          exact ⟨rfl, h0, h1, C, q2, q3, rfl⟩
theorem timesOften_ex {A : pm_A} {s bb n bs E1 E2 : Int} (hH : toH A s bb n bs E1 E2) (hn : n ≤ 2147483647) : Cl pmt (an_sh wM) 197 [(2, 0), (0, s), (0, bb), (0, n), (0, bs)] A (to_post A s bb n bs E1 E2) := by
  have hH0 := hH
  obtain ⟨hA, hs, hb, hbs, hne, hsr, hcs, hcb, xs, xbb, hE, hm, h4⟩ := hH
  have mb := eM_1 hA (r := 1) (by omega) kn1 hb.1 (show bb < 152 by omega)
  have c1 := pM_1 hA
  have c2 := pM_2 hA
  have hL : Tm pmt (an_sh wM) o_X10_timesOften 102 ([(2, 0), (0, s), (0, bb), (0, n), (0, bs), (0, 0), (9, 0)], [], A) (to_post A s bb n bs E1 E2) := to_102 hH0 hn _ 0 _ A (Nat.lt_succ_self _) (by omega) (by omega) ⟨⟨hA, fun _ _ _ _ _ _ => rfl⟩, Or.inr ⟨h4, hsr, hcs, hm.1, by rw [Int.zero_mul, Int.add_zero]; exact xs, fun x => by rw [Rat.zpow_zero, Rat.mul_one]⟩⟩
  refine Cl.of (Nat.le_of_ble_eq_true rfl) ?_
  refine wq_ok (full := o_X10_timesOften) srt_timesOften (fr := []) (cuts := [28, 102]) (J := fun pc st => (pc = 102 ∧ (¬ (A (A 0 1) bb) = 1) ∧ st = ([(2, 0), (0, s), (0, bb), (0, n), (0, bs), (0, 0), (9, 0)], [], A)) ∨ (pc = 102 ∧ ((A (A 0 1) bb) = 1) ∧ (1 < (A (A 0 2) (200 * bb))) ∧ st = ([(2, 0), (0, s), (0, bb), (0, n), (0, bs), (0, 0), (9, 0)], [], A)) ∨ (pc = 28 ∧ ((A (A 0 1) bb) = 1) ∧ ((A (A 0 2) (200 * bb)) = 1) ∧ st = ([(2, 0), (0, s), (0, bb), (0, n), (0, bs), (0, 0), (9, 0)], [], A)) ∨ (pc = 102 ∧ ((A (A 0 1) bb) = 1) ∧ ((A (A 0 2) (200 * bb)) < 1) ∧ st = ([(2, 0), (0, s), (0, bb), (0, n), (0, bs), (0, 0), (9, 0)], [], A))) ?_ 22 0 _ ?_
  · rintro pc st (⟨rfl, h0, rfl⟩ | ⟨rfl, h0, h1, rfl⟩ | ⟨rfl, h0, h1, rfl⟩ | ⟨rfl, h0, h1, rfl⟩)
    · exact hL
    · exact hL
    · rw [c1] at h0
      rw [c2] at h1
      exact to_28 hH0 h0 h1 _ 0 _ A (Nat.lt_succ_self _) (by omega) (by omega) ⟨hA, fun _ _ _ => rfl, fun j => ⟨rfl, rfl⟩, fun q v q0 q1 v0 v1 => by omega, fun q v q0 q1 v0 v1 => rfl⟩
    · exact hL
  · refine ⟨oM_0 (by omega) km0 1 rfl, ?_⟩
    refine ⟨aM_1 (r := A 0 1) (by rw [c1]; omega) (by rw [c1]; exact kn1) (by omega) (by omega), ?_⟩
    have e1 : A (A 0 1) bb = A 1 bb := by rw [c1]
    refine ⟨fun h0 => ?_, fun h0 => ?_⟩
    · exact Or.inl (⟨rfl, h0, rfl⟩)
    · refine ⟨oM_0 (by omega) km0 2 rfl, ?_⟩
      refine ⟨⟨by omega, by omega⟩, ?_⟩
      refine ⟨aM_2 (r := A 0 2) (by rw [c2]; omega) (by rw [c2]; exact kn2) (by omega) (by omega), ?_⟩
      have e2 : A (A 0 2) (200 * bb) = A 2 (200 * bb) := by rw [c2]
      refine ⟨fun h1 => ?_, fun h1 => ?_, fun h1 => ?_⟩
      · refine ⟨fun _ => ?_, fun hh => absurd hh (by decide)⟩
        exact Or.inr (Or.inl (⟨rfl, h0, h1, rfl⟩))
      · refine ⟨fun hh => absurd hh (by decide), fun _ => ?_⟩
        exact Or.inr (Or.inr (Or.inl (⟨rfl, h0, h1, rfl⟩)))
      · refine ⟨fun _ => ?_, fun hh => absurd hh (by decide)⟩
        exact Or.inr (Or.inr (Or.inr (⟨rfl, h0, h1, rfl⟩)))
theorem srt_heldSlot : pm_srt o_X10_heldSlot = true := by decide +kernel
def hs_post (A : pm_A) (i : Int) (r : pm_R) : Prop := r.1 = some (0, 46) ∧ gH wM r.2 ∧ (∀ q j, ¬ inS 46 q j → r.2 q j = A q j) ∧ LSm r.2 46 = [(1, fun v => if (v.1 : Int) = i then 1 else 0)]
theorem heldSlot_ex {A : pm_A} {i : Int} (hA : gH wM A) (i0 : 0 ≤ i) (i1 : i ≤ 11) : Cl pmt (an_sh wM) 151 [(2, 0), (0, i)] A (hs_post A i) := by
  refine Cl.of (Nat.le_of_ble_eq_true rfl) ?_
  refine wq_ok (full := o_X10_heldSlot) srt_heldSlot (fr := []) (cuts := [6]) (J := fun pc st => (pc = 6 ∧ ∃ C, gH wM C ∧ (∀ q j, ¬ inS 46 q j → C q j = A q j) ∧ LSm C 46 = [(1, fun _ => 0)] ∧ st = ([(2, 0), (0, i)], [], C))) ?_ 7 0 _ ?_
  · rintro pc st (⟨rfl, C, q2, q3, q4, rfl⟩)
    have c3 := pM_3 q2
    have mC := eM_1 q2 (r := 1) (by omega) kn1 (j := 46) (by omega) (by omega)
    have hm : C 1 46 = 1 := by
      have := congrArg List.length q4
      rw [LSm_len] at this
      simp at this
      omega
    have h46 : ∀ v : Fin 12, C 3 (110400 + (v.1 : Int)) = 0 ∧ C 2 9200 = 1 := fun v => by
      have hh := q4
      unfold LSm at hh
      rw [hm] at hh
      have hh2 : [(C 2 (200 * 46 + ((0 : Nat) : Int)), xe C 46 ((0 : Nat) : Int))] = [((1 : Int), fun _ : Fin 12 => (0 : Int))] := hh
      have hh3 := List.cons.inj hh2
      have h4 := congrArg Prod.fst hh3.1
      have h5 := congrFun (congrArg Prod.snd hh3.1) v
      have h6 : C 3 (12 * (200 * 46 + ((0 : Nat) : Int)) + (v.1 : Int)) = 0 := h5
      have h7 : C 2 (200 * 46 + ((0 : Nat) : Int)) = 1 := h4
      rw [show 12 * (200 * 46 + ((0 : Nat) : Int)) + (v.1 : Int) = 110400 + (v.1 : Int) by omega] at h6
      exact ⟨h6, h7⟩
    have hfin : hs_post A i (some (0, 46), pm_upd C (C 0 3) (110400 + i) 1) := by
      rw [c3]
      refine ⟨rfl, uM_3 q2 kn3 (by omega) (by omega), fun q j hq => ?_, ?_⟩
      · show pm_upd C 3 (110400 + i) 1 q j = A q j
        rw [upd_o (fun e => hq (by unfold inS; omega))]; exact q3 q j hq
      · show LSm (pm_upd C 3 (110400 + i) 1) 46 = _
        unfold LSm
        rw [show pm_upd C 3 (110400 + i) 1 1 46 = 1 from (upd_o (by omega)).trans hm]
        show [(pm_upd C 3 (110400 + i) 1 2 (200 * 46 + ((0 : Nat) : Int)), xe (pm_upd C 3 (110400 + i) 1) 46 ((0 : Nat) : Int))] = _
        rw [show pm_upd C 3 (110400 + i) 1 2 (200 * 46 + ((0 : Nat) : Int)) = 1 from (upd_o (by omega)).trans (h46 0).2]
        refine congrArg (fun z => [((1 : Int), z)]) (funext fun v => ?_)
        show pm_upd C 3 (110400 + i) 1 3 (12 * (200 * 46 + ((0 : Nat) : Int)) + (v.1 : Int)) = if (v.1 : Int) = i then 1 else 0
        rw [show 12 * (200 * 46 + ((0 : Nat) : Int)) + (v.1 : Int) = 110400 + (v.1 : Int) by omega]
        by_cases hv : (v.1 : Int) = i
        · rw [if_pos hv, hv, upd_at]
        · rw [if_neg hv, upd_o (by omega)]; exact (h46 v).1
    refine wq_ok srt_heldSlot (fr := []) (cuts := []) (J := fun _ _ => False) ?_ 13 6 _ ?_
    · intro pc st h; exact h.elim
    · refine ⟨oM_0 (by omega) km0 3 rfl, ?_⟩
      refine ⟨⟨by omega, by omega⟩, ?_⟩
      refine ⟨tM_3 (r := C 0 3) (by rw [c3]; omega) (by rw [c3]; exact kn3) (by omega) (by omega) rfl, ?_⟩
      exact ⟨rfl, hfin⟩
  · refine ⟨rM_0 (by omega) km0, ?_⟩
    refine (one_ex (p := 46) hA (by omega) (by omega)).imp ?_
    rintro ⟨r1, C⟩ ⟨q1, q2, q3, q4⟩
    simp only at q1 q2 q3 q4
    subst q1
    exact ⟨rfl, C, q2, q3, q4, rfl⟩
