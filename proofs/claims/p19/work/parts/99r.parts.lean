section
/-! parts -/
theorem shr_of {A : pm_A} {s : Int} (h1 : srtd A s) (h2 : cfs A s) : cr_Shr (LSm A s) := by
  refine ⟨?_, pos_LSm h2⟩
  unfold LSm
  rw [List.pairwise_map]
  refine List.Pairwise.imp_of_mem ?_ (List.pairwise_lt_range (n := (A 1 s).toNat))
  intro i j hi hj hij
  exact h1 i j (by omega) (by omega) (by have := List.mem_range.1 hj; omega)
theorem LSm_get {A : pm_A} {s : Int} (q : Nat) (h : q < (LSm A s).length) : (LSm A s)[q] = fa A s q := by
  have : ∀ (l : cr_Pl_ 12) (e : l = (List.range (A 1 s).toNat).map (fa A s)) (h : q < l.length), l[q] = fa A s q := by
    intro l e h
    subst e
    rw [List.getElem_map, List.getElem_range]
  exact this _ rfl h
theorem srtd_of {A : pm_A} {s : Int} (h : cr_Shr (LSm A s)) : srtd A s := by
  intro q q' q0 hq hq'
  have hl := LSm_len A s
  have := (List.pairwise_iff_getElem.1 h.1) q.toNat q'.toNat (by omega) (by omega) (by omega)
  rw [LSm_get, LSm_get] at this
  have h2 : cr_Gt (xe A s ((q.toNat : Nat) : Int)) (xe A s ((q'.toNat : Nat) : Int)) := this
  rw [Int.toNat_of_nonneg q0, Int.toNat_of_nonneg (by omega)] at h2
  exact h2
theorem pl_hit {B : pm_A} {a t : Int} (h : cr_Shr (LSm B a)) (hc : cr_co (LSm B a) (xp B) ≠ 0) (ht : ptI B a t) : t < B 1 a ∧ xe B a t = xp B := by
  obtain ⟨y, hy, ey⟩ := cr_co_mem hc
  obtain ⟨q, q0, q1, rfl⟩ := mem_LSm hy
  have ey : xe B a q = xp B := ey
  obtain ⟨⟨t0, t1⟩, t2, t3⟩ := ht
  have hqt : t ≤ q := by
    refine Classical.byContradiction (fun hn => ?_)
    have := t2 q q0 (by omega)
    rw [ey] at this
    exact cr_Gt.irrefl _ this
  by_cases e : q = t
  · rw [← e]; exact ⟨q1, ey⟩
  · exfalso
    have h1 := srtd_of h t q t0 (by omega) q1
    rw [ey] at h1
    exact t3 t (by omega) (by omega) h1
theorem lessAll_snoc {r y : Int × cr_Xp 12} : ∀ (l N : cr_Pl_ 12), cr_lessAll N r (l ++ [y]) = cr_less (cr_lessAll N r l) (fun i => r.2 i + y.2 i) (r.1 * y.1)
  | [], N => rfl
  | z :: l, N => lessAll_snoc l _
theorem srt_parts : pm_srt o_X10_parts = true := by decide +kernel
def paF (A B : pm_A) (to a : Int) : Prop := gH wM B ∧ ∀ r j, ¬ inS to r j → ¬ inS a r j → r ≠ 4 → B r j = A r j
def paH (A : pm_A) (to a b EN : Int) (Q : cr_Pl_ 12) : Prop := gH wM A ∧ (0 ≤ to ∧ to ≤ 151) ∧ (0 ≤ a ∧ a ≤ 151) ∧ (0 ≤ b ∧ b ≤ 151) ∧ (to ≠ a ∧ to ≠ b ∧ a ≠ b) ∧ (srtd A b ∧ cfs A b ∧ 1 ≤ A 1 b ∧ xb A b 1810) ∧ (srtd A a ∧ cfs A a ∧ xb A a EN) ∧ (0 ≤ EN ∧ EN ≤ 2147000000) ∧ cr_Shr Q ∧ (∀ c, cr_co (LSm A a) c = cr_co (cr_pmz Q (LSm A b)) c) ∧ Q.length ≤ 200
theorem pa_bnd {A B : pm_A} {a EN : Int} (hcf : cfs A a) (hs : srtd A a) (hx : xb A a EN) (h : cr_Shr (LSm B a)) (hle : ∀ c, cr_co (LSm B a) c ≤ cr_co (LSm A a) c) : cfs B a ∧ xb B a EN := by
  have key : ∀ q : Int, 0 ≤ q → q < B 1 a → 0 < B 2 (200 * a + q) ∧ ∃ i : Int, 0 ≤ i ∧ i < A 1 a ∧ xe A a i = xe B a q ∧ B 2 (200 * a + q) ≤ A 2 (200 * a + i) := fun q q0 q1 => by
    have hm := in_LSm (A := B) (p := a) q0 q1
    have hp : 0 < B 2 (200 * a + q) := h.2 _ hm
    have h1 : cr_co (LSm B a) (xe B a q) = B 2 (200 * a + q) := h.at hm
    have h2 := hle (xe B a q)
    obtain ⟨y, hy, ey⟩ := cr_co_mem (l := LSm A a) (a := xe B a q) (by omega)
    obtain ⟨i, i0, i1, rfl⟩ := mem_LSm hy
    have ey : xe A a i = xe B a q := ey
    have h3 : cr_co (LSm A a) (xe A a i) = A 2 (200 * a + i) := (shr_of hs hcf).at (in_LSm i0 i1)
    rw [ey] at h3
    exact ⟨hp, i, i0, i1, ey, by omega⟩
  constructor
  · intro q q0 q1
    obtain ⟨h1, i, i0, i1, _, h2⟩ := key q q0 q1
    have := hcf i i0 i1
    omega
  · intro q v q0 q1 v0 v1
    obtain ⟨h1, i, i0, i1, e, h2⟩ := key q q0 q1
    have h3 := hx i v i0 i1 v0 v1
    have e2 := congrFun e ⟨v.toNat, by omega⟩
    have e3 : A 3 (12 * (200 * a + i) + ((v.toNat : Nat) : Int)) = B 3 (12 * (200 * a + q) + ((v.toNat : Nat) : Int)) := e2
    rw [Int.toNat_of_nonneg v0] at e3
    omega
theorem pa_189 {A : pm_A} {to a b t u : Int} {r : Int × cr_Xp 12} (hto : 0 ≤ to ∧ to ≤ 151) (hb : 0 ≤ b ∧ b ≤ 151) (ht : 0 ≤ t ∧ t ≤ 199) (hu : 0 ≤ u ∧ u ≤ 199) {w4 w5 w6 w7 : pm_V} {z : pm_R → Prop} {D : pm_A} (hD : gH wM D)
    (h1 : ∀ v : Int, 0 ≤ v → v < 12 → -2147483648 ≤ D 3 (12 * (200 * to + t) + v) + D 3 (12 * (200 * b + u) + v) ∧ D 3 (12 * (200 * to + t) + v) + D 3 (12 * (200 * b + u) + v) ≤ 2147483647)
    (H : ∀ C v10, gH wM C → (∀ q j, q ≠ 4 → C q j = D q j) → (∀ v : Int, 0 ≤ v → v < 12 → C 4 v = D 3 (12 * (200 * to + t) + v) + D 3 (12 * (200 * b + u) + v)) → Tm pmt (an_sh wM) o_X10_parts 248 ([(2, 0), (0, to), (0, a), (0, b), w4, w5, w6, w7, (0, t), (0, u), v10], [], C) z) : ∀ (m : Nat) (v : Int) (B : pm_A), (12 - v).toNat < m → 0 ≤ v → v ≤ 12 → gH wM B → (∀ q j, q ≠ 4 → B q j = D q j) → (∀ i : Int, 0 ≤ i → i < v → B 4 i = D 3 (12 * (200 * to + t) + i) + D 3 (12 * (200 * b + u) + i)) → Tm pmt (an_sh wM) o_X10_parts 189 ([(2, 0), (0, to), (0, a), (0, b), w4, w5, w6, w7, (0, t), (0, u), (0, v)], [], B) z := by
  intro m
  induction m with
  | zero => intro v B h; omega
  | succ m ih =>
    intro v B hm v0 v1 hB hB2 hB4
    have c3 := pM_3 hB
    have c6 := pM_6 hB
    have k1 := hB2 3 (12 * (200 * to + t) + v) (by omega)
    have k2 := hB2 3 (12 * (200 * b + u) + v) (by omega)
    have k3 := h1 v v0
    refine wq_ok srt_parts (fr := []) (cuts := [189, 248]) (J := fun pc st => (pc = 248 ∧ (12 ≤ v) ∧ st = ([(2, 0), (0, to), (0, a), (0, b), w4, w5, w6, w7, (0, t), (0, u), (0, v)], [], B)) ∨ (pc = 189 ∧ (v < 12) ∧ st = ([(2, 0), (0, to), (0, a), (0, b), w4, w5, w6, w7, (0, t), (0, u), (0, v + 1)], [], pm_upd B (B 0 6) v ((B (B 0 3) ((12 * ((200 * to) + t)) + v)) + (B (B 0 3) ((12 * ((200 * b) + u)) + v)))))) ?_ 39 189 _ ?_
    · rintro pc st (⟨rfl, h0, rfl⟩ | ⟨rfl, h0, rfl⟩)
      · exact H B _ hB hB2 (fun i i0 i1 => hB4 i i0 (by omega))
      · rw [c3, c6]
        have k4 := k3 h0
        refine ih (v + 1) _ (by omega) (by omega) (by omega) (uM_4 hB kn4 (by omega) (by omega)) (fun q j hq => by rw [upd_o (by omega)]; exact hB2 q j hq) (fun i i0 i1 => ?_)
        by_cases hi : i = v
        · rw [hi, upd_at, k1, k2]
        · rw [upd_o (by omega)]; exact hB4 i i0 (by omega)
    · refine ⟨fun h0 => ?_, fun h0 => ?_⟩
      · exact Or.inl (⟨rfl, h0, rfl⟩)
      · refine ⟨oM_0 (by omega) km0 6 rfl, ?_⟩
        refine ⟨oM_0 (by omega) km0 3 rfl, ?_⟩
        refine ⟨⟨by omega, by omega⟩, ?_⟩
        refine ⟨⟨by omega, by omega⟩, ?_⟩
        refine ⟨⟨by omega, by omega⟩, ?_⟩
        refine ⟨⟨by omega, by omega⟩, ?_⟩
        refine ⟨aM_3 (r := B 0 3) (by rw [c3]; omega) (by rw [c3]; exact kn3) (by omega) (by omega), ?_⟩
        have e1 : B (B 0 3) ((12 * ((200 * to) + t)) + v) = B 3 ((12 * ((200 * to) + t)) + v) := by rw [c3]
        refine ⟨oM_0 (by omega) km0 3 rfl, ?_⟩
        refine ⟨⟨by omega, by omega⟩, ?_⟩
        refine ⟨⟨by omega, by omega⟩, ?_⟩
        refine ⟨⟨by omega, by omega⟩, ?_⟩
        refine ⟨⟨by omega, by omega⟩, ?_⟩
        refine ⟨aM_3 (r := B 0 3) (by rw [c3]; omega) (by rw [c3]; exact kn3) (by omega) (by omega), ?_⟩
        have e2 : B (B 0 3) ((12 * ((200 * b) + u)) + v) = B 3 ((12 * ((200 * b) + u)) + v) := by rw [c3]
        refine ⟨⟨by omega, by omega⟩, ?_⟩
        refine ⟨tM_4 (r := B 0 6) (by rw [c6]; omega) (by rw [c6]; exact kn4) (by omega) (by omega) rfl, ?_⟩
        refine ⟨⟨by omega, by omega⟩, ?_⟩
        exact Or.inr (⟨rfl, h0, rfl⟩)
def paJ (A D B : pm_A) (to a b : Int) (r : Int × cr_Xp 12) (u : Int) : Prop := paF A B to a ∧ LSm B to = LSm D to ∧ B 1 to = D 1 to ∧ (∀ q j, inS to q j → B q j = D q j) ∧ LSm B a = cr_lessAll (LSm D a) r (lsf u.toNat (fa A b))
theorem pa_175 {A D : pm_A} {to a b EN t : Int} {Q C0 : cr_Pl_ 12} {r : Int × cr_Xp 12} (hH : paH A to a b EN Q) (ht : 0 ≤ t ∧ t ≤ 199) (htm : t < D 1 to) (hDF : paF A D to a) (hDs : cr_Shr (LSm D a)) (hr : 0 < r.1) (hC0 : ∀ y ∈ C0, 0 < y.1) (hco : ∀ c, cr_co (LSm D a) c = cr_co C0 c + cr_co (cr_shz r (LSm A b)) c) (hle : ∀ c, cr_co (LSm D a) c ≤ cr_co (LSm A a) c) (hrt : xe D to t = r.2) (hrx : ∀ v : Fin 12, -2147010000 ≤ r.2 v ∧ r.2 v ≤ 2147010000) {w4 w5 : pm_V} {z : pm_R → Prop}
    (H : ∀ C v9 v10, paF A C to a → LSm C to = LSm D to → cr_Shr (LSm C a) → (∀ c, cr_co (LSm C a) c = cr_co C0 c) → Tm pmt (an_sh wM) o_X10_parts 17 ([(2, 0), (0, to), (0, a), (0, b), w4, w5, (1, r.1), (9, 0), (0, t), v9, v10], [], C) z) : ∀ (m : Nat) (u : Int) (v10 : pm_V) (B : pm_A), (A 1 b - u).toNat < m → 0 ≤ u → u ≤ A 1 b → paJ A D B to a b r u → Tm pmt (an_sh wM) o_X10_parts 175 ([(2, 0), (0, to), (0, a), (0, b), w4, w5, (1, r.1), (9, 0), (0, t), (0, u), v10], [], B) z := by
  obtain ⟨hA, hto, ha, hb, hne, ⟨bs, bc, bm, bx⟩, ⟨as_, ac, ax⟩, hEN, hQ, hQc, hQl⟩ := hH
  have mb := eM_1 hA (r := 1) (by omega) kn1 hb.1 (show b < 152 by omega)
  have hLb := pos_LSm bc
  have pre : ∀ u : Nat, (u : Int) ≤ A 1 b → ∃ rest : cr_Pl_ 12, LSm A b = lsf u (fa A b) ++ rest ∧ (∀ y ∈ rest, y ∈ LSm A b) ∧ ((u : Int) < A 1 b → ∃ rest2, rest = fa A b u :: rest2) := fun u hu => by
    refine ⟨(LSm A b).drop u, ?_, fun y hy => List.mem_of_mem_drop hy, fun hu2 => ⟨(LSm A b).drop (u + 1), ?_⟩⟩
    · have h1 : lsf u (fa A b) = (LSm A b).take u := by
        rw [LSm_fa]
        unfold lsf
        rw [← List.map_take, List.take_range, Nat.min_eq_left (by omega)]
      rw [h1, List.take_append_drop]
    · have hl := LSm_len A b
      rw [List.drop_eq_getElem_cons (show u < (LSm A b).length by omega), LSm_get]
  have inv : ∀ u : Nat, (u : Int) ≤ A 1 b → cr_Shr (cr_lessAll (LSm D a) r (lsf u (fa A b))) ∧ (∀ c, cr_co (cr_lessAll (LSm D a) r (lsf u (fa A b))) c ≤ cr_co (LSm A a) c) ∧ ((u : Int) = A 1 b → ∀ c, cr_co (cr_lessAll (LSm D a) r (lsf u (fa A b))) c = cr_co C0 c) ∧ ((u : Int) < A 1 b → r.1 * (fa A b u).1 ≤ cr_co (cr_lessAll (LSm D a) r (lsf u (fa A b))) (fun i => r.2 i + (fa A b u).2 i)) := fun u hu => by
    obtain ⟨rest, e1, e2, e3⟩ := pre u hu
    have hrest : ∀ y ∈ rest, 0 < y.1 := fun y hy => hLb y (e2 y hy)
    have hsr : ∀ y ∈ cr_shz r rest, 0 < y.1 := fun y hy => by
      obtain ⟨w, hw, rfl⟩ := cr_mem_shz hy
      exact Int.mul_pos hr (hrest w hw)
    have hCp : ∀ y ∈ C0 ++ cr_shz r rest, 0 < y.1 := fun y hy => by
      rcases List.mem_append.1 hy with h | h
      · exact hC0 y h
      · exact hsr y h
    have hpre : ∀ y ∈ lsf u (fa A b), 0 < y.1 := fun y hy => hLb y (by rw [e1]; simp [hy])
    have hsplit : cr_shz r (LSm A b) = cr_shz r (lsf u (fa A b)) ++ cr_shz r rest := by rw [e1]; unfold cr_shz; rw [List.map_append]
    obtain ⟨g1, g2⟩ := cr_lessAll_shr hr hCp hpre hDs (fun c => by rw [hco c, hsplit, cr_co_app, cr_co_app]; omega)
    refine ⟨g1, fun c => ?_, fun hu2 c => ?_, fun hu2 => ?_⟩
    · rw [g2 c]
      have h1 := hle c
      rw [hco c, hsplit, cr_co_app] at h1
      have h2 := cr_Shr.nonneg (l := cr_shz r (lsf u (fa A b))) (fun y hy => by
        obtain ⟨w, hw, rfl⟩ := cr_mem_shz hy
        exact Int.mul_pos hr (hpre w hw)) c
      rw [cr_co_app]; omega
    · rw [g2 c, cr_co_app]
      have : rest = [] := by
        have hl := LSm_len A b
        rw [e1, List.length_append] at hl
        unfold lsf at hl
        rw [List.length_map, List.length_range] at hl
        exact List.length_eq_zero_iff.1 (by omega)
      rw [this]
      show _ + (0 : Int) = _
      omega
    · obtain ⟨rest2, e4⟩ := e3 hu2
      rw [g2, cr_co_app, e4]
      show _ ≤ _ + cr_co ((r.1 * (fa A b u).1, fun i => r.2 i + (fa A b u).2 i) :: cr_shz r rest2) _
      rw [cr_co_cons, if_pos rfl]
      have h1 := cr_Shr.nonneg hC0 (fun i => r.2 i + (fa A b u).2 i)
      have h2 := cr_Shr.nonneg (l := cr_shz r rest2) (fun y hy => hsr y (by rw [e4]; exact List.mem_cons_of_mem _ hy)) (fun i => r.2 i + (fa A b u).2 i)
      show r.1 * (fa A b u).1 ≤ _ + (r.1 * (fa A b u).1 + _)
      omega
  intro m
  induction m with
  | zero => intro u v10 B h; omega
  | succ m ih =>
    intro u v10 B hm u0 u1 hJ
    obtain ⟨hF, j1, j2, j3, j4⟩ := hJ
    have c1 := pM_1 hF.1
    have hbS : ∀ q j, inS b q j → B q j = A q j := fun q j h => hF.2 q j (by unfold inS at *; omega) (by unfold inS at *; omega) (by unfold inS at h; omega)
    have mB : B 1 b = A 1 b := hbS 1 b (Or.inl ⟨rfl, rfl⟩)
    obtain ⟨i1, i2, i3, i4⟩ := inv u.toNat (by omega)
    rw [Int.toNat_of_nonneg u0] at i3 i4
    refine wq_ok srt_parts (fr := []) (cuts := [17, 189]) (J := fun pc st => (pc = 17 ∧ ((B (B 0 1) b) ≤ u) ∧ st = ([(2, 0), (0, to), (0, a), (0, b), w4, w5, (1, r.1), (9, 0), (0, t), (0, u), v10], [], B)) ∨ (pc = 189 ∧ (u < (B (B 0 1) b)) ∧ st = ([(2, 0), (0, to), (0, a), (0, b), w4, w5, (1, r.1), (9, 0), (0, t), (0, u), (0, 0)], [], B))) ?_ 13 175 _ ?_
    · rintro pc st (⟨rfl, h0, rfl⟩ | ⟨rfl, h0, rfl⟩)
      · rw [c1, mB] at h0
        have hu : u = A 1 b := by omega
        exact H B _ _ hF j1 (by rw [j4]; exact i1) (fun c => by rw [j4]; exact i3 hu c)
      · rw [c1, mB] at h0
        have i5 := i4 h0
        have hpos : 0 < r.1 * (fa A b u.toNat).1 := Int.mul_pos hr (hLb _ (by have := in_LSm (A := A) (p := b) u0 h0; rw [show u = ((u.toNat : Nat) : Int) by omega] at this; exact this))
        have hxb : ∀ v : Int, 0 ≤ v → v < 12 → B 3 (12 * (200 * to + t) + v) = r.2 ⟨v.toNat % 12, by omega⟩ := fun v v0 v1 => by
          have h1 := congrFun hrt ⟨v.toNat % 12, by omega⟩
          have h2 : D 3 (12 * (200 * to + t) + ((v.toNat % 12 : Nat) : Int)) = r.2 ⟨v.toNat % 12, by omega⟩ := h1
          rw [← h2, j3 3 _ (by unfold inS; omega)]
          congr 1
          omega
        refine pa_189 (A := A) (r := r) hto hb ht ⟨u0, by omega⟩ hF.1 (fun v v0 v1 => ?_) (fun C v10 hC hC2 hC4 => ?_) _ 0 B (Nat.lt_succ_self _) (by omega) (by omega) hF.1 (fun _ _ _ => rfl) (fun i i0 i1 => by omega)
        · rw [hxb v v0 v1, hbS 3 _ (by unfold inS; omega)]
          have := bx u v u0 h0 v0 v1
          have := hrx ⟨v.toNat % 12, by omega⟩
          omega
        · have ma := eM_1 hF.1 (r := 1) (by omega) kn1 ha.1 (show a < 152 by omega)
          have hLC : LSm C a = LSm B a := LSm_same ma.2 (fun q j hq => hC2 q j (by unfold inS at hq; omega))
          have hCs : cr_Shr (LSm C a) := by rw [hLC, j4]; exact i1
          have hCb : ∀ q j, inS b q j → C q j = A q j := fun q j hq => (hC2 q j (by unfold inS at hq; omega)).trans (hbS q j hq)
          have hCc := pa_bnd ac as_ ax hCs (fun c => by rw [hLC, j4]; exact i2 c)
          have hxp : xp C = fun i => r.2 i + (fa A b u.toNat).2 i := funext fun v => by
            have h1 := hC4 v.1 (by omega) (by have := v.2; omega)
            have h2 := hxb v.1 (by omega) (by have := v.2; omega)
            show C 4 (v.1 : Int) = r.2 v + A 3 (12 * (200 * b + ((u.toNat : Nat) : Int)) + (v.1 : Int))
            have hv12 : (⟨((v.1 : Nat) : Int).toNat % 12, by omega⟩ : Fin 12) = v := Fin.ext (by show ((v.1 : Nat) : Int).toNat % 12 = v.1; have := v.2; omega)
            rw [h1, h2, hv12, hbS 3 _ (by unfold inS; have := v.2; omega), Int.toNat_of_nonneg u0]
          refine wq_ok srt_parts (fr := []) (cuts := [255]) (J := fun pc st => (pc = 255 ∧ ∃ p, ptI C a p ∧ st = ([(2, 0), (0, to), (0, a), (0, b), w4, w5, (1, r.1), (9, 0), (0, t), (0, u), v10], [(0, p), (0, a), (2, 0)], C))) ?_ 9 248 _ ?_
          · rintro pc st (⟨rfl, p, hp, rfl⟩)
            have hhit := pl_hit hCs (by rw [hxp, hLC, j4]; omega) hp
            have hval : r.1 * (fa A b u.toNat).1 ≤ C 2 (200 * a + p) := by
              have h1 : cr_co (LSm C a) (xe C a p) = C 2 (200 * a + p) := hCs.at (in_LSm hp.1.1 hhit.1)
              rw [hhit.2, hxp, hLC, j4] at h1
              omega
            have hcv := hCc.1 p hp.1.1 hhit.1
            have c2 := pM_2 hC
            refine wq_ok srt_parts (fr := []) (cuts := [274]) (J := fun pc st => (pc = 274 ∧ ∃ E, gH wM E ∧ (∀ q j, ¬ inS a q j → E q j = C q j) ∧ LSm E a = cr_less (LSm C a) (xe C a p) (r.1 * (fa A b u.toNat).1) ∧ st = ([(2, 0), (0, to), (0, a), (0, b), w4, w5, (1, r.1), (9, 0), (0, t), (0, u), v10], [], E))) ?_ 15 255 _ ?_
            · rintro pc st (⟨rfl, E, q2, q3, q4, rfl⟩)
              refine wq_ok srt_parts (fr := []) (cuts := [175]) (J := fun pc st => (pc = 175 ∧ st = ([(2, 0), (0, to), (0, a), (0, b), w4, w5, (1, r.1), (9, 0), (0, t), (0, u + 1), v10], [], E))) ?_ 7 274 _ ?_
              · rintro pc st (⟨rfl, rfl⟩)
                refine ih (u + 1) _ E (by omega) (by omega) (by omega) ⟨⟨q2, fun q j a1 a2 a3 => ?_⟩, ?_, ?_, fun q j hq => ?_, ?_⟩
                · rw [q3 q j a2, hC2 q j a3]; exact hF.2 q j a1 a2 a3
                · rw [← j1]; exact LSm_same (by have := eM_1 hF.1 (r := 1) (by omega) kn1 hto.1 (show to < 152 by omega); exact this.2) (fun q j hq => by rw [q3 q j (by unfold inS at *; omega), hC2 q j (by unfold inS at hq; omega)])
                · rw [q3 1 to (by unfold inS; omega), hC2 1 to (by omega)]; exact j2
                · rw [q3 q j (by unfold inS at *; omega), hC2 q j (by unfold inS at hq; omega)]; exact j3 q j hq
                · rw [q4, hLC, j4, hhit.2, hxp, show (u + 1).toNat = u.toNat + 1 by omega, lsf_succ, lessAll_snoc]
              · refine ⟨⟨by omega, by omega⟩, ?_⟩
                exact ⟨rfl, rfl⟩
            · refine ⟨oM_0 (by omega) km0 2 rfl, ?_⟩
              refine ⟨⟨by omega, by omega⟩, ?_⟩
              refine ⟨⟨by omega, by omega⟩, ?_⟩
              refine ⟨aM_2 (r := C 0 2) (by rw [c2]; omega) (by rw [c2]; exact kn2) (by omega) (by omega), ?_⟩
              have e1 : C (C 0 2) ((200 * b) + u) = C 2 ((200 * b) + u) := by rw [c2]
              refine ⟨(by have hn : r.1 * C (C 0 2) (200 * b + u) = r.1 * (fa A b u.toNat).1 := (by rw [c2, hCb 2 _ (by unfold inS; omega)]; show _ = r.1 * A 2 (200 * b + ((u.toNat : Nat) : Int)); rw [Int.toNat_of_nonneg u0]); rw [hn]; exact ⟨by omega, by omega⟩), ?_⟩
              refine ⟨rM_0 (by omega) km0, ?_⟩
              have hn : r.1 * C (C 0 2) (200 * b + u) = r.1 * (fa A b u.toNat).1 := by rw [c2, hCb 2 _ (by unfold inS; omega)]; show _ = r.1 * A 2 (200 * b + ((u.toNat : Nat) : Int)); rw [Int.toNat_of_nonneg u0]
              show Cl pmt (an_sh wM) 164 [(2, 0), (0, a), (0, p), (1, r.1 * C (C 0 2) (200 * b + u))] C _
              rw [hn]
              refine (less_ex (n := r.1 * (fa A b u.toNat).1) hC ha hp.1.1 hhit.1 (srtd_of hCs) ⟨by omega, by omega⟩).imp ?_
              rintro ⟨r1, E⟩ ⟨q1, q2, q3, q4⟩
              simp only at q1 q2 q3 q4
              subst q1
              exact ⟨rfl, E, q2, q3, q4, rfl⟩
          · refine ⟨rM_0 (by omega) km0, ?_⟩
            refine (placeIn_ex hC ha.1 ha.2 (srtd_of hCs)).imp ?_
            rintro ⟨r1, E⟩ ⟨rfl, p, hp1, hp2⟩
            simp only at hp1 hp2
            subst hp1
            exact ⟨rfl, p, hp2, rfl⟩
    · refine ⟨oM_0 (by omega) km0 1 rfl, ?_⟩
      refine ⟨aM_1 (r := B 0 1) (by rw [c1]; omega) (by rw [c1]; exact kn1) (by omega) (by omega), ?_⟩
      have e1 : B (B 0 1) b = B 1 b := by rw [c1]
      refine ⟨fun h0 => ?_, fun h0 => ?_⟩
      · exact Or.inl (⟨rfl, h0, rfl⟩)
      · exact Or.inr (⟨rfl, h0, rfl⟩)
theorem LSm_snoc {B D : pm_A} {p : Int} {r : Int × cr_Xp 12} (h0 : 0 ≤ B 1 p) (h1 : D 1 p = B 1 p + 1) (h2 : ∀ q v : Int, 0 ≤ q → q < B 1 p → 0 ≤ v → v < 12 → D 2 (200 * p + q) = B 2 (200 * p + q) ∧ D 3 (12 * (200 * p + q) + v) = B 3 (12 * (200 * p + q) + v)) (h3 : D 2 (200 * p + B 1 p) = r.1) (h4 : xe D p (B 1 p) = r.2) : LSm D p = LSm B p ++ [r] := by
  rw [LSm_fa, LSm_fa, h1, show (B 1 p + 1).toNat = (B 1 p).toNat + 1 by omega, lsf_succ]
  congr 1
  · exact lsf_congr (fun q hq => Prod.ext (h2 q 0 (by omega) (by omega) (by omega) (by omega)).1 (funext fun v => (h2 q v.1 (by omega) (by omega) (by omega) (by have := v.2; omega)).2))
  · refine congrArg (fun z => [z]) (Prod.ext ?_ ?_)
    · show D 2 (200 * p + (((B 1 p).toNat : Nat) : Int)) = r.1
      rw [Int.toNat_of_nonneg h0]; exact h3
    · show xe D p (((B 1 p).toNat : Nat) : Int) = r.2
      rw [Int.toNat_of_nonneg h0]; exact h4
theorem pa_101 {to a b t l5 l4 : Int} (hto : 0 ≤ to ∧ to ≤ 151) (ha : 0 ≤ a ∧ a ≤ 151) (hb : 0 ≤ b ∧ b ≤ 151) (hne : to ≠ a ∧ to ≠ b) (ht : 0 ≤ t ∧ t ≤ 199) (h5 : 0 ≤ l5 ∧ l5 ≤ 199) (h4 : 0 ≤ l4 ∧ l4 ≤ 199) {w6 w7 v10 : pm_V} {z : pm_R → Prop} {D : pm_A} (h1 : ∀ v : Int, 0 ≤ v → v < 12 → -2147483648 ≤ D 3 (12 * (200 * a + l5) + v) - D 3 (12 * (200 * b + l4) + v) ∧ D 3 (12 * (200 * a + l5) + v) - D 3 (12 * (200 * b + l4) + v) ≤ 2147483647)
    (H : ∀ C, gH wM C → (∀ q j, ¬ (q = 3 ∧ 12 * (200 * to + t) ≤ j ∧ j < 12 * (200 * to + t) + 12) → C q j = D q j) → (∀ v : Int, 0 ≤ v → v < 12 → C 3 (12 * (200 * to + t) + v) = D 3 (12 * (200 * a + l5) + v) - D 3 (12 * (200 * b + l4) + v)) → Tm pmt (an_sh wM) o_X10_parts 175 ([(2, 0), (0, to), (0, a), (0, b), (0, l4), (0, l5), w6, w7, (0, t), (0, 0), v10], [], C) z) : ∀ (m : Nat) (v : Int) (B : pm_A), (12 - v).toNat < m → 0 ≤ v → v ≤ 12 → gH wM B → (∀ q j, ¬ (q = 3 ∧ 12 * (200 * to + t) ≤ j ∧ j < 12 * (200 * to + t) + 12) → B q j = D q j) → (∀ i : Int, 0 ≤ i → i < v → B 3 (12 * (200 * to + t) + i) = D 3 (12 * (200 * a + l5) + i) - D 3 (12 * (200 * b + l4) + i)) → Tm pmt (an_sh wM) o_X10_parts 101 ([(2, 0), (0, to), (0, a), (0, b), (0, l4), (0, l5), w6, w7, (0, t), (0, v), v10], [], B) z := by
  intro m
  induction m with
  | zero => intro v B h; omega
  | succ m ih =>
    intro v B hm v0 v1 hB hB2 hB4
    have c3 := pM_3 hB
    have k1 : v < 12 → B 3 (12 * (200 * a + l5) + v) = D 3 (12 * (200 * a + l5) + v) := fun hv => hB2 3 _ (by omega)
    have k2 : v < 12 → B 3 (12 * (200 * b + l4) + v) = D 3 (12 * (200 * b + l4) + v) := fun hv => hB2 3 _ (by omega)
    have k3 := h1 v v0
    refine wq_ok srt_parts (fr := []) (cuts := [101, 175]) (J := fun pc st => (pc = 175 ∧ (12 ≤ v) ∧ st = ([(2, 0), (0, to), (0, a), (0, b), (0, l4), (0, l5), w6, w7, (0, t), (0, 0), v10], [], B)) ∨ (pc = 101 ∧ (v < 12) ∧ st = ([(2, 0), (0, to), (0, a), (0, b), (0, l4), (0, l5), w6, w7, (0, t), (0, v + 1), v10], [], pm_upd B (B 0 3) ((12 * ((200 * to) + t)) + v) ((B (B 0 3) ((12 * ((200 * a) + l5)) + v)) - (B (B 0 3) ((12 * ((200 * b) + l4)) + v)))))) ?_ 47 101 _ ?_
    · rintro pc st (⟨rfl, h0, rfl⟩ | ⟨rfl, h0, rfl⟩)
      · exact H B hB hB2 (fun i i0 i1 => hB4 i i0 (by omega))
      · rw [c3]
        have k4 := k3 h0
        have k5 := k1 h0
        have k6 := k2 h0
        refine ih (v + 1) _ (by omega) (by omega) (by omega) (uM_3 hB kn3 (by omega) (by omega)) (fun q j hq => by rw [upd_o (by omega)]; exact hB2 q j hq) (fun i i0 i1 => ?_)
        by_cases hi : i = v
        · rw [hi, upd_at, k5, k6]
        · rw [upd_o (by omega)]; exact hB4 i i0 (by omega)
    · refine ⟨fun h0 => ?_, fun h0 => ?_⟩
      · exact Or.inl (⟨rfl, h0, rfl⟩)
      · refine ⟨oM_0 (by omega) km0 3 rfl, ?_⟩
        refine ⟨⟨by omega, by omega⟩, ?_⟩
        refine ⟨⟨by omega, by omega⟩, ?_⟩
        refine ⟨⟨by omega, by omega⟩, ?_⟩
        refine ⟨⟨by omega, by omega⟩, ?_⟩
        refine ⟨oM_0 (by omega) km0 3 rfl, ?_⟩
        refine ⟨⟨by omega, by omega⟩, ?_⟩
        refine ⟨⟨by omega, by omega⟩, ?_⟩
        refine ⟨⟨by omega, by omega⟩, ?_⟩
        refine ⟨⟨by omega, by omega⟩, ?_⟩
        refine ⟨aM_3 (r := B 0 3) (by rw [c3]; omega) (by rw [c3]; exact kn3) (by omega) (by omega), ?_⟩
        have e1 : B (B 0 3) ((12 * ((200 * a) + l5)) + v) = B 3 ((12 * ((200 * a) + l5)) + v) := by rw [c3]
        refine ⟨oM_0 (by omega) km0 3 rfl, ?_⟩
        refine ⟨⟨by omega, by omega⟩, ?_⟩
        refine ⟨⟨by omega, by omega⟩, ?_⟩
        refine ⟨⟨by omega, by omega⟩, ?_⟩
        refine ⟨⟨by omega, by omega⟩, ?_⟩
        refine ⟨aM_3 (r := B 0 3) (by rw [c3]; omega) (by rw [c3]; exact kn3) (by omega) (by omega), ?_⟩
        have e2 : B (B 0 3) ((12 * ((200 * b) + l4)) + v) = B 3 ((12 * ((200 * b) + l4)) + v) := by rw [c3]
        refine ⟨⟨by omega, by omega⟩, ?_⟩
        refine ⟨tM_3 (r := B 0 3) (by rw [c3]; omega) (by rw [c3]; exact kn3) (by omega) (by omega) rfl, ?_⟩
        refine ⟨⟨by omega, by omega⟩, ?_⟩
        exact Or.inr (⟨rfl, h0, rfl⟩)
def pt_post (A : pm_A) (to a : Int) (Q : cr_Pl_ 12) (r : pm_R) : Prop := r.1 = none ∧ paF A r.2 to a ∧ LSm r.2 to = Q
theorem pa_17 {A : pm_A} {to a b EN : Int} {Q : cr_Pl_ 12} (hH : paH A to a b EN Q) : ∀ (m : Nat) (R S : cr_Pl_ 12) (w5 w6 w7 w8 w9 w10 : pm_V) (B : pm_A), R.length < m → Q = R ++ S.reverse → paF A B to a → LSm B to = S → cr_Shr (LSm B a) → (∀ c, cr_co (LSm B a) c = cr_co (cr_pmz R (LSm A b)) c) → Tm pmt (an_sh wM) o_X10_parts 17 ([(2, 0), (0, to), (0, a), (0, b), (0, A 1 b - 1), w5, w6, w7, w8, w9, w10], [], B) (pt_post A to a Q) := by
  have hH0 := hH
  obtain ⟨hA, hto, ha, hb, hne, ⟨bs, bc, bm, bx⟩, ⟨as_, ac, ax⟩, hEN, hQ, hQc, hQl⟩ := hH
  have mb := eM_1 hA (r := 1) (by omega) kn1 hb.1 (show b < 152 by omega)
  have hLbs := shr_of bs bc
  have hLbn : LSm A b ≠ [] := fun e => by
    have := LSm_len A b
    rw [e] at this
    simp at this
    omega
  have hlb : LSm A b = (LSm A b).dropLast ++ [(LSm A b).getLast hLbn] := (List.dropLast_concat_getLast hLbn).symm
  have hlast : ∀ (W : pm_A) (p : Int) (hn : LSm W p ≠ []), 1 ≤ W 1 p → (LSm W p).getLast hn = (W 2 (200 * p + (W 1 p - 1)), xe W p (W 1 p - 1)) := fun W p hn h1 => by
    have hl := LSm_len W p
    rw [List.getLast_eq_getElem, LSm_get]
    unfold fa
    rw [show (((LSm W p).length - 1 : Nat) : Int) = W 1 p - 1 by omega]
  intro m
  induction m with
  | zero => intro R S w5 w6 w7 w8 w9 w10 B h; omega
  | succ m ih =>
    intro R S w5 w6 w7 w8 w9 w10 B hm hQR hF hS hBs hBc
    have c1 := pM_1 hF.1
    have c2 := pM_2 hF.1
    have c2p : pm_upd B (B 0 1) to (B (B 0 1) to + 1) 0 2 = 2 := by rw [c1, upd_o (by omega)]; exact c2
    have ma := eM_1 hF.1 (r := 1) (by omega) kn1 ha.1 (show a < 152 by omega)
    have mt := eM_1 hF.1 (r := 1) (by omega) kn1 hto.1 (show to < 152 by omega)
    have hbS : ∀ q j, inS b q j → B q j = A q j := fun q j h => hF.2 q j (by unfold inS at *; omega) (by unfold inS at *; omega) (by unfold inS at h; omega)
    have mB : B 1 b = A 1 b := hbS 1 b (Or.inl ⟨rfl, rfl⟩)
    have hle : ∀ c, cr_co (LSm B a) c ≤ cr_co (LSm A a) c := fun c => by
      rw [hBc c, hQc c, hQR]
      have : cr_pmz (R ++ S.reverse) (LSm A b) = cr_pmz R (LSm A b) ++ cr_pmz S.reverse (LSm A b) := by unfold cr_pmz; rw [List.flatMap_append]
      rw [this, cr_co_app]
      have h2 := cr_Shr.nonneg (l := cr_pmz S.reverse (LSm A b)) (fun y hy => by
        obtain ⟨u, hu, w, hw, rfl⟩ := cr_mem_pmz hy
        exact Int.mul_pos (hQ.2 u (by rw [hQR]; simp only [List.mem_append]; exact Or.inr hu)) (hLbs.2 w hw)) c
      omega
    obtain ⟨ba, bxa⟩ := pa_bnd ac as_ ax hBs hle
    have hSl : (B 1 to).toNat = S.length := by rw [← LSm_len, hS]
    have hQlen : Q.length = R.length + S.length := by rw [hQR, List.length_append, List.length_reverse]
    have hempty : B 1 a ≤ 0 → R = [] := fun h => by
      refine Classical.byContradiction (fun hne2 => ?_)
      obtain ⟨R', r, rfl⟩ : ∃ R' r, R = R' ++ [r] := ⟨R.dropLast, R.getLast hne2, (List.dropLast_concat_getLast hne2).symm⟩
      have hz : LSm B a = [] := List.length_eq_zero_iff.1 (by rw [LSm_len]; omega)
      have hp := cr_co_pos (l := cr_pmz (R' ++ [r]) (LSm A b)) (y := (r.1 * ((LSm A b).getLast hLbn).1, fun i => r.2 i + ((LSm A b).getLast hLbn).2 i)) (fun y hy => by
        obtain ⟨u, hu, w, hw, rfl⟩ := cr_mem_pmz hy
        exact Int.mul_pos (hQ.2 u (by rw [hQR]; exact List.mem_append_left _ hu)) (hLbs.2 w hw)) (List.mem_flatMap.2 ⟨r, by simp, List.mem_map.2 ⟨_, List.getLast_mem hLbn, rfl⟩⟩)
      rw [← hBc, hz] at hp
      exact absurd hp (by show ¬ (0 : Int) < 0; omega)
    have hstep : 0 < B 1 a → ∃ R' r, R = R' ++ [r] ∧ 0 < r.1 ∧ Int.tdiv (B (B 0 2) (200 * a + (B (B 0 1) a - 1))) (B (B 0 2) (200 * b + (A 1 b - 1))) = r.1 ∧ (∀ v : Int, 0 ≤ v → v < 12 → B 3 (12 * (200 * a + (B 1 a - 1)) + v) - A 3 (12 * (200 * b + (A 1 b - 1)) + v) = r.2 ⟨v.toNat % 12, by omega⟩) ∧ (∀ c, cr_co (LSm B a) c = cr_co (cr_pmz R' (LSm A b)) c + cr_co (cr_shz r (LSm A b)) c) ∧ (∀ y ∈ cr_pmz R' (LSm A b), 0 < y.1) ∧ ∀ v : Fin 12, -2147010000 ≤ r.2 v ∧ r.2 v ≤ 2147010000 := fun h => by
      have hRn : R ≠ [] := fun e => by
        have hm := in_LSm (A := B) (p := a) (q := 0) (by omega) h
        have hp := cr_co_pos hBs.2 hm
        rw [hBc, e] at hp
        exact absurd hp (by show ¬ (0 : Int) < 0; omega)
      obtain ⟨R', r, rfl⟩ : ∃ R' r, R = R' ++ [r] := ⟨R.dropLast, R.getLast hRn, (List.dropLast_concat_getLast hRn).symm⟩
      have hRs : cr_Shr (R' ++ [r]) := by
        refine ⟨?_, fun y hy => hQ.2 y (by rw [hQR]; exact List.mem_append_left _ hy)⟩
        have := hQ.1
        rw [hQR] at this
        exact (List.pairwise_append.1 this).1
      obtain ⟨A', x, e1, e2, e3, e4, _, _⟩ := cr_divide_step (B := (LSm A b).dropLast) (b := (LSm A b).getLast hLbn) hRs (by rw [← hlb]; exact hLbs) hBs (by rw [← hlb]; exact hBc)
      have hBn : LSm B a ≠ [] := by rw [e1]; simp
      have hx : x = (B 2 (200 * a + (B 1 a - 1)), xe B a (B 1 a - 1)) := by
        rw [← hlast B a hBn (by omega)]
        have : ∀ (l : cr_Pl_ 12) (hl : l ≠ []), l = A' ++ [x] → x = l.getLast hl := fun l hl e => by subst e; simp
        exact this _ hBn e1
      have hbl := hlast A b hLbn bm
      have hr1 : 0 < r.1 := hRs.2 r (by simp)
      have hx2 : ∀ i, r.2 i = x.2 i - ((LSm A b).getLast hLbn).2 i := fun i => by rw [e3 i]; omega
      have hfac : ∀ v : Int, 0 ≤ v → v < 12 → B 3 (12 * (200 * a + (B 1 a - 1)) + v) - A 3 (12 * (200 * b + (A 1 b - 1)) + v) = r.2 ⟨v.toNat % 12, by omega⟩ := fun v v0 v1 => by
        rw [hx2, hx, hbl]
        show _ = B 3 (12 * (200 * a + (B 1 a - 1)) + ((v.toNat % 12 : Nat) : Int)) - A 3 (12 * (200 * b + (A 1 b - 1)) + ((v.toNat % 12 : Nat) : Int))
        rw [show ((v.toNat % 12 : Nat) : Int) = v by omega]
      refine ⟨R', r, rfl, hr1, ?_, hfac, fun c => by rw [hBc c, pmz_snoc, cr_co_app], fun y hy => by
        obtain ⟨u, hu, w, hw, rfl⟩ := cr_mem_pmz hy
        exact Int.mul_pos (hRs.2 u (by simp [hu])) (hLbs.2 w hw), fun v => ?_⟩
      · rw [c2, c1, hbS 2 (200 * b + (A 1 b - 1)) (by unfold inS; omega)]
        have h1 : B 2 (200 * a + (B 1 a - 1)) = x.1 := by rw [hx]
        have h2 : A 2 (200 * b + (A 1 b - 1)) = ((LSm A b).getLast hLbn).1 := by rw [hbl]
        rw [h1, h2, Int.tdiv_eq_ediv_of_nonneg (by rw [e2]; exact Int.le_of_lt (Int.mul_pos hr1 (hLbs.2 _ (List.getLast_mem hLbn))))]
        exact e4
      · have h1 := hfac v.1 (by omega) (by have := v.2; omega)
        have h2 := bxa (B 1 a - 1) v.1 (by omega) (by omega) (by omega) (by have := v.2; omega)
        have h3 := bx (A 1 b - 1) v.1 (by omega) (by omega) (by omega) (by have := v.2; omega)
        have hv12 : (⟨((v.1 : Nat) : Int).toNat % 12, by omega⟩ : Fin 12) = v := Fin.ext (by show ((v.1 : Nat) : Int).toNat % 12 = v.1; have := v.2; omega)
        rw [hv12] at h1
        omega
    have hl4 : 1 ≤ B 2 (200 * b + (A 1 b - 1)) ∧ B 2 (200 * b + (A 1 b - 1)) ≤ 1000000000000 := by
      rw [hbS 2 _ (by unfold inS; omega)]; exact bc (A 1 b - 1) (by omega) (by omega)
    have hl5 : 0 < B 1 a → 1 ≤ B 2 (200 * a + (B 1 a - 1)) ∧ B 2 (200 * a + (B 1 a - 1)) ≤ 1000000000000 := fun h => ba (B 1 a - 1) (by omega) (by omega)
    have htl : 0 < B 1 a → B 1 to < 200 := fun h => by
      obtain ⟨R', r, e, _⟩ := hstep h
      rw [e, List.length_append] at hQlen
      simp at hQlen
      omega
    refine wq_ok srt_parts (fr := []) (cuts := [101, 288]) (J := fun pc st => (pc = 288 ∧ (B (B 0 1) a ≤ 0) ∧ ∃ C, gH wM C ∧ (∀ q j, ¬ inS to q j → C q j = B q j) ∧ LSm C to = (LSm B to).reverse ∧ st = ([(2, 0), (0, to), (0, a), (0, b), (0, A 1 b - 1), w5, w6, w7, w8, w9, w10], [], C)) ∨ (pc = 101 ∧ (0 < (B (B 0 1) a)) ∧ st = ([(2, 0), (0, to), (0, a), (0, b), (0, A 1 b - 1), (0, (B (B 0 1) a) - 1), (1, Int.tdiv (B (B 0 2) ((200 * a) + ((B (B 0 1) a) - 1))) (B (B 0 2) ((200 * b) + (A 1 b - 1)))), (9, 0), (0, B (B 0 1) to), (0, 0), w10], [], pm_upd (pm_upd B (B 0 1) to ((B (B 0 1) to) + 1)) ((pm_upd B (B 0 1) to ((B (B 0 1) to) + 1)) 0 2) ((200 * to) + (B (B 0 1) to)) (Int.tdiv (B (B 0 2) ((200 * a) + ((B (B 0 1) a) - 1))) (B (B 0 2) ((200 * b) + (A 1 b - 1))))))) ?_ 59 17 _ ?_
    · rintro pc st (⟨rfl, h0, C, q2, q3, q4, rfl⟩ | ⟨rfl, h0, rfl⟩)
      · rw [c1] at h0
        refine wq_ok srt_parts (fr := []) (cuts := []) (J := fun _ _ => False) ?_ 5 288 _ ?_
        · intro pc st h; exact h.elim
        · exact ⟨rfl, ⟨q2, fun q j a1 a2 a3 => (q3 q j a1).trans (hF.2 q j a1 a2 a3)⟩, by show LSm C to = Q; rw [q4, hS, hQR, hempty h0]; rfl⟩
      · have h0p : 0 < B 1 a := by rw [c1] at h0; exact h0
        obtain ⟨R', r, e, hr, hq, hx, hco, hpos, hrx⟩ := hstep h0p
        have ht := htl h0p
        rw [hq, c2p, c1]
        have hD : gH wM (pm_upd (pm_upd B 1 to (B 1 to + 1)) 2 (200 * to + B 1 to) r.1) := uM_2 (uM_1 hF.1 kn1 (by omega) (by omega)) kn2 (by have := hl5 h0p; rw [← hq, c2, c1, Int.tdiv_eq_ediv_of_nonneg (by omega)]; have := Int.ediv_nonneg (show 0 ≤ B 2 (200 * a + (B 1 a - 1)) by omega) (show 0 ≤ B 2 (200 * b + (A 1 b - 1)) by omega); omega) (by have := hl5 h0p; rw [← hq, c2, c1, Int.tdiv_eq_ediv_of_nonneg (by omega)]; have := Int.ediv_le_self (B 2 (200 * b + (A 1 b - 1))) (show 0 ≤ B 2 (200 * a + (B 1 a - 1)) by omega); omega)
        have hD2 : ∀ q j, ¬ (q = 1 ∧ j = to) → ¬ (q = 2 ∧ j = 200 * to + B 1 to) → pm_upd (pm_upd B 1 to (B 1 to + 1)) 2 (200 * to + B 1 to) r.1 q j = B q j := fun q j a1 a2 => by rw [upd_o a2, upd_o a1]
        have hD3 : pm_upd (pm_upd B 1 to (B 1 to + 1)) 2 (200 * to + B 1 to) r.1 1 to = B 1 to + 1 := by rw [upd_o (by omega), upd_at]
        have hD4 : pm_upd (pm_upd B 1 to (B 1 to + 1)) 2 (200 * to + B 1 to) r.1 2 (200 * to + B 1 to) = r.1 := upd_at
        revert hD hD2 hD3 hD4
        generalize pm_upd (pm_upd B 1 to (B 1 to + 1)) 2 (200 * to + B 1 to) r.1 = D
        intro hD hD2 hD3 hD4
        have hx2 : ∀ v : Int, 0 ≤ v → v < 12 → D 3 (12 * (200 * a + (B 1 a - 1)) + v) - D 3 (12 * (200 * b + (A 1 b - 1)) + v) = r.2 ⟨v.toNat % 12, by omega⟩ := fun v v0 v1 => by rw [hD2 3 _ (by omega) (by omega), hD2 3 _ (by omega) (by omega), hbS 3 (12 * (200 * b + (A 1 b - 1)) + v) (by unfold inS; omega)]; exact hx v v0 v1
        refine pa_101 hto ha hb ⟨hne.1, hne.2.1⟩ ⟨mt.1, by omega⟩ ⟨by omega, by omega⟩ ⟨by omega, by omega⟩ (D := D) (fun v v0 v1 => ?_) (fun C hC hC2 hC3 => ?_) _ 0 D (Nat.lt_succ_self _) (by omega) (by omega) hD (fun _ _ _ => rfl) (fun i i0 i1 => by omega)
        · rw [hx2 v v0 v1]; have := hrx ⟨v.toNat % 12, by omega⟩; omega
        · have hCa : ∀ q j, inS a q j → C q j = B q j := fun q j h => by rw [hC2 q j (by unfold inS at h; omega), hD2 q j (by unfold inS at h; omega) (by unfold inS at h; omega)]
          have hLa : LSm C a = LSm B a := LSm_same ma.2 hCa
          have hCF : paF A C to a := ⟨hC, fun q j a1 a2 a3 => by
            rw [hC2 q j (fun e => a1 (by unfold inS; omega)), hD2 q j (fun e => a1 (by unfold inS; omega)) (fun e => a1 (by unfold inS; omega))]
            exact hF.2 q j a1 a2 a3⟩
          have hxe : xe C to (B 1 to) = r.2 := funext fun v => by
            have h1 := hC3 v.1 (by omega) (by have := v.2; omega)
            have h2 := hx2 v.1 (by omega) (by have := v.2; omega)
            have hv12 : (⟨((v.1 : Nat) : Int).toNat % 12, by omega⟩ : Fin 12) = v := Fin.ext (by show ((v.1 : Nat) : Int).toNat % 12 = v.1; have := v.2; omega)
            rw [hv12] at h2
            exact h1.trans h2
          have hCm : C 1 to = B 1 to + 1 := (hC2 1 to (by omega)).trans hD3
          have hLt : LSm C to = S ++ [r] := by
            rw [← hS]
            refine LSm_snoc mt.1 hCm (fun q v q0 q1 v0 v1 => ⟨?_, ?_⟩) ?_ hxe
            · rw [hC2 2 _ (by omega), hD2 2 _ (by omega) (by omega)]
            · rw [hC2 3 _ (by omega), hD2 3 _ (by omega) (by omega)]
            · rw [hC2 2 _ (by omega)]; exact hD4
          refine pa_175 (D := C) (C0 := cr_pmz R' (LSm A b)) hH0 ⟨mt.1, by omega⟩ (by omega) hCF (by rw [hLa]; exact hBs) hr hpos (fun c => by rw [hLa]; exact hco c) (fun c => by rw [hLa]; exact hle c) hxe hrx (fun E v9 v10 hE hE2 hE3 hE4 => ?_) _ 0 _ C (Nat.lt_succ_self _) (by omega) (by omega) ⟨hCF, rfl, rfl, fun _ _ _ => rfl, rfl⟩
          refine ih R' (S ++ [r]) _ _ _ _ _ _ E (by rw [e, List.length_append] at hm; simp at hm; omega) ?_ hE (hE2.trans hLt) hE3 hE4
          rw [hQR, e, List.reverse_append, List.append_assoc]; rfl
    · refine ⟨oM_0 (by omega) km0 1 rfl, ?_⟩
      refine ⟨aM_1 (r := B 0 1) (by rw [c1]; omega) (by rw [c1]; exact kn1) (by omega) (by omega), ?_⟩
      have e1 : B (B 0 1) a = B 1 a := by rw [c1]
      refine ⟨fun h0 => ?_, fun h0 => ?_⟩
      · refine ⟨rM_0 (by omega) km0, ?_⟩
        refine (turnRound_ex hF.1 hto).imp ?_
        rintro ⟨r1, C⟩ ⟨q1, q2, q3, q4⟩
        simp only at q1 q2 q3 q4
        subst q1
        exact Or.inl (⟨rfl, h0, C, q2, q3, q4, rfl⟩)
      · refine ⟨oM_0 (by omega) km0 1 rfl, ?_⟩
        refine ⟨aM_1 (r := B 0 1) (by rw [c1]; omega) (by rw [c1]; exact kn1) (by omega) (by omega), ?_⟩
        have e2 : B (B 0 1) a = B 1 a := by rw [c1]
        refine ⟨⟨by omega, by omega⟩, ?_⟩
        refine ⟨oM_0 (by omega) km0 2 rfl, ?_⟩
        refine ⟨⟨by omega, by omega⟩, ?_⟩
        refine ⟨⟨by omega, by omega⟩, ?_⟩
        refine ⟨aM_2 (r := B 0 2) (by first | rw [c2]; omega | rw [c2p]; omega) (by first | rw [c2]; exact kn2 | rw [c2p]; exact kn2) (by omega) (by omega), ?_⟩
        have e3 : B (B 0 2) ((200 * a) + ((B (B 0 1) a) - 1)) = B 2 ((200 * a) + ((B (B 0 1) a) - 1)) := by rw [c2]
        refine ⟨oM_0 (by omega) km0 2 rfl, ?_⟩
        refine ⟨⟨by omega, by omega⟩, ?_⟩
        refine ⟨⟨by omega, by omega⟩, ?_⟩
        refine ⟨aM_2 (r := B 0 2) (by first | rw [c2]; omega | rw [c2p]; omega) (by first | rw [c2]; exact kn2 | rw [c2p]; exact kn2) (by omega) (by omega), ?_⟩
        have e4 : B (B 0 2) ((200 * b) + (A 1 b - 1)) = B 2 ((200 * b) + (A 1 b - 1)) := by rw [c2]
        refine ⟨⟨by rw [e4]; omega, ⟨by rw [e3]; rw [e2]; rw [c1] at h0; have := hl5 h0; omega, by rw [e3]; rw [e2]; rw [c1] at h0; have := hl5 h0; omega⟩, ⟨by rw [e4]; omega, by rw [e4]; omega⟩, fun hh => by rw [e4]; omega⟩, ?_⟩
        refine ⟨oM_0 (by omega) km0 1 rfl, ?_⟩
        refine ⟨aM_1 (r := B 0 1) (by rw [c1]; omega) (by rw [c1]; exact kn1) (by omega) (by omega), ?_⟩
        have e5 : B (B 0 1) to = B 1 to := by rw [c1]
        refine ⟨oM_0 (by omega) km0 1 rfl, ?_⟩
        refine ⟨aM_1 (r := B 0 1) (by rw [c1]; omega) (by rw [c1]; exact kn1) (by omega) (by omega), ?_⟩
        have e6 : B (B 0 1) to = B 1 to := by rw [c1]
        refine ⟨⟨by omega, by omega⟩, ?_⟩
        refine ⟨tM_1 (r := B 0 1) (by rw [c1]; omega) (by rw [c1]; exact kn1) (by omega) (by omega) rfl, ?_⟩
        refine ⟨oM_0 (by omega) km0 2 rfl, ?_⟩
        refine ⟨⟨by omega, by omega⟩, ?_⟩
        refine ⟨⟨by omega, by omega⟩, ?_⟩
        refine ⟨tM_2 (r := (pm_upd B (B 0 1) to ((B (B 0 1) to) + 1)) 0 2) (by first | rw [c2]; omega | rw [c2p]; omega) (by first | rw [c2]; exact kn2 | rw [c2p]; exact kn2) (by omega) (by omega) rfl, ?_⟩
        exact Or.inr (⟨rfl, h0, rfl⟩)
theorem parts_ex {A : pm_A} {to a b EN : Int} {Q : cr_Pl_ 12} (hH : paH A to a b EN Q) : Cl pmt (an_sh wM) 172 [(2, 0), (0, to), (0, a), (0, b)] A (pt_post A to a Q) := by
  have hH0 := hH
  obtain ⟨hA, hto, ha, hb, hne, ⟨bs, bc, bm, bx⟩, ⟨as_, ac, ax⟩, hEN, hQ, hQc, hQl⟩ := hH
  have mb := eM_1 hA (r := 1) (by omega) kn1 hb.1 (show b < 152 by omega)
  have ma := eM_1 hA (r := 1) (by omega) kn1 ha.1 (show a < 152 by omega)
  have c1 := pM_1 hA
  have c1p : pm_upd A (A 0 1) to 0 0 1 = 1 := by rw [c1, upd_o (by omega)]; exact c1
  have v1 : pm_upd A (A 0 1) to 0 (pm_upd A (A 0 1) to 0 0 1) b = A 1 b := by rw [c1p, c1, upd_o (by omega)]
  refine Cl.of (Nat.le_of_ble_eq_true rfl) ?_
  refine wq_ok (full := o_X10_parts) srt_parts (fr := []) (cuts := [17]) (J := fun pc st => (pc = 17 ∧ st = ([(2, 0), (0, to), (0, a), (0, b), (0, ((pm_upd A (A 0 1) to 0) ((pm_upd A (A 0 1) to 0) 0 1) b) - 1), (9, 0), (9, 0), (9, 0), (9, 0), (9, 0), (9, 0)], [], pm_upd A (A 0 1) to 0))) ?_ 17 0 _ ?_
  · rintro pc st (⟨rfl, rfl⟩)
    rw [v1, c1]
    have hLa : LSm (pm_upd A 1 to 0) a = LSm A a := LSm_same ma.2 (fun q j h => upd_o (by unfold inS at h; omega))
    refine pa_17 hH0 _ Q [] _ _ _ _ _ _ _ (Nat.lt_succ_self _) (by simp) ⟨uM_1 hA kn1 (by omega) (by omega), fun q j a1 a2 a3 => upd_o (fun e => a1 (by unfold inS; omega))⟩ ?_ (by rw [hLa]; exact shr_of as_ ac) (fun c => by rw [hLa]; exact hQc c)
    unfold LSm
    rw [show pm_upd A 1 to 0 1 to = 0 from upd_at]
    rfl
  · refine ⟨oM_0 (by omega) km0 1 rfl, ?_⟩
    refine ⟨tM_1 (r := A 0 1) (by first | rw [c1]; omega | rw [c1p]; omega) (by first | rw [c1]; exact kn1 | rw [c1p]; exact kn1) (by omega) (by omega) rfl, ?_⟩
    refine ⟨oM_0 (by omega) km0 1 rfl, ?_⟩
    refine ⟨aM_1 (r := (pm_upd A (A 0 1) to 0) 0 1) (by first | rw [c1]; omega | rw [c1p]; omega) (by first | rw [c1]; exact kn1 | rw [c1p]; exact kn1) (by omega) (by omega), ?_⟩
    skip
    refine ⟨by first | exact ⟨by omega, by omega⟩ | (show r32 (pm_upd A (A 0 1) to 0 (pm_upd A (A 0 1) to 0 0 1) b - 1); rw [v1]; exact ⟨by omega, by omega⟩), ?_⟩
    exact ⟨rfl, rfl⟩
end

section
/-! turnsArrows -/
theorem srt_without : pm_srt o_X10_without = true := by decide +kernel
theorem without_ex {A : pm_A} {a : Int} (h0 : -9999 ≤ a) (h1 : a ≤ 9999) : Cl pmt (an_sh wM) 204 [(0, a)] A (fun r => r.2 = A ∧ r.1 = some (0, if a < 0 then -a else a)) := by
  refine Cl.of (Nat.le_of_ble_eq_true rfl) ?_
  refine wq_ok (full := o_X10_without) srt_without (fr := []) (cuts := []) (J := fun _ _ => False) ?_ 10 0 _ ?_
  · intro pc st h; exact h.elim
  · refine ⟨fun h0 => ?_, fun h0 => ?_⟩
    · exact ⟨rfl, rfl, by rw [if_neg (by omega)]⟩
    · refine ⟨⟨by omega, by omega⟩, ?_⟩
      exact ⟨rfl, rfl, by rw [if_pos (by omega)]⟩
theorem okt2 {g : Int} (h : g = 0 ∨ g = 1) : pm_okt 2 (0, g) = true := by rcases h with rfl | rfl <;> rfl
theorem srt_turnsArrows : pm_srt o_X10_turnsArrows = true := by decide +kernel
def tv (A : pm_A) (k i j : Int) : Int := if i = k ∨ j = k then - A 5 (6 * i + j) else if (0 < A 5 (6 * i + k) ∧ 0 < A 5 (6 * k + j)) ∨ (A 5 (6 * i + k) < 0 ∧ A 5 (6 * k + j) < 0) then A 5 (6 * i + j) + (if A 5 (6 * i + k) < 0 then - A 5 (6 * i + k) else A 5 (6 * i + k)) * A 5 (6 * k + j) else A 5 (6 * i + j)
def arB (A : pm_A) : Prop := ∀ i j : Int, 0 ≤ i → i < A 0 7 + A 0 8 → 0 ≤ j → j < A 0 7 → -9999 ≤ A 5 (6 * i + j) ∧ A 5 (6 * i + j) ≤ 9999
def taF (A B : pm_A) : Prop := gH wM B ∧ ∀ r j, r ≠ 12 → B r j = A r j
def mta_post (A : pm_A) (k : Int) (r : pm_R) : Prop := taF A r.2 ∧ ∃ g, r.1 = some (0, g) ∧ (g = 0 ∨ (g = 1 ∧ ∀ i j : Int, 0 ≤ i → i < A 0 7 + A 0 8 → 0 ≤ j → j < A 0 7 → -9999 ≤ tv A k i j ∧ tv A k i j ≤ 9999)) ∧ ∀ i j : Int, 0 ≤ i → i < A 0 7 + A 0 8 → 0 ≤ j → j < A 0 7 → r.2 12 (6 * i + j) = tv A k i j
def taI (A B : pm_A) (k g i : Int) : Prop := taF A B ∧ (g = 0 ∨ (g = 1 ∧ ∀ i' j : Int, 0 ≤ i' → i' < i → 0 ≤ j → j < A 0 7 → -9999 ≤ tv A k i' j ∧ tv A k i' j ≤ 9999)) ∧ ∀ i' j : Int, 0 ≤ i' → i' < i → 0 ≤ j → j < A 0 7 → B 12 (6 * i' + j) = tv A k i' j
def taJ (A B : pm_A) (k g i u : Int) : Prop := taF A B ∧ (g = 0 ∨ (g = 1 ∧ (∀ i' j : Int, 0 ≤ i' → i' < i → 0 ≤ j → j < A 0 7 → -9999 ≤ tv A k i' j ∧ tv A k i' j ≤ 9999) ∧ ∀ j : Int, 0 ≤ j → j < u → -9999 ≤ tv A k i j ∧ tv A k i j ≤ 9999)) ∧ (∀ i' j : Int, 0 ≤ i' → i' < i → 0 ≤ j → j < A 0 7 → B 12 (6 * i' + j) = tv A k i' j) ∧ ∀ j : Int, 0 ≤ j → j < u → B 12 (6 * i + j) = tv A k i j
theorem mul_bd {x y : Int} (hx : -9999 ≤ x ∧ x ≤ 9999) (hy : -9999 ≤ y ∧ y ≤ 9999) : -99980001 ≤ x * y ∧ x * y ≤ 99980001 := by
  by_cases h : 0 ≤ x
  · have h1 := to_mul h hy
    have h2 := Int.mul_le_mul_of_nonneg_right hx.2 (show (0 : Int) ≤ 9999 by omega)
    omega
  · have h1 := to_mul (n := -x) (by omega) hy
    have h2 := Int.mul_le_mul_of_nonneg_right (show -x ≤ 9999 by omega) (show (0 : Int) ≤ 9999 by omega)
    have e : -x * y = -(x * y) := Int.neg_mul _ _
    rw [e] at h1
    omega
theorem ta_122 {A B : pm_A} {k g i j v : Int} {w6 w7 : pm_V} (i0 : 0 ≤ i) (i1 : i < A 0 7 + A 0 8) (hw : A 0 7 + A 0 8 ≤ 12 ∧ A 0 7 ≤ 6) (j0 : 0 ≤ j) (j1 : j < A 0 7) (hv : v = tv A k i j) (hr : r32 v) (hJ : taJ A B k g i j) {z : pm_R → Prop} (H : ∀ g' w5 C, taJ A C k g' i (j + 1) → Tm pmt (an_sh wM) o_X10_turnsArrows 20 ([(2, 0), (0, k), (0, g'), (0, i), (0, j + 1), w5, w6, w7], [], C) z) : Tm pmt (an_sh wM) o_X10_turnsArrows 122 ([(2, 0), (0, k), (0, g), (0, i), (0, j), (0, v), w6, w7], [], B) z := by
  obtain ⟨hF, hg, h3, h4⟩ := hJ
  have c19 := pM_19 hF.1
  have hstep : ∀ g', (g' = 0 ∨ (g' = 1 ∧ g ≠ 0 ∧ -9999 ≤ v ∧ v ≤ 9999)) → taJ A (pm_upd B 12 (6 * i + j) v) k g' i (j + 1) := fun g' hg' => by
    refine ⟨⟨uM_12 hF.1 kn12 hr.1 hr.2, fun r q hq => by rw [upd_o (by omega)]; exact hF.2 r q hq⟩, ?_, fun i' j' a0 a1 b0 b1 => ?_, fun j' b0 b1 => ?_⟩
    · rcases hg' with e | ⟨e, e2, e3, e4⟩
      · exact Or.inl e
      · refine Or.inr ⟨e, ?_⟩
        rcases hg with h | ⟨h, h5, h6⟩
        · exact absurd h e2
        · refine ⟨h5, fun j' b0 b1 => ?_⟩
          by_cases hj : j' = j
          · rw [hj, ← hv]; exact ⟨e3, e4⟩
          · exact h6 j' b0 (by omega)
    · rw [upd_o (by omega)]; exact h3 i' j' a0 a1 b0 b1
    · by_cases hj : j' = j
      · rw [hj, upd_at]; exact hv
      · rw [upd_o (by omega)]; exact h4 j' b0 (by omega)
  refine wq_ok srt_turnsArrows (fr := []) (cuts := [20]) (J := fun pc st => (pc = 20 ∧ (g = 0) ∧ st = ([(2, 0), (0, k), (0, 0), (0, i), (0, j + 1), (0, v), w6, w7], [], pm_upd B (B 0 19) ((6 * i) + j) v)) ∨ (pc = 20 ∧ (¬ g = 0) ∧ (v < ((-9999))) ∧ st = ([(2, 0), (0, k), (0, 0), (0, i), (0, j + 1), (0, v), w6, w7], [], pm_upd B (B 0 19) ((6 * i) + j) v)) ∨ (pc = 20 ∧ (¬ g = 0) ∧ (((-9999)) ≤ v) ∧ (9999 < v) ∧ st = ([(2, 0), (0, k), (0, 0), (0, i), (0, j + 1), (0, v), w6, w7], [], pm_upd B (B 0 19) ((6 * i) + j) v)) ∨ (pc = 20 ∧ (¬ g = 0) ∧ (((-9999)) ≤ v) ∧ (v ≤ 9999) ∧ st = ([(2, 0), (0, k), (0, 1), (0, i), (0, j + 1), (0, v), w6, w7], [], pm_upd B (B 0 19) ((6 * i) + j) v))) ?_ 27 122 _ ?_
  · rintro pc st (⟨rfl, h0, rfl⟩ | ⟨rfl, h0, h1, rfl⟩ | ⟨rfl, h0, h1, h2, rfl⟩ | ⟨rfl, h0, h1, h2, rfl⟩)
    · rw [c19]
      exact H _ _ _ (hstep _ (Or.inl rfl))
    · rw [c19]
      exact H _ _ _ (hstep _ (Or.inl rfl))
    · rw [c19]
      exact H _ _ _ (hstep _ (Or.inl rfl))
    · rw [c19]
      exact H _ _ _ (hstep _ (Or.inr ⟨rfl, h0, by omega, by omega⟩))
  · refine ⟨oM_0 (by omega) km0 19 rfl, ?_⟩
    refine ⟨⟨by omega, by omega⟩, ?_⟩
    refine ⟨⟨by omega, by omega⟩, ?_⟩
    refine ⟨tM_12 (r := B 0 19) (by rw [c19]; omega) (by rw [c19]; exact kn12) (by omega) (by omega) rfl, ?_⟩
    refine ⟨fun h0 => ?_, fun h0 => ?_⟩
    · refine ⟨⟨by omega, by omega⟩, ?_⟩
      exact Or.inl (⟨rfl, h0, rfl⟩)
    · refine ⟨fun h1 => ?_, fun h1 => ?_⟩
      · refine ⟨⟨by omega, by omega⟩, ?_⟩
        exact Or.inr (Or.inl (⟨rfl, h0, h1, rfl⟩))
      · refine ⟨fun h2 => ?_, fun h2 => ?_⟩
        · refine ⟨⟨by omega, by omega⟩, ?_⟩
          exact Or.inr (Or.inr (Or.inl (⟨rfl, h0, h1, h2, rfl⟩)))
        · refine ⟨⟨by omega, by omega⟩, ?_⟩
          exact Or.inr (Or.inr (Or.inr (⟨rfl, h0, h1, h2, rfl⟩)))
theorem ta_20 {A : pm_A} {k i : Int} (hA : gH wM A) (hB : arB A) (k0 : 0 ≤ k) (k1 : k < A 0 7) (i0 : 0 ≤ i) (i1 : i < A 0 7 + A 0 8) {z : pm_R → Prop} (H : ∀ g w4 w5 w6 w7 C, taI A C k g (i + 1) → Tm pmt (an_sh wM) o_X10_turnsArrows 4 ([(2, 0), (0, k), (0, g), (0, i + 1), w4, w5, w6, w7], [], C) z) : ∀ (m : Nat) (g j : Int) (w5 w6 w7 : pm_V) (B : pm_A), (6 - j).toNat < m → 0 ≤ j → j ≤ A 0 7 → taJ A B k g i j → Tm pmt (an_sh wM) o_X10_turnsArrows 20 ([(2, 0), (0, k), (0, g), (0, i), (0, j), w5, w6, w7], [], B) z := by
  have p7 := fM_0_7 hA (r := 0) (by omega) km0
  have p8 := fM_0_8 hA (r := 0) (by omega) km0
  intro m
  induction m with
  | zero => intro g j w5 w6 w7 B h; omega
  | succ m ih =>
    intro g j w5 w6 w7 B hm j0 j1 hJ
    have hJ0 := hJ
    obtain ⟨hF, hg, h3, h4⟩ := hJ
    have c9 := pM_9 hF.1
    have e7 : B 0 7 = A 0 7 := hF.2 0 7 (by omega)
    have e5 : ∀ q : Int, B 5 q = A 5 q := fun q => hF.2 5 q (by omega)
    have a1 : j < A 0 7 → -9999 ≤ A 5 (6 * i + j) ∧ A 5 (6 * i + j) ≤ 9999 := fun h => hB i j i0 i1 j0 h
    have a2 := hB i k i0 i1 k0 k1
    have a3 : j < A 0 7 → -9999 ≤ A 5 (6 * k + j) ∧ A 5 (6 * k + j) ≤ 9999 := fun h => hB k j k0 (by omega) j0 h
    have f1 := e5 (6 * i + j)
    have f2 := e5 (6 * i + k)
    have f3 := e5 (6 * k + j)
    have hfin : ∀ v w6 w7, j < A 0 7 → v = tv A k i j → r32 v → Tm pmt (an_sh wM) o_X10_turnsArrows 122 ([(2, 0), (0, k), (0, g), (0, i), (0, j), (0, v), w6, w7], [], B) z := fun v w6 w7 hj hv hr => ta_122 i0 i1 ⟨by omega, by omega⟩ j0 hj hv hr hJ0 (fun g' w5 C hC => ih g' (j + 1) w5 w6 w7 C (by omega) (by omega) (by omega) hC)
    refine wq_ok srt_turnsArrows (fr := []) (cuts := [4, 116, 122]) (J := fun pc st => (pc = 4 ∧ ((B 0 7) ≤ j) ∧ st = ([(2, 0), (0, k), (0, g), (0, i + 1), (0, j), w5, w6, w7], [], B)) ∨ (pc = 122 ∧ (j < (B 0 7)) ∧ (i = k) ∧ st = ([(2, 0), (0, k), (0, g), (0, i), (0, j), (0, -(B (B 0 9) ((6 * i) + j))), (0, B (B 0 9) ((6 * i) + k)), (0, B (B 0 9) ((6 * k) + j))], [], B)) ∨ (pc = 122 ∧ (j < (B 0 7)) ∧ (¬ i = k) ∧ (¬ j = k) ∧ ((B (B 0 9) ((6 * i) + k)) ≤ 0) ∧ (0 ≤ (B (B 0 9) ((6 * i) + k))) ∧ st = ([(2, 0), (0, k), (0, g), (0, i), (0, j), (0, B (B 0 9) ((6 * i) + j)), (0, B (B 0 9) ((6 * i) + k)), (0, B (B 0 9) ((6 * k) + j))], [], B)) ∨ (pc = 122 ∧ (j < (B 0 7)) ∧ (¬ i = k) ∧ (¬ j = k) ∧ ((B (B 0 9) ((6 * i) + k)) ≤ 0) ∧ ((B (B 0 9) ((6 * i) + k)) < 0) ∧ (0 ≤ (B (B 0 9) ((6 * k) + j))) ∧ st = ([(2, 0), (0, k), (0, g), (0, i), (0, j), (0, B (B 0 9) ((6 * i) + j)), (0, B (B 0 9) ((6 * i) + k)), (0, B (B 0 9) ((6 * k) + j))], [], B)) ∨ (pc = 116 ∧ (j < (B 0 7)) ∧ (¬ i = k) ∧ (¬ j = k) ∧ ((B (B 0 9) ((6 * i) + k)) ≤ 0) ∧ ((B (B 0 9) ((6 * i) + k)) < 0) ∧ ((B (B 0 9) ((6 * k) + j)) < 0) ∧ st = ([(2, 0), (0, k), (0, g), (0, i), (0, j), (0, B (B 0 9) ((6 * i) + j)), (0, B (B 0 9) ((6 * i) + k)), (0, B (B 0 9) ((6 * k) + j))], [(0, if B (B 0 9) ((6 * i) + k) < 0 then -B (B 0 9) ((6 * i) + k) else B (B 0 9) ((6 * i) + k)), (0, B (B 0 9) ((6 * i) + j))], B)) ∨ (pc = 116 ∧ (j < (B 0 7)) ∧ (¬ i = k) ∧ (¬ j = k) ∧ (0 < (B (B 0 9) ((6 * i) + k))) ∧ (0 < (B (B 0 9) ((6 * k) + j))) ∧ st = ([(2, 0), (0, k), (0, g), (0, i), (0, j), (0, B (B 0 9) ((6 * i) + j)), (0, B (B 0 9) ((6 * i) + k)), (0, B (B 0 9) ((6 * k) + j))], [(0, if B (B 0 9) ((6 * i) + k) < 0 then -B (B 0 9) ((6 * i) + k) else B (B 0 9) ((6 * i) + k)), (0, B (B 0 9) ((6 * i) + j))], B)) ∨ (pc = 122 ∧ (j < (B 0 7)) ∧ (¬ i = k) ∧ (¬ j = k) ∧ (0 < (B (B 0 9) ((6 * i) + k))) ∧ ((B (B 0 9) ((6 * k) + j)) ≤ 0) ∧ (0 ≤ (B (B 0 9) ((6 * i) + k))) ∧ st = ([(2, 0), (0, k), (0, g), (0, i), (0, j), (0, B (B 0 9) ((6 * i) + j)), (0, B (B 0 9) ((6 * i) + k)), (0, B (B 0 9) ((6 * k) + j))], [], B)) ∨ (pc = 122 ∧ (j < (B 0 7)) ∧ (¬ i = k) ∧ (¬ j = k) ∧ (0 < (B (B 0 9) ((6 * i) + k))) ∧ ((B (B 0 9) ((6 * k) + j)) ≤ 0) ∧ ((B (B 0 9) ((6 * i) + k)) < 0) ∧ (0 ≤ (B (B 0 9) ((6 * k) + j))) ∧ st = ([(2, 0), (0, k), (0, g), (0, i), (0, j), (0, B (B 0 9) ((6 * i) + j)), (0, B (B 0 9) ((6 * i) + k)), (0, B (B 0 9) ((6 * k) + j))], [], B)) ∨ (pc = 116 ∧ (j < (B 0 7)) ∧ (¬ i = k) ∧ (¬ j = k) ∧ (0 < (B (B 0 9) ((6 * i) + k))) ∧ ((B (B 0 9) ((6 * k) + j)) ≤ 0) ∧ ((B (B 0 9) ((6 * i) + k)) < 0) ∧ ((B (B 0 9) ((6 * k) + j)) < 0) ∧ st = ([(2, 0), (0, k), (0, g), (0, i), (0, j), (0, B (B 0 9) ((6 * i) + j)), (0, B (B 0 9) ((6 * i) + k)), (0, B (B 0 9) ((6 * k) + j))], [(0, if B (B 0 9) ((6 * i) + k) < 0 then -B (B 0 9) ((6 * i) + k) else B (B 0 9) ((6 * i) + k)), (0, B (B 0 9) ((6 * i) + j))], B)) ∨ (pc = 122 ∧ (j < (B 0 7)) ∧ (¬ i = k) ∧ (j = k) ∧ st = ([(2, 0), (0, k), (0, g), (0, i), (0, j), (0, -(B (B 0 9) ((6 * i) + j))), (0, B (B 0 9) ((6 * i) + k)), (0, B (B 0 9) ((6 * k) + j))], [], B))) ?_ 52 20 _ ?_
    · rintro pc st (⟨rfl, h0, rfl⟩ | ⟨rfl, h0, h1, rfl⟩ | ⟨rfl, h0, h1, h2, h3, h4, rfl⟩ | ⟨rfl, h0, h1, h2, h3, h4, h5, rfl⟩ | ⟨rfl, h0, h1, h2, h3, h4, h5, rfl⟩ | ⟨rfl, h0, h1, h2, h3, h4, rfl⟩ | ⟨rfl, h0, h1, h2, h3, h4, h5, rfl⟩ | ⟨rfl, h0, h1, h2, h3, h4, h5, h6, rfl⟩ | ⟨rfl, h0, h1, h2, h3, h4, h5, h6, rfl⟩ | ⟨rfl, h0, h1, h2, rfl⟩)
      · rw [e7] at h0
        obtain ⟨t1, t2, t3, t4⟩ := hJ0
        have hj : j = A 0 7 := by omega
        refine H g _ _ _ _ B ⟨t1, ?_, fun i' j' x0 x1 y0 y1 => ?_⟩
        · rcases t2 with h | ⟨h, h5, h6⟩
          · exact Or.inl h
          · refine Or.inr ⟨h, fun i' j' x0 x1 y0 y1 => ?_⟩
            by_cases hi : i' = i
            · rw [hi]; exact h6 j' y0 (by omega)
            · exact h5 i' j' x0 (by omega) y0 y1
        · by_cases hi : i' = i
          · rw [hi]; exact t4 j' y0 (by omega)
          · exact t3 i' j' x0 (by omega) y0 y1
      · rw [e7] at h0
        have b1 := a1 h0
        have b3 := a3 h0
        rw [c9, f1]
        exact hfin _ _ _ h0 (by unfold tv; rw [if_pos (by omega)]) ⟨by omega, by omega⟩
      · rw [e7] at h0
        have b1 := a1 h0
        have b3 := a3 h0
        rw [c9, f1]
        rw [c9] at h3
        rw [c9] at h4
        exact hfin _ _ _ h0 (by unfold tv; rw [if_neg (by omega), if_neg (by omega)]) ⟨by omega, by omega⟩
      · rw [e7] at h0
        have b1 := a1 h0
        have b3 := a3 h0
        rw [c9, f1]
        rw [c9] at h3
        rw [c9] at h4
        rw [c9] at h5
        exact hfin _ _ _ h0 (by unfold tv; rw [if_neg (by omega), if_neg (by omega)]) ⟨by omega, by omega⟩
      · rw [e7] at h0
        have b1 := a1 h0
        have b3 := a3 h0
        rw [c9, f1, f2, f3]
        rw [c9] at h3
        rw [c9] at h4
        rw [c9] at h5
        have hpos : (0 < A 5 (6 * i + k) ∧ 0 < A 5 (6 * k + j)) ∨ (A 5 (6 * i + k) < 0 ∧ A 5 (6 * k + j) < 0) := by omega
        have hq : A 5 (6 * i + j) + (if A 5 (6 * i + k) < 0 then - A 5 (6 * i + k) else A 5 (6 * i + k)) * A 5 (6 * k + j) = tv A k i j := by unfold tv; rw [if_neg (show ¬ (i = k ∨ j = k) by omega), if_pos hpos]
        have hb : -9999 ≤ (if A 5 (6 * i + k) < 0 then - A 5 (6 * i + k) else A 5 (6 * i + k)) ∧ (if A 5 (6 * i + k) < 0 then - A 5 (6 * i + k) else A 5 (6 * i + k)) ≤ 9999 := by split <;> omega
        have hm2 := mul_bd hb b3
        have hqr : r32 (A 5 (6 * i + j) + (if A 5 (6 * i + k) < 0 then - A 5 (6 * i + k) else A 5 (6 * i + k)) * A 5 (6 * k + j)) := ⟨by omega, by omega⟩
        have hj := h0
        revert hq hqr hm2 hb b1 b3
        generalize (if A 5 (6 * i + k) < 0 then - A 5 (6 * i + k) else A 5 (6 * i + k)) = q
        generalize A 5 (6 * i + j) = x
        generalize A 5 (6 * k + j) = w
        generalize A 5 (6 * i + k) = y
        intro b1 b3 hq hb hm2 hqr
        refine wq_ok srt_turnsArrows (fr := []) (cuts := [122]) (J := fun pc st => (pc = 122 ∧ st = ([(2, 0), (0, k), (0, g), (0, i), (0, j), (0, x + (q * w)), (0, y), (0, w)], [], B))) ?_ 9 116 _ ?_
        · rintro pc st (⟨rfl, rfl⟩)
          exact hfin _ _ _ hj hq hqr
        · refine ⟨⟨by omega, by omega⟩, ?_⟩
          refine ⟨⟨by omega, by omega⟩, ?_⟩
          exact ⟨rfl, rfl⟩
      · rw [e7] at h0
        have b1 := a1 h0
        have b3 := a3 h0
        rw [c9, f1, f2, f3]
        rw [c9] at h3
        rw [c9] at h4
        have hpos : (0 < A 5 (6 * i + k) ∧ 0 < A 5 (6 * k + j)) ∨ (A 5 (6 * i + k) < 0 ∧ A 5 (6 * k + j) < 0) := by omega
        have hq : A 5 (6 * i + j) + (if A 5 (6 * i + k) < 0 then - A 5 (6 * i + k) else A 5 (6 * i + k)) * A 5 (6 * k + j) = tv A k i j := by unfold tv; rw [if_neg (show ¬ (i = k ∨ j = k) by omega), if_pos hpos]
        have hb : -9999 ≤ (if A 5 (6 * i + k) < 0 then - A 5 (6 * i + k) else A 5 (6 * i + k)) ∧ (if A 5 (6 * i + k) < 0 then - A 5 (6 * i + k) else A 5 (6 * i + k)) ≤ 9999 := by split <;> omega
        have hm2 := mul_bd hb b3
        have hqr : r32 (A 5 (6 * i + j) + (if A 5 (6 * i + k) < 0 then - A 5 (6 * i + k) else A 5 (6 * i + k)) * A 5 (6 * k + j)) := ⟨by omega, by omega⟩
        have hj := h0
        revert hq hqr hm2 hb b1 b3
        generalize (if A 5 (6 * i + k) < 0 then - A 5 (6 * i + k) else A 5 (6 * i + k)) = q
        generalize A 5 (6 * i + j) = x
        generalize A 5 (6 * k + j) = w
        generalize A 5 (6 * i + k) = y
        intro b1 b3 hq hb hm2 hqr
        refine wq_ok srt_turnsArrows (fr := []) (cuts := [122]) (J := fun pc st => (pc = 122 ∧ st = ([(2, 0), (0, k), (0, g), (0, i), (0, j), (0, x + (q * w)), (0, y), (0, w)], [], B))) ?_ 9 116 _ ?_
        · rintro pc st (⟨rfl, rfl⟩)
          exact hfin _ _ _ hj hq hqr
        · refine ⟨⟨by omega, by omega⟩, ?_⟩
          refine ⟨⟨by omega, by omega⟩, ?_⟩
          exact ⟨rfl, rfl⟩
      · rw [e7] at h0
        have b1 := a1 h0
        have b3 := a3 h0
        rw [c9, f1]
        rw [c9] at h3
        rw [c9] at h4
        rw [c9] at h5
        exact hfin _ _ _ h0 (by unfold tv; rw [if_neg (by omega), if_neg (by omega)]) ⟨by omega, by omega⟩
      · rw [e7] at h0
        have b1 := a1 h0
        have b3 := a3 h0
        rw [c9, f1]
        rw [c9] at h3
        rw [c9] at h4
        rw [c9] at h5
        rw [c9] at h6
        exact hfin _ _ _ h0 (by unfold tv; rw [if_neg (by omega), if_neg (by omega)]) ⟨by omega, by omega⟩
      · rw [e7] at h0
        have b1 := a1 h0
        have b3 := a3 h0
        rw [c9, f1, f2, f3]
        rw [c9] at h3
        rw [c9] at h4
        rw [c9] at h5
        rw [c9] at h6
        have hpos : (0 < A 5 (6 * i + k) ∧ 0 < A 5 (6 * k + j)) ∨ (A 5 (6 * i + k) < 0 ∧ A 5 (6 * k + j) < 0) := by omega
        have hq : A 5 (6 * i + j) + (if A 5 (6 * i + k) < 0 then - A 5 (6 * i + k) else A 5 (6 * i + k)) * A 5 (6 * k + j) = tv A k i j := by unfold tv; rw [if_neg (show ¬ (i = k ∨ j = k) by omega), if_pos hpos]
        have hb : -9999 ≤ (if A 5 (6 * i + k) < 0 then - A 5 (6 * i + k) else A 5 (6 * i + k)) ∧ (if A 5 (6 * i + k) < 0 then - A 5 (6 * i + k) else A 5 (6 * i + k)) ≤ 9999 := by split <;> omega
        have hm2 := mul_bd hb b3
        have hqr : r32 (A 5 (6 * i + j) + (if A 5 (6 * i + k) < 0 then - A 5 (6 * i + k) else A 5 (6 * i + k)) * A 5 (6 * k + j)) := ⟨by omega, by omega⟩
        have hj := h0
        revert hq hqr hm2 hb b1 b3
        generalize (if A 5 (6 * i + k) < 0 then - A 5 (6 * i + k) else A 5 (6 * i + k)) = q
        generalize A 5 (6 * i + j) = x
        generalize A 5 (6 * k + j) = w
        generalize A 5 (6 * i + k) = y
        intro b1 b3 hq hb hm2 hqr
        refine wq_ok srt_turnsArrows (fr := []) (cuts := [122]) (J := fun pc st => (pc = 122 ∧ st = ([(2, 0), (0, k), (0, g), (0, i), (0, j), (0, x + (q * w)), (0, y), (0, w)], [], B))) ?_ 9 116 _ ?_
        · rintro pc st (⟨rfl, rfl⟩)
          exact hfin _ _ _ hj hq hqr
        · refine ⟨⟨by omega, by omega⟩, ?_⟩
          refine ⟨⟨by omega, by omega⟩, ?_⟩
          exact ⟨rfl, rfl⟩
      · rw [e7] at h0
        have b1 := a1 h0
        have b3 := a3 h0
        rw [c9, f1]
        exact hfin _ _ _ h0 (by unfold tv; rw [if_pos (by omega)]) ⟨by omega, by omega⟩
    · refine ⟨oM_0 (by omega) km0 7 rfl, ?_⟩
      refine ⟨fun h0 => ?_, fun h0 => ?_⟩
      · refine ⟨⟨by omega, by omega⟩, ?_⟩
        exact Or.inl (⟨rfl, h0, rfl⟩)
      · refine ⟨oM_0 (by omega) km0 9 rfl, ?_⟩
        refine ⟨⟨by omega, by omega⟩, ?_⟩
        refine ⟨⟨by omega, by omega⟩, ?_⟩
        refine ⟨aM_5 (r := B 0 9) (by rw [c9]; omega) (by rw [c9]; exact kn5) (by omega) (by omega), ?_⟩
        have e1 : B (B 0 9) ((6 * i) + j) = B 5 ((6 * i) + j) := by rw [c9]
        refine ⟨oM_0 (by omega) km0 9 rfl, ?_⟩
        refine ⟨⟨by omega, by omega⟩, ?_⟩
        refine ⟨⟨by omega, by omega⟩, ?_⟩
        refine ⟨aM_5 (r := B 0 9) (by rw [c9]; omega) (by rw [c9]; exact kn5) (by omega) (by omega), ?_⟩
        have e2 : B (B 0 9) ((6 * i) + k) = B 5 ((6 * i) + k) := by rw [c9]
        refine ⟨oM_0 (by omega) km0 9 rfl, ?_⟩
        refine ⟨⟨by omega, by omega⟩, ?_⟩
        refine ⟨⟨by omega, by omega⟩, ?_⟩
        refine ⟨aM_5 (r := B 0 9) (by rw [c9]; omega) (by rw [c9]; exact kn5) (by omega) (by omega), ?_⟩
        have e3 : B (B 0 9) ((6 * k) + j) = B 5 ((6 * k) + j) := by rw [c9]
        refine ⟨fun h1 => ?_, fun h1 => ?_⟩
        · refine ⟨⟨by omega, by omega⟩, ?_⟩
          exact Or.inr (Or.inl (⟨rfl, h0, h1, rfl⟩))
        · refine ⟨fun h2 => ?_, fun h2 => ?_⟩
          · refine ⟨fun h3 => ?_, fun h3 => ?_⟩
            · refine ⟨fun h4 => ?_, fun h4 => ?_⟩
              · exact Or.inr (Or.inr (Or.inl (⟨rfl, h0, h1, h2, h3, h4, rfl⟩)))
              · refine ⟨fun h5 => ?_, fun h5 => ?_⟩
                · exact Or.inr (Or.inr (Or.inr (Or.inl (⟨rfl, h0, h1, h2, h3, h4, h5, rfl⟩))))
                · refine ⟨rfl, ?_⟩
                  refine (without_ex (a := B (B 0 9) ((6 * i) + k)) (by omega) (by omega)).imp ?_
                  rintro ⟨r1, C⟩ ⟨q1, q2⟩
                  simp only at q1 q2
                  subst q1 q2
                  exact Or.inr (Or.inr (Or.inr (Or.inr (Or.inl (⟨rfl, h0, h1, h2, h3, h4, h5, rfl⟩)))))
            · refine ⟨fun h4 => ?_, fun h4 => ?_⟩
              · refine ⟨rfl, ?_⟩
                refine (without_ex (a := B (B 0 9) ((6 * i) + k)) (by omega) (by omega)).imp ?_
                rintro ⟨r1, C⟩ ⟨q1, q2⟩
                simp only at q1 q2
                subst q1 q2
                exact Or.inr (Or.inr (Or.inr (Or.inr (Or.inr (Or.inl (⟨rfl, h0, h1, h2, h3, h4, rfl⟩))))))
              · refine ⟨fun h5 => ?_, fun h5 => ?_⟩
                · exact Or.inr (Or.inr (Or.inr (Or.inr (Or.inr (Or.inr (Or.inl (⟨rfl, h0, h1, h2, h3, h4, h5, rfl⟩)))))))
                · refine ⟨fun h6 => ?_, fun h6 => ?_⟩
                  · exact Or.inr (Or.inr (Or.inr (Or.inr (Or.inr (Or.inr (Or.inr (Or.inl (⟨rfl, h0, h1, h2, h3, h4, h5, h6, rfl⟩))))))))
                  · refine ⟨rfl, ?_⟩
                    refine (without_ex (a := B (B 0 9) ((6 * i) + k)) (by omega) (by omega)).imp ?_
                    rintro ⟨r1, C⟩ ⟨q1, q2⟩
                    simp only at q1 q2
                    subst q1 q2
                    exact Or.inr (Or.inr (Or.inr (Or.inr (Or.inr (Or.inr (Or.inr (Or.inr (Or.inl (⟨rfl, h0, h1, h2, h3, h4, h5, h6, rfl⟩)))))))))
          · refine ⟨⟨by omega, by omega⟩, ?_⟩
            exact Or.inr (Or.inr (Or.inr (Or.inr (Or.inr (Or.inr (Or.inr (Or.inr (Or.inr (⟨rfl, h0, h1, h2, rfl⟩)))))))))
theorem ta_4 {A : pm_A} {k : Int} (hA : gH wM A) (hB : arB A) (k0 : 0 ≤ k) (k1 : k < A 0 7) : ∀ (m : Nat) (g i : Int) (w4 w5 w6 w7 : pm_V) (B : pm_A), (12 - i).toNat < m → 0 ≤ i → i ≤ A 0 7 + A 0 8 → taI A B k g i → Tm pmt (an_sh wM) o_X10_turnsArrows 4 ([(2, 0), (0, k), (0, g), (0, i), w4, w5, w6, w7], [], B) (mta_post A k) := by
  have p7 := fM_0_7 hA (r := 0) (by omega) km0
  have p8 := fM_0_8 hA (r := 0) (by omega) km0
  intro m
  induction m with
  | zero => intro g i w4 w5 w6 w7 B h; omega
  | succ m ih =>
    intro g i w4 w5 w6 w7 B hm i0 i1 hI
    obtain ⟨hF, hg, h3⟩ := hI
    have e7 : B 0 7 = A 0 7 := hF.2 0 7 (by omega)
    have e8 : B 0 8 = A 0 8 := hF.2 0 8 (by omega)
    have hend : A 0 7 + A 0 8 ≤ i → mta_post A k (some (0, g), B) := fun h => ⟨hF, g, rfl, by
      rcases hg with h2 | ⟨h2, h5⟩
      · exact Or.inl h2
      · exact Or.inr ⟨h2, fun i' j x0 x1 y0 y1 => h5 i' j x0 (by omega) y0 y1⟩, fun i' j x0 x1 y0 y1 => h3 i' j x0 (by omega) y0 y1⟩
    refine wq_ok srt_turnsArrows (fr := []) (cuts := [20]) (J := fun pc st => (pc = 20 ∧ (i < ((B 0 7) + (B 0 8))) ∧ st = ([(2, 0), (0, k), (0, g), (0, i), (0, 0), w5, w6, w7], [], B))) ?_ 14 4 _ ?_
    · rintro pc st (⟨rfl, h0, rfl⟩)
      rw [e7, e8] at h0
      refine ta_20 hA hB k0 k1 i0 h0 (fun g w4 w5 w6 w7 C hC => ih g (i + 1) w4 w5 w6 w7 C (by omega) (by omega) (by omega) hC) _ g 0 _ _ _ B (Nat.lt_succ_self _) (by omega) (by omega) ⟨hF, ?_, h3, fun j y0 y1 => by omega⟩
      rcases hg with h2 | ⟨h2, h5⟩
      · exact Or.inl h2
      · exact Or.inr ⟨h2, h5, fun j y0 y1 => by omega⟩
    · refine ⟨oM_0 (by omega) km0 7 rfl, ?_⟩
      refine ⟨oM_0 (by omega) km0 8 rfl, ?_⟩
      refine ⟨⟨by omega, by omega⟩, ?_⟩
      refine ⟨fun h0 => ?_, fun h0 => ?_⟩
      · exact ⟨okt2 (by rcases hg with h | h; exact Or.inl h; exact Or.inr h.1), hend (by rw [e7, e8] at h0; exact h0)⟩
      · exact ⟨rfl, h0, rfl⟩
theorem turnsArrows_ex {A : pm_A} {k : Int} (hA : gH wM A) (hB : arB A) (k0 : 0 ≤ k) (k1 : k < A 0 7) : Cl pmt (an_sh wM) 201 [(2, 0), (0, k)] A (mta_post A k) := by
  have p7 := fM_0_7 hA (r := 0) (by omega) km0
  have p8 := fM_0_8 hA (r := 0) (by omega) km0
  refine Cl.of (Nat.le_of_ble_eq_true rfl) ?_
  refine wq_ok (full := o_X10_turnsArrows) srt_turnsArrows (fr := []) (cuts := [4]) (J := fun pc st => (pc = 4 ∧ st = ([(2, 0), (0, k), (0, 1), (0, 0), (9, 0), (9, 0), (9, 0), (9, 0)], [], A))) ?_ 9 0 _ ?_
  · rintro pc st (⟨rfl, rfl⟩)
    exact ta_4 hA hB k0 k1 _ 1 0 _ _ _ _ A (Nat.lt_succ_self _) (by omega) (by omega) ⟨⟨hA, fun _ _ _ => rfl⟩, Or.inr ⟨rfl, fun i' j x0 x1 y0 y1 => by omega⟩, fun i' j x0 x1 y0 y1 => by omega⟩
  · exact ⟨rfl, rfl⟩
end

section
theorem shr_ins {l : cr_Pl_ 12} (h : cr_Shr l) {c : Int} (hc : 0 < c) (a : cr_Xp 12) : ∃ l', cr_Shr l' ∧ (∀ b, cr_co l' b = cr_co l b + si (c, a) b) ∧ ∀ z ∈ l', z.2 = a ∨ ∃ w ∈ l, w.2 = z.2 := by
  induction l with
  | nil =>
    refine ⟨[(c, a)], ⟨by simp, fun y hy => by simp at hy; rw [hy]; exact hc⟩, fun b => ?_, fun z hz => by simp at hz; rw [hz]; exact Or.inl rfl⟩
    rw [cr_co_cons]; show si (c, a) b + (0 : Int) = (0 : Int) + si (c, a) b; omega
  | cons y l ih =>
    have hs := List.pairwise_cons.1 h.1
    have hy := h.2 y (by simp)
    rcases cr_Gt.total y.2 a with e | e | e
    · refine ⟨(y.1 + c, a) :: l, ⟨List.pairwise_cons.2 ⟨fun z hz => by rw [← e]; exact hs.1 z hz, hs.2⟩, fun z hz => ?_⟩, fun b => ?_, fun z hz => ?_⟩
      · rcases List.mem_cons.1 hz with rfl | hz
        · show 0 < y.1 + c; omega
        · exact h.2 z (by simp [hz])
      · rw [cr_co_cons, cr_co_cons]
        show si (y.1 + c, a) b + _ = si y b + _ + si (c, a) b
        have : si y b = si (y.1, a) b := by rw [← e]
        rw [si_add, this]; omega
      · rcases List.mem_cons.1 hz with rfl | hz
        · exact Or.inl rfl
        · exact Or.inr ⟨z, by simp [hz], rfl⟩
    · obtain ⟨l', h1, h2, h3⟩ := ih ⟨hs.2, fun z hz => h.2 z (by simp [hz])⟩
      refine ⟨y :: l', ⟨List.pairwise_cons.2 ⟨fun z hz => ?_, h1.1⟩, fun z hz => ?_⟩, fun b => ?_, fun z hz => ?_⟩
      · rcases h3 z hz with e2 | ⟨w, hw, ew⟩
        · rw [e2]; exact e
        · rw [← ew]; exact hs.1 w hw
      · rcases List.mem_cons.1 hz with rfl | hz
        · exact hy
        · exact h1.2 z hz
      · rw [cr_co_cons, cr_co_cons, h2 b]; omega
      · rcases List.mem_cons.1 hz with rfl | hz
        · exact Or.inr ⟨z, by simp, rfl⟩
        · rcases h3 z hz with e2 | ⟨w, hw, ew⟩
          · exact Or.inl e2
          · exact Or.inr ⟨w, by simp [hw], ew⟩
    · refine ⟨(c, a) :: y :: l, ⟨List.pairwise_cons.2 ⟨fun z hz => ?_, h.1⟩, fun z hz => ?_⟩, fun b => ?_, fun z hz => ?_⟩
      · rcases List.mem_cons.1 hz with rfl | hz
        · exact e
        · exact e.trans (hs.1 z hz)
      · rcases List.mem_cons.1 hz with rfl | hz
        · exact hc
        · exact h.2 z hz
      · rw [cr_co_cons]; show si (c, a) b + _ = _ + si (c, a) b; omega
      · rcases List.mem_cons.1 hz with rfl | hz
        · exact Or.inl rfl
        · exact Or.inr ⟨z, hz, rfl⟩
theorem shr_ex : ∀ l : cr_Pl_ 12, (∀ y ∈ l, 0 < y.1) → ∃ l', cr_Shr l' ∧ ∀ a, cr_co l' a = cr_co l a
  | [], _ => ⟨[], ⟨by simp, fun y hy => by simp at hy⟩, fun _ => rfl⟩
  | y :: l, h => by
    obtain ⟨l1, h1, h2⟩ := shr_ex l (fun z hz => h z (by simp [hz]))
    obtain ⟨l2, h3, h4, _⟩ := shr_ins h1 (h y (by simp)) y.2
    refine ⟨l2, h3, fun a => ?_⟩
    rw [h4 a, h2 a, cr_co_cons]
    show _ + si y a = si y a + _
    omega
theorem rat_le {a b : Int} (h : a ≤ b) : (a : Rat) ≤ (b : Rat) := by exact_mod_cast h
theorem vl_ones_le {l : cr_Pl_ 12} (h : ∀ y ∈ l, y.1 ≤ 1000000000000) : cr_vl (fun _ => 1) l ≤ (l.length : Rat) * 1000000000000 := by
  induction l with
  | nil => rw [cr_vl_nil]; show (0 : Rat) ≤ ((0 : Nat) : Rat) * 1000000000000; rw [show ((0 : Nat) : Rat) = 0 from rfl]; grind
  | cons y l ih =>
    rw [cr_vl_cons, cr_mo_ones, List.length_cons]
    have h1 := ih (fun z hz => h z (by simp [hz]))
    have h2 : (y.1 : Rat) ≤ ((1000000000000 : Int) : Rat) := rat_le (h y (by simp))
    rw [show ((1000000000000 : Int) : Rat) = 1000000000000 from rfl] at h2
    have h3 : ((l.length + 1 : Nat) : Rat) = (l.length : Rat) + 1 := by exact_mod_cast rfl
    rw [h3]
    grind
theorem two48 : (200000000000000 : Rat) < (2 : Rat) ^ (48 : Int) := by decide +kernel
def Tru (s : cx_Sd 12) (ks : List (Fin 12)) (A : pm_A) : Prop := gH wM A ∧ (1 ≤ A 0 7) ∧ (∀ i j : Fin 12, (j.1 : Int) < A 0 7 → ((i.1 : Int) < A 0 7 + A 0 8 → cr_bs s.b ks i j = A 5 (6 * (i.1 : Int) + (j.1 : Int))) ∧ (A 0 7 + A 0 8 ≤ (i.1 : Int) → cr_bs s.b ks i j = 0)) ∧ (∀ k ∈ ks, (k.1 : Int) < A 0 7) ∧ (∀ v k : Fin 12, (k.1 : Int) < A 0 7 → s.b v k ≤ 9 ∧ -9 ≤ s.b v k) ∧ arB A ∧ ∀ i : Fin 12, (i.1 : Int) < A 0 7 → srtd A i.1 ∧ cfs A i.1 ∧ ∀ x, (cr_gp s.b ks x).1 i = VS A i.1 x
theorem Tru.one {s : cx_Sd 12} {ks : List (Fin 12)} {A : pm_A} (h : Tru s ks A) {i : Fin 12} (hi : (i.1 : Int) < A 0 7) : 1 ≤ A 1 i.1 := by
  refine Classical.byContradiction (fun hneg => ?_)
  let o : cr_Pv 12 := ⟨fun _ => 1, fun _ => by grind⟩
  have h1 := (h.2.2.2.2.2.2 i hi).2.2 o
  have m := eM_1 h.1 (r := 1) (by omega) kn1 (j := i.1) (by omega) (by have := i.2; omega)
  have h0 : VS A i.1 o = 0 := by
    unfold VS LSm
    rw [show A 1 (i.1 : Int) = 0 by omega]; rfl
  rw [h0] at h1
  have := (cr_gp s.b ks o).2 i
  grind
theorem Tru.lt {s : cx_Sd 12} {ks : List (Fin 12)} {A : pm_A} (h : Tru s ks A) : ltH A := by
  refine ⟨h.1, fun i i0 i1 => ?_, h.2.2.2.2.2.1⟩
  have p7 := fM_0_7 h.1 (r := 0) (by omega) km0
  obtain ⟨hg, h1, hb, hk, h9, ha, hl⟩ := h
  have hi : i = ((⟨i.toNat, by omega⟩ : Fin 12).1 : Int) := by show i = ((i.toNat : Nat) : Int); omega
  obtain ⟨l1, l2, l3⟩ := hl ⟨i.toNat, by omega⟩ (by rw [← hi]; exact i1)
  rw [← hi] at l1 l2
  have l3 : ∀ x, (cr_gp s.b ks x).1 ⟨i.toNat, by omega⟩ = cr_vl x.1 (LSm A i) := fun x => by rw [l3 x, ← hi]; rfl
  have m := eM_1 hg (r := 1) (by omega) kn1 i0 (show i < 152 by omega)
  have hone : 1 ≤ A 1 i := by
    have := Tru.one ⟨hg, h1, hb, hk, h9, ha, hl⟩ (i := ⟨i.toNat, by omega⟩) (by rw [← hi]; exact i1)
    rw [← hi] at this
    exact this
  refine ⟨l1, l2, hone, ?_⟩
  have hlen : (LSm A i).length ≤ 200 := by rw [LSm_len]; omega
  have hx := cr_exp s (Q := fun k => (k.1 : Int) < A 0 7) ks hk ⟨i.toNat, by omega⟩ (fun v k hk => h9 v k hk) (pos_LSm l2) l3 hlen (by
    have h3 := vl_ones_le (l := LSm A i) (fun y hy => by
      obtain ⟨q, q0, q1, rfl⟩ := mem_LSm hy
      exact (l2 q q0 q1).2)
    have h4 : ((LSm A i).length : Rat) ≤ ((200 : Nat) : Rat) := by exact_mod_cast hlen
    rw [show ((200 : Nat) : Rat) = 200 from rfl] at h4
    have h5 := two48
    have h6 := Rat.mul_nonneg (by grind : 0 ≤ (200 : Rat) - ((LSm A i).length : Rat)) (by grind : (0 : Rat) ≤ 1000000000000)
    grind)
  intro q v q0 q1 v0 v1
  have := hx _ (in_LSm q0 q1) ⟨v.toNat, by omega⟩
  have e : -47 ≤ A 3 (12 * (200 * i + q) + ((v.toNat : Nat) : Int)) ∧ A 3 (12 * (200 * i + q) + ((v.toNat : Nat) : Int)) ≤ 1810 := this
  rw [Int.toNat_of_nonneg v0] at e
  omega
theorem pvl_mo (A : pm_A) (k sg : Int) (x : cr_Pv 12) : ∀ m : Nat, m ≤ 12 → pvl A k sg x m = cr_mo (fun i : Fin 12 => yv A x i.1) (fun i : Fin 12 => if i.1 < m then (cx_pos (sg * A 5 (6 * (i.1 : Int) + k)) : Int) else 0)
  | 0, _ => by
    show (1 : Rat) = _
    refine Eq.symm (Eq.trans (congrArg (cr_mo _) (funext fun i => if_neg (by omega))) (cr_mo_zero _))
  | m + 1, h => by
    show pvl A k sg x m * yv A x m ^ (cx_pos (sg * A 5 (6 * (m : Int) + k)) : Int) = _
    rw [pvl_mo A k sg x m (by omega)]
    have e1 : (fun i : Fin 12 => if i.1 < m + 1 then (cx_pos (sg * A 5 (6 * (i.1 : Int) + k)) : Int) else 0) = cr_up (fun i : Fin 12 => if i.1 < m then (cx_pos (sg * A 5 (6 * (i.1 : Int) + k)) : Int) else 0) ⟨m, by omega⟩ (cx_pos (sg * A 5 (6 * (m : Int) + k)) : Int) := funext fun i => by
      by_cases hi : i = ⟨m, by omega⟩
      · rw [hi, cr_up_k, if_pos (by show m < m + 1; omega)]
      · rw [cr_up_ne _ _ hi]
        have : i.1 ≠ m := fun e => hi (Fin.ext e)
        by_cases h2 : i.1 < m
        · rw [if_pos (by omega), if_pos h2]
        · rw [if_neg (by omega), if_neg h2]
    have e2 : cr_up (fun i : Fin 12 => if i.1 < m then (cx_pos (sg * A 5 (6 * (i.1 : Int) + k)) : Int) else 0) ⟨m, by omega⟩ 0 = (fun i : Fin 12 => if i.1 < m then (cx_pos (sg * A 5 (6 * (i.1 : Int) + k)) : Int) else 0) := funext fun i => by
      by_cases hi : i = ⟨m, by omega⟩
      · rw [hi, cr_up_k, if_neg (by show ¬ m < m; omega)]
      · rw [cr_up_ne _ _ hi]
    rw [e1, cr_mo_up, e2]
    grind
theorem Tru.pvl {s : cx_Sd 12} {ks : List (Fin 12)} {A : pm_A} (h : Tru s ks A) {k : Fin 12} (hk : (k.1 : Int) < A 0 7) (sg : Int) (x : cr_Pv 12) : pvl A k.1 sg x (A 0 7 + A 0 8).toNat = cr_mo (cr_gp s.b ks x).1 (fun i => (cx_pos (sg * cr_bs s.b ks i k) : Int)) := by
  have p7 := fM_0_7 h.1 (r := 0) (by omega) km0
  have p8 := fM_0_8 h.1 (r := 0) (by omega) km0
  obtain ⟨hg, h1, hb, hks, h9, ha, hl⟩ := h
  rw [pvl_mo A k.1 sg x _ (by omega)]
  have e1 : (fun i : Fin 12 => yv A x i.1) = (cr_gp s.b ks x).1 := funext fun i => by
    unfold yv
    by_cases hi : (i.1 : Int) < A 0 7
    · rw [if_pos hi, (hl i hi).2.2 x]
    · rw [if_neg hi, dif_pos i.2, cr_gp_ne ks s.b x (fun hm => hi (hks i hm))]
  rw [e1]
  refine congrArg (cr_mo _) (funext fun i => ?_)
  by_cases hi : (i.1 : Int) < A 0 7 + A 0 8
  · rw [if_pos (by omega), (hb i k hk).1 hi]
  · rw [if_neg (by omega), (hb i k hk).2 (by omega), Int.mul_zero]; rfl
theorem cr_bs_snoc {n : Nat} (ks : List (Fin n)) (k : Fin n) : ∀ b : Fin n → Fin n → Int, cr_bs b (ks ++ [k]) = cr_turnB (cr_bs b ks) k := by
  induction ks with
  | nil => exact fun b => rfl
  | cons q ks ih => exact fun b => ih (cr_turnB b q)
theorem tru_quot {s : cx_Sd 12} {ks : List (Fin 12)} {A : pm_A} (h : Tru s ks A) {k : Fin 12} (hk : (k.1 : Int) < A 0 7) {N : cr_Pl_ 12} (hNs : cr_Shr N) (hNc : ∀ y ∈ N, y.1 ≤ 1000000000000) (hNl : N.length ≤ 200) (hN : ∀ x : cr_Pv 12, cr_vl x.1 N = cr_P (cr_bs s.b ks) k (cr_gp s.b ks x).1) :
    ∃ Q : cr_Pl_ 12, cr_Shr Q ∧ (∀ x, (cr_gp s.b (ks ++ [k]) x).1 k = cr_vl x.1 Q) ∧ (∀ c, cr_co N c = cr_co (cr_pmz Q (LSm A k.1)) c) ∧ Q.length ≤ 200 ∧ ∀ y ∈ Q, y.1 ≤ 1000000000000 := by
  obtain ⟨Q0, hQ0, hv⟩ := cr_rel [] s (ks ++ [k]) k
  obtain ⟨Q, hQ, hQc⟩ := shr_ex Q0 hQ0
  have hone := h.one hk
  obtain ⟨hg, h1, hb, hks, h9, ha, hl⟩ := h
  obtain ⟨l1, l2, l3⟩ := hl k hk
  have hQv : ∀ x, (cr_gp s.b (ks ++ [k]) x).1 k = cr_vl x.1 Q := fun x => by rw [hv x]; exact (cr_vl_co x.1 hQc).symm
  have hprod : ∀ c, cr_co N c = cr_co (cr_pmz Q (LSm A k.1)) c := cr_vl_unique (fun x => by
    rw [cr_vl_pmz x.2, hN x, ← hQv x, cr_gp_snoc]
    show _ = cr_stepv (cr_bs s.b ks) k (cr_gp s.b ks x).1 k * cr_vl x.1 (LSm A k.1)
    have e := l3 x
    have e2 : cr_vl x.1 (LSm A k.1) = (cr_gp s.b ks x).1 k := e.symm
    rw [e2, cr_step_k]
    have hp := (cr_gp s.b ks x).2 k
    have : ((cr_gp s.b ks x).1 k)⁻¹ * (cr_gp s.b ks x).1 k = 1 := Rat.inv_mul_cancel _ (by grind)
    grind)
  have hl0 := in_LSm (A := A) (p := k.1) (q := 0) (by omega) (by omega)
  have hLp := pos_LSm l2
  have hpp : ∀ y ∈ cr_pmz Q (LSm A k.1), 0 < y.1 := fun y hy => by
    obtain ⟨u, hu, w, hw, rfl⟩ := cr_mem_pmz hy
    exact Int.mul_pos (hQ.2 u hu) (hLp w hw)
  have hin : ∀ y ∈ Q, ∃ z ∈ N, z.2 = (fun i => y.2 i + xe A k.1 0 i) ∧ y.1 ≤ z.1 := fun y hy => by
    have hm : (y.1 * A 2 (200 * (k.1 : Int) + 0), fun i => y.2 i + xe A k.1 0 i) ∈ cr_pmz Q (LSm A k.1) := List.mem_flatMap.2 ⟨y, hy, List.mem_map.2 ⟨_, hl0, rfl⟩⟩
    have hp := cr_co_pos hpp hm
    rw [← hprod] at hp
    obtain ⟨z, hz, ez⟩ := cr_co_mem (l := N) (a := fun i => y.2 i + xe A k.1 0 i) (fun e => by
      have hp2 : 0 < cr_co N (fun i => y.2 i + xe A k.1 0 i) := hp
      omega)
    refine ⟨z, hz, ez, ?_⟩
    have h2 : cr_co N z.2 = z.1 := hNs.at hz
    rw [ez, hprod, cr_co_pmz] at h2
    have hge : y.1 * cr_co (LSm A k.1) (fun i => (y.2 i + xe A k.1 0 i) - y.2 i) ≤ ((Q.map fun w => w.1 * cr_co (LSm A k.1) (fun i => (y.2 i + xe A k.1 0 i) - w.2 i)).sum) := by
      have nn : ∀ w ∈ Q, 0 ≤ w.1 * cr_co (LSm A k.1) (fun i => (y.2 i + xe A k.1 0 i) - w.2 i) := fun w hw => Int.mul_nonneg (Int.le_of_lt (hQ.2 w hw)) (cr_Shr.nonneg hLp _)
      have gen : ∀ (l : cr_Pl_ 12) (g : Int × cr_Xp 12 → Int), (∀ w ∈ l, 0 ≤ g w) → y ∈ l → g y ≤ (l.map g).sum := by
        intro l g hn hm
        induction l with
        | nil => simp at hm
        | cons w l ih =>
          rw [List.map_cons, List.sum_cons]
          have hw := hn w (by simp)
          have hs : 0 ≤ (l.map g).sum := by
            clear ih hm
            have hn2 : ∀ w ∈ l, 0 ≤ g w := fun w hw => hn w (by simp [hw])
            clear hn
            induction l with
            | nil => simp
            | cons v l ih2 =>
              rw [List.map_cons, List.sum_cons]
              have := hn2 v (by simp)
              have := ih2 (fun w hw => hn2 w (by simp [hw]))
              omega
          rcases List.mem_cons.1 hm with rfl | hm
          · omega
          · have := ih (fun w hw => hn w (by simp [hw])) hm
            omega
      exact gen Q _ nn hy
    have e3 : (fun i => (y.2 i + xe A k.1 0 i) - y.2 i) = xe A k.1 0 := funext fun i => by omega
    rw [e3] at hge
    have h4 := cr_co_pos hLp hl0
    have h4 : 0 < cr_co (LSm A k.1) (xe A k.1 0) := h4
    have h5 := Int.mul_le_mul_of_nonneg_left (show 1 ≤ cr_co (LSm A k.1) (xe A k.1 0) by omega) (Int.le_of_lt (hQ.2 y hy))
    omega
  refine ⟨Q, hQ, hQv, hprod, ?_, fun y hy => ?_⟩
  · have := cr_len (Q.map fun y => (fun i => y.2 i + xe A k.1 0 i)) (N.map (·.2)) (by
      rw [List.nodup_iff_pairwise_ne, List.pairwise_map]
      refine hQ.1.imp (fun {u w} hg e => ?_)
      have : u.2 = w.2 := funext fun i => by have := congrFun e i; have h6 : u.2 i + xe A k.1 0 i = w.2 i + xe A k.1 0 i := this; omega
      rw [this] at hg
      exact cr_Gt.irrefl _ hg) (fun c hc => by
      obtain ⟨y, hy, rfl⟩ := List.mem_map.1 hc
      obtain ⟨z, hz, ez, _⟩ := hin y hy
      exact List.mem_map.2 ⟨z, hz, ez⟩)
    rw [List.length_map, List.length_map] at this
    omega
  · obtain ⟨z, hz, _, hle⟩ := hin y hy
    have := hNc z hz
    omega
end

section
/-! turns -/
theorem srt_turns : pm_srt o_X10_turns = true := by decide +kernel
def tuG (A B : pm_A) : Prop := gH wM B ∧ ∀ r j, (∀ t : Int, 42 ≤ t → t ≤ 47 → ¬ inS t r j) → r ≠ 4 → r ≠ 12 → ¬ (r = 0 ∧ (j = 4 ∨ j = 5)) → B r j = A r j
theorem tuG.tr {A B C : pm_A} (h : tuG A B) (g : tuG B C) : tuG A C := ⟨g.1, fun r j a1 a2 a3 a4 => (g.2 r j a1 a2 a3 a4).trans (h.2 r j a1 a2 a3 a4)⟩
theorem tuG.slot {A B : pm_A} (h : tuG A B) {p : Int} (hp : p < 42) : ∀ r j, inS p r j → B r j = A r j := fun r j hj => h.2 r j (fun t t0 t1 ht => by unfold inS at *; omega) (by unfold inS at hj; omega) (by unfold inS at hj; omega) (by unfold inS at hj; omega)
theorem tuG.arr {A B : pm_A} (h : tuG A B) (j : Int) : B 5 j = A 5 j := h.2 5 j (fun t t0 t1 ht => by unfold inS at ht; omega) (by omega) (by omega) (by omega)
theorem tuG.fld {A B : pm_A} (h : tuG A B) {j : Int} (h4 : j ≠ 4) (h5 : j ≠ 5) : B 0 j = A 0 j := h.2 0 j (fun t t0 t1 ht => by unfold inS at ht; omega) (by omega) (by omega) (by omega)
theorem srtd_same {A B : pm_A} {p : Int} (hm : A 1 p ≤ 200) (h : ∀ r j, inS p r j → B r j = A r j) (hx : srtd A p) : srtd B p := by
  intro q q' q0 hq hq'
  rw [h 1 p (Or.inl ⟨rfl, rfl⟩)] at hq'
  have e : ∀ i : Int, 0 ≤ i → i < A 1 p → xe B p i = xe A p i := fun i i0 i1 => funext fun v => h 3 _ (by unfold inS; have := v.2; omega)
  rw [e q q0 (by omega), e q' (by omega) hq']
  exact hx q q' q0 hq hq'
theorem Tru.keep {s : cx_Sd 12} {ks : List (Fin 12)} {A B : pm_A} (h : Tru s ks A) (g : tuG A B) : Tru s ks B := by
  obtain ⟨hg, h1, hb, hks, h9, ha, hl⟩ := h
  have p7 := fM_0_7 hg (r := 0) (by omega) km0
  have e7 := g.fld (j := 7) (by omega) (by omega)
  have e8 := g.fld (j := 8) (by omega) (by omega)
  refine ⟨g.1, by omega, fun i j hj => ?_, fun k hk => by rw [e7]; exact hks k hk, fun v k hk => h9 v k (by omega), fun i j i0 i1 j0 j1 => ?_, fun i hi => ?_⟩
  · rw [e7, e8, g.arr]; rw [e7] at hj; exact hb i j hj
  · rw [g.arr]; exact ha i j i0 (by omega) j0 (by omega)
  · rw [e7] at hi
    have m := eM_1 hg (r := 1) (by omega) kn1 (j := i.1) (by omega) (by have := i.2; omega)
    have hs := g.slot (p := i.1) (by omega)
    obtain ⟨l1, l2, l3⟩ := hl i hi
    exact ⟨srtd_same m.2 hs l1, cfs_same m.2 hs l2, fun x => by rw [l3 x]; exact (congrFun (VS_of (LSm_same m.2 hs)) x).symm⟩
def tu_post (s : cx_Sd 12) (ks : List (Fin 12)) (A : pm_A) (k : Fin 12) (r : pm_R) : Prop := (r.1 = some (0, 0) ∧ tuG A r.2 ∧ Tru s ks r.2) ∨ (r.1 = some (0, 1) ∧ Tru s (ks ++ [k]) r.2 ∧ gH wM r.2 ∧ ∀ q j, (∀ t : Int, 42 ≤ t → t ≤ 47 → ¬ inS t q j) → ¬ inS k.1 q j → q ≠ 4 → q ≠ 5 → q ≠ 12 → ¬ (q = 0 ∧ (j = 4 ∨ j = 5)) → r.2 q j = A q j)
def a47 (C0 B : pm_A) (t : Int) : Prop := tmF C0 B 44 ∧ (B 0 4 = 1 ∨ (B 0 4 = 0 ∧ srtd B 44 ∧ cfs B 44 ∧ ∀ c, cr_co (LSm B 44) c = cr_co (LSm C0 44) c + cr_co (lsf t.toNat (fa C0 43)) c))
theorem tu_81 {C0 : pm_A} {k t : Int} (hc : cfs C0 43) (hC0 : gH wM C0) (t0 : 0 ≤ t) (t1 : t < C0 1 43) {z : pm_R → Prop} (H : ∀ C w3, a47 C0 C (t + 1) → Tm pmt (an_sh wM) o_X10_turns 47 ([(2, 0), (0, k), (0, t + 1), w3], [], C) z) : ∀ (m : Nat) (v : Int) (B : pm_A), (12 - v).toNat < m → 0 ≤ v → v ≤ 12 → tmF C0 B 44 → B 0 4 = 0 → srtd B 44 → cfs B 44 → (∀ c, cr_co (LSm B 44) c = cr_co (LSm C0 44) c + cr_co (lsf t.toNat (fa C0 43)) c) → B 0 5 = C0 2 (8600 + t) → (∀ i : Int, 0 ≤ i → i < v → B 4 i = C0 3 (12 * (8600 + t) + i)) → Tm pmt (an_sh wM) o_X10_turns 81 ([(2, 0), (0, k), (0, t), (0, v)], [], B) z := by
  have m43 := eM_1 hC0 (r := 1) (by omega) kn1 (j := 43) (by omega) (by omega)
  have ct := hc t t0 t1
  rw [show 200 * 43 + t = 8600 + t by omega] at ct
  intro m
  induction m with
  | zero => intro v B h; omega
  | succ m ih =>
    intro v B hm v0 v1 hF h4 hs hcf hG h5 hp
    have c3 := pM_3 hF.1
    have c6 := pM_6 hF.1
    have e3 : v < 12 → B 3 (12 * (8600 + t) + v) = C0 3 (12 * (8600 + t) + v) := fun h => hF.2 3 _ (by unfold inS; omega) (by omega) (by omega)
    refine wq_ok srt_turns (fr := []) (cuts := [81, 120]) (J := fun pc st => (pc = 120 ∧ 12 ≤ v ∧ ∃ C, adF B C 44 ∧ (C 0 4 = 1 ∨ (C 0 4 = 0 ∧ srtd C 44 ∧ cfs C 44 ∧ ∀ c, cr_co (LSm C 44) c = cr_co (LSm B 44) c + si (B 0 5, xp B) c)) ∧ st = ([(2, 0), (0, k), (0, t), (0, v)], [], C)) ∨ (pc = 81 ∧ (v < 12) ∧ st = ([(2, 0), (0, k), (0, t), (0, v + 1)], [], pm_upd B (B 0 6) v (B (B 0 3) ((12 * (8600 + t)) + v))))) ?_ 24 81 _ ?_
    · rintro pc st (⟨rfl, hv, C, hF2, hC, rfl⟩ | ⟨rfl, h0, rfl⟩)
      · refine wq_ok srt_turns (fr := []) (cuts := [47]) (J := fun pc st => (pc = 47 ∧ st = ([(2, 0), (0, k), (0, t + 1), (0, v)], [], C))) ?_ 7 120 _ ?_
        · rintro pc st (⟨rfl, rfl⟩)
          refine H C _ ⟨⟨hF2.1, fun r j hr h4 h5 => (hF2.2 r j hr (fun e => h5 ⟨e.1, Or.inl e.2⟩)).trans (hF.2 r j hr h4 h5)⟩, ?_⟩
          rcases hC with hC | ⟨hC1, hC2, hC3, hC4⟩
          · exact Or.inl hC
          · refine Or.inr ⟨hC1, hC2, hC3, fun c => ?_⟩
            rw [hC4 c, hG c, show (t + 1).toNat = t.toNat + 1 by omega, lsf_succ, co_snoc]
            have e1 : (B 0 5, xp B) = fa C0 43 t.toNat := by
              refine Prod.ext ?_ (funext fun i => ?_)
              · show B 0 5 = C0 2 (200 * 43 + ((t.toNat : Nat) : Int))
                rw [Int.toNat_of_nonneg t0, h5, show 200 * 43 + t = 8600 + t by omega]
              · show B 4 (i.1 : Int) = C0 3 (12 * (200 * 43 + ((t.toNat : Nat) : Int)) + (i.1 : Int))
                rw [Int.toNat_of_nonneg t0, show 200 * 43 + t = 8600 + t by omega]; exact hp i.1 (by omega) (by have := i.2; omega)
            rw [e1]; omega
        · refine ⟨⟨by omega, by omega⟩, ?_⟩
          exact ⟨rfl, rfl⟩
      · rw [c3, c6]
        have r1 := e3 h0
        have b3 := eM_3 hF.1 (r := 3) (by omega) kn3 (j := 12 * (8600 + t) + v) (by omega) (by omega)
        refine ih (v + 1) _ (by omega) (by omega) (by omega) ⟨uM_4 hF.1 kn4 b3.1 b3.2, fun r j hr h4 h5 => ?_⟩ (by rw [upd_o (by omega)]; exact h4) hs hcf hG (by rw [upd_o (by omega)]; exact h5) (fun i i0 i1 => ?_)
        · rw [upd_o (by omega)]; exact hF.2 r j hr h4 h5
        · by_cases hi : i = v
          · rw [hi, upd_at, r1]
          · rw [upd_o (by omega)]; exact hp i i0 (by omega)
    · refine ⟨fun h0 => ?_, fun h0 => ?_⟩
      · refine ⟨rM_0 (by omega) km0, ?_⟩
        refine (add_ex (s := 44) ⟨hF.1, by omega, hs, hcf, by rw [h5]; exact ct, h4⟩).imp ?_
        rintro ⟨r1, C⟩ ⟨hr1, hF2, hC⟩
        simp only at hr1 hF2 hC
        subst hr1
        exact Or.inl (⟨rfl, h0, C, hF2, hC, rfl⟩)
      · refine ⟨oM_0 (by omega) km0 6 rfl, ?_⟩
        refine ⟨oM_0 (by omega) km0 3 rfl, ?_⟩
        refine ⟨⟨by omega, by omega⟩, ?_⟩
        refine ⟨⟨by omega, by omega⟩, ?_⟩
        refine ⟨⟨by omega, by omega⟩, ?_⟩
        refine ⟨aM_3 (r := B 0 3) (by rw [c3]; omega) (by rw [c3]; exact kn3) (by omega) (by omega), ?_⟩
        have e1 : B (B 0 3) ((12 * (8600 + t)) + v) = B 3 ((12 * (8600 + t)) + v) := by rw [c3]
        refine ⟨tM_4 (r := B 0 6) (by rw [c6]; omega) (by rw [c6]; exact kn4) (by omega) (by omega) rfl, ?_⟩
        refine ⟨⟨by omega, by omega⟩, ?_⟩
        exact Or.inr (⟨rfl, h0, rfl⟩)
theorem tu_47 {C0 : pm_A} {k : Int} (hc : cfs C0 43) (hC0 : gH wM C0) {z : pm_R → Prop} (H : ∀ C w2 w3, a47 C0 C (C0 1 43) → Tm pmt (an_sh wM) o_X10_turns 126 ([(2, 0), (0, k), w2, w3], [], C) z) : ∀ (m : Nat) (t : Int) (w3 : pm_V) (B : pm_A), (C0 1 43 - t).toNat < m → 0 ≤ t → t ≤ C0 1 43 → a47 C0 B t → Tm pmt (an_sh wM) o_X10_turns 47 ([(2, 0), (0, k), (0, t), w3], [], B) z := by
  have m43 := eM_1 hC0 (r := 1) (by omega) kn1 (j := 43) (by omega) (by omega)
  intro m
  induction m with
  | zero => intro t w3 B h; omega
  | succ m ih =>
    intro t w3 B hm t0 t1 hI
    obtain ⟨hF, hI2⟩ := hI
    have c1 := pM_1 hF.1
    have c2 := pM_2 hF.1
    have s4 := fM_0_4 hF.1 (r := 0) (by omega) km0
    have mB : B 1 43 = C0 1 43 := hF.2 1 43 (by unfold inS; omega) (by omega) (by omega)
    have nB : t < C0 1 43 → B 2 (8600 + t) = C0 2 (8600 + t) ∧ 1 ≤ B 2 (8600 + t) ∧ B 2 (8600 + t) ≤ 1000000000000 := fun h => by
      have e : B 2 (8600 + t) = C0 2 (8600 + t) := hF.2 2 _ (by unfold inS; omega) (by omega) (by omega)
      have ct := hc t t0 h
      rw [show 200 * 43 + t = 8600 + t by omega] at ct
      exact ⟨e, by omega⟩
    have hend : (B 0 4 ≠ 0 ∨ C0 1 43 ≤ t) → a47 C0 B (C0 1 43) := fun hcc => ⟨hF, by
      rcases hI2 with h | h
      · exact Or.inl h
      · have e : t = C0 1 43 := by rcases hcc with h5 | h5; exact absurd h.1 h5; omega
        rw [e] at h
        exact Or.inr h⟩
    refine wq_ok srt_turns (fr := []) (cuts := [81, 126]) (J := fun pc st => (pc = 126 ∧ ((B (B 0 1) 43) ≤ t) ∧ st = ([(2, 0), (0, k), (0, t), w3], [], B)) ∨ (pc = 126 ∧ (t < (B (B 0 1) 43)) ∧ (¬ (B 0 4) = 0) ∧ st = ([(2, 0), (0, k), (0, t), w3], [], B)) ∨ (pc = 81 ∧ (t < (B (B 0 1) 43)) ∧ ((B 0 4) = 0) ∧ st = ([(2, 0), (0, k), (0, t), (0, 0)], [], pm_upd B 0 5 (B (B 0 2) (8600 + t))))) ?_ 24 47 _ ?_
    · rintro pc st (⟨rfl, h0, rfl⟩ | ⟨rfl, h0, h1, rfl⟩ | ⟨rfl, h0, h1, rfl⟩)
      · exact H B _ _ (hend (Or.inr (by rw [c1, mB] at h0; exact h0)))
      · exact H B _ _ (hend (Or.inl h1))
      · rw [c1, mB] at h0
        rw [c2]
        have hn := nB h0
        obtain ⟨i1, i2, i3, i4⟩ : B 0 4 = 0 ∧ srtd B 44 ∧ cfs B 44 ∧ ∀ c, cr_co (LSm B 44) c = cr_co (LSm C0 44) c + cr_co (lsf t.toNat (fa C0 43)) c := by rcases hI2 with h | h; omega; exact h
        refine tu_81 hc hC0 t0 h0 (fun C w3 hC => ih (t + 1) w3 C (by omega) (by omega) (by omega) hC) _ 0 _ (Nat.lt_succ_self _) (by omega) (by omega) ⟨uM_0_5 hF.1 (by omega) (by omega), fun r j hr h4 h5 => ?_⟩ (by rw [upd_o (by omega)]; exact i1) i2 i3 i4 (by rw [upd_at]; exact hn.1) (fun i i0 i1 => by omega)
        rw [upd_o (fun e => h5 ⟨e.1, Or.inr e.2⟩)]; exact hF.2 r j hr h4 h5
    · refine ⟨oM_0 (by omega) km0 1 rfl, ?_⟩
      refine ⟨aM_1 (r := B 0 1) (by rw [c1]; omega) (by rw [c1]; exact kn1) (by omega) (by omega), ?_⟩
      have e1 : B (B 0 1) 43 = B 1 43 := by rw [c1]
      refine ⟨fun h0 => ?_, fun h0 => ?_⟩
      · exact Or.inl (⟨rfl, h0, rfl⟩)
      · refine ⟨oM_0 (by omega) km0 4 rfl, ?_⟩
        refine ⟨fun h1 => ?_, fun h1 => ?_⟩
        · exact Or.inr (Or.inl (⟨rfl, h0, h1, rfl⟩))
        · refine ⟨oM_0 (by omega) km0 2 rfl, ?_⟩
          refine ⟨⟨by omega, by omega⟩, ?_⟩
          refine ⟨aM_2 (r := B 0 2) (by rw [c2]; omega) (by rw [c2]; exact kn2) (by omega) (by omega), ?_⟩
          have e2 : B (B 0 2) (8600 + t) = B 2 (8600 + t) := by rw [c2]
          refine ⟨oM_0 (by omega) km0 5 rfl, ?_⟩
          exact Or.inr (Or.inr (⟨rfl, h0, h1, rfl⟩))
def arI (A B : pm_A) (k i : Int) : Prop := gH wM B ∧ (∀ r j, r ≠ 5 → B r j = A r j) ∧ (∀ j : Int, 0 ≤ j → j < i → B 5 j = if j % 6 < A 0 7 then A 12 j else A 5 j) ∧ ∀ j : Int, i ≤ j → B 5 j = A 5 j
theorem tu_161 {A : pm_A} {k : Int} (hA : gH wM A) {z : pm_R → Prop} (H : ∀ C, arI A C k (6 * (A 0 7 + A 0 8)) → z (some (0, 1), C)) : ∀ (m : Nat) (i : Int) (w3 : pm_V) (B : pm_A), (72 - i).toNat < m → 0 ≤ i → i ≤ 6 * (A 0 7 + A 0 8) → arI A B k i → Tm pmt (an_sh wM) o_X10_turns 161 ([(2, 0), (0, k), (0, i), w3], [], B) z := by
  have p7 := fM_0_7 hA (r := 0) (by omega) km0
  have p8 := fM_0_8 hA (r := 0) (by omega) km0
  intro m
  induction m with
  | zero => intro i w3 B h; omega
  | succ m ih =>
    intro i w3 B hm i0 i1 hI
    have hI0 := hI
    obtain ⟨g1, g2, g3, g4⟩ := hI
    have c9 := pM_9 g1
    have c19 := pM_19 g1
    have e7 := g2 0 7 (by omega)
    have e8 := g2 0 8 (by omega)
    have hend : 6 * (A 0 7 + A 0 8) ≤ i → arI A B k (6 * (A 0 7 + A 0 8)) := fun h => by rw [show 6 * (A 0 7 + A 0 8) = i by omega]; exact hI0
    have hstep : ∀ x, -2147483648 ≤ x → x ≤ 2147483647 → (x = if i % 6 < A 0 7 then A 12 i else A 5 i) → arI A (pm_upd B 5 i x) k (i + 1) := fun x x0 x1 hx => by
      refine ⟨uM_5 g1 kn5 x0 x1, fun r j hr => by rw [upd_o (by omega)]; exact g2 r j hr, fun j j0 j1 => ?_, fun j j0 => by rw [upd_o (by omega)]; exact g4 j (by omega)⟩
      by_cases hj : j = i
      · rw [hj, upd_at]; exact hx
      · rw [upd_o (by omega)]; exact g3 j j0 (by omega)
    refine wq_ok srt_turns (fr := []) (cuts := [161]) (J := fun pc st => (pc = 161 ∧ (i < (6 * ((B 0 7) + (B 0 8)))) ∧ ((B 0 7) ≤ (i % 6)) ∧ st = ([(2, 0), (0, k), (0, i + 1), w3], [], pm_upd B (B 0 9) i (B (B 0 9) i))) ∨ (pc = 161 ∧ (i < (6 * ((B 0 7) + (B 0 8)))) ∧ ((i % 6) < (B 0 7)) ∧ st = ([(2, 0), (0, k), (0, i + 1), w3], [], pm_upd B (B 0 9) i (B (B 0 19) i)))) ?_ 31 161 _ ?_
    · rintro pc st (⟨rfl, h0, h1, rfl⟩ | ⟨rfl, h0, h1, rfl⟩)
      · rw [e7, e8] at h0
        rw [e7] at h1
        rw [c9]
        have b := eM_5 g1 (r := 5) (by omega) kn5 i0 (show i < 72 by omega)
        exact ih (i + 1) _ _ (by omega) (by omega) (by omega) (hstep _ b.1 b.2 (by rw [if_neg (by omega)]; exact g4 i (by omega)))
      · rw [e7, e8] at h0
        rw [e7] at h1
        rw [c19, c9]
        have b := eM_12 g1 (r := 12) (by omega) kn12 i0 (show i < 72 by omega)
        exact ih (i + 1) _ _ (by omega) (by omega) (by omega) (hstep _ b.1 b.2 (by rw [if_pos h1]; exact g2 12 i (by omega)))
    · refine ⟨oM_0 (by omega) km0 7 rfl, ?_⟩
      refine ⟨oM_0 (by omega) km0 8 rfl, ?_⟩
      refine ⟨⟨by omega, by omega⟩, ?_⟩
      refine ⟨⟨by omega, by omega⟩, ?_⟩
      refine ⟨fun h0 => ?_, fun h0 => ?_⟩
      · exact ⟨rfl, H B (hend (by rw [e7, e8] at h0; exact h0))⟩
      · refine ⟨oM_0 (by omega) km0 9 rfl, ?_⟩
        refine ⟨⟨by omega, by omega, by omega, by omega⟩, ?_⟩
        refine ⟨oM_0 (by omega) km0 7 rfl, ?_⟩
        refine ⟨fun h1 => ?_, fun h1 => ?_⟩
        · refine ⟨oM_0 (by omega) km0 9 rfl, ?_⟩
          refine ⟨aM_5 (r := B 0 9) (by rw [c9]; omega) (by rw [c9]; exact kn5) (by omega) (by omega), ?_⟩
          have e1 : B (B 0 9) i = B 5 i := by rw [c9]
          refine ⟨tM_5 (r := B 0 9) (by rw [c9]; omega) (by rw [c9]; exact kn5) (by omega) (by omega) rfl, ?_⟩
          refine ⟨⟨by omega, by omega⟩, ?_⟩
          exact Or.inl (⟨rfl, h0, h1, rfl⟩)
        · refine ⟨oM_0 (by omega) km0 19 rfl, ?_⟩
          refine ⟨aM_12 (r := B 0 19) (by rw [c19]; omega) (by rw [c19]; exact kn12) (by omega) (by omega), ?_⟩
          have e2 : B (B 0 19) i = B 12 i := by rw [c19]
          refine ⟨tM_5 (r := B 0 9) (by rw [c9]; omega) (by rw [c9]; exact kn5) (by omega) (by omega) rfl, ?_⟩
          refine ⟨⟨by omega, by omega⟩, ?_⟩
          exact Or.inr (⟨rfl, h0, h1, rfl⟩)
end

section
/-! turns, the end -/
theorem tv_turn {s : cx_Sd 12} {ks : List (Fin 12)} {A : pm_A} (h : Tru s ks A) {k i j : Fin 12} (hk : (k.1 : Int) < A 0 7) (hj : (j.1 : Int) < A 0 7) (hi : (i.1 : Int) < A 0 7 + A 0 8) : cr_turnB (cr_bs s.b ks) k i j = tv A k.1 i.1 j.1 := by
  have p8 := fM_0_8 h.1 (r := 0) (by omega) km0
  have b1 := (h.2.2.1 i j hj).1 hi
  have b2 := (h.2.2.1 i k hk).1 hi
  have b3 := (h.2.2.1 k j hj).1 (by omega)
  unfold cr_turnB tv
  by_cases e : i = k ∨ j = k
  · rw [if_pos e, if_pos (by rcases e with e | e; exact Or.inl (by rw [e]); exact Or.inr (by rw [e])), b1]
  · rw [if_neg e, if_neg (fun e2 => e (by rcases e2 with e2 | e2; exact Or.inl (Fin.ext (by omega)); exact Or.inr (Fin.ext (by omega)))), b1, b2, b3]
    generalize A 5 (6 * (i.1 : Int) + (k.1 : Int)) = a
    generalize A 5 (6 * (k.1 : Int) + (j.1 : Int)) = b
    generalize A 5 (6 * (i.1 : Int) + (j.1 : Int)) = c
    unfold cx_pos
    by_cases h1 : 0 < a
    · rw [Int.toNat_of_nonneg (by omega)]
      by_cases h2 : 0 < b
      · rw [if_pos (Or.inl ⟨h1, h2⟩), if_neg (by omega), show (-b).toNat = 0 by omega]; show c + (a * b + a * 0) = c + a * b; omega
      · rw [if_neg (by omega), Int.toNat_of_nonneg (by omega), Int.mul_neg]; omega
    · rw [show a.toNat = 0 by omega]
      by_cases h2 : a < 0 ∧ b < 0
      · rw [if_pos (Or.inr h2), if_pos h2.1, Int.toNat_of_nonneg (by omega), Int.neg_mul, Int.mul_neg]; show c + (0 * b + _) = _; omega
      · rw [if_neg (by omega)]
        by_cases h3 : a = 0
        · rw [h3]; show c + (0 * b + 0 * _) = c; omega
        · rw [show (-b).toNat = 0 by omega]; show c + (0 * b + a * 0) = c; omega
theorem tru_next {s : cx_Sd 12} {ks : List (Fin 12)} {A W : pm_A} (h : Tru s ks A) {k : Fin 12} (hk : (k.1 : Int) < A 0 7) {Q : cr_Pl_ 12} (hQ : cr_Shr Q) (hQv : ∀ x, (cr_gp s.b (ks ++ [k]) x).1 k = cr_vl x.1 Q) (hQc : ∀ y ∈ Q, y.1 ≤ 1000000000000) (hW : gH wM W) (e7 : W 0 7 = A 0 7) (e8 : W 0 8 = A 0 8) (hs : ∀ p : Int, 0 ≤ p → p < 6 → p ≠ k.1 → ∀ r j, inS p r j → W r j = A r j) (hQl : LSm W k.1 = Q) (hgood : ∀ i j : Int, 0 ≤ i → i < A 0 7 + A 0 8 → 0 ≤ j → j < A 0 7 → -9999 ≤ tv A k.1 i j ∧ tv A k.1 i j ≤ 9999) (harr : ∀ i j : Int, 0 ≤ i → i < A 0 7 + A 0 8 → 0 ≤ j → j < A 0 7 → W 5 (6 * i + j) = tv A k.1 i j) : Tru s (ks ++ [k]) W := by
  have h0 := h
  obtain ⟨hg, h1, hb, hks, h9, ha, hl⟩ := h
  have p7 := fM_0_7 hg (r := 0) (by omega) km0
  have p8 := fM_0_8 hg (r := 0) (by omega) km0
  refine ⟨hW, by omega, fun i j hj => ⟨fun hi => ?_, fun hi => ?_⟩, fun q hq => ?_, fun v q hq => h9 v q (by omega), fun i j i0 i1 j0 j1 => ?_, fun i hi => ?_⟩
  · rw [cr_bs_snoc, harr i.1 j.1 (by omega) (by omega) (by omega) (by omega)]
    exact tv_turn h0 hk (by omega) (by omega)
  · rw [cr_bs_snoc]
    have z1 := (hb i j (by omega)).2 (by omega)
    have z2 := (hb i k hk).2 (by omega)
    unfold cr_turnB
    rw [z1, z2]
    by_cases e : i = k ∨ j = k
    · rw [if_pos e]; rfl
    · rw [if_neg e]; show (0 : Int) + (((0 : Nat) : Int) * _ + 0 * _) = 0; rw [show ((0 : Nat) : Int) = 0 from rfl, Int.zero_mul, Int.zero_mul]; rfl
  · rw [e7]
    rcases List.mem_append.1 hq with h | h
    · exact hks q h
    · simp at h; rw [h]; exact hk
  · rw [harr i j i0 (by omega) j0 (by omega)]
    exact hgood i j i0 (by omega) j0 (by omega)
  · rw [e7] at hi
    by_cases e : i = k
    · subst e
      have hm := eM_1 hW (r := 1) (by omega) kn1 (j := i.1) (by omega) (by have := i.2; omega)
      refine ⟨srtd_of (by rw [hQl]; exact hQ), fun q q0 q1 => ?_, fun x => by rw [hQv x]; unfold VS; rw [hQl]⟩
      have hin := in_LSm (A := W) (p := i.1) q0 q1
      rw [hQl] at hin
      have h2 := hQ.2 _ hin
      have h3 := hQc _ hin
      have h2 : 0 < W 2 (200 * (i.1 : Int) + q) := h2
      exact ⟨by omega, h3⟩
    · have m := eM_1 hg (r := 1) (by omega) kn1 (j := i.1) (by omega) (by have := i.2; omega)
      have hsi := hs i.1 (by omega) (by omega) (fun e2 => e (Fin.ext (by omega)))
      obtain ⟨l1, l2, l3⟩ := hl i hi
      refine ⟨srtd_same m.2 hsi l1, cfs_same m.2 hsi l2, fun x => ?_⟩
      rw [cr_gp_snoc]
      show cr_stepv (cr_bs s.b ks) k (cr_gp s.b ks x).1 i = _
      rw [cr_step_ne _ _ e, l3 x]
      exact (congrFun (VS_of (LSm_same m.2 hsi)) x).symm
def tu_C (s : cx_Sd 12) (ks : List (Fin 12)) (A C0 : pm_A) (k : Fin 12) : Prop := tuG A C0 ∧ srtd C0 44 ∧ cfs C0 44 ∧ xb C0 44 217178280 ∧ cfs C0 43 ∧ xb C0 43 217178280 ∧ (∀ x, VS C0 44 x = cr_mo (cr_gp s.b ks x).1 (fun i => (cx_pos (cr_bs s.b ks i k) : Int))) ∧ ∀ x, VS C0 43 x = cr_mo (cr_gp s.b ks x).1 (fun i => (cx_pos (- cr_bs s.b ks i k) : Int))
theorem tm_tuG {A B : pm_A} {to : Int} (h : tmF A B to) (h0 : 42 ≤ to) (h1 : to ≤ 47) : tuG A B := ⟨h.1, fun r j a1 a2 a3 a4 => h.2 r j (a1 to h0 h1) a2 a4⟩
theorem tu_N {s : cx_Sd 12} {ks : List (Fin 12)} {A C0 B : pm_A} {k : Fin 12} (hC : tu_C s ks A C0 k) (hB : gH wM B) (hcf : cfs B 44) (hco : ∀ c, cr_co (LSm B 44) c = cr_co (LSm C0 44) c + cr_co (lsf (C0 1 43).toNat (fa C0 43)) c) : (∀ x : cr_Pv 12, cr_vl x.1 (LSm B 44) = cr_P (cr_bs s.b ks) k (cr_gp s.b ks x).1) ∧ xb B 44 217178280 := by
  obtain ⟨c1, c2, c3, c4, c5, c6, c7, c8⟩ := hC
  constructor
  · intro x
    rw [cr_vl_co x.1 (l' := LSm C0 44 ++ LSm C0 43) (fun c => by rw [hco c, cr_co_app, ← LSm_fa]), cr_vl_app]
    have e1 := c7 x
    have e2 := c8 x
    unfold VS at e1 e2
    rw [e1, e2]
    rfl
  · intro q v q0 q1 v0 v1
    have hm := in_LSm (A := B) (p := 44) q0 q1
    have hp := cr_co_pos (pos_LSm hcf) hm
    have hp2 : 0 < cr_co (LSm B 44) (xe B 44 q) := hp
    rw [hco, ← LSm_fa] at hp2
    have hsrc : ∃ p i : Int, (p = 44 ∨ p = 43) ∧ 0 ≤ i ∧ i < C0 1 p ∧ xe C0 p i = xe B 44 q := by
      by_cases h4 : cr_co (LSm C0 44) (xe B 44 q) = 0
      · obtain ⟨y, hy, ey⟩ := cr_co_mem (l := LSm C0 43) (a := xe B 44 q) (by omega)
        obtain ⟨i, i0, i1, rfl⟩ := mem_LSm hy
        exact ⟨43, i, Or.inr rfl, i0, i1, ey⟩
      · obtain ⟨y, hy, ey⟩ := cr_co_mem (l := LSm C0 44) (a := xe B 44 q) h4
        obtain ⟨i, i0, i1, rfl⟩ := mem_LSm hy
        exact ⟨44, i, Or.inl rfl, i0, i1, ey⟩
    obtain ⟨p, i, hp3, i0, i1, e⟩ := hsrc
    have hx : -217178280 ≤ C0 3 (12 * (200 * p + i) + v) ∧ C0 3 (12 * (200 * p + i) + v) ≤ 217178280 := by
      rcases hp3 with rfl | rfl
      · exact c4 i v i0 i1 v0 v1
      · exact c6 i v i0 i1 v0 v1
    have e2 := congrFun e ⟨v.toNat, by omega⟩
    have e3 : C0 3 (12 * (200 * p + i) + ((v.toNat : Nat) : Int)) = B 3 (12 * (200 * 44 + q) + ((v.toNat : Nat) : Int)) := e2
    rw [Int.toNat_of_nonneg v0] at e3
    omega
theorem tu_143 {s : cx_Sd 12} {ks : List (Fin 12)} {A D : pm_A} {k : Fin 12} (hT : Tru s ks A) (hk : (k.1 : Int) < A 0 7) (hD : tuG A D) (hs44 : srtd D 44) (hc44 : cfs D 44) (hx44 : xb D 44 217178280) (hN : ∀ x : cr_Pv 12, cr_vl x.1 (LSm D 44) = cr_P (cr_bs s.b ks) k (cr_gp s.b ks x).1) (hgood : ∀ i j : Int, 0 ≤ i → i < A 0 7 + A 0 8 → 0 ≤ j → j < A 0 7 → -9999 ≤ tv A k.1 i j ∧ tv A k.1 i j ≤ 9999) (hnext : ∀ i j : Int, 0 ≤ i → i < A 0 7 + A 0 8 → 0 ≤ j → j < A 0 7 → D 12 (6 * i + j) = tv A k.1 i j) (w2 w3 : pm_V) : Tm pmt (an_sh wM) o_X10_turns 143 ([(2, 0), (0, (k.1 : Int)), w2, w3], [], D) (tu_post s ks A k) := by
  have p7 := fM_0_7 hT.1 (r := 0) (by omega) km0
  have p8 := fM_0_8 hT.1 (r := 0) (by omega) km0
  have hTD := hT.keep hD
  have e7 := hD.fld (j := 7) (by omega) (by omega)
  have e8 := hD.fld (j := 8) (by omega) (by omega)
  have m44 := eM_1 hD.1 (r := 1) (by omega) kn1 (j := 44) (by omega) (by omega)
  obtain ⟨Q, hQ, hQv, hQc, hQl, hQb⟩ := tru_quot hTD (k := k) (by omega) (shr_of hs44 hc44) (fun y hy => by
    obtain ⟨q, q0, q1, rfl⟩ := mem_LSm hy
    exact (hc44 q q0 q1).2) (by rw [LSm_len]; omega) hN
  have hlt := hTD.lt
  have hl := hlt.2.1 k.1 (by omega) (by omega)
  refine wq_ok srt_turns (fr := []) (cuts := [152]) (J := fun pc st => (pc = 152 ∧ ∃ E, paF D E 45 44 ∧ LSm E 45 = Q ∧ st = ([(2, 0), (0, (k.1 : Int)), w2, w3], [], E))) ?_ 9 143 _ ?_
  · rintro pc st (⟨rfl, E, q2, q3, rfl⟩)
    refine wq_ok srt_turns (fr := []) (cuts := [159]) (J := fun pc st => (pc = 159 ∧ ∃ G, gH wM G ∧ (∀ q j, ¬ inS k.1 q j → G q j = E q j) ∧ LSm G k.1 = LSm E 45 ∧ st = ([(2, 0), (0, (k.1 : Int)), w2, w3], [], G))) ?_ 8 152 _ ?_
    · rintro pc st (⟨rfl, G, g2, g3, g4, rfl⟩)
      refine wq_ok srt_turns (fr := []) (cuts := [161]) (J := fun pc st => (pc = 161 ∧ st = ([(2, 0), (0, (k.1 : Int)), (0, 0), w3], [], G))) ?_ 7 159 _ ?_
      · rintro pc st (⟨rfl, rfl⟩)
        refine tu_161 g2 (fun W hW => ?_) _ 0 _ G (Nat.lt_succ_self _) (by omega) (by have := fM_0_7 g2 (r := 0) (by omega) km0; have := fM_0_8 g2 (r := 0) (by omega) km0; omega) ⟨g2, fun _ _ _ => rfl, fun j j0 j1 => by omega, fun _ _ => rfl⟩
        obtain ⟨w1, w4, w5, w6⟩ := hW
        have hf : ∀ q j, (∀ t : Int, 42 ≤ t → t ≤ 47 → ¬ inS t q j) → ¬ inS k.1 q j → q ≠ 4 → q ≠ 5 → q ≠ 12 → ¬ (q = 0 ∧ (j = 4 ∨ j = 5)) → W q j = A q j := fun q j a1 a2 a3 a4 a5 a6 => by rw [w4 q j a4, g3 q j a2, q2.2 q j (a1 45 (by omega) (by omega)) (a1 44 (by omega) (by omega)) a3]; exact hD.2 q j a1 a3 a5 a6
        have f7 : W 0 7 = A 0 7 := hf 0 7 (fun t t0 t1 ht => by unfold inS at ht; omega) (by unfold inS; omega) (by omega) (by omega) (by omega) (by omega)
        have f8 : W 0 8 = A 0 8 := hf 0 8 (fun t t0 t1 ht => by unfold inS at ht; omega) (by unfold inS; omega) (by omega) (by omega) (by omega) (by omega)
        have g7 : G 0 7 = A 0 7 := by rw [← w4 0 7 (by omega)]; exact f7
        have g8 : G 0 8 = A 0 8 := by rw [← w4 0 8 (by omega)]; exact f8
        have mk := eM_1 g2 (r := 1) (by omega) kn1 (j := (k.1 : Int)) (by omega) (by omega)
        have hWk : LSm W k.1 = Q := by rw [← q3, ← g4]; exact LSm_same mk.2 (fun q j hq => w4 q j (by unfold inS at hq; omega))
        refine Or.inr ⟨rfl, ?_, w1, hf⟩
        refine tru_next hT hk hQ hQv hQb w1 f7 f8 (fun p p0 p1 pk q j hq => hf q j (fun t t0 t1 ht => by unfold inS at *; omega) (by unfold inS at *; omega) (by unfold inS at hq; omega) (by unfold inS at hq; omega) (by unfold inS at hq; omega) (by unfold inS at hq; omega)) hWk hgood (fun i j i0 i1 j0 j1 => ?_)
        show W 5 (6 * i + j) = tv A k.1 i j
        rw [w5 (6 * i + j) (by omega) (by rw [g7, g8]; omega), if_pos (by rw [g7]; omega), g3 12 _ (by unfold inS; omega), q2.2 12 _ (by unfold inS; omega) (by unfold inS; omega) (by omega)]
        exact hnext i j i0 i1 j0 j1
      · exact ⟨rfl, rfl⟩
    · refine ⟨rM_0 (by omega) km0, ?_⟩
      refine (copy_ex (to := k.1) (fr := 45) q2.1 (by omega) (by omega) (by omega) (by omega) (by omega)).imp ?_
      rintro ⟨r1, G⟩ ⟨g1, g2, g3, g4⟩
      simp only at g1 g2 g3 g4
      subst g1
      exact ⟨rfl, G, g2, g3, g4, rfl⟩
  · refine ⟨rM_0 (by omega) km0, ?_⟩
    refine (parts_ex (A := D) (to := 45) (a := 44) (b := k.1) (EN := 217178280) (Q := Q) ⟨hD.1, by omega, by omega, by omega, ⟨by omega, by omega, by omega⟩, hl, ⟨hs44, hc44, hx44⟩, by omega, hQ, hQc, hQl⟩).imp ?_
    rintro ⟨r1, E⟩ ⟨q1, q2, q3⟩
    simp only at q1 q2 q3
    subst q1
    exact ⟨rfl, E, q2, q3, rfl⟩
theorem tu_126 {s : cx_Sd 12} {ks : List (Fin 12)} {A C0 B : pm_A} {k : Fin 12} (hT : Tru s ks A) (hk : (k.1 : Int) < A 0 7) (hC : tu_C s ks A C0 k) (hB : a47 C0 B (C0 1 43)) (w2 w3 : pm_V) : Tm pmt (an_sh wM) o_X10_turns 126 ([(2, 0), (0, (k.1 : Int)), w2, w3], [], B) (tu_post s ks A k) := by
  have hBG : tuG A B := hC.1.tr (tm_tuG hB.1 (by omega) (by omega))
  have hTB := hT.keep hBG
  have e7 := hBG.fld (j := 7) (by omega) (by omega)
  have e8 := hBG.fld (j := 8) (by omega) (by omega)
  have s4 := fM_0_4 hBG.1 (r := 0) (by omega) km0
  have htv : ∀ i j, tv B k.1 i j = tv A k.1 i j := fun i j => by unfold tv; rw [hBG.arr, hBG.arr, hBG.arr]
  have hbad : ∀ D, tuG A D → tu_post s ks A k (some (0, 0), D) := fun D hD => Or.inl ⟨rfl, hD, hT.keep hD⟩
  refine wq_ok srt_turns (fr := []) (cuts := [138]) (J := fun pc st => (pc = 138 ∧ B 0 4 = 0 ∧ ∃ D g, taF B D ∧ (g = 0 ∨ (g = 1 ∧ ∀ i j : Int, 0 ≤ i → i < B 0 7 + B 0 8 → 0 ≤ j → j < B 0 7 → -9999 ≤ tv B k.1 i j ∧ tv B k.1 i j ≤ 9999)) ∧ (∀ i j : Int, 0 ≤ i → i < B 0 7 + B 0 8 → 0 ≤ j → j < B 0 7 → D 12 (6 * i + j) = tv B k.1 i j) ∧ st = ([(2, 0), (0, (k.1 : Int)), w2, w3], [(0, g)], D))) ?_ 10 126 _ ?_
  · rintro pc st (⟨rfl, h4, D, g, q1, q3, q4, rfl⟩)
    have hDG : tuG A D := hBG.tr ⟨q1.1, fun r j a1 a2 a3 a4 => q1.2 r j a3⟩
    refine wq_ok srt_turns (fr := []) (cuts := [143]) (J := fun pc st => (pc = 143 ∧ (¬ g = 0) ∧ st = ([(2, 0), (0, (k.1 : Int)), w2, w3], [], D))) ?_ 7 138 _ ?_
    · rintro pc st (⟨rfl, h0, rfl⟩)
      have hg : g = 1 ∧ ∀ i j : Int, 0 ≤ i → i < B 0 7 + B 0 8 → 0 ≤ j → j < B 0 7 → -9999 ≤ tv B k.1 i j ∧ tv B k.1 i j ≤ 9999 := by rcases q3 with h | h; exact absurd h h0; exact h
      obtain ⟨i1, i2, i3, i4⟩ : B 0 4 = 0 ∧ srtd B 44 ∧ cfs B 44 ∧ ∀ c, cr_co (LSm B 44) c = cr_co (LSm C0 44) c + cr_co (lsf (C0 1 43).toNat (fa C0 43)) c := by rcases hB.2 with h | h; omega; exact h
      have hN := tu_N hC hBG.1 i3 i4
      have m44 := eM_1 hBG.1 (r := 1) (by omega) kn1 (j := 44) (by omega) (by omega)
      have hS : ∀ r j, inS 44 r j → D r j = B r j := fun r j h => q1.2 r j (by unfold inS at h; omega)
      refine tu_143 hT hk hDG (srtd_same m44.2 hS i2) (cfs_same m44.2 hS i3) (xb_same m44.2 hS hN.2) (fun x => by rw [LSm_same m44.2 hS]; exact hN.1 x) (fun i j i0 i1 j0 j1 => ?_) (fun i j i0 i1 j0 j1 => ?_) w2 w3
      · rw [← htv]; exact hg.2 i j i0 (by omega) j0 (by omega)
      · rw [← htv]; exact q4 i j i0 (by omega) j0 (by omega)
    · refine ⟨fun h0 => ?_, fun h0 => ?_⟩
      · exact ⟨rfl, h0, rfl⟩
      · exact ⟨rfl, hbad D hDG⟩
  · refine ⟨oM_0 (by omega) km0 4 rfl, ?_⟩
    refine ⟨fun h0 => ?_, fun h0 => ?_⟩
    · exact ⟨rfl, hbad B hBG⟩
    · refine ⟨rM_0 (by omega) km0, ?_⟩
      refine (turnsArrows_ex (k := k.1) hBG.1 hTB.2.2.2.2.2.1 (by omega) (by omega)).imp ?_
      rintro ⟨r1, D⟩ ⟨q1, g, q2, q3, q4⟩
      simp only at q1 q2 q3 q4
      subst q2
      exact ⟨rfl, h0, D, g, q1, q3, q4, rfl⟩
theorem tu_45 {s : cx_Sd 12} {ks : List (Fin 12)} {A C0 : pm_A} {k : Fin 12} (hT : Tru s ks A) (hk : (k.1 : Int) < A 0 7) (hC : tu_C s ks A C0 k) (h4 : C0 0 4 = 0) (w2 w3 : pm_V) : Tm pmt (an_sh wM) o_X10_turns 45 ([(2, 0), (0, (k.1 : Int)), w2, w3], [], C0) (tu_post s ks A k) := by
  have m43 := eM_1 hC.1.1 (r := 1) (by omega) kn1 (j := 43) (by omega) (by omega)
  refine wq_ok srt_turns (fr := []) (cuts := [47]) (J := fun pc st => (pc = 47 ∧ st = ([(2, 0), (0, (k.1 : Int)), (0, 0), w3], [], C0))) ?_ 7 45 _ ?_
  · rintro pc st (⟨rfl, rfl⟩)
    exact tu_47 hC.2.2.2.2.1 hC.1.1 (fun C w2 w3 hCC => tu_126 hT hk hC hCC w2 w3) _ 0 _ C0 (Nat.lt_succ_self _) (by omega) (by omega) ⟨⟨hC.1.1, fun _ _ _ _ _ => rfl⟩, Or.inr ⟨h4, hC.2.1, hC.2.2.1, fun c => by show _ = _ + (0 : Int); omega⟩⟩
  · exact ⟨rfl, rfl⟩
theorem pr_tuG {A B : pm_A} {to : Int} (h : prF A B to) (h0 : 42 ≤ to) (h1 : to ≤ 47) : tuG A B := ⟨h.1, fun r j a1 a2 a3 a4 => h.2 r j (a1 to h0 h1) (a1 46 (by omega) (by omega)) (a1 47 (by omega) (by omega)) a2 a4⟩
def st4 (s : cx_Sd 12) (ks : List (Fin 12)) (B : pm_A) (p : Int) (k : Fin 12) (sg : Int) : Prop := srtd B p ∧ cfs B p ∧ xb B p 217178280 ∧ ∀ x, VS B p x = cr_mo (cr_gp s.b ks x).1 (fun i => (cx_pos (sg * cr_bs s.b ks i k) : Int))
theorem st4_of {s : cx_Sd 12} {ks : List (Fin 12)} {A B : pm_A} {p sg : Int} {k : Fin 12} (hT : Tru s ks A) (hk : (k.1 : Int) < A 0 7) (h : prG A B p k.1 sg (A 0 7 + A 0 8)) : st4 s ks B p k sg := by
  have p7 := fM_0_7 hT.1 (r := 0) (by omega) km0
  have p8 := fM_0_8 hT.1 (r := 0) (by omega) km0
  obtain ⟨g1, g2, g3, g4, g5⟩ := h
  exact ⟨g1, g2, xb_mono g4 (by omega), fun x => by rw [g5 x]; exact hT.pvl hk sg x⟩
theorem tu_28 {s : cx_Sd 12} {ks : List (Fin 12)} {A B : pm_A} {k : Fin 12} (hT : Tru s ks A) (hk : (k.1 : Int) < A 0 7) (hB : tuG A B) (h : B 0 4 = 0 → st4 s ks B 42 k 1 ∧ st4 s ks B 43 k (-1)) (w2 w3 : pm_V) : Tm pmt (an_sh wM) o_X10_turns 28 ([(2, 0), (0, (k.1 : Int)), w2, w3], [], B) (tu_post s ks A k) := by
  have hbad : ∀ D, tuG A D → tu_post s ks A k (some (0, 0), D) := fun D hD => Or.inl ⟨rfl, hD, hT.keep hD⟩
  refine wq_ok srt_turns (fr := []) (cuts := [45]) (J := fun pc st => (pc = 45 ∧ B 0 4 = 0 ∧ ∃ G, gH wM G ∧ (∀ q j, ¬ inS 44 q j → G q j = B q j) ∧ LSm G 44 = LSm B 42 ∧ st = ([(2, 0), (0, (k.1 : Int)), w2, w3], [], G))) ?_ 11 28 _ ?_
  · rintro pc st (⟨rfl, h4, G, g2, g3, g4, rfl⟩)
    obtain ⟨⟨a1, a2, a3, a4⟩, ⟨b1, b2, b3, b4⟩⟩ := h h4
    have m42 := eM_1 hB.1 (r := 1) (by omega) kn1 (j := 42) (by omega) (by omega)
    have m43 := eM_1 hB.1 (r := 1) (by omega) kn1 (j := 43) (by omega) (by omega)
    have m44 := eM_1 g2 (r := 1) (by omega) kn1 (j := 44) (by omega) (by omega)
    have hS : ∀ r j, inS 43 r j → G r j = B r j := fun r j hj => g3 r j (by unfold inS at *; omega)
    refine tu_45 hT hk ⟨hB.tr ⟨g2, fun r j x1 x2 x3 x4 => g3 r j (x1 44 (by omega) (by omega))⟩, ls_srtd g4 m44.1 m42.1 a1, ls_cfs g4 m44.1 m42.1 a2, ls_xb g4 m44.1 m42.1 a3, cfs_same m43.2 hS b2, xb_same m43.2 hS b3, fun x => ?_, fun x => ?_⟩ (by rw [g3 0 4 (by unfold inS; omega)]; exact h4) w2 w3
    · rw [VS_of g4, a4 x]; exact congrArg (cr_mo _) (funext fun i => by rw [Int.one_mul])
    · rw [VS_of (LSm_same m43.2 hS), b4 x]; exact congrArg (cr_mo _) (funext fun i => by rw [Int.neg_mul, Int.one_mul])
  · refine ⟨oM_0 (by omega) km0 4 rfl, ?_⟩
    refine ⟨fun h0 => ?_, fun h0 => ?_⟩
    · refine ⟨rM_0 (by omega) km0, ?_⟩
      refine (copy_ex (to := 44) (fr := 42) hB.1 (by omega) (by omega) (by omega) (by omega) (by omega)).imp ?_
      rintro ⟨r1, G⟩ ⟨g1, g2, g3, g4⟩
      simp only at g1 g2 g3 g4
      subst g1
      exact ⟨rfl, h0, G, g2, g3, g4, rfl⟩
    · exact ⟨rfl, hbad B hB⟩
theorem turns_ex {s : cx_Sd 12} {ks : List (Fin 12)} {A : pm_A} {k : Fin 12} (hT : Tru s ks A) (hk : (k.1 : Int) < A 0 7) : Cl pmt (an_sh wM) 200 [(2, 0), (0, (k.1 : Int))] A (tu_post s ks A k) := by
  have h0 : tuG A (pm_upd A 0 4 0) := ⟨uM_0_4 hT.1 (by omega) (by omega), fun r j a1 a2 a3 a4 => upd_o (fun e => a4 ⟨e.1, Or.inl e.2⟩)⟩
  have hT0 := hT.keep h0
  have e40 : pm_upd A 0 4 0 0 4 = 0 := upd_at
  have e7 := h0.fld (j := 7) (by omega) (by omega)
  have p7 := fM_0_7 hT.1 (r := 0) (by omega) km0
  refine Cl.of (Nat.le_of_ble_eq_true rfl) ?_
  refine wq_ok (full := o_X10_turns) srt_turns (fr := []) (cuts := [13]) (J := fun pc st => (pc = 13 ∧ ∃ B, prF (pm_upd A 0 4 0) B 42 ∧ (B 0 4 = 1 ∨ (B 0 4 = 0 ∧ prG (pm_upd A 0 4 0) B 42 k.1 1 (pm_upd A 0 4 0 0 7 + pm_upd A 0 4 0 0 8))) ∧ st = ([(2, 0), (0, (k.1 : Int)), (9, 0), (9, 0)], [], B))) ?_ 12 0 _ ?_
  · rintro pc st (⟨rfl, B, g2, g3, rfl⟩)
    have hBG : tuG A B := h0.tr (pr_tuG g2 (by omega) (by omega))
    have hTB := hT.keep hBG
    have b7 := hBG.fld (j := 7) (by omega) (by omega)
    have h42 : B 0 4 = 0 → st4 s ks B 42 k 1 := fun h => by
      rcases g3 with h2 | h2
      · omega
      · exact st4_of hT0 (by omega) h2.2
    refine wq_ok srt_turns (fr := []) (cuts := [28]) (J := fun pc st => (pc = 28 ∧ (¬ (B 0 4) = 0) ∧ st = ([(2, 0), (0, (k.1 : Int)), (9, 0), (9, 0)], [], B)) ∨ (pc = 28 ∧ B 0 4 = 0 ∧ ∃ C, prF B C 43 ∧ (C 0 4 = 1 ∨ (C 0 4 = 0 ∧ prG B C 43 k.1 (-1) (B 0 7 + B 0 8))) ∧ st = ([(2, 0), (0, (k.1 : Int)), (9, 0), (9, 0)], [], C))) ?_ 12 13 _ ?_
    · rintro pc st (⟨rfl, h0, rfl⟩ | ⟨rfl, h4, C, f2, f3, rfl⟩)
      · exact tu_28 hT hk hBG (fun h => absurd h h0) _ _
      · have hCG : tuG A C := hBG.tr (pr_tuG f2 (by omega) (by omega))
        refine tu_28 hT hk hCG (fun hC4 => ⟨?_, ?_⟩) _ _
        · have hs : ∀ r j, inS 42 r j → C r j = B r j := fun r j hj => f2.2 r j (by unfold inS at *; omega) (by unfold inS at *; omega) (by unfold inS at *; omega) (by unfold inS at hj; omega) (by unfold inS at hj; omega)
          have m42 := eM_1 hBG.1 (r := 1) (by omega) kn1 (j := 42) (by omega) (by omega)
          obtain ⟨a1, a2, a3, a4⟩ := h42 h4
          exact ⟨srtd_same m42.2 hs a1, cfs_same m42.2 hs a2, xb_same m42.2 hs a3, fun x => by rw [VS_of (LSm_same m42.2 hs)]; exact a4 x⟩
        · rcases f3 with h | h
          · omega
          · exact st4_of hTB (by omega) h.2
    · refine ⟨oM_0 (by omega) km0 4 rfl, ?_⟩
      refine ⟨fun h0 => ?_, fun h0 => ?_⟩
      · exact Or.inl (⟨rfl, h0, rfl⟩)
      · refine ⟨rM_0 (by omega) km0, ?_⟩
        refine (product_ex (to := 43) (k := k.1) (sg := -1) hTB.lt h0 (by omega) (by omega) (by omega) (by omega)).imp ?_
        rintro ⟨r1, C⟩ ⟨f1, f2, f3⟩
        simp only at f1 f2 f3
        subst f1
        exact Or.inr (⟨rfl, h0, C, f2, f3, rfl⟩)
  · refine ⟨oM_0 (by omega) km0 4 rfl, ?_⟩
    refine ⟨rM_0 (by omega) km0, ?_⟩
    refine (product_ex (to := 42) (k := k.1) (sg := 1) hT0.lt e40 (by omega) (by omega) (by omega) (by omega)).imp ?_
    rintro ⟨r1, B⟩ ⟨g1, g2, g3⟩
    simp only at g1 g2 g3
    subst g1
    exact ⟨rfl, B, g2, g3, rfl⟩
end

section
/-! what stays true of the reference; turn, back -/
theorem Tru.same {s : cx_Sd 12} {ks : List (Fin 12)} {A B : pm_A} (h : Tru s ks A) (hB : gH wM B) (e7 : B 0 7 = A 0 7) (e8 : B 0 8 = A 0 8) (e5 : ∀ j : Int, 0 ≤ j → j < 72 → B 5 j = A 5 j) (hs : ∀ p : Int, 0 ≤ p → p < A 0 7 → ∀ r j, inS p r j → B r j = A r j) : Tru s ks B := by
  obtain ⟨hg, h1, hb, hks, h9, ha, hl⟩ := h
  have p7 := fM_0_7 hg (r := 0) (by omega) km0
  have p8 := fM_0_8 hg (r := 0) (by omega) km0
  refine ⟨hB, by omega, fun i j hj => ⟨fun hi => ?_, fun hi => ?_⟩, fun k hk => by rw [e7]; exact hks k hk, fun v k hk => h9 v k (by omega), fun i j i0 i1 j0 j1 => ?_, fun i hi => ?_⟩
  · rw [e5 _ (by omega) (by omega)]; exact (hb i j (by omega)).1 (by omega)
  · exact (hb i j (by omega)).2 (by omega)
  · rw [e5 _ (by omega) (by omega)]; exact ha i j i0 (by omega) j0 (by omega)
  · rw [e7] at hi
    have m := eM_1 hg (r := 1) (by omega) kn1 (j := i.1) (by omega) (by have := i.2; omega)
    have hs := hs i.1 (by omega) hi
    obtain ⟨l1, l2, l3⟩ := hl i hi
    exact ⟨srtd_same m.2 hs l1, cfs_same m.2 hs l2, fun x => by rw [l3 x]; exact (congrFun (VS_of (LSm_same m.2 hs)) x).symm⟩
def neigh (n a b : Int) : Prop := b = a + 1 ∨ a = b + 1 ∨ (a = 0 ∧ b = n - 1) ∨ (b = 0 ∧ a = n - 1)
def crossd (a b c d : Int) : Prop := (a < c ∧ c < b ∧ b < d) ∨ (c < a ∧ a < d ∧ d < b)
def rgS (n : Int) (F : Int → Int) : Prop := (4 ≤ n ∧ n ≤ 10) ∧ (∀ f : Int, 0 ≤ f → f < 100 → F f = 0 ∨ F f = 1) ∧ ∀ f : Int, 0 ≤ f → f < 100 → F f = 1 → (f / 10 < f % 10 ∧ f % 10 < n ∧ ¬ neigh n (f / 10) (f % 10)) ∧ ∀ g : Int, 0 ≤ g → g < 100 → F g = 1 → ¬ crossd (f / 10) (f % 10) (g / 10) (g % 10)
def RG (A : pm_A) : Prop := ∀ sl : Int, sl = 0 ∨ sl = 1 → rgS (A 31 sl) (fun f => A 32 (100 * sl + f))
def RB (A : pm_A) : Prop := (∀ j : Int, 0 ≤ j → j < 72 → -9 ≤ A 7 j ∧ A 7 j ≤ 9) ∧ ∀ d : Int, 0 ≤ d → d < A 0 10 → 0 ≤ A 6 d ∧ A 6 d < A 0 7
def RI (A : pm_A) : Prop := (∃ s ks, Tru s ks A) ∧ RB A ∧ RG A
def ri_post (r : pm_R) : Prop := (∃ z, r.1 = some (0, z)) ∧ RI r.2
theorem RG.same {A B : pm_A} (h : RG A) (e1 : ∀ j, B 31 j = A 31 j) (e2 : ∀ j, B 32 j = A 32 j) : RG B := fun sl hsl => by
  have := h sl hsl
  have e : (fun f => B 32 (100 * sl + f)) = fun f => A 32 (100 * sl + f) := funext fun f => e2 _
  rw [e, e1]
  exact this
theorem RI.g {A : pm_A} (h : RI A) : gH wM A := by obtain ⟨⟨s, ks, h⟩, _⟩ := h; exact h.1
theorem RI.tuG {A B : pm_A} (h : RI A) (g : tuG A B) : RI B := by
  obtain ⟨⟨s, ks, hT⟩, ⟨b1, b2⟩, hR⟩ := h
  have c : ∀ r j, 5 < r → r ≠ 12 → B r j = A r j := fun r j h1 h2 => g.2 r j (fun t t0 t1 ht => by unfold inS at ht; omega) (by omega) h2 (by omega)
  refine ⟨⟨s, ks, hT.keep g⟩, ⟨fun j j0 j1 => ?_, fun d d0 d1 => ?_⟩, hR.same (fun j => c 31 j (by omega) (by omega)) (fun j => c 32 j (by omega) (by omega))⟩
  · rw [c 7 j (by omega) (by omega)]; exact b1 j j0 j1
  · rw [c 6 d (by omega) (by omega), g.fld (j := 7) (by omega) (by omega)]
    rw [g.fld (j := 10) (by omega) (by omega)] at d1
    exact b2 d d0 d1
theorem RI.turned {s : cx_Sd 12} {ks : List (Fin 12)} {A C : pm_A} {k : Fin 12} (h : RI A) (hk : (k.1 : Int) < A 0 7) (hT : Tru s ks C) (hf : ∀ q j, (∀ t : Int, 42 ≤ t → t ≤ 47 → ¬ inS t q j) → ¬ inS k.1 q j → q ≠ 4 → q ≠ 5 → q ≠ 12 → ¬ (q = 0 ∧ (j = 4 ∨ j = 5)) → C q j = A q j) : RI C := by
  have c : ∀ r j, 5 < r → r ≠ 12 → C r j = A r j := fun r j h1 h2 => hf r j (fun t t0 t1 ht => by unfold inS at ht; omega) (by unfold inS; omega) (by omega) (by omega) h2 (by omega)
  have c0 : ∀ j, j ≠ 4 → j ≠ 5 → C 0 j = A 0 j := fun j h1 h2 => hf 0 j (fun t t0 t1 ht => by unfold inS at ht; omega) (by unfold inS; omega) (by omega) (by omega) (by omega) (by omega)
  obtain ⟨_, ⟨b1, b2⟩, hR⟩ := h
  refine ⟨⟨s, ks, hT⟩, ⟨fun j j0 j1 => ?_, fun d d0 d1 => ?_⟩, hR.same (fun j => c 31 j (by omega) (by omega)) (fun j => c 32 j (by omega) (by omega))⟩
  · rw [c 7 j (by omega) (by omega)]; exact b1 j j0 j1
  · rw [c 6 d (by omega) (by omega), c0 7 (by omega) (by omega)]
    rw [c0 10 (by omega) (by omega)] at d1
    exact b2 d d0 d1
theorem turns_ri {A : pm_A} (h : RI A) {k : Int} (k0 : 0 ≤ k) (k1 : k < A 0 7) : Cl pmt (an_sh wM) 200 [(2, 0), (0, k)] A (fun r => (r.1 = some (0, 0) ∨ r.1 = some (0, 1)) ∧ RI r.2 ∧ r.2 0 7 = A 0 7 ∧ r.2 0 8 = A 0 8 ∧ r.2 0 10 = A 0 10 ∧ ∀ j, r.2 6 j = A 6 j) := by
  have h0 := h
  obtain ⟨⟨s, ks, hT⟩, _⟩ := h
  have p7 := fM_0_7 hT.1 (r := 0) (by omega) km0
  have hk : k = ((⟨k.toNat, by omega⟩ : Fin 12).1 : Int) := by show k = ((k.toNat : Nat) : Int); omega
  have hk1 : ((⟨k.toNat, by omega⟩ : Fin 12).1 : Int) < A 0 7 := by rw [← hk]; exact k1
  rw [hk]
  refine (turns_ex hT hk1).imp ?_
  rintro ⟨r1, B⟩ (⟨q1, q2, q3⟩ | ⟨q1, q2, q3, q4⟩)
  · refine ⟨Or.inl q1, h0.tuG q2, q2.fld (by omega) (by omega), q2.fld (by omega) (by omega), q2.fld (by omega) (by omega), fun j => q2.2 6 j (fun t t0 t1 ht => by unfold inS at ht; omega) (by omega) (by omega) (by omega)⟩
  · have c0 : ∀ j, j ≠ 4 → j ≠ 5 → B 0 j = A 0 j := fun j h1 h2 => q4 0 j (fun t t0 t1 ht => by unfold inS at ht; omega) (by unfold inS; omega) (by omega) (by omega) (by omega) (by omega)
    refine ⟨Or.inr q1, h0.turned hk1 q2 q4, c0 7 (by omega) (by omega), c0 8 (by omega) (by omega), c0 10 (by omega) (by omega), fun j => q4 6 j (fun t t0 t1 ht => by unfold inS at ht; omega) (by unfold inS; omega) (by omega) (by omega) (by omega) (by omega)⟩
theorem srt_Mturn : pm_srt o_X10_turn = true := by decide +kernel
theorem mturn_47 {C : pm_A} {k : Int} (hR : RI C) (k0 : 0 ≤ k) (k1 : k < C 0 7) (hd : C 0 10 < 100) (hk : C 6 (C 0 10) = k) : Tm pmt (an_sh wM) o_X10_turn 47 ([(2, 0), (0, k)], [], C) ri_post := by
  have hg := hR.g
  have p7 := fM_0_7 hg (r := 0) (by omega) km0
  have p10 := fM_0_10 hg (r := 0) (by omega) km0
  have hR2 : RI (pm_upd C 0 10 (C 0 10 + 1)) := by
    obtain ⟨⟨s, ks, hT⟩, ⟨b1, b2⟩, hRG⟩ := hR
    refine ⟨⟨s, ks, hT.same (uM_0_10 hg (by omega) (by omega)) (upd_o (by omega)) (upd_o (by omega)) (fun j _ _ => upd_o (by omega)) (fun p p0 p1 r j hr => upd_o (by unfold inS at hr; omega))⟩, ⟨fun j j0 j1 => by rw [upd_o (by omega)]; exact b1 j j0 j1, fun d d0 d1 => ?_⟩, hRG.same (fun j => upd_o (by omega)) (fun j => upd_o (by omega))⟩
    rw [upd_at] at d1
    rw [upd_o (by omega), upd_o (by omega)]
    by_cases e : d = C 0 10
    · rw [e, hk]; exact ⟨k0, k1⟩
    · exact b2 d d0 (by omega)
  have c1 : pm_upd C 0 10 (C 0 10 + 1) 0 1 = 1 := by rw [upd_o (by omega)]; exact pM_1 hg
  refine wq_ok srt_Mturn (fr := []) (cuts := []) (J := fun _ _ => False) ?_ 15 47 _ ?_
  · intro pc st h; exact h.elim
  · refine ⟨oM_0 (by omega) km0 10 rfl, ?_⟩
    refine ⟨⟨by omega, by omega⟩, ?_⟩
    refine ⟨oM_0 (by omega) km0 10 rfl, ?_⟩
    refine ⟨oM_0 (by omega) km0 1 rfl, ?_⟩
    refine ⟨aM_1 (r := (pm_upd C 0 10 ((C 0 10) + 1)) 0 1) (by rw [c1]; omega) (by rw [c1]; exact kn1) (by omega) (by omega), ?_⟩
    skip
    exact ⟨rfl, ⟨_, rfl⟩, hR2⟩
theorem mturn_ct {A : pm_A} (h : RI A) (k : Int) : Cl pmt (an_sh wM) 198 [(2, 0), (0, k)] A ri_post := by
  have hg := h.g
  have p7 := fM_0_7 hg (r := 0) (by omega) km0
  have p10 := fM_0_10 hg (r := 0) (by omega) km0
  refine Cl.of (Nat.le_of_ble_eq_true rfl) ?_
  refine wq_ok (full := o_X10_turn) srt_Mturn (fr := []) (cuts := [31]) (J := fun pc st => (pc = 31 ∧ 0 ≤ k ∧ k < A 0 7 ∧ ¬ A 0 10 = 100 ∧ ∃ B z, (z = 0 ∨ z = 1) ∧ RI B ∧ B 0 7 = A 0 7 ∧ B 0 10 = A 0 10 ∧ (∀ j, B 6 j = A 6 j) ∧ st = ([(2, 0), (0, k)], [(0, z)], B))) ?_ 17 0 _ ?_
  · rintro pc st (⟨rfl, k0, k1, hd, B, z, hz, q2, q3, q5, q6, rfl⟩)
    have hB := q2.g
    have c11 := pM_11 hB
    refine wq_ok srt_Mturn (fr := []) (cuts := [47]) (J := fun pc st => (pc = 47 ∧ (¬ z = 0) ∧ st = ([(2, 0), (0, k)], [], pm_upd B (B 0 11) (B 0 10) k))) ?_ 12 31 _ ?_
    · rintro pc st (⟨rfl, h0, rfl⟩)
      rw [c11]
      have hR : RI (pm_upd B 6 (B 0 10) k) := by
        obtain ⟨⟨s, ks, hT⟩, ⟨b1, b2⟩, hRG⟩ := q2
        refine ⟨⟨s, ks, hT.same (uM_6 hB kn6 (by omega) (by omega)) (upd_o (by omega)) (upd_o (by omega)) (fun j _ _ => upd_o (by omega)) (fun p p0 p1 r j hr => upd_o (by unfold inS at hr; omega))⟩, ⟨fun j j0 j1 => by rw [upd_o (by omega)]; exact b1 j j0 j1, fun d d0 d1 => ?_⟩, hRG.same (fun j => upd_o (by omega)) (fun j => upd_o (by omega))⟩
        rw [upd_o (by omega)] at d1
        rw [upd_o (by omega), upd_o (by omega)]
        exact b2 d d0 d1
      have hk6 : pm_upd B 6 (B 0 10) k 6 (B 0 10) = k := upd_at
      have f10 : pm_upd B 6 (B 0 10) k 0 10 = B 0 10 := upd_o (by omega)
      have f7 : pm_upd B 6 (B 0 10) k 0 7 = B 0 7 := upd_o (by omega)
      revert hR hk6 f10 f7
      generalize pm_upd B 6 (B 0 10) k = C
      intro hR hk6 f10 f7
      exact mturn_47 hR k0 (by omega) (by omega) (by rw [f10]; exact hk6)
    · refine ⟨fun h0 => ?_, fun h0 => ?_⟩
      · refine ⟨oM_0 (by omega) km0 11 rfl, ?_⟩
        refine ⟨oM_0 (by omega) km0 10 rfl, ?_⟩
        refine ⟨tM_6 (r := B 0 11) (by rw [c11]; omega) (by rw [c11]; exact kn6) (by omega) (by omega) rfl, ?_⟩
        exact ⟨rfl, h0, rfl⟩
      · exact ⟨rfl, ⟨_, rfl⟩, q2⟩
  · refine ⟨fun h0 => ?_, fun h0 => ?_⟩
    · exact ⟨rfl, ⟨_, rfl⟩, h⟩
    · refine ⟨oM_0 (by omega) km0 7 rfl, ?_⟩
      refine ⟨fun h1 => ?_, fun h1 => ?_⟩
      · refine ⟨oM_0 (by omega) km0 10 rfl, ?_⟩
        refine ⟨fun h2 => ?_, fun h2 => ?_⟩
        · refine ⟨rM_0 (by omega) km0, ?_⟩
          refine (turns_ri h (by omega) (by omega)).imp ?_
          rintro ⟨r1, B⟩ ⟨q1, q2, q3, q4, q5, q6⟩
          simp only at q1 q2 q3 q4 q5 q6
          rcases q1 with q1 | q1
          · subst q1
            exact ⟨rfl, by omega, by omega, by omega, B, 0, Or.inl rfl, q2, q3, q5, q6, rfl⟩
          · subst q1
            exact ⟨rfl, by omega, by omega, by omega, B, 1, Or.inr rfl, q2, q3, q5, q6, rfl⟩
        · exact ⟨rfl, ⟨_, rfl⟩, h⟩
      · exact ⟨rfl, ⟨_, rfl⟩, h⟩
theorem srt_Mback : pm_srt o_X10_back = true := by decide +kernel
theorem mback_ct {A : pm_A} (h : RI A) : Cl pmt (an_sh wM) 128 [(2, 0)] A ri_post := by
  have hg := h.g
  have p7 := fM_0_7 hg (r := 0) (by omega) km0
  have p10 := fM_0_10 hg (r := 0) (by omega) km0
  have hR2 : A 0 10 ≠ 0 → RI (pm_upd A 0 10 (A 0 10 - 1)) := fun hne => by
    obtain ⟨⟨s, ks, hT⟩, ⟨b1, b2⟩, hRG⟩ := h
    refine ⟨⟨s, ks, hT.same (uM_0_10 hg (by omega) (by omega)) (upd_o (by omega)) (upd_o (by omega)) (fun j _ _ => upd_o (by omega)) (fun p p0 p1 r j hr => upd_o (by unfold inS at hr; omega))⟩, ⟨fun j j0 j1 => by rw [upd_o (by omega)]; exact b1 j j0 j1, fun d d0 d1 => ?_⟩, hRG.same (fun j => upd_o (by omega)) (fun j => upd_o (by omega))⟩
    rw [upd_at] at d1
    rw [upd_o (by omega), upd_o (by omega)]
    exact b2 d d0 (by omega)
  have hl : A 0 10 ≠ 0 → 0 ≤ A 6 (A 0 10 - 1) ∧ A 6 (A 0 10 - 1) < A 0 7 := fun hne => h.2.1.2 (A 0 10 - 1) (by omega) (by omega)
  have c11 : pm_upd A 0 10 (A 0 10 - 1) 0 11 = 6 := by rw [upd_o (by omega)]; exact pM_11 hg
  have f10 : pm_upd A 0 10 (A 0 10 - 1) 0 10 = A 0 10 - 1 := upd_at
  have f7 : pm_upd A 0 10 (A 0 10 - 1) 0 7 = A 0 7 := upd_o (by omega)
  have f6 : pm_upd A 0 10 (A 0 10 - 1) (pm_upd A 0 10 (A 0 10 - 1) 0 11) (pm_upd A 0 10 (A 0 10 - 1) 0 10) = A 6 (A 0 10 - 1) := by rw [c11, f10, upd_o (by omega)]
  refine Cl.of (Nat.le_of_ble_eq_true rfl) ?_
  refine wq_ok (full := o_X10_back) srt_Mback (fr := []) (cuts := [32]) (J := fun pc st => (pc = 32 ∧ ∃ B z, (z = 0 ∨ z = 1) ∧ RI B ∧ st = ([(2, 0)], [(0, z)], B))) ?_ 20 0 _ ?_
  · rintro pc st (⟨rfl, B, z, hz, q2, rfl⟩)
    refine wq_ok srt_Mback (fr := []) (cuts := []) (J := fun _ _ => False) ?_ 5 32 _ ?_
    · intro pc st h; exact h.elim
    · exact ⟨okt2 hz, ⟨_, rfl⟩, q2⟩
  · refine ⟨oM_0 (by omega) km0 10 rfl, ?_⟩
    refine ⟨fun h0 => ?_, fun h0 => ?_⟩
    · refine ⟨oM_0 (by omega) km0 10 rfl, ?_⟩
      refine ⟨⟨by omega, by omega⟩, ?_⟩
      refine ⟨oM_0 (by omega) km0 10 rfl, ?_⟩
      refine ⟨oM_0 (by omega) km0 11 rfl, ?_⟩
      refine ⟨oM_0 (by omega) km0 10 rfl, ?_⟩
      refine ⟨aM_6 (r := (pm_upd A 0 10 ((A 0 10) - 1)) 0 11) (by rw [c11]; omega) (by rw [c11]; exact kn6) (by rw [f10]; omega) (by rw [f10]; omega), ?_⟩
      skip
      refine ⟨rM_0 (by omega) km0, ?_⟩
      show Cl pmt (an_sh wM) 200 [(2, 0), (0, pm_upd A 0 10 (A 0 10 - 1) (pm_upd A 0 10 (A 0 10 - 1) 0 11) (pm_upd A 0 10 (A 0 10 - 1) 0 10))] (pm_upd A 0 10 (A 0 10 - 1)) _
      rw [f6]
      refine (turns_ri (hR2 h0) (hl h0).1 (by rw [f7]; exact (hl h0).2)).imp ?_
      rintro ⟨r1, B⟩ ⟨q1, q2, q3, q4, q5, q6⟩
      simp only at q1 q2 q3 q4 q5 q6
      rcases q1 with q1 | q1
      · subst q1
        exact ⟨rfl, B, 0, Or.inl rfl, q2, rfl⟩
      · subst q1
        exact ⟨rfl, B, 1, Or.inr rfl, q2, rfl⟩
    · exact ⟨rfl, ⟨_, rfl⟩, h⟩
end

section
/-! frames by kinds; saves, restores, order -/
theorem mc_0 (j : Int) : mcode wM 0 j = 1000 + j.toNat := by unfold mcode; rw [shM_0 km0]; show 100 * 10 + j.toNat = 1000 + j.toNat; omega
theorem mc_1 (j : Int) : mcode wM 1 j = 10001 := by unfold mcode; rw [shM_1 kn1]; rfl
theorem mc_2 (j : Int) : mcode wM 2 j = 10002 := by unfold mcode; rw [shM_2 kn2]; rfl
theorem mc_3 (j : Int) : mcode wM 3 j = 10003 := by unfold mcode; rw [shM_3 kn3]; rfl
theorem mc_4 (j : Int) : mcode wM 4 j = 10004 := by unfold mcode; rw [shM_4 kn4]; rfl
theorem mc_5 (j : Int) : mcode wM 5 j = 10005 := by unfold mcode; rw [shM_5 kn5]; rfl
theorem mc_6 (j : Int) : mcode wM 6 j = 10006 := by unfold mcode; rw [shM_6 kn6]; rfl
theorem mc_7 (j : Int) : mcode wM 7 j = 10007 := by unfold mcode; rw [shM_7 kn7]; rfl
theorem mc_8 (j : Int) : mcode wM 8 j = 10008 := by unfold mcode; rw [shM_8 kn8]; rfl
theorem mc_9 (j : Int) : mcode wM 9 j = 10009 := by unfold mcode; rw [shM_9 kn9]; rfl
theorem mc_10 (j : Int) : mcode wM 10 j = 10010 := by unfold mcode; rw [shM_10 kn10]; rfl
theorem mc_11 (j : Int) : mcode wM 11 j = 10011 := by unfold mcode; rw [shM_11 kn11]; rfl
theorem mc_12 (j : Int) : mcode wM 12 j = 10012 := by unfold mcode; rw [shM_12 kn12]; rfl
theorem mc_13 (j : Int) : mcode wM 13 j = 10013 := by unfold mcode; rw [shM_13 kn13]; rfl
theorem mc_14 (j : Int) : mcode wM 14 j = 10014 := by unfold mcode; rw [shM_14 kn14]; rfl
theorem mc_15 (j : Int) : mcode wM 15 j = 10015 := by unfold mcode; rw [shM_15 kn15]; rfl
theorem mc_16 (j : Int) : mcode wM 16 j = 10016 := by unfold mcode; rw [shM_16 kn16]; rfl
theorem mc_17 (j : Int) : mcode wM 17 j = 10017 := by unfold mcode; rw [shM_17 kn17]; rfl
theorem mc_18 (j : Int) : mcode wM 18 j = 10018 := by unfold mcode; rw [shM_18 kn18]; rfl
theorem mc_19 (j : Int) : mcode wM 19 j = 10019 := by unfold mcode; rw [shM_19 kn19]; rfl
theorem mc_20 (j : Int) : mcode wM 20 j = 10020 := by unfold mcode; rw [shM_20 kn20]; rfl
theorem mc_21 (j : Int) : mcode wM 21 j = 10021 := by unfold mcode; rw [shM_21 kn21]; rfl
theorem mc_22 (j : Int) : mcode wM 22 j = 10022 := by unfold mcode; rw [shM_22 kn22]; rfl
theorem mc_23 (j : Int) : mcode wM 23 j = 10023 := by unfold mcode; rw [shM_23 kn23]; rfl
theorem mc_24 (j : Int) : mcode wM 24 j = 10024 := by unfold mcode; rw [shM_24 kn24]; rfl
theorem mc_25 (j : Int) : mcode wM 25 j = 10025 := by unfold mcode; rw [shM_25 kn25]; rfl
theorem mc_26 (j : Int) : mcode wM 26 j = 10026 := by unfold mcode; rw [shM_26 kn26]; rfl
theorem mc_27 (j : Int) : mcode wM 27 j = 10027 := by unfold mcode; rw [shM_27 kn27]; rfl
theorem mc_28 (j : Int) : mcode wM 28 j = 10028 := by unfold mcode; rw [shM_28 kn28]; rfl
theorem mc_29 (j : Int) : mcode wM 29 j = 10029 := by unfold mcode; rw [shM_29 kn29]; rfl
theorem mc_30 (j : Int) : mcode wM 30 j = 10030 := by unfold mcode; rw [shM_30 kn30]; rfl
theorem mc_31 (j : Int) : mcode wM 31 j = 10031 := by unfold mcode; rw [shM_31 kn31]; rfl
theorem mc_32 (j : Int) : mcode wM 32 j = 10032 := by unfold mcode; rw [shM_32 kn32]; rfl
theorem mc_33 (j : Int) : mcode wM 33 j = 10033 := by unfold mcode; rw [shM_33 kn33]; rfl
theorem mc_34 (j : Int) : mcode wM 34 j = 10034 := by unfold mcode; rw [shM_34 kn34]; rfl
theorem mc_35 (j : Int) : mcode wM 35 j = 10035 := by unfold mcode; rw [shM_35 kn35]; rfl
theorem mc_36 (j : Int) : mcode wM 36 j = 10036 := by unfold mcode; rw [shM_36 kn36]; rfl
theorem mc_37 (j : Int) : mcode wM 37 j = 10037 := by unfold mcode; rw [shM_37 kn37]; rfl
theorem mc_38 (j : Int) : mcode wM 38 j = 10038 := by unfold mcode; rw [shM_38 kn38]; rfl
theorem rgS_same {n : Int} {F G : Int → Int} (h : rgS n F) (e : ∀ f : Int, 0 ≤ f → f < 100 → G f = F f) : rgS n G := by
  obtain ⟨h0, h1, h2⟩ := h
  refine ⟨h0, fun f f0 f1 => by rw [e f f0 f1]; exact h1 f f0 f1, fun f f0 f1 hf => ?_⟩
  rw [e f f0 f1] at hf
  obtain ⟨g1, g2⟩ := h2 f f0 f1 hf
  exact ⟨g1, fun g g0 g3 hg => g2 g g0 g3 (by rw [← e g g0 g3]; exact hg)⟩
theorem RG.same2 {A B : pm_A} (h : RG A) (e1 : ∀ j, 0 ≤ j → B 31 j = A 31 j) (e2 : ∀ j, 0 ≤ j → B 32 j = A 32 j) : RG B := fun sl hsl => by
  have := h sl hsl
  rw [← e1 sl (by omega)] at this
  exact rgS_same this (fun f f0 f1 => e2 _ (by omega))
theorem RI.typed {A B : pm_A} {ms : List Nat} (h : RI A) (hB : gH wM B) (hF : gFr wM ms A B) (hm : (ms.all fun c => !([1007, 1008, 1010, 10001, 10002, 10003, 10005, 10006, 10007, 10031, 10032].contains c)) = true) : RI B := by
  have hno : ∀ c, c ∈ ([1007, 1008, 1010, 10001, 10002, 10003, 10005, 10006, 10007, 10031, 10032] : List Nat) → ¬ c ∈ ms := fun c hc hin => by
    have := List.all_eq_true.1 hm c hin
    rw [List.contains_iff_mem.mpr hc] at this
    exact absurd this (by decide)
  have f0 : ∀ j : Int, j = 7 ∨ j = 8 ∨ j = 10 → B 0 j = A 0 j := fun j hj => hF 0 j (by omega) (by omega) (by rw [mc_0]; rcases hj with rfl | rfl | rfl <;> exact hno _ (by decide))
  have c1 : ∀ j : Int, 0 ≤ j → B 1 j = A 1 j := fun j j0 => hF 1 j (by omega) j0 (by rw [mc_1]; exact hno _ (by decide))
  have c2 : ∀ j : Int, 0 ≤ j → B 2 j = A 2 j := fun j j0 => hF 2 j (by omega) j0 (by rw [mc_2]; exact hno _ (by decide))
  have c3 : ∀ j : Int, 0 ≤ j → B 3 j = A 3 j := fun j j0 => hF 3 j (by omega) j0 (by rw [mc_3]; exact hno _ (by decide))
  have c5 : ∀ j : Int, 0 ≤ j → B 5 j = A 5 j := fun j j0 => hF 5 j (by omega) j0 (by rw [mc_5]; exact hno _ (by decide))
  have c6 : ∀ j : Int, 0 ≤ j → B 6 j = A 6 j := fun j j0 => hF 6 j (by omega) j0 (by rw [mc_6]; exact hno _ (by decide))
  have c7 : ∀ j : Int, 0 ≤ j → B 7 j = A 7 j := fun j j0 => hF 7 j (by omega) j0 (by rw [mc_7]; exact hno _ (by decide))
  have c31 : ∀ j : Int, 0 ≤ j → B 31 j = A 31 j := fun j j0 => hF 31 j (by omega) j0 (by rw [mc_31]; exact hno _ (by decide))
  have c32 : ∀ j : Int, 0 ≤ j → B 32 j = A 32 j := fun j j0 => hF 32 j (by omega) j0 (by rw [mc_32]; exact hno _ (by decide))
  obtain ⟨⟨s, ks, hT⟩, ⟨b1, b2⟩, hRG⟩ := h
  refine ⟨⟨s, ks, hT.same hB (f0 7 (by omega)) (f0 8 (by omega)) (fun j j0 _ => c5 j j0) (fun p p0 p1 r j hr => ?_)⟩, ⟨fun j j0 j1 => by rw [c7 j j0]; exact b1 j j0 j1, fun d d0 d1 => ?_⟩, hRG.same2 c31 c32⟩
  · unfold inS at hr
    rcases hr with ⟨rfl, rfl⟩ | ⟨rfl, h1, h2⟩ | ⟨rfl, h1, h2⟩
    · exact c1 _ p0
    · exact c2 _ (by omega)
    · exact c3 _ (by omega)
  · rw [c6 d d0, f0 7 (by omega)]; rw [f0 10 (by omega)] at d1; exact b2 d d0 d1
theorem ri_gct {mid : Nat} {q : an_Q} (hq : gCt wM pmt mid q) {a : List pm_V} {A : pm_A} (ha : gA wM q.1 a) (h : RI A) (hm : (q.2.2.all fun c => !([1007, 1008, 1010, 10001, 10002, 10003, 10005, 10006, 10007, 10031, 10032].contains c)) = true) : Cl pmt (an_sh wM) mid a A (fun r => gR wM q.2.1 r.1 ∧ RI r.2) :=
  Cl.gct hq ha h.g (fun r h1 h2 h3 => ⟨h1, h.typed h2 h3 hm⟩)
theorem Tru.ls {s : cx_Sd 12} {ks : List (Fin 12)} {A B : pm_A} (h : Tru s ks A) (hB : gH wM B) (e7 : B 0 7 = A 0 7) (e8 : B 0 8 = A 0 8) (e5 : ∀ j : Int, 0 ≤ j → j < 72 → B 5 j = A 5 j) (hs : ∀ p : Int, 0 ≤ p → p < A 0 7 → LSm B p = LSm A p) : Tru s ks B := by
  obtain ⟨hg, h1, hb, hks, h9, ha, hl⟩ := h
  have p7 := fM_0_7 hg (r := 0) (by omega) km0
  have p8 := fM_0_8 hg (r := 0) (by omega) km0
  refine ⟨hB, by omega, fun i j hj => ⟨fun hi => ?_, fun hi => ?_⟩, fun k hk => by rw [e7]; exact hks k hk, fun v k hk => h9 v k (by omega), fun i j i0 i1 j0 j1 => ?_, fun i hi => ?_⟩
  · rw [e5 _ (by omega) (by omega)]; exact (hb i j (by omega)).1 (by omega)
  · exact (hb i j (by omega)).2 (by omega)
  · rw [e5 _ (by omega) (by omega)]; exact ha i j i0 (by omega) j0 (by omega)
  · rw [e7] at hi
    have m := eM_1 hg (r := 1) (by omega) kn1 (j := i.1) (by omega) (by have := i.2; omega)
    have mB := eM_1 hB (r := 1) (by omega) kn1 (j := i.1) (by omega) (by have := i.2; omega)
    have hs := hs i.1 (by omega) hi
    obtain ⟨l1, l2, l3⟩ := hl i hi
    exact ⟨ls_srtd hs mB.1 m.1 l1, ls_cfs hs mB.1 m.1 l2, fun x => by rw [l3 x]; exact (congrFun (VS_of hs) x).symm⟩
theorem srt_saves : pm_srt o_X10_saves = true := by decide +kernel
theorem srt_restores : pm_srt o_X10_restores = true := by decide +kernel
def savesI (A B : pm_A) (p i : Int) : Prop := gH wM B ∧ (∀ r j, (∀ t : Int, 0 ≤ t → t < A 0 7 → ¬ inS (p + t) r j) → B r j = A r j) ∧ ∀ t : Int, 0 ≤ t → t < i → LSm B (p + t) = LSm A (t)
def savesJ (A B : pm_A) (p i : Int) : Prop := gH wM B ∧ (∀ r j, (∀ t : Int, 0 ≤ t → t < A 0 7 → ¬ inS (p + t) r j) → r ≠ 22 → B r j = A r j) ∧ (∀ t : Int, 0 ≤ t → t < A 0 7 → LSm B (p + t) = LSm A (t)) ∧ ∀ j : Int, 0 ≤ j → j < i → B 22 j = A 5 j
def saves_post (A : pm_A) (p : Int) (r : pm_R) : Prop := r.1 = none ∧ savesJ A r.2 p 72
theorem saves_26 {A : pm_A} {p : Int} (p0 : 6 ≤ p) (p1 : p ≤ 146) : ∀ (m : Nat) (i : Int) (B : pm_A), (72 - i).toNat < m → 0 ≤ i → i ≤ 72 → savesJ A B p i → Tm pmt (an_sh wM) o_X10_saves 26 ([(2, 0), (0, p), (0, i)], [], B) (saves_post A p) := by
  intro m
  induction m with
  | zero => intro i B h; omega
  | succ m ih =>
    intro i B hm i0 i1 hJ
    obtain ⟨g1, g2, g3, g4⟩ := hJ
    have c34 := pM_34 g1
    have c9 := pM_9 g1
    have e5 : B 5 i = A 5 i := g2 5 i (fun t t0 t1 ht => by unfold inS at ht; omega) (by omega)
    refine wq_ok srt_saves (fr := []) (cuts := [26]) (J := fun pc st => (pc = 26 ∧ (i < 72) ∧ st = ([(2, 0), (0, p), (0, i + 1)], [], pm_upd B (B 0 34) i (B (B 0 9) i)))) ?_ 18 26 _ ?_
    · rintro pc st (⟨rfl, h0, rfl⟩)
      rw [c34, c9]
      have b := eM_5 g1 (r := 5) (by omega) kn5 i0 (show i < 72 by omega)
      refine ih (i + 1) _ (by omega) (by omega) (by omega) ⟨uM_22 g1 kn22 b.1 b.2, fun r j hr h5 => by rw [upd_o (by omega)]; exact g2 r j hr h5, fun t t0 t1 => ?_, fun j j0 j1 => ?_⟩
      · exact (LSm_ext (upd_o (by omega)) (fun q v q0 q1 v0 v1 => ⟨upd_o (by omega), upd_o (by omega)⟩)).trans (g3 t t0 t1)
      · by_cases hj : j = i
        · rw [hj, upd_at]; exact e5
        · rw [upd_o (by omega)]; exact g4 j j0 (by omega)
    · refine ⟨fun h0 => ?_, fun h0 => ?_⟩
      · exact ⟨rfl, g1, g2, g3, fun j j0 j1 => g4 j j0 (by omega)⟩
      · refine ⟨oM_0 (by omega) km0 34 rfl, ?_⟩
        refine ⟨oM_0 (by omega) km0 9 rfl, ?_⟩
        refine ⟨aM_5 (r := B 0 9) (by rw [c9]; omega) (by rw [c9]; exact kn5) (by omega) (by omega), ?_⟩
        have e1 : B (B 0 9) i = B 5 i := by rw [c9]
        refine ⟨tM_22 (r := B 0 34) (by rw [c34]; omega) (by rw [c34]; exact kn22) (by omega) (by omega) rfl, ?_⟩
        refine ⟨⟨by omega, by omega⟩, ?_⟩
        exact ⟨rfl, h0, rfl⟩
theorem saves_2 {A : pm_A} {p : Int} (hA : gH wM A) (p0 : 6 ≤ p) (p1 : p ≤ 146) : ∀ (m : Nat) (i : Int) (B : pm_A), (6 - i).toNat < m → 0 ≤ i → i ≤ A 0 7 → savesI A B p i → Tm pmt (an_sh wM) o_X10_saves 2 ([(2, 0), (0, p), (0, i)], [], B) (saves_post A p) := by
  have p7 := fM_0_7 hA (r := 0) (by omega) km0
  intro m
  induction m with
  | zero => intro i B h; omega
  | succ m ih =>
    intro i B hm i0 i1 hI
    obtain ⟨g1, g2, g3⟩ := hI
    have e7 : B 0 7 = A 0 7 := g2 0 7 (fun t t0 t1 ht => by unfold inS at ht; omega)
    refine wq_ok srt_saves (fr := []) (cuts := [18, 26]) (J := fun pc st => (pc = 26 ∧ ((B 0 7) ≤ i) ∧ st = ([(2, 0), (0, p), (0, 0)], [], B)) ∨ (pc = 18 ∧ i < B 0 7 ∧ ∃ C, gH wM C ∧ (∀ q j, ¬ inS (p + i) q j → C q j = B q j) ∧ LSm C (p + i) = LSm B (i) ∧ st = ([(2, 0), (0, p), (0, i)], [], C))) ?_ 14 2 _ ?_
    · rintro pc st (⟨rfl, h0, rfl⟩ | ⟨rfl, h0, C, q2, q3, q4, rfl⟩)
      · exact saves_26 p0 p1 _ 0 B (Nat.lt_succ_self _) (by omega) (by omega) ⟨g1, fun r j hr _ => g2 r j hr, fun t t0 t1 => g3 t t0 (by omega), fun j j0 j1 => by omega⟩
      · rw [e7] at h0
        refine wq_ok srt_saves (fr := []) (cuts := [2]) (J := fun pc st => (pc = 2 ∧ st = ([(2, 0), (0, p), (0, i + 1)], [], C))) ?_ 7 18 _ ?_
        · rintro pc st (⟨rfl, rfl⟩)
          refine ih (i + 1) C (by omega) (by omega) (by omega) ⟨q2, fun r j hr => by rw [q3 r j (hr i i0 h0)]; exact g2 r j hr, fun t t0 t1 => ?_⟩
          by_cases ht : t = i
          · have mf := eM_1 hA (r := 1) (by omega) kn1 (j := i) (by omega) (by omega)
            rw [ht, q4]; exact LSm_same mf.2 (fun r j hr => g2 r j (fun t t0 t1 ht => by unfold inS at *; omega))
          · have mt := eM_1 g1 (r := 1) (by omega) kn1 (j := p + t) (by omega) (by omega)
            rw [LSm_same mt.2 (fun r j hr => q3 r j (by unfold inS at *; omega))]; exact g3 t t0 (by omega)
        · refine ⟨⟨by omega, by omega⟩, ?_⟩
          exact ⟨rfl, rfl⟩
    · refine ⟨oM_0 (by omega) km0 7 rfl, ?_⟩
      refine ⟨fun h0 => ?_, fun h0 => ?_⟩
      · exact Or.inl (⟨rfl, h0, rfl⟩)
      · refine ⟨⟨by omega, by omega⟩, ?_⟩
        refine ⟨rM_0 (by omega) km0, ?_⟩
        refine (copy_ex (to := p + i) (fr := i) g1 (by omega) (by omega) (by omega) (by omega) (by omega)).imp ?_
        rintro ⟨r1, C⟩ ⟨q1, q2, q3, q4⟩
        simp only at q1 q2 q3 q4
        subst q1
        exact Or.inr (⟨rfl, h0, C, q2, q3, q4, rfl⟩)
theorem saves_ex {A : pm_A} {p : Int} (hA : gH wM A) (p0 : 6 ≤ p) (p1 : p ≤ 146) : Cl pmt (an_sh wM) 181 [(2, 0), (0, p)] A (saves_post A p) := by
  have p7 := fM_0_7 hA (r := 0) (by omega) km0
  refine Cl.of (Nat.le_of_ble_eq_true rfl) ?_
  refine wq_ok (full := o_X10_saves) srt_saves (fr := []) (cuts := [2]) (J := fun pc st => (pc = 2 ∧ st = ([(2, 0), (0, p), (0, 0)], [], A))) ?_ 7 0 _ ?_
  · rintro pc st (⟨rfl, rfl⟩)
    exact saves_2 hA p0 p1 _ 0 A (Nat.lt_succ_self _) (by omega) (by omega) ⟨hA, fun _ _ _ => rfl, fun t t0 t1 => by omega⟩
  · exact ⟨rfl, rfl⟩
def restoresI (A B : pm_A) (p i : Int) : Prop := gH wM B ∧ (∀ r j, (∀ t : Int, 0 ≤ t → t < A 0 7 → ¬ inS (t) r j) → B r j = A r j) ∧ ∀ t : Int, 0 ≤ t → t < i → LSm B (t) = LSm A (p + t)
def restoresJ (A B : pm_A) (p i : Int) : Prop := gH wM B ∧ (∀ r j, (∀ t : Int, 0 ≤ t → t < A 0 7 → ¬ inS (t) r j) → r ≠ 5 → B r j = A r j) ∧ (∀ t : Int, 0 ≤ t → t < A 0 7 → LSm B (t) = LSm A (p + t)) ∧ ∀ j : Int, 0 ≤ j → j < i → B 5 j = A 22 j
def restores_post (A : pm_A) (p : Int) (r : pm_R) : Prop := r.1 = none ∧ restoresJ A r.2 p 72
theorem restores_26 {A : pm_A} {p : Int} (p0 : 6 ≤ p) (p1 : p ≤ 146) : ∀ (m : Nat) (i : Int) (B : pm_A), (72 - i).toNat < m → 0 ≤ i → i ≤ 72 → restoresJ A B p i → Tm pmt (an_sh wM) o_X10_restores 26 ([(2, 0), (0, p), (0, i)], [], B) (restores_post A p) := by
  intro m
  induction m with
  | zero => intro i B h; omega
  | succ m ih =>
    intro i B hm i0 i1 hJ
    obtain ⟨g1, g2, g3, g4⟩ := hJ
    have c9 := pM_9 g1
    have c34 := pM_34 g1
    have e22 : B 22 i = A 22 i := g2 22 i (fun t t0 t1 ht => by unfold inS at ht; omega) (by omega)
    refine wq_ok srt_restores (fr := []) (cuts := [26]) (J := fun pc st => (pc = 26 ∧ (i < 72) ∧ st = ([(2, 0), (0, p), (0, i + 1)], [], pm_upd B (B 0 9) i (B (B 0 34) i)))) ?_ 18 26 _ ?_
    · rintro pc st (⟨rfl, h0, rfl⟩)
      rw [c9, c34]
      have b := eM_22 g1 (r := 22) (by omega) kn22 i0 (show i < 72 by omega)
      refine ih (i + 1) _ (by omega) (by omega) (by omega) ⟨uM_5 g1 kn5 b.1 b.2, fun r j hr h5 => by rw [upd_o (by omega)]; exact g2 r j hr h5, fun t t0 t1 => ?_, fun j j0 j1 => ?_⟩
      · exact (LSm_ext (upd_o (by omega)) (fun q v q0 q1 v0 v1 => ⟨upd_o (by omega), upd_o (by omega)⟩)).trans (g3 t t0 t1)
      · by_cases hj : j = i
        · rw [hj, upd_at]; exact e22
        · rw [upd_o (by omega)]; exact g4 j j0 (by omega)
    · refine ⟨fun h0 => ?_, fun h0 => ?_⟩
      · exact ⟨rfl, g1, g2, g3, fun j j0 j1 => g4 j j0 (by omega)⟩
      · refine ⟨oM_0 (by omega) km0 9 rfl, ?_⟩
        refine ⟨oM_0 (by omega) km0 34 rfl, ?_⟩
        refine ⟨aM_22 (r := B 0 34) (by rw [c34]; omega) (by rw [c34]; exact kn22) (by omega) (by omega), ?_⟩
        have e1 : B (B 0 34) i = B 22 i := by rw [c34]
        refine ⟨tM_5 (r := B 0 9) (by rw [c9]; omega) (by rw [c9]; exact kn5) (by omega) (by omega) rfl, ?_⟩
        refine ⟨⟨by omega, by omega⟩, ?_⟩
        exact ⟨rfl, h0, rfl⟩
theorem restores_2 {A : pm_A} {p : Int} (hA : gH wM A) (p0 : 6 ≤ p) (p1 : p ≤ 146) : ∀ (m : Nat) (i : Int) (B : pm_A), (6 - i).toNat < m → 0 ≤ i → i ≤ A 0 7 → restoresI A B p i → Tm pmt (an_sh wM) o_X10_restores 2 ([(2, 0), (0, p), (0, i)], [], B) (restores_post A p) := by
  have p7 := fM_0_7 hA (r := 0) (by omega) km0
  intro m
  induction m with
  | zero => intro i B h; omega
  | succ m ih =>
    intro i B hm i0 i1 hI
    obtain ⟨g1, g2, g3⟩ := hI
    have e7 : B 0 7 = A 0 7 := g2 0 7 (fun t t0 t1 ht => by unfold inS at ht; omega)
    refine wq_ok srt_restores (fr := []) (cuts := [18, 26]) (J := fun pc st => (pc = 26 ∧ ((B 0 7) ≤ i) ∧ st = ([(2, 0), (0, p), (0, 0)], [], B)) ∨ (pc = 18 ∧ i < B 0 7 ∧ ∃ C, gH wM C ∧ (∀ q j, ¬ inS (i) q j → C q j = B q j) ∧ LSm C (i) = LSm B (p + i) ∧ st = ([(2, 0), (0, p), (0, i)], [], C))) ?_ 14 2 _ ?_
    · rintro pc st (⟨rfl, h0, rfl⟩ | ⟨rfl, h0, C, q2, q3, q4, rfl⟩)
      · exact restores_26 p0 p1 _ 0 B (Nat.lt_succ_self _) (by omega) (by omega) ⟨g1, fun r j hr _ => g2 r j hr, fun t t0 t1 => g3 t t0 (by omega), fun j j0 j1 => by omega⟩
      · rw [e7] at h0
        refine wq_ok srt_restores (fr := []) (cuts := [2]) (J := fun pc st => (pc = 2 ∧ st = ([(2, 0), (0, p), (0, i + 1)], [], C))) ?_ 7 18 _ ?_
        · rintro pc st (⟨rfl, rfl⟩)
          refine ih (i + 1) C (by omega) (by omega) (by omega) ⟨q2, fun r j hr => by rw [q3 r j (hr i i0 h0)]; exact g2 r j hr, fun t t0 t1 => ?_⟩
          by_cases ht : t = i
          · have mf := eM_1 hA (r := 1) (by omega) kn1 (j := p + i) (by omega) (by omega)
            rw [ht, q4]; exact LSm_same mf.2 (fun r j hr => g2 r j (fun t t0 t1 ht => by unfold inS at *; omega))
          · have mt := eM_1 g1 (r := 1) (by omega) kn1 (j := t) (by omega) (by omega)
            rw [LSm_same mt.2 (fun r j hr => q3 r j (by unfold inS at *; omega))]; exact g3 t t0 (by omega)
        · refine ⟨⟨by omega, by omega⟩, ?_⟩
          exact ⟨rfl, rfl⟩
    · refine ⟨oM_0 (by omega) km0 7 rfl, ?_⟩
      refine ⟨fun h0 => ?_, fun h0 => ?_⟩
      · exact Or.inl (⟨rfl, h0, rfl⟩)
      · refine ⟨⟨by omega, by omega⟩, ?_⟩
        refine ⟨rM_0 (by omega) km0, ?_⟩
        refine (copy_ex (to := i) (fr := p + i) g1 (by omega) (by omega) (by omega) (by omega) (by omega)).imp ?_
        rintro ⟨r1, C⟩ ⟨q1, q2, q3, q4⟩
        simp only at q1 q2 q3 q4
        subst q1
        exact Or.inr (⟨rfl, h0, C, q2, q3, q4, rfl⟩)
theorem restores_ex {A : pm_A} {p : Int} (hA : gH wM A) (p0 : 6 ≤ p) (p1 : p ≤ 146) : Cl pmt (an_sh wM) 176 [(2, 0), (0, p)] A (restores_post A p) := by
  have p7 := fM_0_7 hA (r := 0) (by omega) km0
  refine Cl.of (Nat.le_of_ble_eq_true rfl) ?_
  refine wq_ok (full := o_X10_restores) srt_restores (fr := []) (cuts := [2]) (J := fun pc st => (pc = 2 ∧ st = ([(2, 0), (0, p), (0, 0)], [], A))) ?_ 7 0 _ ?_
  · rintro pc st (⟨rfl, rfl⟩)
    exact restores_2 hA p0 p1 _ 0 A (Nat.lt_succ_self _) (by omega) (by omega) ⟨hA, fun _ _ _ => rfl, fun t t0 t1 => by omega⟩
  · exact ⟨rfl, rfl⟩
end
