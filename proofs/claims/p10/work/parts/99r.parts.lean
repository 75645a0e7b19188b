/-! parts -/
theorem shr_of {A : pm_A} {s : Int} (h1 : srtd A s) (h2 : cfs A s) : cr_Shr (LSm A s) := by
  refine ⟨?_, pos_LSm h2⟩
  unfold LSm
  rw [List.pairwise_map]
  refine List.Pairwise.imp_of_mem ?_ (List.pairwise_lt_range (n := (A 1 s).toNat))
  intro i j hi hj hij
  exact h1 i j (by omega) (by omega) (by have := List.mem_range.1 hj; omega)
theorem LSm_get {A : pm_A} {s : Int} (q : Nat) (h : q < (LSm A s).length) : (LSm A s)[q] = fa A s q := by
  have : ∀ (l : cr_Pl_ 12) (e : l = (List.range (A 1 s).toNat).map (fa A s)) (h : q < l.length), l[q] = fa A s q := by
    intro l e h
    subst e
    rw [List.getElem_map, List.getElem_range]
  exact this _ rfl h
theorem srtd_of {A : pm_A} {s : Int} (h : cr_Shr (LSm A s)) : srtd A s := by
  intro q q' q0 hq hq'
  have hl := LSm_len A s
  have := (List.pairwise_iff_getElem.1 h.1) q.toNat q'.toNat (by omega) (by omega) (by omega)
  rw [LSm_get, LSm_get] at this
  have h2 : cr_Gt (xe A s ((q.toNat : Nat) : Int)) (xe A s ((q'.toNat : Nat) : Int)) := this
  rw [Int.toNat_of_nonneg q0, Int.toNat_of_nonneg (by omega)] at h2
  exact h2
theorem pl_hit {B : pm_A} {a t : Int} (h : cr_Shr (LSm B a)) (hc : cr_co (LSm B a) (xp B) ≠ 0) (ht : ptI B a t) : t < B 1 a ∧ xe B a t = xp B := by
  obtain ⟨y, hy, ey⟩ := cr_co_mem hc
  obtain ⟨q, q0, q1, rfl⟩ := mem_LSm hy
  have ey : xe B a q = xp B := ey
  obtain ⟨⟨t0, t1⟩, t2, t3⟩ := ht
  have hqt : t ≤ q := by
    refine Classical.byContradiction (fun hn => ?_)
    have := t2 q q0 (by omega)
    rw [ey] at this
    exact cr_Gt.irrefl _ this
  by_cases e : q = t
  · rw [← e]; exact ⟨q1, ey⟩
  · exfalso
    have h1 := srtd_of h t q t0 (by omega) q1
    rw [ey] at h1
    exact t3 t (by omega) (by omega) h1
theorem lessAll_snoc {r y : Int × cr_Xp 12} : ∀ (l N : cr_Pl_ 12), cr_lessAll N r (l ++ [y]) = cr_less (cr_lessAll N r l) (fun i => r.2 i + y.2 i) (r.1 * y.1)
  | [], N => rfl
  | z :: l, N => lessAll_snoc l _
theorem srt_parts : pm_srt o_X10_parts = true := by decide +kernel
def paF (A B : pm_A) (to a : Int) : Prop := gH wM B ∧ ∀ r j, ¬ inS to r j → ¬ inS a r j → r ≠ 4 → B r j = A r j
def paH (A : pm_A) (to a b EN : Int) (Q : cr_Pl_ 12) : Prop := gH wM A ∧ (0 ≤ to ∧ to ≤ 151) ∧ (0 ≤ a ∧ a ≤ 151) ∧ (0 ≤ b ∧ b ≤ 151) ∧ (to ≠ a ∧ to ≠ b ∧ a ≠ b) ∧ (srtd A b ∧ cfs A b ∧ 1 ≤ A 1 b ∧ xb A b 1810) ∧ (srtd A a ∧ cfs A a ∧ xb A a EN) ∧ (0 ≤ EN ∧ EN ≤ 2147000000) ∧ cr_Shr Q ∧ (∀ c, cr_co (LSm A a) c = cr_co (cr_pmz Q (LSm A b)) c) ∧ Q.length ≤ 200
theorem pa_bnd {A B : pm_A} {a EN : Int} (hcf : cfs A a) (hs : srtd A a) (hx : xb A a EN) (h : cr_Shr (LSm B a)) (hle : ∀ c, cr_co (LSm B a) c ≤ cr_co (LSm A a) c) : cfs B a ∧ xb B a EN := by
  have key : ∀ q : Int, 0 ≤ q → q < B 1 a → 0 < B 2 (200 * a + q) ∧ ∃ i : Int, 0 ≤ i ∧ i < A 1 a ∧ xe A a i = xe B a q ∧ B 2 (200 * a + q) ≤ A 2 (200 * a + i) := fun q q0 q1 => by
    have hm := in_LSm (A := B) (p := a) q0 q1
    have hp : 0 < B 2 (200 * a + q) := h.2 _ hm
    have h1 : cr_co (LSm B a) (xe B a q) = B 2 (200 * a + q) := h.at hm
    have h2 := hle (xe B a q)
    obtain ⟨y, hy, ey⟩ := cr_co_mem (l := LSm A a) (a := xe B a q) (by omega)
    obtain ⟨i, i0, i1, rfl⟩ := mem_LSm hy
    have ey : xe A a i = xe B a q := ey
    have h3 : cr_co (LSm A a) (xe A a i) = A 2 (200 * a + i) := (shr_of hs hcf).at (in_LSm i0 i1)
    rw [ey] at h3
    exact ⟨hp, i, i0, i1, ey, by omega⟩
  constructor
  · intro q q0 q1
    obtain ⟨h1, i, i0, i1, _, h2⟩ := key q q0 q1
    have := hcf i i0 i1
    omega
  · intro q v q0 q1 v0 v1
    obtain ⟨h1, i, i0, i1, e, h2⟩ := key q q0 q1
    have h3 := hx i v i0 i1 v0 v1
    have e2 := congrFun e ⟨v.toNat, by omega⟩
    have e3 : A 3 (12 * (200 * a + i) + ((v.toNat : Nat) : Int)) = B 3 (12 * (200 * a + q) + ((v.toNat : Nat) : Int)) := e2
    rw [Int.toNat_of_nonneg v0] at e3
    omega
theorem pa_189 {A : pm_A} {to a b t u : Int} {r : Int × cr_Xp 12} (hto : 0 ≤ to ∧ to ≤ 151) (hb : 0 ≤ b ∧ b ≤ 151) (ht : 0 ≤ t ∧ t ≤ 199) (hu : 0 ≤ u ∧ u ≤ 199) {w4 w5 w6 w7 : pm_V} {z : pm_R → Prop} {D : pm_A} (hD : gH wM D)
    (h1 : ∀ v : Int, 0 ≤ v → v < 12 → -2147483648 ≤ D 3 (12 * (200 * to + t) + v) + D 3 (12 * (200 * b + u) + v) ∧ D 3 (12 * (200 * to + t) + v) + D 3 (12 * (200 * b + u) + v) ≤ 2147483647)
    (H : ∀ C v10, gH wM C → (∀ q j, q ≠ 4 → C q j = D q j) → (∀ v : Int, 0 ≤ v → v < 12 → C 4 v = D 3 (12 * (200 * to + t) + v) + D 3 (12 * (200 * b + u) + v)) → Tm pmt (an_sh wM) o_X10_parts 248 ([(2, 0), (0, to), (0, a), (0, b), w4, w5, w6, w7, (0, t), (0, u), v10], [], C) z) : ∀ (m : Nat) (v : Int) (B : pm_A), (12 - v).toNat < m → 0 ≤ v → v ≤ 12 → gH wM B → (∀ q j, q ≠ 4 → B q j = D q j) → (∀ i : Int, 0 ≤ i → i < v → B 4 i = D 3 (12 * (200 * to + t) + i) + D 3 (12 * (200 * b + u) + i)) → Tm pmt (an_sh wM) o_X10_parts 189 ([(2, 0), (0, to), (0, a), (0, b), w4, w5, w6, w7, (0, t), (0, u), (0, v)], [], B) z := by
  intro m
  induction m with
  | zero => intro v B h; omega
  | succ m ih =>
    intro v B hm v0 v1 hB hB2 hB4
    have c3 := pM_3 hB
    have c6 := pM_6 hB
    have k1 := hB2 3 (12 * (200 * to + t) + v) (by omega)
    have k2 := hB2 3 (12 * (200 * b + u) + v) (by omega)
    have k3 := h1 v v0
    refine wq_ok srt_parts (fr := []) (cuts := [189, 248]) (J := fun pc st => (pc = 248 ∧ (12 ≤ v) ∧ st = ([(2, 0), (0, to), (0, a), (0, b), w4, w5, w6, w7, (0, t), (0, u), (0, v)], [], B)) ∨ (pc = 189 ∧ (v < 12) ∧ st = ([(2, 0), (0, to), (0, a), (0, b), w4, w5, w6, w7, (0, t), (0, u), (0, v + 1)], [], pm_upd B (B 0 6) v ((B (B 0 3) ((12 * ((200 * to) + t)) + v)) + (B (B 0 3) ((12 * ((200 * b) + u)) + v)))))) ?_ 39 189 _ ?_
    · rintro pc st (⟨rfl, h0, rfl⟩ | ⟨rfl, h0, rfl⟩)
      · exact H B _ hB hB2 (fun i i0 i1 => hB4 i i0 (by omega))
      · rw [c3, c6]
        have k4 := k3 h0
        refine ih (v + 1) _ (by omega) (by omega) (by omega) (uM_4 hB kn4 (by omega) (by omega)) (fun q j hq => by rw [upd_o (by omega)]; exact hB2 q j hq) (fun i i0 i1 => ?_)
        by_cases hi : i = v
        · rw [hi, upd_at, k1, k2]
        · rw [upd_o (by omega)]; exact hB4 i i0 (by omega)
    · refine ⟨fun h0 => ?_, fun h0 => ?_⟩
      · exact Or.inl (⟨rfl, h0, rfl⟩)
      · refine ⟨oM_0 (by omega) km0 6 rfl, ?_⟩
        refine ⟨oM_0 (by omega) km0 3 rfl, ?_⟩
        refine ⟨⟨by omega, by omega⟩, ?_⟩
        refine ⟨⟨by omega, by omega⟩, ?_⟩
        refine ⟨⟨by omega, by omega⟩, ?_⟩
        refine ⟨⟨by omega, by omega⟩, ?_⟩
        refine ⟨aM_3 (r := B 0 3) (by rw [c3]; omega) (by rw [c3]; exact kn3) (by omega) (by omega), ?_⟩
        have e1 : B (B 0 3) ((12 * ((200 * to) + t)) + v) = B 3 ((12 * ((200 * to) + t)) + v) := by rw [c3]
        refine ⟨oM_0 (by omega) km0 3 rfl, ?_⟩
        refine ⟨⟨by omega, by omega⟩, ?_⟩
        refine ⟨⟨by omega, by omega⟩, ?_⟩
        refine ⟨⟨by omega, by omega⟩, ?_⟩
        refine ⟨⟨by omega, by omega⟩, ?_⟩
        refine ⟨aM_3 (r := B 0 3) (by rw [c3]; omega) (by rw [c3]; exact kn3) (by omega) (by omega), ?_⟩
        have e2 : B (B 0 3) ((12 * ((200 * b) + u)) + v) = B 3 ((12 * ((200 * b) + u)) + v) := by rw [c3]
        refine ⟨⟨by omega, by omega⟩, ?_⟩
        refine ⟨tM_4 (r := B 0 6) (by rw [c6]; omega) (by rw [c6]; exact kn4) (by omega) (by omega) rfl, ?_⟩
        refine ⟨⟨by omega, by omega⟩, ?_⟩
        exact Or.inr (⟨rfl, h0, rfl⟩)
def paJ (A D B : pm_A) (to a b : Int) (r : Int × cr_Xp 12) (u : Int) : Prop := paF A B to a ∧ LSm B to = LSm D to ∧ B 1 to = D 1 to ∧ (∀ q j, inS to q j → B q j = D q j) ∧ LSm B a = cr_lessAll (LSm D a) r (lsf u.toNat (fa A b))
theorem pa_175 {A D : pm_A} {to a b EN t : Int} {Q C0 : cr_Pl_ 12} {r : Int × cr_Xp 12} (hH : paH A to a b EN Q) (ht : 0 ≤ t ∧ t ≤ 199) (htm : t < D 1 to) (hDF : paF A D to a) (hDs : cr_Shr (LSm D a)) (hr : 0 < r.1) (hC0 : ∀ y ∈ C0, 0 < y.1) (hco : ∀ c, cr_co (LSm D a) c = cr_co C0 c + cr_co (cr_shz r (LSm A b)) c) (hle : ∀ c, cr_co (LSm D a) c ≤ cr_co (LSm A a) c) (hrt : xe D to t = r.2) (hrx : ∀ v : Fin 12, -2147010000 ≤ r.2 v ∧ r.2 v ≤ 2147010000) {w4 w5 : pm_V} {z : pm_R → Prop}
    (H : ∀ C v9 v10, paF A C to a → LSm C to = LSm D to → cr_Shr (LSm C a) → (∀ c, cr_co (LSm C a) c = cr_co C0 c) → Tm pmt (an_sh wM) o_X10_parts 17 ([(2, 0), (0, to), (0, a), (0, b), w4, w5, (1, r.1), (9, 0), (0, t), v9, v10], [], C) z) : ∀ (m : Nat) (u : Int) (v10 : pm_V) (B : pm_A), (A 1 b - u).toNat < m → 0 ≤ u → u ≤ A 1 b → paJ A D B to a b r u → Tm pmt (an_sh wM) o_X10_parts 175 ([(2, 0), (0, to), (0, a), (0, b), w4, w5, (1, r.1), (9, 0), (0, t), (0, u), v10], [], B) z := by
  obtain ⟨hA, hto, ha, hb, hne, ⟨bs, bc, bm, bx⟩, ⟨as_, ac, ax⟩, hEN, hQ, hQc, hQl⟩ := hH
  have mb := eM_1 hA (r := 1) (by omega) kn1 hb.1 (show b < 152 by omega)
  have hLb := pos_LSm bc
  have pre : ∀ u : Nat, (u : Int) ≤ A 1 b → ∃ rest : cr_Pl_ 12, LSm A b = lsf u (fa A b) ++ rest ∧ (∀ y ∈ rest, y ∈ LSm A b) ∧ ((u : Int) < A 1 b → ∃ rest2, rest = fa A b u :: rest2) := fun u hu => by
    refine ⟨(LSm A b).drop u, ?_, fun y hy => List.mem_of_mem_drop hy, fun hu2 => ⟨(LSm A b).drop (u + 1), ?_⟩⟩
    · have h1 : lsf u (fa A b) = (LSm A b).take u := by
        rw [LSm_fa]
        unfold lsf
        rw [← List.map_take, List.take_range, Nat.min_eq_left (by omega)]
      rw [h1, List.take_append_drop]
    · have hl := LSm_len A b
      rw [List.drop_eq_getElem_cons (show u < (LSm A b).length by omega), LSm_get]
  have inv : ∀ u : Nat, (u : Int) ≤ A 1 b → cr_Shr (cr_lessAll (LSm D a) r (lsf u (fa A b))) ∧ (∀ c, cr_co (cr_lessAll (LSm D a) r (lsf u (fa A b))) c ≤ cr_co (LSm A a) c) ∧ ((u : Int) = A 1 b → ∀ c, cr_co (cr_lessAll (LSm D a) r (lsf u (fa A b))) c = cr_co C0 c) ∧ ((u : Int) < A 1 b → r.1 * (fa A b u).1 ≤ cr_co (cr_lessAll (LSm D a) r (lsf u (fa A b))) (fun i => r.2 i + (fa A b u).2 i)) := fun u hu => by
    obtain ⟨rest, e1, e2, e3⟩ := pre u hu
    have hrest : ∀ y ∈ rest, 0 < y.1 := fun y hy => hLb y (e2 y hy)
    have hsr : ∀ y ∈ cr_shz r rest, 0 < y.1 := fun y hy => by
      obtain ⟨w, hw, rfl⟩ := cr_mem_shz hy
      exact Int.mul_pos hr (hrest w hw)
    have hCp : ∀ y ∈ C0 ++ cr_shz r rest, 0 < y.1 := fun y hy => by
      rcases List.mem_append.1 hy with h | h
      · exact hC0 y h
      · exact hsr y h
    have hpre : ∀ y ∈ lsf u (fa A b), 0 < y.1 := fun y hy => hLb y (by rw [e1]; simp [hy])
    have hsplit : cr_shz r (LSm A b) = cr_shz r (lsf u (fa A b)) ++ cr_shz r rest := by rw [e1]; unfold cr_shz; rw [List.map_append]
    obtain ⟨g1, g2⟩ := cr_lessAll_shr hr hCp hpre hDs (fun c => by rw [hco c, hsplit, cr_co_app, cr_co_app]; omega)
    refine ⟨g1, fun c => ?_, fun hu2 c => ?_, fun hu2 => ?_⟩
    · rw [g2 c]
      have h1 := hle c
      rw [hco c, hsplit, cr_co_app] at h1
      have h2 := cr_Shr.nonneg (l := cr_shz r (lsf u (fa A b))) (fun y hy => by
        obtain ⟨w, hw, rfl⟩ := cr_mem_shz hy
        exact Int.mul_pos hr (hpre w hw)) c
      rw [cr_co_app]; omega
    · rw [g2 c, cr_co_app]
      have : rest = [] := by
        have hl := LSm_len A b
        rw [e1, List.length_append] at hl
        unfold lsf at hl
        rw [List.length_map, List.length_range] at hl
        exact List.length_eq_zero_iff.1 (by omega)
      rw [this]
      show _ + (0 : Int) = _
      omega
    · obtain ⟨rest2, e4⟩ := e3 hu2
      rw [g2, cr_co_app, e4]
      show _ ≤ _ + cr_co ((r.1 * (fa A b u).1, fun i => r.2 i + (fa A b u).2 i) :: cr_shz r rest2) _
      rw [cr_co_cons, if_pos rfl]
      have h1 := cr_Shr.nonneg hC0 (fun i => r.2 i + (fa A b u).2 i)
      have h2 := cr_Shr.nonneg (l := cr_shz r rest2) (fun y hy => hsr y (by rw [e4]; exact List.mem_cons_of_mem _ hy)) (fun i => r.2 i + (fa A b u).2 i)
      show r.1 * (fa A b u).1 ≤ _ + (r.1 * (fa A b u).1 + _)
      omega
  intro m
  induction m with
  | zero => intro u v10 B h; omega
  | succ m ih =>
    intro u v10 B hm u0 u1 hJ
    obtain ⟨hF, j1, j2, j3, j4⟩ := hJ
    have c1 := pM_1 hF.1
    have hbS : ∀ q j, inS b q j → B q j = A q j := fun q j h => hF.2 q j (by unfold inS at *; omega) (by unfold inS at *; omega) (by unfold inS at h; omega)
    have mB : B 1 b = A 1 b := hbS 1 b (Or.inl ⟨rfl, rfl⟩)
    obtain ⟨i1, i2, i3, i4⟩ := inv u.toNat (by omega)
    rw [Int.toNat_of_nonneg u0] at i3 i4
    refine wq_ok srt_parts (fr := []) (cuts := [17, 189]) (J := fun pc st => (pc = 17 ∧ ((B (B 0 1) b) ≤ u) ∧ st = ([(2, 0), (0, to), (0, a), (0, b), w4, w5, (1, r.1), (9, 0), (0, t), (0, u), v10], [], B)) ∨ (pc = 189 ∧ (u < (B (B 0 1) b)) ∧ st = ([(2, 0), (0, to), (0, a), (0, b), w4, w5, (1, r.1), (9, 0), (0, t), (0, u), (0, 0)], [], B))) ?_ 13 175 _ ?_
    · rintro pc st (⟨rfl, h0, rfl⟩ | ⟨rfl, h0, rfl⟩)
      · rw [c1, mB] at h0
        have hu : u = A 1 b := by omega
        exact H B _ _ hF j1 (by rw [j4]; exact i1) (fun c => by rw [j4]; exact i3 hu c)
      · rw [c1, mB] at h0
        have i5 := i4 h0
        have hpos : 0 < r.1 * (fa A b u.toNat).1 := Int.mul_pos hr (hLb _ (by have := in_LSm (A := A) (p := b) u0 h0; rw [show u = ((u.toNat : Nat) : Int) by omega] at this; exact this))
        have hxb : ∀ v : Int, 0 ≤ v → v < 12 → B 3 (12 * (200 * to + t) + v) = r.2 ⟨v.toNat % 12, by omega⟩ := fun v v0 v1 => by
          have h1 := congrFun hrt ⟨v.toNat % 12, by omega⟩
          have h2 : D 3 (12 * (200 * to + t) + ((v.toNat % 12 : Nat) : Int)) = r.2 ⟨v.toNat % 12, by omega⟩ := h1
          rw [← h2, j3 3 _ (by unfold inS; omega)]
          congr 1
          omega
        refine pa_189 (A := A) (r := r) hto hb ht ⟨u0, by omega⟩ hF.1 (fun v v0 v1 => ?_) (fun C v10 hC hC2 hC4 => ?_) _ 0 B (Nat.lt_succ_self _) (by omega) (by omega) hF.1 (fun _ _ _ => rfl) (fun i i0 i1 => by omega)
        · rw [hxb v v0 v1, hbS 3 _ (by unfold inS; omega)]
          have := bx u v u0 h0 v0 v1
          have := hrx ⟨v.toNat % 12, by omega⟩
          omega
        · have ma := eM_1 hF.1 (r := 1) (by omega) kn1 ha.1 (show a < 152 by omega)
          have hLC : LSm C a = LSm B a := LSm_same ma.2 (fun q j hq => hC2 q j (by unfold inS at hq; omega))
          have hCs : cr_Shr (LSm C a) := by rw [hLC, j4]; exact i1
          have hCb : ∀ q j, inS b q j → C q j = A q j := fun q j hq => (hC2 q j (by unfold inS at hq; omega)).trans (hbS q j hq)
          have hCc := pa_bnd ac as_ ax hCs (fun c => by rw [hLC, j4]; exact i2 c)
          have hxp : xp C = fun i => r.2 i + (fa A b u.toNat).2 i := funext fun v => by
            have h1 := hC4 v.1 (by omega) (by have := v.2; omega)
            have h2 := hxb v.1 (by omega) (by have := v.2; omega)
            show C 4 (v.1 : Int) = r.2 v + A 3 (12 * (200 * b + ((u.toNat : Nat) : Int)) + (v.1 : Int))
            have hv12 : (⟨((v.1 : Nat) : Int).toNat % 12, by omega⟩ : Fin 12) = v := Fin.ext (by show ((v.1 : Nat) : Int).toNat % 12 = v.1; have := v.2; omega)
            rw [h1, h2, hv12, hbS 3 _ (by unfold inS; have := v.2; omega), Int.toNat_of_nonneg u0]
          refine wq_ok srt_parts (fr := []) (cuts := [255]) (J := fun pc st => (pc = 255 ∧ ∃ p, ptI C a p ∧ st = ([(2, 0), (0, to), (0, a), (0, b), w4, w5, (1, r.1), (9, 0), (0, t), (0, u), v10], [(0, p), (0, a), (2, 0)], C))) ?_ 9 248 _ ?_
          · rintro pc st (⟨rfl, p, hp, rfl⟩)
            have hhit := pl_hit hCs (by rw [hxp, hLC, j4]; omega) hp
            have hval : r.1 * (fa A b u.toNat).1 ≤ C 2 (200 * a + p) := by
              have h1 : cr_co (LSm C a) (xe C a p) = C 2 (200 * a + p) := hCs.at (in_LSm hp.1.1 hhit.1)
              rw [hhit.2, hxp, hLC, j4] at h1
              omega
            have hcv := hCc.1 p hp.1.1 hhit.1
            have c2 := pM_2 hC
            refine wq_ok srt_parts (fr := []) (cuts := [274]) (J := fun pc st => (pc = 274 ∧ ∃ E, gH wM E ∧ (∀ q j, ¬ inS a q j → E q j = C q j) ∧ LSm E a = cr_less (LSm C a) (xe C a p) (r.1 * (fa A b u.toNat).1) ∧ st = ([(2, 0), (0, to), (0, a), (0, b), w4, w5, (1, r.1), (9, 0), (0, t), (0, u), v10], [], E))) ?_ 15 255 _ ?_
            · rintro pc st (⟨rfl, E, q2, q3, q4, rfl⟩)
              refine wq_ok srt_parts (fr := []) (cuts := [175]) (J := fun pc st => (pc = 175 ∧ st = ([(2, 0), (0, to), (0, a), (0, b), w4, w5, (1, r.1), (9, 0), (0, t), (0, u + 1), v10], [], E))) ?_ 7 274 _ ?_
              · rintro pc st (⟨rfl, rfl⟩)
                refine ih (u + 1) _ E (by omega) (by omega) (by omega) ⟨⟨q2, fun q j a1 a2 a3 => ?_⟩, ?_, ?_, fun q j hq => ?_, ?_⟩
                · rw [q3 q j a2, hC2 q j a3]; exact hF.2 q j a1 a2 a3
                · rw [← j1]; exact LSm_same (by have := eM_1 hF.1 (r := 1) (by omega) kn1 hto.1 (show to < 152 by omega); exact this.2) (fun q j hq => by rw [q3 q j (by unfold inS at *; omega), hC2 q j (by unfold inS at hq; omega)])
                · rw [q3 1 to (by unfold inS; omega), hC2 1 to (by omega)]; exact j2
                · rw [q3 q j (by unfold inS at *; omega), hC2 q j (by unfold inS at hq; omega)]; exact j3 q j hq
                · rw [q4, hLC, j4, hhit.2, hxp, show (u + 1).toNat = u.toNat + 1 by omega, lsf_succ, lessAll_snoc]
              · refine ⟨⟨by omega, by omega⟩, ?_⟩
                exact ⟨rfl, rfl⟩
            · refine ⟨oM_0 (by omega) km0 2 rfl, ?_⟩
              refine ⟨⟨by omega, by omega⟩, ?_⟩
              refine ⟨⟨by omega, by omega⟩, ?_⟩
              refine ⟨aM_2 (r := C 0 2) (by rw [c2]; omega) (by rw [c2]; exact kn2) (by omega) (by omega), ?_⟩
              have e1 : C (C 0 2) ((200 * b) + u) = C 2 ((200 * b) + u) := by rw [c2]
              refine ⟨(by have hn : r.1 * C (C 0 2) (200 * b + u) = r.1 * (fa A b u.toNat).1 := (by rw [c2, hCb 2 _ (by unfold inS; omega)]; show _ = r.1 * A 2 (200 * b + ((u.toNat : Nat) : Int)); rw [Int.toNat_of_nonneg u0]); rw [hn]; exact ⟨by omega, by omega⟩), ?_⟩
              refine ⟨rM_0 (by omega) km0, ?_⟩
              have hn : r.1 * C (C 0 2) (200 * b + u) = r.1 * (fa A b u.toNat).1 := by rw [c2, hCb 2 _ (by unfold inS; omega)]; show _ = r.1 * A 2 (200 * b + ((u.toNat : Nat) : Int)); rw [Int.toNat_of_nonneg u0]
              show Cl pmt (an_sh wM) 164 [(2, 0), (0, a), (0, p), (1, r.1 * C (C 0 2) (200 * b + u))] C _
              rw [hn]
              refine (less_ex (n := r.1 * (fa A b u.toNat).1) hC ha hp.1.1 hhit.1 (srtd_of hCs) ⟨by omega, by omega⟩).imp ?_
              rintro ⟨r1, E⟩ ⟨q1, q2, q3, q4⟩
              simp only at q1 q2 q3 q4
              subst q1
              exact ⟨rfl, E, q2, q3, q4, rfl⟩
          · refine ⟨rM_0 (by omega) km0, ?_⟩
            refine (placeIn_ex hC ha.1 ha.2 (srtd_of hCs)).imp ?_
            rintro ⟨r1, E⟩ ⟨rfl, p, hp1, hp2⟩
            simp only at hp1 hp2
            subst hp1
            exact ⟨rfl, p, hp2, rfl⟩
    · refine ⟨oM_0 (by omega) km0 1 rfl, ?_⟩
      refine ⟨aM_1 (r := B 0 1) (by rw [c1]; omega) (by rw [c1]; exact kn1) (by omega) (by omega), ?_⟩
      have e1 : B (B 0 1) b = B 1 b := by rw [c1]
      refine ⟨fun h0 => ?_, fun h0 => ?_⟩
      · exact Or.inl (⟨rfl, h0, rfl⟩)
      · exact Or.inr (⟨rfl, h0, rfl⟩)
theorem LSm_snoc {B D : pm_A} {p : Int} {r : Int × cr_Xp 12} (h0 : 0 ≤ B 1 p) (h1 : D 1 p = B 1 p + 1) (h2 : ∀ q v : Int, 0 ≤ q → q < B 1 p → 0 ≤ v → v < 12 → D 2 (200 * p + q) = B 2 (200 * p + q) ∧ D 3 (12 * (200 * p + q) + v) = B 3 (12 * (200 * p + q) + v)) (h3 : D 2 (200 * p + B 1 p) = r.1) (h4 : xe D p (B 1 p) = r.2) : LSm D p = LSm B p ++ [r] := by
  rw [LSm_fa, LSm_fa, h1, show (B 1 p + 1).toNat = (B 1 p).toNat + 1 by omega, lsf_succ]
  congr 1
  · exact lsf_congr (fun q hq => Prod.ext (h2 q 0 (by omega) (by omega) (by omega) (by omega)).1 (funext fun v => (h2 q v.1 (by omega) (by omega) (by omega) (by have := v.2; omega)).2))
  · refine congrArg (fun z => [z]) (Prod.ext ?_ ?_)
    · show D 2 (200 * p + (((B 1 p).toNat : Nat) : Int)) = r.1
      rw [Int.toNat_of_nonneg h0]; exact h3
    · show xe D p (((B 1 p).toNat : Nat) : Int) = r.2
      rw [Int.toNat_of_nonneg h0]; exact h4
theorem pa_101 {to a b t l5 l4 : Int} (hto : 0 ≤ to ∧ to ≤ 151) (ha : 0 ≤ a ∧ a ≤ 151) (hb : 0 ≤ b ∧ b ≤ 151) (hne : to ≠ a ∧ to ≠ b) (ht : 0 ≤ t ∧ t ≤ 199) (h5 : 0 ≤ l5 ∧ l5 ≤ 199) (h4 : 0 ≤ l4 ∧ l4 ≤ 199) {w6 w7 v10 : pm_V} {z : pm_R → Prop} {D : pm_A} (h1 : ∀ v : Int, 0 ≤ v → v < 12 → -2147483648 ≤ D 3 (12 * (200 * a + l5) + v) - D 3 (12 * (200 * b + l4) + v) ∧ D 3 (12 * (200 * a + l5) + v) - D 3 (12 * (200 * b + l4) + v) ≤ 2147483647)
    (H : ∀ C, gH wM C → (∀ q j, ¬ (q = 3 ∧ 12 * (200 * to + t) ≤ j ∧ j < 12 * (200 * to + t) + 12) → C q j = D q j) → (∀ v : Int, 0 ≤ v → v < 12 → C 3 (12 * (200 * to + t) + v) = D 3 (12 * (200 * a + l5) + v) - D 3 (12 * (200 * b + l4) + v)) → Tm pmt (an_sh wM) o_X10_parts 175 ([(2, 0), (0, to), (0, a), (0, b), (0, l4), (0, l5), w6, w7, (0, t), (0, 0), v10], [], C) z) : ∀ (m : Nat) (v : Int) (B : pm_A), (12 - v).toNat < m → 0 ≤ v → v ≤ 12 → gH wM B → (∀ q j, ¬ (q = 3 ∧ 12 * (200 * to + t) ≤ j ∧ j < 12 * (200 * to + t) + 12) → B q j = D q j) → (∀ i : Int, 0 ≤ i → i < v → B 3 (12 * (200 * to + t) + i) = D 3 (12 * (200 * a + l5) + i) - D 3 (12 * (200 * b + l4) + i)) → Tm pmt (an_sh wM) o_X10_parts 101 ([(2, 0), (0, to), (0, a), (0, b), (0, l4), (0, l5), w6, w7, (0, t), (0, v), v10], [], B) z := by
  intro m
  induction m with
  | zero => intro v B h; omega
  | succ m ih =>
    intro v B hm v0 v1 hB hB2 hB4
    have c3 := pM_3 hB
    have k1 : v < 12 → B 3 (12 * (200 * a + l5) + v) = D 3 (12 * (200 * a + l5) + v) := fun hv => hB2 3 _ (by omega)
    have k2 : v < 12 → B 3 (12 * (200 * b + l4) + v) = D 3 (12 * (200 * b + l4) + v) := fun hv => hB2 3 _ (by omega)
    have k3 := h1 v v0
    refine wq_ok srt_parts (fr := []) (cuts := [101, 175]) (J := fun pc st => (pc = 175 ∧ (12 ≤ v) ∧ st = ([(2, 0), (0, to), (0, a), (0, b), (0, l4), (0, l5), w6, w7, (0, t), (0, 0), v10], [], B)) ∨ (pc = 101 ∧ (v < 12) ∧ st = ([(2, 0), (0, to), (0, a), (0, b), (0, l4), (0, l5), w6, w7, (0, t), (0, v + 1), v10], [], pm_upd B (B 0 3) ((12 * ((200 * to) + t)) + v) ((B (B 0 3) ((12 * ((200 * a) + l5)) + v)) - (B (B 0 3) ((12 * ((200 * b) + l4)) + v)))))) ?_ 47 101 _ ?_
    · rintro pc st (⟨rfl, h0, rfl⟩ | ⟨rfl, h0, rfl⟩)
      · exact H B hB hB2 (fun i i0 i1 => hB4 i i0 (by omega))
      · rw [c3]
        have k4 := k3 h0
        have k5 := k1 h0
        have k6 := k2 h0
        refine ih (v + 1) _ (by omega) (by omega) (by omega) (uM_3 hB kn3 (by omega) (by omega)) (fun q j hq => by rw [upd_o (by omega)]; exact hB2 q j hq) (fun i i0 i1 => ?_)
        by_cases hi : i = v
        · rw [hi, upd_at, k5, k6]
        · rw [upd_o (by omega)]; exact hB4 i i0 (by omega)
    · refine ⟨fun h0 => ?_, fun h0 => ?_⟩
      · exact Or.inl (⟨rfl, h0, rfl⟩)
      · refine ⟨oM_0 (by omega) km0 3 rfl, ?_⟩
        refine ⟨⟨by omega, by omega⟩, ?_⟩
        refine ⟨⟨by omega, by omega⟩, ?_⟩
        refine ⟨⟨by omega, by omega⟩, ?_⟩
        refine ⟨⟨by omega, by omega⟩, ?_⟩
        refine ⟨oM_0 (by omega) km0 3 rfl, ?_⟩
        refine ⟨⟨by omega, by omega⟩, ?_⟩
        refine ⟨⟨by omega, by omega⟩, ?_⟩
        refine ⟨⟨by omega, by omega⟩, ?_⟩
        refine ⟨⟨by omega, by omega⟩, ?_⟩
        refine ⟨aM_3 (r := B 0 3) (by rw [c3]; omega) (by rw [c3]; exact kn3) (by omega) (by omega), ?_⟩
        have e1 : B (B 0 3) ((12 * ((200 * a) + l5)) + v) = B 3 ((12 * ((200 * a) + l5)) + v) := by rw [c3]
        refine ⟨oM_0 (by omega) km0 3 rfl, ?_⟩
        refine ⟨⟨by omega, by omega⟩, ?_⟩
        refine ⟨⟨by omega, by omega⟩, ?_⟩
        refine ⟨⟨by omega, by omega⟩, ?_⟩
        refine ⟨⟨by omega, by omega⟩, ?_⟩
        refine ⟨aM_3 (r := B 0 3) (by rw [c3]; omega) (by rw [c3]; exact kn3) (by omega) (by omega), ?_⟩
        have e2 : B (B 0 3) ((12 * ((200 * b) + l4)) + v) = B 3 ((12 * ((200 * b) + l4)) + v) := by rw [c3]
        refine ⟨⟨by omega, by omega⟩, ?_⟩
        refine ⟨tM_3 (r := B 0 3) (by rw [c3]; omega) (by rw [c3]; exact kn3) (by omega) (by omega) rfl, ?_⟩
        refine ⟨⟨by omega, by omega⟩, ?_⟩
        exact Or.inr (⟨rfl, h0, rfl⟩)
def pt_post (A : pm_A) (to a : Int) (Q : cr_Pl_ 12) (r : pm_R) : Prop := r.1 = none ∧ paF A r.2 to a ∧ LSm r.2 to = Q
theorem pa_17 {A : pm_A} {to a b EN : Int} {Q : cr_Pl_ 12} (hH : paH A to a b EN Q) : ∀ (m : Nat) (R S : cr_Pl_ 12) (w5 w6 w7 w8 w9 w10 : pm_V) (B : pm_A), R.length < m → Q = R ++ S.reverse → paF A B to a → LSm B to = S → cr_Shr (LSm B a) → (∀ c, cr_co (LSm B a) c = cr_co (cr_pmz R (LSm A b)) c) → Tm pmt (an_sh wM) o_X10_parts 17 ([(2, 0), (0, to), (0, a), (0, b), (0, A 1 b - 1), w5, w6, w7, w8, w9, w10], [], B) (pt_post A to a Q) := by
  have hH0 := hH
  obtain ⟨hA, hto, ha, hb, hne, ⟨bs, bc, bm, bx⟩, ⟨as_, ac, ax⟩, hEN, hQ, hQc, hQl⟩ := hH
  have mb := eM_1 hA (r := 1) (by omega) kn1 hb.1 (show b < 152 by omega)
  have hLbs := shr_of bs bc
  have hLbn : LSm A b ≠ [] := fun e => by
    have := LSm_len A b
    rw [e] at this
    simp at this
    omega
  have hlb : LSm A b = (LSm A b).dropLast ++ [(LSm A b).getLast hLbn] := (List.dropLast_concat_getLast hLbn).symm
  have hlast : ∀ (W : pm_A) (p : Int) (hn : LSm W p ≠ []), 1 ≤ W 1 p → (LSm W p).getLast hn = (W 2 (200 * p + (W 1 p - 1)), xe W p (W 1 p - 1)) := fun W p hn h1 => by
    have hl := LSm_len W p
    rw [List.getLast_eq_getElem, LSm_get]
    unfold fa
    rw [show (((LSm W p).length - 1 : Nat) : Int) = W 1 p - 1 by omega]
  intro m
  induction m with
  | zero => intro R S w5 w6 w7 w8 w9 w10 B h; omega
  | succ m ih =>
    intro R S w5 w6 w7 w8 w9 w10 B hm hQR hF hS hBs hBc
    have c1 := pM_1 hF.1
    have c2 := pM_2 hF.1
    have c2p : pm_upd B (B 0 1) to (B (B 0 1) to + 1) 0 2 = 2 := by rw [c1, upd_o (by omega)]; exact c2
    have ma := eM_1 hF.1 (r := 1) (by omega) kn1 ha.1 (show a < 152 by omega)
    have mt := eM_1 hF.1 (r := 1) (by omega) kn1 hto.1 (show to < 152 by omega)
    have hbS : ∀ q j, inS b q j → B q j = A q j := fun q j h => hF.2 q j (by unfold inS at *; omega) (by unfold inS at *; omega) (by unfold inS at h; omega)
    have mB : B 1 b = A 1 b := hbS 1 b (Or.inl ⟨rfl, rfl⟩)
    have hle : ∀ c, cr_co (LSm B a) c ≤ cr_co (LSm A a) c := fun c => by
      rw [hBc c, hQc c, hQR]
      have : cr_pmz (R ++ S.reverse) (LSm A b) = cr_pmz R (LSm A b) ++ cr_pmz S.reverse (LSm A b) := by unfold cr_pmz; rw [List.flatMap_append]
      rw [this, cr_co_app]
      have h2 := cr_Shr.nonneg (l := cr_pmz S.reverse (LSm A b)) (fun y hy => by
        obtain ⟨u, hu, w, hw, rfl⟩ := cr_mem_pmz hy
        exact Int.mul_pos (hQ.2 u (by rw [hQR]; simp only [List.mem_append]; exact Or.inr hu)) (hLbs.2 w hw)) c
      omega
    obtain ⟨ba, bxa⟩ := pa_bnd ac as_ ax hBs hle
    have hSl : (B 1 to).toNat = S.length := by rw [← LSm_len, hS]
    have hQlen : Q.length = R.length + S.length := by rw [hQR, List.length_append, List.length_reverse]
    have hempty : B 1 a ≤ 0 → R = [] := fun h => by
      refine Classical.byContradiction (fun hne2 => ?_)
      obtain ⟨R', r, rfl⟩ : ∃ R' r, R = R' ++ [r] := ⟨R.dropLast, R.getLast hne2, (List.dropLast_concat_getLast hne2).symm⟩
      have hz : LSm B a = [] := List.length_eq_zero_iff.1 (by rw [LSm_len]; omega)
      have hp := cr_co_pos (l := cr_pmz (R' ++ [r]) (LSm A b)) (y := (r.1 * ((LSm A b).getLast hLbn).1, fun i => r.2 i + ((LSm A b).getLast hLbn).2 i)) (fun y hy => by
        obtain ⟨u, hu, w, hw, rfl⟩ := cr_mem_pmz hy
        exact Int.mul_pos (hQ.2 u (by rw [hQR]; exact List.mem_append_left _ hu)) (hLbs.2 w hw)) (List.mem_flatMap.2 ⟨r, by simp, List.mem_map.2 ⟨_, List.getLast_mem hLbn, rfl⟩⟩)
      rw [← hBc, hz] at hp
      exact absurd hp (by show ¬ (0 : Int) < 0; omega)
    have hstep : 0 < B 1 a → ∃ R' r, R = R' ++ [r] ∧ 0 < r.1 ∧ Int.tdiv (B (B 0 2) (200 * a + (B (B 0 1) a - 1))) (B (B 0 2) (200 * b + (A 1 b - 1))) = r.1 ∧ (∀ v : Int, 0 ≤ v → v < 12 → B 3 (12 * (200 * a + (B 1 a - 1)) + v) - A 3 (12 * (200 * b + (A 1 b - 1)) + v) = r.2 ⟨v.toNat % 12, by omega⟩) ∧ (∀ c, cr_co (LSm B a) c = cr_co (cr_pmz R' (LSm A b)) c + cr_co (cr_shz r (LSm A b)) c) ∧ (∀ y ∈ cr_pmz R' (LSm A b), 0 < y.1) ∧ ∀ v : Fin 12, -2147010000 ≤ r.2 v ∧ r.2 v ≤ 2147010000 := fun h => by
      have hRn : R ≠ [] := fun e => by
        have hm := in_LSm (A := B) (p := a) (q := 0) (by omega) h
        have hp := cr_co_pos hBs.2 hm
        rw [hBc, e] at hp
        exact absurd hp (by show ¬ (0 : Int) < 0; omega)
      obtain ⟨R', r, rfl⟩ : ∃ R' r, R = R' ++ [r] := ⟨R.dropLast, R.getLast hRn, (List.dropLast_concat_getLast hRn).symm⟩
      have hRs : cr_Shr (R' ++ [r]) := by
        refine ⟨?_, fun y hy => hQ.2 y (by rw [hQR]; exact List.mem_append_left _ hy)⟩
        have := hQ.1
        rw [hQR] at this
        exact (List.pairwise_append.1 this).1
      obtain ⟨A', x, e1, e2, e3, e4, _, _⟩ := cr_divide_step (B := (LSm A b).dropLast) (b := (LSm A b).getLast hLbn) hRs (by rw [← hlb]; exact hLbs) hBs (by rw [← hlb]; exact hBc)
      have hBn : LSm B a ≠ [] := by rw [e1]; simp
      have hx : x = (B 2 (200 * a + (B 1 a - 1)), xe B a (B 1 a - 1)) := by
        rw [← hlast B a hBn (by omega)]
        have : ∀ (l : cr_Pl_ 12) (hl : l ≠ []), l = A' ++ [x] → x = l.getLast hl := fun l hl e => by subst e; simp
        exact this _ hBn e1
      have hbl := hlast A b hLbn bm
      have hr1 : 0 < r.1 := hRs.2 r (by simp)
      have hx2 : ∀ i, r.2 i = x.2 i - ((LSm A b).getLast hLbn).2 i := fun i => by rw [e3 i]; omega
      have hfac : ∀ v : Int, 0 ≤ v → v < 12 → B 3 (12 * (200 * a + (B 1 a - 1)) + v) - A 3 (12 * (200 * b + (A 1 b - 1)) + v) = r.2 ⟨v.toNat % 12, by omega⟩ := fun v v0 v1 => by
        rw [hx2, hx, hbl]
        show _ = B 3 (12 * (200 * a + (B 1 a - 1)) + ((v.toNat % 12 : Nat) : Int)) - A 3 (12 * (200 * b + (A 1 b - 1)) + ((v.toNat % 12 : Nat) : Int))
        rw [show ((v.toNat % 12 : Nat) : Int) = v by omega]
      refine ⟨R', r, rfl, hr1, ?_, hfac, fun c => by rw [hBc c, pmz_snoc, cr_co_app], fun y hy => by
        obtain ⟨u, hu, w, hw, rfl⟩ := cr_mem_pmz hy
        exact Int.mul_pos (hRs.2 u (by simp [hu])) (hLbs.2 w hw), fun v => ?_⟩
      · rw [c2, c1, hbS 2 (200 * b + (A 1 b - 1)) (by unfold inS; omega)]
        have h1 : B 2 (200 * a + (B 1 a - 1)) = x.1 := by rw [hx]
        have h2 : A 2 (200 * b + (A 1 b - 1)) = ((LSm A b).getLast hLbn).1 := by rw [hbl]
        rw [h1, h2, Int.tdiv_eq_ediv_of_nonneg (by rw [e2]; exact Int.le_of_lt (Int.mul_pos hr1 (hLbs.2 _ (List.getLast_mem hLbn))))]
        exact e4
      · have h1 := hfac v.1 (by omega) (by have := v.2; omega)
        have h2 := bxa (B 1 a - 1) v.1 (by omega) (by omega) (by omega) (by have := v.2; omega)
        have h3 := bx (A 1 b - 1) v.1 (by omega) (by omega) (by omega) (by have := v.2; omega)
        have hv12 : (⟨((v.1 : Nat) : Int).toNat % 12, by omega⟩ : Fin 12) = v := Fin.ext (by show ((v.1 : Nat) : Int).toNat % 12 = v.1; have := v.2; omega)
        rw [hv12] at h1
        omega
    have hl4 : 1 ≤ B 2 (200 * b + (A 1 b - 1)) ∧ B 2 (200 * b + (A 1 b - 1)) ≤ 1000000000000 := by
      rw [hbS 2 _ (by unfold inS; omega)]; exact bc (A 1 b - 1) (by omega) (by omega)
    have hl5 : 0 < B 1 a → 1 ≤ B 2 (200 * a + (B 1 a - 1)) ∧ B 2 (200 * a + (B 1 a - 1)) ≤ 1000000000000 := fun h => ba (B 1 a - 1) (by omega) (by omega)
    have htl : 0 < B 1 a → B 1 to < 200 := fun h => by
      obtain ⟨R', r, e, _⟩ := hstep h
      rw [e, List.length_append] at hQlen
      simp at hQlen
      omega
    refine wq_ok srt_parts (fr := []) (cuts := [101, 288]) (J := fun pc st => (pc = 288 ∧ (B (B 0 1) a ≤ 0) ∧ ∃ C, gH wM C ∧ (∀ q j, ¬ inS to q j → C q j = B q j) ∧ LSm C to = (LSm B to).reverse ∧ st = ([(2, 0), (0, to), (0, a), (0, b), (0, A 1 b - 1), w5, w6, w7, w8, w9, w10], [], C)) ∨ (pc = 101 ∧ (0 < (B (B 0 1) a)) ∧ st = ([(2, 0), (0, to), (0, a), (0, b), (0, A 1 b - 1), (0, (B (B 0 1) a) - 1), (1, Int.tdiv (B (B 0 2) ((200 * a) + ((B (B 0 1) a) - 1))) (B (B 0 2) ((200 * b) + (A 1 b - 1)))), (9, 0), (0, B (B 0 1) to), (0, 0), w10], [], pm_upd (pm_upd B (B 0 1) to ((B (B 0 1) to) + 1)) ((pm_upd B (B 0 1) to ((B (B 0 1) to) + 1)) 0 2) ((200 * to) + (B (B 0 1) to)) (Int.tdiv (B (B 0 2) ((200 * a) + ((B (B 0 1) a) - 1))) (B (B 0 2) ((200 * b) + (A 1 b - 1))))))) ?_ 59 17 _ ?_
    · rintro pc st (⟨rfl, h0, C, q2, q3, q4, rfl⟩ | ⟨rfl, h0, rfl⟩)
      · rw [c1] at h0
        refine wq_ok srt_parts (fr := []) (cuts := []) (J := fun _ _ => False) ?_ 5 288 _ ?_
        · intro pc st h; exact h.elim
        · exact ⟨rfl, ⟨q2, fun q j a1 a2 a3 => (q3 q j a1).trans (hF.2 q j a1 a2 a3)⟩, by show LSm C to = Q; rw [q4, hS, hQR, hempty h0]; rfl⟩
      · have h0p : 0 < B 1 a := by rw [c1] at h0; exact h0
        obtain ⟨R', r, e, hr, hq, hx, hco, hpos, hrx⟩ := hstep h0p
        have ht := htl h0p
        rw [hq, c2p, c1]
        have hD : gH wM (pm_upd (pm_upd B 1 to (B 1 to + 1)) 2 (200 * to + B 1 to) r.1) := uM_2 (uM_1 hF.1 kn1 (by omega) (by omega)) kn2 (by have := hl5 h0p; rw [← hq, c2, c1, Int.tdiv_eq_ediv_of_nonneg (by omega)]; have := Int.ediv_nonneg (show 0 ≤ B 2 (200 * a + (B 1 a - 1)) by omega) (show 0 ≤ B 2 (200 * b + (A 1 b - 1)) by omega); omega) (by have := hl5 h0p; rw [← hq, c2, c1, Int.tdiv_eq_ediv_of_nonneg (by omega)]; have := Int.ediv_le_self (B 2 (200 * b + (A 1 b - 1))) (show 0 ≤ B 2 (200 * a + (B 1 a - 1)) by omega); omega)
        have hD2 : ∀ q j, ¬ (q = 1 ∧ j = to) → ¬ (q = 2 ∧ j = 200 * to + B 1 to) → pm_upd (pm_upd B 1 to (B 1 to + 1)) 2 (200 * to + B 1 to) r.1 q j = B q j := fun q j a1 a2 => by rw [upd_o a2, upd_o a1]
        have hD3 : pm_upd (pm_upd B 1 to (B 1 to + 1)) 2 (200 * to + B 1 to) r.1 1 to = B 1 to + 1 := by rw [upd_o (by omega), upd_at]
        have hD4 : pm_upd (pm_upd B 1 to (B 1 to + 1)) 2 (200 * to + B 1 to) r.1 2 (200 * to + B 1 to) = r.1 := upd_at
        revert hD hD2 hD3 hD4
        generalize pm_upd (pm_upd B 1 to (B 1 to + 1)) 2 (200 * to + B 1 to) r.1 = D
        intro hD hD2 hD3 hD4
        have hx2 : ∀ v : Int, 0 ≤ v → v < 12 → D 3 (12 * (200 * a + (B 1 a - 1)) + v) - D 3 (12 * (200 * b + (A 1 b - 1)) + v) = r.2 ⟨v.toNat % 12, by omega⟩ := fun v v0 v1 => by rw [hD2 3 _ (by omega) (by omega), hD2 3 _ (by omega) (by omega), hbS 3 (12 * (200 * b + (A 1 b - 1)) + v) (by unfold inS; omega)]; exact hx v v0 v1
        refine pa_101 hto ha hb ⟨hne.1, hne.2.1⟩ ⟨mt.1, by omega⟩ ⟨by omega, by omega⟩ ⟨by omega, by omega⟩ (D := D) (fun v v0 v1 => ?_) (fun C hC hC2 hC3 => ?_) _ 0 D (Nat.lt_succ_self _) (by omega) (by omega) hD (fun _ _ _ => rfl) (fun i i0 i1 => by omega)
        · rw [hx2 v v0 v1]; have := hrx ⟨v.toNat % 12, by omega⟩; omega
        · have hCa : ∀ q j, inS a q j → C q j = B q j := fun q j h => by rw [hC2 q j (by unfold inS at h; omega), hD2 q j (by unfold inS at h; omega) (by unfold inS at h; omega)]
          have hLa : LSm C a = LSm B a := LSm_same ma.2 hCa
          have hCF : paF A C to a := ⟨hC, fun q j a1 a2 a3 => by
            rw [hC2 q j (fun e => a1 (by unfold inS; omega)), hD2 q j (fun e => a1 (by unfold inS; omega)) (fun e => a1 (by unfold inS; omega))]
            exact hF.2 q j a1 a2 a3⟩
          have hxe : xe C to (B 1 to) = r.2 := funext fun v => by
            have h1 := hC3 v.1 (by omega) (by have := v.2; omega)
            have h2 := hx2 v.1 (by omega) (by have := v.2; omega)
            have hv12 : (⟨((v.1 : Nat) : Int).toNat % 12, by omega⟩ : Fin 12) = v := Fin.ext (by show ((v.1 : Nat) : Int).toNat % 12 = v.1; have := v.2; omega)
            rw [hv12] at h2
            exact h1.trans h2
          have hCm : C 1 to = B 1 to + 1 := (hC2 1 to (by omega)).trans hD3
          have hLt : LSm C to = S ++ [r] := by
            rw [← hS]
            refine LSm_snoc mt.1 hCm (fun q v q0 q1 v0 v1 => ⟨?_, ?_⟩) ?_ hxe
            · rw [hC2 2 _ (by omega), hD2 2 _ (by omega) (by omega)]
            · rw [hC2 3 _ (by omega), hD2 3 _ (by omega) (by omega)]
            · rw [hC2 2 _ (by omega)]; exact hD4
          refine pa_175 (D := C) (C0 := cr_pmz R' (LSm A b)) hH0 ⟨mt.1, by omega⟩ (by omega) hCF (by rw [hLa]; exact hBs) hr hpos (fun c => by rw [hLa]; exact hco c) (fun c => by rw [hLa]; exact hle c) hxe hrx (fun E v9 v10 hE hE2 hE3 hE4 => ?_) _ 0 _ C (Nat.lt_succ_self _) (by omega) (by omega) ⟨hCF, rfl, rfl, fun _ _ _ => rfl, rfl⟩
          refine ih R' (S ++ [r]) _ _ _ _ _ _ E (by rw [e, List.length_append] at hm; simp at hm; omega) ?_ hE (hE2.trans hLt) hE3 hE4
          rw [hQR, e, List.reverse_append, List.append_assoc]; rfl
    · refine ⟨oM_0 (by omega) km0 1 rfl, ?_⟩
      refine ⟨aM_1 (r := B 0 1) (by rw [c1]; omega) (by rw [c1]; exact kn1) (by omega) (by omega), ?_⟩
      have e1 : B (B 0 1) a = B 1 a := by rw [c1]
      refine ⟨fun h0 => ?_, fun h0 => ?_⟩
      · refine ⟨rM_0 (by omega) km0, ?_⟩
        refine (turnRound_ex hF.1 hto).imp ?_
        rintro ⟨r1, C⟩ ⟨q1, q2, q3, q4⟩
        simp only at q1 q2 q3 q4
        subst q1
        exact Or.inl (⟨rfl, h0, C, q2, q3, q4, rfl⟩)
      · refine ⟨oM_0 (by omega) km0 1 rfl, ?_⟩
        refine ⟨aM_1 (r := B 0 1) (by rw [c1]; omega) (by rw [c1]; exact kn1) (by omega) (by omega), ?_⟩
        have e2 : B (B 0 1) a = B 1 a := by rw [c1]
        refine ⟨⟨by omega, by omega⟩, ?_⟩
        refine ⟨oM_0 (by omega) km0 2 rfl, ?_⟩
        refine ⟨⟨by omega, by omega⟩, ?_⟩
        refine ⟨⟨by omega, by omega⟩, ?_⟩
        refine ⟨aM_2 (r := B 0 2) (by first | rw [c2]; omega | rw [c2p]; omega) (by first | rw [c2]; exact kn2 | rw [c2p]; exact kn2) (by omega) (by omega), ?_⟩
        have e3 : B (B 0 2) ((200 * a) + ((B (B 0 1) a) - 1)) = B 2 ((200 * a) + ((B (B 0 1) a) - 1)) := by rw [c2]
        refine ⟨oM_0 (by omega) km0 2 rfl, ?_⟩
        refine ⟨⟨by omega, by omega⟩, ?_⟩
        refine ⟨⟨by omega, by omega⟩, ?_⟩
        refine ⟨aM_2 (r := B 0 2) (by first | rw [c2]; omega | rw [c2p]; omega) (by first | rw [c2]; exact kn2 | rw [c2p]; exact kn2) (by omega) (by omega), ?_⟩
        have e4 : B (B 0 2) ((200 * b) + (A 1 b - 1)) = B 2 ((200 * b) + (A 1 b - 1)) := by rw [c2]
        refine ⟨⟨by rw [e4]; omega, ⟨by rw [e3]; rw [e2]; rw [c1] at h0; have := hl5 h0; omega, by rw [e3]; rw [e2]; rw [c1] at h0; have := hl5 h0; omega⟩, ⟨by rw [e4]; omega, by rw [e4]; omega⟩, fun hh => by rw [e4]; omega⟩, ?_⟩
        refine ⟨oM_0 (by omega) km0 1 rfl, ?_⟩
        refine ⟨aM_1 (r := B 0 1) (by rw [c1]; omega) (by rw [c1]; exact kn1) (by omega) (by omega), ?_⟩
        have e5 : B (B 0 1) to = B 1 to := by rw [c1]
        refine ⟨oM_0 (by omega) km0 1 rfl, ?_⟩
        refine ⟨aM_1 (r := B 0 1) (by rw [c1]; omega) (by rw [c1]; exact kn1) (by omega) (by omega), ?_⟩
        have e6 : B (B 0 1) to = B 1 to := by rw [c1]
        refine ⟨⟨by omega, by omega⟩, ?_⟩
        refine ⟨tM_1 (r := B 0 1) (by rw [c1]; omega) (by rw [c1]; exact kn1) (by omega) (by omega) rfl, ?_⟩
        refine ⟨oM_0 (by omega) km0 2 rfl, ?_⟩
        refine ⟨⟨by omega, by omega⟩, ?_⟩
        refine ⟨⟨by omega, by omega⟩, ?_⟩
        refine ⟨tM_2 (r := (pm_upd B (B 0 1) to ((B (B 0 1) to) + 1)) 0 2) (by first | rw [c2]; omega | rw [c2p]; omega) (by first | rw [c2]; exact kn2 | rw [c2p]; exact kn2) (by omega) (by omega) rfl, ?_⟩
        exact Or.inr (⟨rfl, h0, rfl⟩)
theorem parts_ex {A : pm_A} {to a b EN : Int} {Q : cr_Pl_ 12} (hH : paH A to a b EN Q) : Cl pmt (an_sh wM) 172 [(2, 0), (0, to), (0, a), (0, b)] A (pt_post A to a Q) := by
  have hH0 := hH
  obtain ⟨hA, hto, ha, hb, hne, ⟨bs, bc, bm, bx⟩, ⟨as_, ac, ax⟩, hEN, hQ, hQc, hQl⟩ := hH
  have mb := eM_1 hA (r := 1) (by omega) kn1 hb.1 (show b < 152 by omega)
  have ma := eM_1 hA (r := 1) (by omega) kn1 ha.1 (show a < 152 by omega)
  have c1 := pM_1 hA
  have c1p : pm_upd A (A 0 1) to 0 0 1 = 1 := by rw [c1, upd_o (by omega)]; exact c1
  have v1 : pm_upd A (A 0 1) to 0 (pm_upd A (A 0 1) to 0 0 1) b = A 1 b := by rw [c1p, c1, upd_o (by omega)]
  refine Cl.of (Nat.le_of_ble_eq_true rfl) ?_
  refine wq_ok (full := o_X10_parts) srt_parts (fr := []) (cuts := [17]) (J := fun pc st => (pc = 17 ∧ st = ([(2, 0), (0, to), (0, a), (0, b), (0, ((pm_upd A (A 0 1) to 0) ((pm_upd A (A 0 1) to 0) 0 1) b) - 1), (9, 0), (9, 0), (9, 0), (9, 0), (9, 0), (9, 0)], [], pm_upd A (A 0 1) to 0))) ?_ 17 0 _ ?_
  · rintro pc st (⟨rfl, rfl⟩)
    rw [v1, c1]
    have hLa : LSm (pm_upd A 1 to 0) a = LSm A a := LSm_same ma.2 (fun q j h => upd_o (by unfold inS at h; omega))
    refine pa_17 hH0 _ Q [] _ _ _ _ _ _ _ (Nat.lt_succ_self _) (by simp) ⟨uM_1 hA kn1 (by omega) (by omega), fun q j a1 a2 a3 => upd_o (fun e => a1 (by unfold inS; omega))⟩ ?_ (by rw [hLa]; exact shr_of as_ ac) (fun c => by rw [hLa]; exact hQc c)
    unfold LSm
    rw [show pm_upd A 1 to 0 1 to = 0 from upd_at]
    rfl
  · refine ⟨oM_0 (by omega) km0 1 rfl, ?_⟩
    refine ⟨tM_1 (r := A 0 1) (by first | rw [c1]; omega | rw [c1p]; omega) (by first | rw [c1]; exact kn1 | rw [c1p]; exact kn1) (by omega) (by omega) rfl, ?_⟩
    refine ⟨oM_0 (by omega) km0 1 rfl, ?_⟩
    refine ⟨aM_1 (r := (pm_upd A (A 0 1) to 0) 0 1) (by first | rw [c1]; omega | rw [c1p]; omega) (by first | rw [c1]; exact kn1 | rw [c1p]; exact kn1) (by omega) (by omega), ?_⟩
    skip
    refine ⟨by first | exact ⟨by omega, by omega⟩ | (show r32 (pm_upd A (A 0 1) to 0 (pm_upd A (A 0 1) to 0 0 1) b - 1); rw [v1]; exact ⟨by omega, by omega⟩), ?_⟩
    exact ⟨rfl, rfl⟩
