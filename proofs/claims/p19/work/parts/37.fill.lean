section
/-! ARRAYS.FILL: its loop at once -/
section FI
variable {G : rx_G} {MT : Nat → rx_M} {M : rx_M}
theorem rx_arr_ext (cA : ClassId) (n : Nat) {f g : Nat → Int32} (h : ∀ j, j < n → f j = g j) : vp_cell cA (n, .inl f) = vp_cell cA (n, .inl g) := by
  rw [vp_cell_i, vp_cell_i]
  unfold arrV
  congr 1
  apply Array.ext
  · simp
  · intro i h1 h2
    simp at h1
    simp [h i h1]
theorem rx_P_ext {D : va_G} {cl : List vw_C} {cws : va_W} {a a' n : Nat} {cA : ClassId} {f g : Nat → Int32} {H : Heap} (h : va_P D cl (cws.set a (a', .inl (cA, n, .inl f))) H) (hfg : ∀ j, j < n → f j = g j) : va_P D cl (cws.set a (a', .inl (cA, n, .inl g))) H := by
  intro k q hk
  by_cases hka : a = k
  · subst hka
    rw [List.getElem?_set] at hk
    by_cases hl : a < cws.length
    · simp [hl] at hk
      subst hk
      have := h a (a', .inl (cA, n, .inl f)) (by rw [List.getElem?_set]; simp [hl])
      show H[a']? = some (vp_cell cA (n, .inl g))
      rw [← rx_arr_ext cA n hfg]
      exact this
    · simp [hl] at hk
  · rw [List.getElem?_set] at hk
    simp [hka] at hk
    exact h k q (by rw [List.getElem?_set]; simp [hka, hk])
theorem rx_D_ext {A : Nat → Prop} {cws : va_W} {a a' : Nat} {e1 e2 : va_E} (h : va_D A (cws.set a (a', e1))) : va_D A (cws.set a (a', e2)) := by
  have key : ∀ (k : Nat) (q : Nat × va_E), (cws.set a (a', e2))[k]? = some q → ∃ q', (cws.set a (a', e1))[k]? = some q' ∧ q'.1 = q.1 := by
    intro k q hk
    rw [List.getElem?_set] at hk
    by_cases hka : a = k
    · subst hka
      by_cases hl : a < cws.length
      · simp [hl] at hk
        subst hk
        exact ⟨(a', e1), by rw [List.getElem?_set]; simp [hl], rfl⟩
      · simp [hl] at hk
    · simp [hka] at hk
      exact ⟨q, by rw [List.getElem?_set]; simp [hka, hk], rfl⟩
  refine ⟨fun i j p q hi hj hpq => ?_, fun k q hk => ?_⟩
  · obtain ⟨p', h1, h2⟩ := key i p hi
    obtain ⟨q', h3, h4⟩ := key j q hj
    exact h.1 i j p' q' h1 h3 (by rw [h2, h4]; exact hpq)
  · obtain ⟨q', h1, h2⟩ := key k q hk
    rw [← h2]
    exact h.2 k q' h1
def rx_fil : rx_T := fun _ st => match rx_find st.1 0, rx_find st.1 1, rx_find st.1 2, rx_find st.1 3, st.2.1 with
  | some (.ref a), some v, some (.int i), some (.int n'), [] => match st.2.2.1[a]? with
    | some (.inr (t, n, _, _)) => cond (Nat.beq t 0 && (rx_is 0 v && (decide (i = 0) && (decide (n' = Int32.ofNat n) && Nat.ble n 1000000)))) (some (.inl (20, ([], [], st.2.2.1.set a (.inr (t, n, [], v)), st.2.2.2)))) none
    | _ => none
  | _, _, _, _, _ => none
theorem rx_has4 {ls : Array Slot} {nL : Nat} {l : rx_L} (h : lv_has ls nL l) {k0 k1 k2 k3 : Nat} {q0 q1 q2 q3 : Nat × Value} (h0 : l[k0]? = some q0) (h1 : l[k1]? = some q1) (h2 : l[k2]? = some q2) (h3 : l[k3]? = some q3) : lv_has ls nL [q0, q1, q2, q3] := by
  refine ⟨h.1, h.2.1, fun q hq => ?_⟩
  simp only [List.mem_cons, List.not_mem_nil, or_false] at hq
  rcases hq with rfl | rfl | rfl | rfl
  · exact h.2.2 _ (List.mem_of_getElem? h0)
  · exact h.2.2 _ (List.mem_of_getElem? h1)
  · exact h.2.2 _ (List.mem_of_getElem? h2)
  · exact h.2.2 _ (List.mem_of_getElem? h3)
theorem rx_sd_fil (hT : rx_TYOk G) (hn4 : M.2.2.1 = 4) (d5 : decode M.2.1 5 = .ok (.iload_n 2, 1)) (d6 : decode M.2.1 6 = .ok (.iload_n 3, 1)) (d7 : decode M.2.1 7 = .ok (.if_icmp .ge 13, 3)) (d10 : decode M.2.1 10 = .ok (.aload_n 0, 1)) (d11 : decode M.2.1 11 = .ok (.iload_n 2, 1)) (d12 : decode M.2.1 12 = .ok (.iload_n 1, 1)) (d13 : decode M.2.1 13 = .ok (.iastore, 1)) (d14 : decode M.2.1 14 = .ok (.iinc 2 1, 3)) (d17 : decode M.2.1 17 = .ok (.goto (-12), 3)) : rx_Sd G MT M 5 rx_fil := by
  intro p e s m args below meth c A X rec hrec st o h ρ0 r hgo
  obtain ⟨hx, hb, hml, hr, hown, hts, hlk, hnm, hK, hA⟩ := X
  obtain ⟨lv, sk, ws, c0, s0⟩ := st
  intro tl cws H locs ls cst clv hw hP hD hS hlv hl hst
  unfold rx_fil at h
  simp only at h hst hlv hw
  split at h
  · next a v i n' e0 e1 e2 e3 =>
    split at h
    · next t n u dd hwa =>
      obtain ⟨g1, g2⟩ := rx_cond_some h
      simp only [Bool.and_eq_true, decide_eq_true_eq] at g1
      obtain ⟨k1, k2, k3, k4, k5⟩ := g1
      have k1 := Nat.eq_of_beq_eq_true k1
      have k5 := Nat.le_of_ble_eq_true k5
      subst k1; subst k3; subst k4
      cases g2
      obtain ⟨p0, w0, q0, v0⟩ := hlv.find e0
      obtain ⟨p1, w1, q1, v1⟩ := hlv.find e1
      obtain ⟨p2, w2, q2, v2⟩ := hlv.find e2
      obtain ⟨p3, w3, q3, v3⟩ := hlv.find e3
      obtain ⟨a', ha, rfl⟩ := v0
      obtain ⟨x, rfl⟩ := rx_is0 k2 v1
      cases v2; cases v3
      obtain ⟨ce, f1, f, f2, f3⟩ := hw.at hwa ha
      subst f2
      have hla : a < cws.length := (List.getElem?_eq_some_iff.mp f1).1
      match cst, hst with
      | [], _ =>
        have loop : ∀ (k i : Nat), i + k = n → ∀ (f : Nat → Int32), (∀ j, j < i → f j = x) → ∀ (H : Heap) (locs : List Loc) (ls : Array Slot), va_P G.D G.cl (cws.set a (a', .inl (G.cy 0, n, .inl f))) H → va_D A (cws.set a (a', .inl (G.cy 0, n, .inl f))) → va_S A s.heap H locs → lv_has ls M.2.2.1 [(0, .ref a'), (1, .int x), (2, .int (nI i)), (3, .int (nI n))] →
            W p G.l e M.2.2.2.2.1 s m args below meth c H locs c0 s0 (MQ below (rx_Q G ρ0 r A) args s M.2.2.2.2.1.cells M.2.2.2.2.1.slots A) (F0 m 5 ls []) := by
          intro k
          induction k with
          | zero =>
            intro i hi f hf H locs ls hP hD hS hl
            have hin : i = n := by omega
            subst hin
            refine lv_iload_n hx hb d5 rfl (lv_at hl 2 rfl) ?_
            refine lv_iload_n hx hb d6 rfl (lv_at hl 3 rfl) ?_
            refine lv_icmp_ge (tgt := 20) hx hb d7 (by decide) (fun _ => ?_) (fun hc => absurd (nI_le (Nat.le_refl _) (by omega)) hc)
            exact hgo tl _ H locs ls [] [] (hw.set f1 (e := .inr (0, i, [], v)) ⟨fun _ => x, rfl, fun _ => v1⟩) (rx_P_ext hP hf) (rx_D_ext hD) hS trivial ⟨hl.1, hl.2.1, fun _ h => by cases h⟩ trivial
          | succ k ih =>
            intro i hi f hf H locs ls hP hD hS hl
            refine lv_iload_n hx hb d5 rfl (lv_at hl 2 rfl) ?_
            refine lv_iload_n hx hb d6 rfl (lv_at hl 3 rfl) ?_
            refine lv_icmp_ge (tgt := 20) hx hb d7 (by decide) (fun hc => absurd hc (nI_ge (by omega) (by omega))) (fun _ => ?_)
            refine lv_aload_n hx hb d10 rfl (lv_at hl 0 rfl) ?_
            refine lv_iload_n hx hb d11 rfl (lv_at hl 2 rfl) ?_
            refine lv_iload_n hx hb d12 rfl (lv_at hl 1 rfl) ?_
            refine va_iast hx hb hK.1 hP hD hS a 0 (f := f) (n := n) (cA := G.cy 0) (by rw [List.getElem?_set]; simp [hla]) hT.1 (vp_in_nI (by omega) (by omega)) d13 (fun H1 locs1 hP1 hD1 hS1 => ?_)
            rw [List.set_set, nI_clamp (by omega)] at hP1 hD1
            refine lv_iinc (v := nI (i + 1)) (lv' := [(2, .int (nI (i + 1))), (0, .ref a'), (1, .int x), (3, .int (nI n))]) hx hb d14 hl (k := 2) rfl (nI_1 i) (by omega) rfl (fun ls' hl' => ?_)
            refine lv_goto (tgt := 5) hx hb d17 (by decide) ?_
            refine ih (i + 1) (by omega) _ ?_ H1 locs1 ls' hP1 hD1 hS1 (lv_sub hl' [1, 2, 0, 3] rfl)
            intro j hj
            unfold upd
            by_cases hji : j = i
            · rw [if_pos hji]
            · rw [if_neg hji]; exact hf j (by omega)
        refine loop n 0 (by omega) f (fun j hj => absurd hj (by omega)) H locs ls ?_ ?_ hS (rx_has4 hl q0 q1 q2 q3)
        · rw [rx_set_same f1]; exact hP
        · rw [rx_set_same f1]; exact hD
    · cases h
  · cases h
def rx_aln (tag pc' : Nat) : rx_T := fun _ st => match st.2.1 with
  | .ref a :: sk => match st.2.2.1[a]? with
    | some (.inr (t, n, _, _)) => cond (Nat.beq tag t) (some (.inl (pc', (st.1, .int (Int32.ofNat n) :: sk, st.2.2)))) none
    | _ => none
  | _ => none
theorem rx_sd_alnI {pc : Nat} (hT : rx_TYOk G) (d : decode M.2.1 pc = .ok (.arraylength, 1)) : rx_Sd G MT M pc (rx_aln 0 (pc + 1)) := by
  intro p e s m args below meth c A X rec hrec st o h ρ0 r hgo
  obtain ⟨hx, hb, hml, hr, hown, hts, hlk, hnm, hK, hA⟩ := X
  obtain ⟨lv, sk, ws, c0, s0⟩ := st
  intro tl cws H locs ls cst clv hw hP hD hS hlv hl hst
  unfold rx_aln at h
  simp only at h hst hlv hw
  split at h
  · next a sr =>
    split at h
    · next t n u dd hwa =>
      obtain ⟨g1, g2⟩ := rx_cond_some h
      have g1 := Nat.eq_of_beq_eq_true g1
      subst g1
      cases g2
      match cst, hst with
      | w :: cr, ⟨⟨a', ha, hwe⟩, h3⟩ =>
        subst hwe
        obtain ⟨ce, f1, f, f2, f3⟩ := hw.at hwa ha
        subst f2
        exact va_alen hx hb hK.1 hP a 0 f1 hT.1 rfl d (hgo tl cws H locs ls _ clv hw hP hD hS hlv hl ⟨rfl, h3⟩)
    · cases h
  · cases h
end FI
end

section
/-! MATH: its three methods, by the kit's rows -/
section MA
variable {G : rx_G} {MT : Nat → rx_M} {M : rx_M} {pc : Nat}
def rx_max (x y : Int32) : Int32 := if x < y then y else x
def rx_min (x y : Int32) : Int32 := if y < x then y else x
def rx_abs (x : Int32) : Int32 := if 0 ≤ x then x else 0 - x
noncomputable def rx_m2 (g : Int32 → Int32 → Int32) (RC RS RL pc' : Nat) : rx_T := fun _ st => match st.2.1 with
  | .int y :: .int x :: sk => cond (Nat.ble ((sk.map rx_cat).sum + 13) RL && (Nat.ble st.2.2.2.1 RC && Nat.ble st.2.2.2.2 RS)) (rx_fI (g x y) (fun z => some (.inl (pc', (st.1, .int z :: sk, st.2.2))))) none
  | _ => none
noncomputable def rx_m1 (g : Int32 → Int32) (RC RS RL pc' : Nat) : rx_T := fun _ st => match st.2.1 with
  | .int x :: sk => cond (Nat.ble ((sk.map rx_cat).sum + 13) RL && (Nat.ble st.2.2.2.1 RC && Nat.ble st.2.2.2.2 RS)) (rx_fI (g x) (fun z => some (.inl (pc', (st.1, .int z :: sk, st.2.2))))) none
  | _ => none
theorem rx_sd_mmax {index : Nat} (hl0 : Cond.methodLink M.1.cls index Lib.Math.max.name ∈ G.gT) (hs0 : Cond.static Lib.Math.max.name ∈ G.gT) (hi0 : Cond.initialized "java/lang/Math" ∈ G.gT) (hc0 : Cond.code Lib.Math.max.name Lib.Math.max.code 2 (some .int) ∈ G.gT) (hf : 1 ≤ M.2.2.2.2.1.frames) (d : decode M.2.1 pc = .ok (.invokestatic index, 3)) : rx_Sd G MT M pc (rx_m2 rx_max M.2.2.2.2.1.cells M.2.2.2.2.1.slots M.2.2.2.2.1.locals (pc + 3)) := by
  intro p e s m args below meth c A X rec hrec st o h ρ0 r hgo
  obtain ⟨hx, hb, hml, hr, hown, hts, hlk, hnm, hK, hA⟩ := X
  obtain ⟨lv, sk, ws, c0, s0⟩ := st
  intro tl cws H locs ls cst clv hw hP hD hS hlv hl hst
  unfold rx_m2 at h
  simp only [rx_fI_eq] at h hst hlv hw
  match sk, cst, h, hst with
  | .int y :: .int x :: sr, w1 :: w2 :: cr, h, ⟨h1, h2, h3⟩ =>
    simp only at h
    obtain ⟨g1, g2⟩ := rx_cond_some h
    simp only [Bool.and_eq_true] at g1
    cases g2; cases h1; cases h2
    exact va_mmax hx hb (by rw [hml, hl.1]) hown (hts _ hl0) (hts _ hs0) (hts _ hi0) (hts _ hc0) hf (by rw [h3.cats]; exact Nat.le_of_ble_eq_true g1.1) (Nat.le_of_ble_eq_true g1.2.1) (Nat.le_of_ble_eq_true g1.2.2) d (hgo tl cws H locs ls _ clv hw hP hD hS hlv hl ⟨rfl, h3⟩)
theorem rx_sd_mmin {index : Nat} (hl0 : Cond.methodLink M.1.cls index Lib.Math.min.name ∈ G.gT) (hs0 : Cond.static Lib.Math.min.name ∈ G.gT) (hi0 : Cond.initialized "java/lang/Math" ∈ G.gT) (hc0 : Cond.code Lib.Math.min.name Lib.Math.min.code 2 (some .int) ∈ G.gT) (hf : 1 ≤ M.2.2.2.2.1.frames) (d : decode M.2.1 pc = .ok (.invokestatic index, 3)) : rx_Sd G MT M pc (rx_m2 rx_min M.2.2.2.2.1.cells M.2.2.2.2.1.slots M.2.2.2.2.1.locals (pc + 3)) := by
  intro p e s m args below meth c A X rec hrec st o h ρ0 r hgo
  obtain ⟨hx, hb, hml, hr, hown, hts, hlk, hnm, hK, hA⟩ := X
  obtain ⟨lv, sk, ws, c0, s0⟩ := st
  intro tl cws H locs ls cst clv hw hP hD hS hlv hl hst
  unfold rx_m2 at h
  simp only [rx_fI_eq] at h hst hlv hw
  match sk, cst, h, hst with
  | .int y :: .int x :: sr, w1 :: w2 :: cr, h, ⟨h1, h2, h3⟩ =>
    simp only at h
    obtain ⟨g1, g2⟩ := rx_cond_some h
    simp only [Bool.and_eq_true] at g1
    cases g2; cases h1; cases h2
    exact va_mmin hx hb (by rw [hml, hl.1]) hown (hts _ hl0) (hts _ hs0) (hts _ hi0) (hts _ hc0) hf (by rw [h3.cats]; exact Nat.le_of_ble_eq_true g1.1) (Nat.le_of_ble_eq_true g1.2.1) (Nat.le_of_ble_eq_true g1.2.2) d (hgo tl cws H locs ls _ clv hw hP hD hS hlv hl ⟨rfl, h3⟩)
theorem rx_sd_mabs {index : Nat} (hl0 : Cond.methodLink M.1.cls index Lib.Math.abs.name ∈ G.gT) (hs0 : Cond.static Lib.Math.abs.name ∈ G.gT) (hi0 : Cond.initialized "java/lang/Math" ∈ G.gT) (hc0 : Cond.code Lib.Math.abs.name Lib.Math.abs.code 1 (some .int) ∈ G.gT) (hf : 1 ≤ M.2.2.2.2.1.frames) (d : decode M.2.1 pc = .ok (.invokestatic index, 3)) : rx_Sd G MT M pc (rx_m1 rx_abs M.2.2.2.2.1.cells M.2.2.2.2.1.slots M.2.2.2.2.1.locals (pc + 3)) := by
  intro p e s m args below meth c A X rec hrec st o h ρ0 r hgo
  obtain ⟨hx, hb, hml, hr, hown, hts, hlk, hnm, hK, hA⟩ := X
  obtain ⟨lv, sk, ws, c0, s0⟩ := st
  intro tl cws H locs ls cst clv hw hP hD hS hlv hl hst
  unfold rx_m1 at h
  simp only [rx_fI_eq] at h hst hlv hw
  match sk, cst, h, hst with
  | .int x :: sr, w1 :: cr, h, ⟨h1, h3⟩ =>
    simp only at h
    obtain ⟨g1, g2⟩ := rx_cond_some h
    simp only [Bool.and_eq_true] at g1
    cases g2; cases h1
    exact va_mabs hx hb (by rw [hml, hl.1]) hown (hts _ hl0) (hts _ hs0) (hts _ hi0) (hts _ hc0) hf (by rw [h3.cats]; exact Nat.le_of_ble_eq_true g1.1) (Nat.le_of_ble_eq_true g1.2.1) (Nat.le_of_ble_eq_true g1.2.2) d (hgo tl cws H locs ls _ clv hw hP hD hS hlv hl ⟨rfl, h3⟩)
end MA
end
