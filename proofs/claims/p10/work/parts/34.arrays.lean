/-! ARRAYS -/
section AR
variable {G : rx_G} {MT : Nat → rx_M} {M : rx_M} {pc : Nat}
/-- what array class a kind has: 0 int, 1 long, 2 boolean, from 3 on references -/
def rx_TYOk (G : rx_G) : Prop := G.TY[0]? = some (G.cy 0, .int) ∧ G.TY[1]? = some (G.cy 1, .long) ∧ G.TY[2]? = some (G.cy 2, .boolean)
noncomputable def rx_ix {α : Type} (i : Int32) (n : Nat) (k : Nat → Option α) : Option α := cond (decide (i < 0)) none (rx_fN i.toNatClampNeg (fun j => cond (Nat.ble n j) none (k j)))
theorem rx_ix_some {α : Type} {i : Int32} {n : Nat} {k : Nat → Option α} {y : α} (h : rx_ix i n k = some y) : vp_in i n ∧ k i.toNatClampNeg = some y := by
  unfold rx_ix at h
  cases hb : decide (i < 0) with
  | true => rw [hb] at h; cases h
  | false =>
    rw [hb] at h
    simp only [cond_false, rx_fN_eq] at h
    cases hb2 : Nat.ble n i.toNatClampNeg with
    | true => rw [hb2] at h; cases h
    | false =>
      rw [hb2] at h
      refine ⟨fun q => ?_, h⟩
      rcases q with q | q
      · simp [q] at hb
      · rw [Nat.ble_eq_true_of_le q] at hb2; cases hb2
noncomputable def rx_ald (tag kind pc' : Nat) : rx_T := fun _ st => match st.2.1 with
  | .int i :: .ref a :: sk => match st.2.2.1[a]? with
    | some (.inr (t, n, u, d)) => cond (Nat.beq tag t) (rx_ix i n (fun j => match rx_look u d j with
      | .int x => cond (Nat.beq kind 0) (some (.inl (pc', (st.1, .int x :: sk, st.2.2)))) none
      | .float x => cond (Nat.beq kind 0) (some (.inl (pc', (st.1, .float x :: sk, st.2.2)))) none
      | .double x => cond (Nat.beq kind 0) (some (.inl (pc', (st.1, .double x :: sk, st.2.2)))) none
      | .long x => cond (Nat.beq kind 1) (some (.inl (pc', (st.1, .long x :: sk, st.2.2)))) none
      | .ref x => cond (Nat.beq kind 2) (some (.inl (pc', (st.1, .ref x :: sk, st.2.2)))) none
      | .null => cond (Nat.beq kind 2) (some (.inl (pc', (st.1, .null :: sk, st.2.2)))) none
      | .retAddr _ => none)) none
    | _ => none
  | _ => none
theorem rx_ald_some {tag kind pc' : Nat} {rec : rx_C} {lv : rx_L} {sk : List Value} {ws : rx_W} {c0 s0 : Nat} {o : rx_O} (h : rx_ald tag kind pc' rec (lv, sk, ws, c0, s0) = some o) : ∃ (i : Int32) (a : Nat) (sr : List Value) (n : Nat) (u : List (Nat × Value)) (d : Value), sk = .int i :: .ref a :: sr ∧ ws[a]? = some (.inr (tag, n, u, d)) ∧ vp_in i n ∧ rx_is kind (rx_look u d i.toNatClampNeg) = true ∧ o = .inl (pc', (lv, rx_look u d i.toNatClampNeg :: sr, ws, c0, s0)) := by
  unfold rx_ald at h
  simp only at h
  split at h
  · next i a sr =>
    split at h
    · next t n u d hw =>
      obtain ⟨g1, g2⟩ := rx_cond_some h
      have := Nat.eq_of_beq_eq_true g1
      subst this
      obtain ⟨g3, g4⟩ := rx_ix_some g2
      refine ⟨i, a, sr, n, u, d, rfl, hw, g3, ?_⟩
      cases hv : rx_look u d i.toNatClampNeg with
      | retAddr _ => rw [hv] at g4; cases g4
      | _ =>
        rw [hv] at g4
        obtain ⟨g5, g6⟩ := rx_cond_some g4
        cases g6
        exact ⟨g5, rfl⟩
    · cases h
  · cases h
theorem rx_sd_iald (hT : rx_TYOk G) (d : decode M.2.1 pc = .ok (.iaload, 1)) : rx_Sd G MT M pc (rx_ald 0 0 (pc + 1)) := by
  intro p e s m args below meth c A X rec hrec st o h ρ0 r hgo
  obtain ⟨hx, hb, hml, hr, hown, hts, hlk, hnm, hK, hA⟩ := X
  obtain ⟨lv, sk, ws, c0, s0⟩ := st
  intro tl cws H locs ls cst clv hw hP hD hS hlv hl hst
  obtain ⟨i, a, sr, n, u, dd, rfl, g1, g2, g3, rfl⟩ := rx_ald_some h
  match cst, hst with
  | w1 :: w2 :: cr, ⟨h1, ⟨a', ha, h2⟩, h3⟩ =>
    cases h1; subst h2
    obtain ⟨ce, f1, f, f2, f3⟩ := hw.at g1 ha
    subst f2
    exact va_iald hx hb hK.1 hP a 0 f1 hT.1 g2 d (hgo tl cws H locs ls _ clv hw hP hD hS hlv hl ⟨f3 _, h3⟩)
theorem rx_sd_zald (hT : rx_TYOk G) (d : decode M.2.1 pc = .ok (.baload, 1)) : rx_Sd G MT M pc (rx_ald 2 0 (pc + 1)) := by
  intro p e s m args below meth c A X rec hrec st o h ρ0 r hgo
  obtain ⟨hx, hb, hml, hr, hown, hts, hlk, hnm, hK, hA⟩ := X
  obtain ⟨lv, sk, ws, c0, s0⟩ := st
  intro tl cws H locs ls cst clv hw hP hD hS hlv hl hst
  obtain ⟨i, a, sr, n, u, dd, rfl, g1, g2, g3, rfl⟩ := rx_ald_some h
  match cst, hst with
  | w1 :: w2 :: cr, ⟨h1, ⟨a', ha, h2⟩, h3⟩ =>
    cases h1; subst h2
    obtain ⟨ce, f1, f, f2, f3⟩ := hw.at g1 ha
    subst f2
    exact va_zald hx hb hK.1 hP a 2 f1 hT.2.2 g2 d (hgo tl cws H locs ls _ clv hw hP hD hS hlv hl ⟨f3 _, h3⟩)
theorem rx_sd_lald (hT : rx_TYOk G) (d : decode M.2.1 pc = .ok (.laload, 1)) : rx_Sd G MT M pc (rx_ald 1 1 (pc + 1)) := by
  intro p e s m args below meth c A X rec hrec st o h ρ0 r hgo
  obtain ⟨hx, hb, hml, hr, hown, hts, hlk, hnm, hK, hA⟩ := X
  obtain ⟨lv, sk, ws, c0, s0⟩ := st
  intro tl cws H locs ls cst clv hw hP hD hS hlv hl hst
  obtain ⟨i, a, sr, n, u, dd, rfl, g1, g2, g3, rfl⟩ := rx_ald_some h
  match cst, hst with
  | w1 :: w2 :: cr, ⟨h1, ⟨a', ha, h2⟩, h3⟩ =>
    cases h1; subst h2
    obtain ⟨ce, f1, f, f2, f3⟩ := hw.at g1 ha
    subst f2
    exact va_lald hx hb hK.1 hP a 1 f1 hT.2.1 g2 d (hgo tl cws H locs ls _ clv hw hP hD hS hlv hl ⟨f3 _, h3⟩)
theorem rx_sd_aald {t : Nat} {C : String} (hT : G.TY[t + 3]? = some (G.cy (t + 3), .object C)) (d : decode M.2.1 pc = .ok (.aaload, 1)) : rx_Sd G MT M pc (rx_ald (t + 3) 2 (pc + 1)) := by
  intro p e s m args below meth c A X rec hrec st o h ρ0 r hgo
  obtain ⟨hx, hb, hml, hr, hown, hts, hlk, hnm, hK, hA⟩ := X
  obtain ⟨lv, sk, ws, c0, s0⟩ := st
  intro tl cws H locs ls cst clv hw hP hD hS hlv hl hst
  obtain ⟨i, a, sr, n, u, dd, rfl, g1, g2, g3, rfl⟩ := rx_ald_some h
  match cst, hst with
  | w1 :: w2 :: cr, ⟨h1, ⟨a', ha, h2⟩, h3⟩ =>
    cases h1; subst h2
    obtain ⟨ce, f1, f, f2, f3⟩ := hw.at g1 ha
    subst f2
    exact va_aldq hx hb hK.1 hP a (t + 3) f1 hT g2 d (hgo tl cws H locs ls _ clv hw hP hD hS hlv hl ⟨f3 _, h3⟩)
/-- an int stored at a place that is known within bounds alone: the array's ints are any ints from then on -/
def rx_anyix (Y : rx_Y) (n : Nat) : Value → Bool
  | .float k => match Y.1[k.toNat]? with
    | some q => decide (0 ≤ q.1) && decide (q.2 < n)
    | none => false
  | _ => false
def rx_ints : List (Nat × Value) → Bool
  | [] => true
  | (_, v) :: t => rx_is 0 v && rx_ints t
noncomputable def rx_ast (Y : rx_Y) (tag : Nat) (ty : FieldType) (pc' : Nat) : rx_T := fun _ st => match st.2.1 with
  | v :: .int i :: .ref a :: sk => match st.2.2.1[a]? with
    | some (.inr (t, n, u, d)) => cond (Nat.beq tag t && rx_okty ty v) (rx_ix i n (fun j => some (.inl (pc', (st.1, sk, st.2.2.1.set a (.inr (t, n, (j, v) :: u, d)), st.2.2.2))))) none
    | _ => none
  | v :: x :: .ref a :: sk => match st.2.2.1[a]? with
    | some (.inr (t, n, _, _)) => cond (Nat.beq tag 0 && (Nat.beq tag t && (rx_is 0 v && rx_anyix Y n x))) (some (.inl (pc', (st.1, sk, st.2.2.1.set a (.inr (t, n, [], .double 0)), st.2.2.2)))) none
    | _ => none
  | _ => none
theorem rx_look_upd {ρ : List Nat} {σ : Nat → Int32} {u : List (Nat × Value)} {d v : Value} {k : Nat} {α : Type} {f : Nat → α} {g : α → Value} {x : α} {f' : Nat → α} (hf' : ∀ j, f' j = if j = k then x else f j) (hf : ∀ j, rx_v ρ σ (rx_look u d j) (g (f j))) (hv : rx_v ρ σ v (g x)) : ∀ j, rx_v ρ σ (rx_look ((k, v) :: u) d j) (g (f' j)) := by
  intro j
  rw [rx_look_cons, hf']
  by_cases h : j = k
  · simp [h]; exact hv
  · simp [h]; exact hf j
theorem rx_ast_some {Y : rx_Y} {tag : Nat} {ty : FieldType} {pc' : Nat} {rec : rx_C} {lv : rx_L} {sk : List Value} {ws : rx_W} {c0 s0 : Nat} {o : rx_O} (h : rx_ast Y tag ty pc' rec (lv, sk, ws, c0, s0) = some o) :
    (∃ (v : Value) (i : Int32) (a : Nat) (sr : List Value) (n : Nat) (u : List (Nat × Value)) (d : Value), sk = v :: .int i :: .ref a :: sr ∧ ws[a]? = some (.inr (tag, n, u, d)) ∧ vp_in i n ∧ rx_okty ty v = true ∧ o = .inl (pc', (lv, sr, ws.set a (.inr (tag, n, (i.toNatClampNeg, v) :: u, d)), c0, s0))) ∨
    (∃ (v x : Value) (a : Nat) (sr : List Value) (n : Nat) (u : List (Nat × Value)) (d : Value), tag = 0 ∧ sk = v :: x :: .ref a :: sr ∧ ws[a]? = some (.inr (0, n, u, d)) ∧ rx_is 0 v = true ∧ rx_anyix Y n x = true ∧ o = .inl (pc', (lv, sr, ws.set a (.inr (0, n, [], .double 0)), c0, s0))) := by
  unfold rx_ast at h
  simp only at h
  split at h
  · next v i a sr =>
    left
    split at h
    · next t n u d hw =>
      obtain ⟨g1, g2⟩ := rx_cond_some h
      rw [Bool.and_eq_true] at g1
      have := Nat.eq_of_beq_eq_true g1.1
      subst this
      obtain ⟨g3, g4⟩ := rx_ix_some g2
      cases g4
      exact ⟨v, i, a, sr, n, u, d, rfl, hw, g3, g1.2, rfl⟩
    · cases h
  · next v x a sr _ =>
    right
    split at h
    · next t n u d hw =>
      obtain ⟨g1, g2⟩ := rx_cond_some h
      simp only [Bool.and_eq_true] at g1
      obtain ⟨k0, k1, k2, k3⟩ := g1
      have k0 := Nat.eq_of_beq_eq_true k0
      have k1 := Nat.eq_of_beq_eq_true k1
      subst k0; subst k1
      cases g2
      exact ⟨v, x, a, sr, n, u, d, rfl, rfl, hw, k2, k3, rfl⟩
    · cases h
  · cases h
theorem rx_anyix_ok {Y : rx_Y} {ρ : List Nat} {σ : Nat → Int32} (hY : rx_YOk Y σ) {n : Nat} {x w : Value} (h : rx_anyix Y n x = true) (hv : rx_v ρ σ x w) : ∃ i : Int32, w = .int i ∧ vp_in i n := by
  cases x with
  | float k =>
    cases hv
    unfold rx_anyix at h
    simp only at h
    cases hk : Y.1[k.toNat]? with
    | none => rw [hk] at h; cases h
    | some q =>
      rw [hk] at h
      simp only [Bool.and_eq_true, decide_eq_true_eq] at h
      have := hY.1 _ _ hk
      exact ⟨_, rfl, vp_in_iff.mpr ⟨by omega, by omega⟩⟩
  | _ => cases h
theorem rx_sd_iast {Y : rx_Y} (hY : rx_YOk Y G.sg) (hT : rx_TYOk G) (d : decode M.2.1 pc = .ok (.iastore, 1)) : rx_Sd G MT M pc (rx_ast Y 0 .int (pc + 1)) := by
  intro p e s m args below meth c A X rec hrec st o h ρ0 r hgo
  obtain ⟨hx, hb, hml, hr, hown, hts, hlk, hnm, hK, hA⟩ := X
  obtain ⟨lv, sk, ws, c0, s0⟩ := st
  intro tl cws H locs ls cst clv hw hP hD hS hlv hl hst
  rcases rx_ast_some h with ⟨v, i, a, sr, n, u, dd, rfl, g1, g2, g3, rfl⟩ | ⟨v, x, a, sr, n, u, dd, -, rfl, g1, g2, g3, rfl⟩
  · match cst, hst with
    | w1 :: w2 :: w3 :: cr, ⟨h1, h2, ⟨a', ha, h4⟩, h3⟩ =>
      cases h2; subst h4
      obtain ⟨y, rfl⟩ := rx_is0 g3 h1
      obtain ⟨ce, f1, f, f2, f3⟩ := hw.at g1 ha
      subst f2
      exact va_iast hx hb hK.1 hP hD hS a 0 f1 hT.1 g2 d (fun H1 locs1 hP1 hD1 hS1 => hgo tl _ H1 locs1 ls cr clv (hw.set f1 (e := .inr (0, n, (i.toNatClampNeg, v) :: u, dd)) ⟨_, rfl, rx_look_upd (g := Value.int) (fun _ => rfl) f3 h1⟩) hP1 hD1 hS1 hlv hl h3)
  · match cst, hst with
    | w1 :: w2 :: w3 :: cr, ⟨h1, h2, ⟨a', ha, h4⟩, h3⟩ =>
      subst h4
      obtain ⟨y, rfl⟩ := rx_is0 g2 h1
      obtain ⟨i, rfl, hi⟩ := rx_anyix_ok hY g3 h2
      obtain ⟨ce, f1, f, f2, f3⟩ := hw.at g1 ha
      subst f2
      exact va_iast hx hb hK.1 hP hD hS a 0 f1 hT.1 hi d (fun H1 locs1 hP1 hD1 hS1 => hgo tl _ H1 locs1 ls cr clv (hw.set f1 (e := .inr (0, n, [], .double 0)) ⟨_, rfl, fun j => ⟨_, rfl⟩⟩) hP1 hD1 hS1 hlv hl h3)
theorem rx_sd_last {Y : rx_Y} (hT : rx_TYOk G) (d : decode M.2.1 pc = .ok (.lastore, 1)) : rx_Sd G MT M pc (rx_ast Y 1 .long (pc + 1)) := by
  intro p e s m args below meth c A X rec hrec st o h ρ0 r hgo
  obtain ⟨hx, hb, hml, hr, hown, hts, hlk, hnm, hK, hA⟩ := X
  obtain ⟨lv, sk, ws, c0, s0⟩ := st
  intro tl cws H locs ls cst clv hw hP hD hS hlv hl hst
  rcases rx_ast_some h with ⟨v, i, a, sr, n, u, dd, rfl, g1, g2, g3, rfl⟩ | ⟨v, x, a, sr, n, u, dd, h9, -⟩
  · match cst, hst with
    | w1 :: w2 :: w3 :: cr, ⟨h1, h2, ⟨a', ha, h4⟩, h3⟩ =>
      cases h2; subst h4
      obtain ⟨y, rfl⟩ := rx_is1 g3 h1
      obtain ⟨ce, f1, f, f2, f3⟩ := hw.at g1 ha
      subst f2
      exact va_last hx hb hK.1 hP hD hS a 1 f1 hT.2.1 g2 d (fun H1 locs1 hP1 hD1 hS1 => hgo tl _ H1 locs1 ls cr clv (hw.set f1 (e := .inr (1, n, (i.toNatClampNeg, v) :: u, dd)) ⟨_, rfl, rx_look_upd (g := Value.long) (fun _ => rfl) f3 h1⟩) hP1 hD1 hS1 hlv hl h3)
  · cases h9
theorem rx_sd_zast {Y : rx_Y} (hT : rx_TYOk G) (d : decode M.2.1 pc = .ok (.bastore, 1)) : rx_Sd G MT M pc (rx_ast Y 2 .boolean (pc + 1)) := by
  intro p e s m args below meth c A X rec hrec st o h ρ0 r hgo
  obtain ⟨hx, hb, hml, hr, hown, hts, hlk, hnm, hK, hA⟩ := X
  obtain ⟨lv, sk, ws, c0, s0⟩ := st
  intro tl cws H locs ls cst clv hw hP hD hS hlv hl hst
  rcases rx_ast_some h with ⟨v, i, a, sr, n, u, dd, rfl, g1, g2, g3, rfl⟩ | ⟨v, x, a, sr, n, u, dd, h9, -⟩
  · match cst, hst with
    | w1 :: w2 :: w3 :: cr, ⟨h1, h2, ⟨a', ha, h4⟩, h3⟩ =>
      cases h2; subst h4
      cases v with
      | int y =>
        have hn : vp_nar .boolean y = y := by
          have := (rx_okty_ok (ρ := ρ0 ++ tl) (σ := G.sg) g3 (show rx_v (ρ0 ++ tl) G.sg (.int y) (.int y) from rfl)).1
          unfold vp_nar
          rw [this]
        cases h1
        obtain ⟨ce, f1, f, f2, f3⟩ := hw.at g1 ha
        subst f2
        refine va_zast hx hb hK.1 hP hD hS a 2 f1 hT.2.2 g2 d (fun H1 locs1 hP1 hD1 hS1 => ?_)
        rw [hn] at hP1 hD1
        exact hgo tl _ H1 locs1 ls cr clv (hw.set f1 (e := .inr (2, n, (i.toNatClampNeg, .int y) :: u, dd)) ⟨_, rfl, rx_look_upd (g := Value.int) (fun _ => rfl) f3 rfl⟩) hP1 hD1 hS1 hlv hl h3
      | _ => cases g3
  · cases h9
noncomputable def rx_asq (tag ci pc' : Nat) : rx_T := fun _ st => match st.2.1 with
  | .ref b :: .int i :: .ref a :: sk => match st.2.2.1[a]? with
    | some (.inr (t, n, u, d)) => match st.2.2.1[b]? with
      | some (.inl (ci', _)) => cond (Nat.beq tag t && Nat.beq ci ci') (rx_ix i n (fun j => some (.inl (pc', (st.1, sk, st.2.2.1.set a (.inr (t, n, (j, .ref b) :: u, d)), st.2.2.2))))) none
      | _ => none
    | _ => none
  | _ => none
theorem rx_sd_aast {t ci : Nat} {C : vw_C} (hT : G.TY[t + 3]? = some (G.cy (t + 3), .object C.1)) (hc : G.cl[ci]? = some C) (d : decode M.2.1 pc = .ok (.aastore, 1)) : rx_Sd G MT M pc (rx_asq (t + 3) ci (pc + 1)) := by
  intro p e s m args below meth c A X rec hrec st o h ρ0 r hgo
  obtain ⟨hx, hb, hml, hr, hown, hts, hlk, hnm, hK, hA⟩ := X
  obtain ⟨lv, sk, ws, c0, s0⟩ := st
  intro tl cws H locs ls cst clv hw hP hD hS hlv hl hst
  unfold rx_asq at h
  simp only at h hst hlv hw
  split at h
  · next b i a sr =>
    split at h
    · next t' n u dd hwa =>
      split at h
      · next ci' fs hwb =>
        obtain ⟨g1, g2⟩ := rx_cond_some h
        rw [Bool.and_eq_true] at g1
        have e1 := Nat.eq_of_beq_eq_true g1.1
        have e2 := Nat.eq_of_beq_eq_true g1.2
        subst e1; subst e2
        obtain ⟨g3, g4⟩ := rx_ix_some g2
        cases g4
        match cst, hst with
        | w1 :: w2 :: w3 :: cr, ⟨⟨b', hb', h1⟩, h2, ⟨a', ha, h4⟩, h3⟩ =>
          cases h2; subst h4; subst h1
          obtain ⟨ce, f1, f, f2, f3⟩ := hw.at hwa ha
          obtain ⟨ce2, k1, cfs, k2, k3⟩ := hw.at hwb hb'
          subst f2; subst k2
          exact va_astq hx hb hK.1 hP hD hS a (t + 3) b ci f1 hT k1 hc g3 d (fun H1 locs1 hP1 hD1 hS1 => hgo tl _ H1 locs1 ls cr clv (hw.set f1 (e := .inr (t + 3, n, (i.toNatClampNeg, .ref b) :: u, dd)) ⟨_, rfl, rx_look_upd (g := va_rf) (fun _ => rfl) f3 ⟨b', hb', rfl⟩⟩) hP1 hD1 hS1 hlv hl h3)
      · cases h
    · cases h
  · cases h
end AR
