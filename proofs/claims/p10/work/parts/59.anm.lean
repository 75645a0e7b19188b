/-! A METHOD: marked places, each with bounds and a rank that falls from one to the next -/
/-- place, locals, stack, fields, rank: (0, c) a number, (1, i) local i grows, (2, i) local i falls -/
abbrev an_C : Type := Nat × List an_V × List an_V × List an_F × List (Nat × Int)
def an_st (c : an_C) : an_S := (c.2.1, c.2.2.1.map (fun v => (v, 0, 0, 0)), c.2.2.2.1, List.replicate c.2.1.length (some 0))
def an_lel : List an_V → List an_V → Bool
  | [], [] => true
  | a :: as, b :: bs => an_le a b && an_lel as bs
  | _, _ => false
def an_lef (F : List an_F) (f : an_F) : Bool := F.any (fun g => Nat.beq g.1 f.1 && (Nat.beq g.2.1 f.2.1 && (ile f.2.2.1 g.2.2.1 && ile g.2.2.2 f.2.2.2)))
def an_leS (s : an_S) (c : an_C) : Bool := an_lel s.1 c.2.1 && (an_lel (s.2.1.map (fun e => e.1)) c.2.2.1 && c.2.2.2.1.all (fun f => an_lef s.2.2.1 f))
def an_rk (D : List (Option Int)) : List (Nat × Int) → List (Nat × Int) → Bool
  | r :: R, r' :: R' => match r.1, r'.1 with
    | 0, 0 => ile (r'.2 + 1) r.2 || (decide (r'.2 = r.2) && an_rk D R R')
    | 1, 1 => decide (r'.2 = r.2) && (match D[r.2.toNat]? with
      | some (some d) => ile 1 d || (decide (d = 0) && an_rk D R R')
      | _ => false)
    | 2, 2 => decide (r'.2 = r.2) && (match D[r.2.toNat]? with
      | some (some d) => ile d (-1) || (decide (d = 0) && an_rk D R R')
      | _ => false)
    | _, _ => false
  | _, _ => false
/-- ranks are within bounds -/
def an_rb (L : List an_V) : List (Nat × Int) → Bool
  | [] => true
  | r :: R => (match r.1 with
    | 0 => ile 0 r.2 && ile r.2 4294967295
    | _ => match L[r.2.toNat]? with
      | some v => an_isI v && (ile (-2147483648) v.2.1 && ile v.2.2 2147483647)
      | none => false) && an_rb L R
def an_cut (cuts : List an_C) (pc : Nat) : Option an_C := match cuts with
  | [] => none
  | c :: t => cond (Nat.beq c.1 pc) (some c) (an_cut t pc)
/-- local i is told apart at t -/
def an_spl1 (i : Nat) (t : Int) (s : an_S) : List an_S := match s.1[i]? with
  | some v => cond (an_isI v) (cond (ile v.2.1 (t - 1)) [(s.1.set i (0, v.2.1, min v.2.2 (t - 1)), s.2)] [] ++ cond (ile t v.2.2) [(s.1.set i (0, max v.2.1 t, v.2.2), s.2)] []) [s]
  | none => [s]
def an_spl (pc : Nat) (s : an_S) : List (Nat × Nat × Int) → List an_S
  | [] => [s]
  | d :: t => cond (Nat.beq d.1 pc) ((an_spl1 d.2.1 d.2.2 s).flatMap (fun s' => an_spl pc s' t)) (an_spl pc s t)
def an_run (w : an_W) (CT : Nat → List an_Q) (Q : an_Q) (full : pm_P) (sp : List (Nat × Nat × Int)) (cuts : List an_C) (R : List (Nat × Int)) : Nat → pm_P → an_S → Bool
  | 0, _, _ => false
  | _ + 1, [], _ => false
  | n + 1, q :: rest, s => (an_spl q.1 s sp).all (fun s => match an_op w CT Q q.2 s with
    | none => false
    | some succ => succ.all (fun x => match an_cut cuts x.1 with
      | some c => an_leS x.2 c && (Nat.beq R.length c.2.2.2.2.length && an_rk x.2.2.2.2 R c.2.2.2.2)
      | none => an_run w CT Q full sp cuts R n (pm_next full x.1 rest) x.2))
def an_lay : List an_V → List an_V
  | [] => []
  | v :: t => cond (Nat.beq v.1 1) (v :: (3, 0, 0) :: an_lay t) (v :: an_lay t)
def an_args (n : Nat) (a : List an_V) : List an_V := an_lay a ++ List.replicate (n - (a.map an_cat).sum) (3, 0, 0)
def an_meth (w : an_W) (CT : Nat → List an_Q) (Q : an_Q) (nL : Nat) (full : pm_P) (sp : List (Nat × Nat × Int)) (cuts : List an_C) (fuel : Nat) : Bool := pm_srt full && (Nat.ble (Q.1.map an_cat).sum nL && (Q.1.all (fun v => Nat.ble (v.1 + 1) 3 || Nat.beq v.1 4) && ((match an_cut cuts 0 with
  | some c => an_lel (an_args nL Q.1) c.2.1 && (Nat.beq c.2.2.1.length 0 && Nat.beq c.2.2.2.1.length 0)
  | none => false) && cuts.all (fun c => an_rb c.2.1 c.2.2.2.2 && an_run w CT Q full sp cuts c.2.2.2.2 fuel (pm_seek c.1 full) (an_st c)))))
/-- a rank as one number -/
def rkv (Lc : List pm_V) (r : Nat × Int) : Nat := match r.1 with
  | 0 => r.2.toNat
  | 1 => (2147483647 - (Lc.getD r.2.toNat (0, 0)).2).toNat
  | _ => ((Lc.getD r.2.toNat (0, 0)).2 + 2147483648).toNat
def rkl (Lc : List pm_V) : List (Nat × Int) → Nat
  | [] => 0
  | r :: R => rkv Lc r * 8589934592 ^ R.length + rkl Lc R
theorem rkv_lt {w : an_W} {L : List an_V} {Lc : List pm_V} (hL : gLs w L Lc) {r : Nat × Int} {R : List (Nat × Int)} (h : an_rb L (r :: R) = true) : rkv Lc r < 8589934592 ∧ an_rb L R = true := by
  simp only [an_rb, Bool.and_eq_true] at h
  refine ⟨?_, h.2⟩
  have h := h.1
  obtain ⟨t, i⟩ := r
  have gen : (match L[i.toNat]? with
      | some v => an_isI v && (ile (-2147483648) v.2.1 && ile v.2.2 2147483647)
      | none => false) = true → -2147483648 ≤ (Lc.getD i.toNat (0, 0)).2 ∧ (Lc.getD i.toNat (0, 0)).2 ≤ 2147483647 := by
    intro h
    split at h
    · next v hv =>
      simp only [Bool.and_eq_true] at h
      have hl : i.toNat < Lc.length := by rw [← hL.1]; exact (List.getElem?_eq_some_iff.mp hv).1
      have hb : Lc[i.toNat]? = some Lc[i.toNat] := List.getElem?_eq_getElem hl
      have hg := (gv0 h.1).mp (hL.2 _ _ _ hv hb)
      have a1 := ile_ok h.2.1
      have a2 := ile_ok h.2.2
      rw [List.getD_eq_getElem?_getD, hb]
      show _ ≤ (Lc[i.toNat]).2 ∧ (Lc[i.toNat]).2 ≤ _
      omega
    · cases h
  match t, h with
  | 0, h =>
    simp only [Bool.and_eq_true] at h
    have a1 := ile_ok h.1
    have a2 := ile_ok h.2
    show i.toNat < _
    omega
  | 1, h =>
    have := gen h
    show (2147483647 - (Lc.getD i.toNat (0, 0)).2).toNat < _
    omega
  | n + 2, h =>
    have := gen h
    show ((Lc.getD i.toNat (0, 0)).2 + 2147483648).toNat < _
    omega
theorem rkl_lt {w : an_W} {L : List an_V} {Lc : List pm_V} (hL : gLs w L Lc) : ∀ {R : List (Nat × Int)}, an_rb L R = true → rkl Lc R < 8589934592 ^ R.length
  | [], _ => by simp [rkl]
  | r :: R, h => by
    obtain ⟨h1, h2⟩ := rkv_lt hL h
    have ih := rkl_lt hL h2
    simp only [rkl, List.length_cons, Nat.pow_succ]
    have : rkv Lc r * 8589934592 ^ R.length + 8589934592 ^ R.length ≤ 8589934592 ^ R.length * 8589934592 := by
      rw [← Nat.succ_mul, Nat.mul_comm]
      exact Nat.mul_le_mul_left _ h1
    omega
theorem rkl_dec {w : an_W} {L L' : List an_V} {L0 Lc : List pm_V} (h0 : gLs w L L0) (hc : gLs w L' Lc) {D : List (Option Int)} (hD : gDs L0 Lc D) : ∀ {R R' : List (Nat × Int)}, an_rb L R = true → an_rb L' R' = true → R.length = R'.length → an_rk D R R' = true → rkl Lc R' < rkl L0 R
  | [], _, _, _, _, h => by cases h
  | _ :: _, [], _, _, hl, _ => by cases hl
  | r :: R, r' :: R', hb, hb', hl, h => by
    obtain ⟨b1, b2⟩ := rkv_lt h0 hb
    obtain ⟨b3, b4⟩ := rkv_lt hc hb'
    have hl' : R.length = R'.length := by simpa using hl
    have lt1 : ∀ {x y : Nat}, x < y → x * 8589934592 ^ R'.length + rkl Lc R' < y * 8589934592 ^ R.length + rkl L0 R := by
      intro x y hxy
      have u := rkl_lt hc b4
      rw [hl']
      have : (x + 1) * 8589934592 ^ R'.length ≤ y * 8589934592 ^ R'.length := Nat.mul_le_mul_right _ hxy
      rw [Nat.add_mul, Nat.one_mul] at this
      omega
    have eq1 : ∀ {x y : Nat}, x = y → an_rk D R R' = true → x * 8589934592 ^ R'.length + rkl Lc R' < y * 8589934592 ^ R.length + rkl L0 R := by
      intro x y hxy hk
      have u := rkl_dec h0 hc hD b2 b4 hl' hk
      rw [hl', hxy]
      omega
    obtain ⟨t, i⟩ := r
    obtain ⟨t', i'⟩ := r'
    simp only [rkl]
    have gen : ∀ d : Int, D[i.toNat]? = some (some d) → (Lc.getD i.toNat (0, 0)).2 = (L0.getD i.toNat (0, 0)).2 + d := by
      intro d hd
      obtain ⟨t, x, g1, g2⟩ := hD _ _ hd
      rw [List.getD_eq_getElem?_getD, List.getD_eq_getElem?_getD, g1, g2]
      rfl
    have rng : ∀ {t : Nat}, (t = 1 ∨ t = 2) → an_rb L ((t, i) :: R) = true → -2147483648 ≤ (L0.getD i.toNat (0, 0)).2 ∧ (L0.getD i.toNat (0, 0)).2 ≤ 2147483647 := by
      intro t ht hb
      simp only [an_rb, Bool.and_eq_true] at hb
      have h := hb.1
      have h : (match L[i.toNat]? with
        | some v => an_isI v && (ile (-2147483648) v.2.1 && ile v.2.2 2147483647)
        | none => false) = true := by rcases ht with rfl | rfl <;> exact h
      split at h
      · next v hv =>
        simp only [Bool.and_eq_true] at h
        have hl : i.toNat < L0.length := by rw [← h0.1]; exact (List.getElem?_eq_some_iff.mp hv).1
        have hb : L0[i.toNat]? = some L0[i.toNat] := List.getElem?_eq_getElem hl
        have hg := (gv0 h.1).mp (h0.2 _ _ _ hv hb)
        have a1 := ile_ok h.2.1
        have a2 := ile_ok h.2.2
        rw [List.getD_eq_getElem?_getD, hb]
        show _ ≤ (L0[i.toNat]).2 ∧ (L0[i.toNat]).2 ≤ _
        omega
      · cases h
    have rng' : ∀ {t : Nat}, (t = 1 ∨ t = 2) → an_rb L' ((t, i) :: R') = true → -2147483648 ≤ (Lc.getD i.toNat (0, 0)).2 ∧ (Lc.getD i.toNat (0, 0)).2 ≤ 2147483647 := by
      intro t ht hb
      simp only [an_rb, Bool.and_eq_true] at hb
      have h := hb.1
      have h : (match L'[i.toNat]? with
        | some v => an_isI v && (ile (-2147483648) v.2.1 && ile v.2.2 2147483647)
        | none => false) = true := by rcases ht with rfl | rfl <;> exact h
      split at h
      · next v hv =>
        simp only [Bool.and_eq_true] at h
        have hl : i.toNat < Lc.length := by rw [← hc.1]; exact (List.getElem?_eq_some_iff.mp hv).1
        have hb : Lc[i.toNat]? = some Lc[i.toNat] := List.getElem?_eq_getElem hl
        have hg := (gv0 h.1).mp (hc.2 _ _ _ hv hb)
        have a1 := ile_ok h.2.1
        have a2 := ile_ok h.2.2
        rw [List.getD_eq_getElem?_getD, hb]
        show _ ≤ (Lc[i.toNat]).2 ∧ (Lc[i.toNat]).2 ≤ _
        omega
      · cases h
    unfold an_rk at h
    simp only at h
    split at h
    · next e1 e2 =>
      rw [Bool.or_eq_true, Bool.and_eq_true, decide_eq_true_eq] at h
      simp only [an_rb, Bool.and_eq_true] at hb hb'
      have p1 : 0 ≤ i := ile_ok hb.1.1
      have p2 : 0 ≤ i' := ile_ok hb'.1.1
      rcases h with h | h
      · have := ile_ok h
        exact lt1 (show i'.toNat < i.toNat by omega)
      · exact eq1 (show i'.toNat = i.toNat by rw [h.1]) h.2
    · next e1 e2 =>
      rw [Bool.and_eq_true, decide_eq_true_eq] at h
      obtain ⟨e3, h⟩ := h
      subst e3
      split at h
      · next d hd =>
        have hg := gen d hd
        have r1 := rng (Or.inl rfl) hb
        have r2 := rng' (Or.inl rfl) hb'
        rw [Bool.or_eq_true, Bool.and_eq_true, decide_eq_true_eq] at h
        rcases h with h | h
        · have := ile_ok h
          exact lt1 (show (2147483647 - (Lc.getD i'.toNat (0, 0)).2).toNat < (2147483647 - (L0.getD i'.toNat (0, 0)).2).toNat by omega)
        · exact eq1 (show (2147483647 - (Lc.getD i'.toNat (0, 0)).2).toNat = (2147483647 - (L0.getD i'.toNat (0, 0)).2).toNat by omega) h.2
      · cases h
    · next e1 e2 =>
      rw [Bool.and_eq_true, decide_eq_true_eq] at h
      obtain ⟨e3, h⟩ := h
      subst e3
      split at h
      · next d hd =>
        have hg := gen d hd
        have r1 := rng (Or.inr rfl) hb
        have r2 := rng' (Or.inr rfl) hb'
        rw [Bool.or_eq_true, Bool.and_eq_true, decide_eq_true_eq] at h
        rcases h with h | h
        · have := ile_ok h
          exact lt1 (show ((Lc.getD i'.toNat (0, 0)).2 + 2147483648).toNat < ((L0.getD i'.toNat (0, 0)).2 + 2147483648).toNat by omega)
        · exact eq1 (show ((Lc.getD i'.toNat (0, 0)).2 + 2147483648).toNat = ((L0.getD i'.toNat (0, 0)).2 + 2147483648).toNat by omega) h.2
      · cases h
    · cases h
theorem an_lel_ok {w : an_W} : ∀ {L L' : List an_V} {Lc : List pm_V}, an_lel L L' = true → gLs w L Lc → gLs w L' Lc
  | [], [], _, _, g => g
  | a :: as, b :: bs, [], _, g => by cases g.1
  | a :: as, b :: bs, v :: vs, h, g => by
    simp only [an_lel, Bool.and_eq_true] at h
    have ih := an_lel_ok (w := w) (L := as) (L' := bs) (Lc := vs) h.2 ⟨by simpa using g.1, fun i x y hx hy => g.2 (i + 1) x y (by simpa using hx) (by simpa using hy)⟩
    refine ⟨by simp [ih.1], fun i x y hx hy => ?_⟩
    cases i with
    | zero => simp at hx hy; subst hx; subst hy; exact gv_le h.1 (g.2 0 a v rfl rfl)
    | succ i => simp at hx hy; exact ih.2 i x y hx hy
  | [], _ :: _, _, h, _ => by cases h
  | _ :: _, [], _, h, _ => by cases h
theorem an_lelK_ok {w : an_W} {Lc : List pm_V} {A : pm_A} : ∀ {K : List an_E} {V : List an_V} {Kc : List pm_V}, an_lel (K.map (fun e => e.1)) V = true → gKs w Lc A K Kc → gKs w Lc A (V.map (fun v => (v, 0, 0, 0))) Kc
  | [], [], [], _, _ => trivial
  | e :: es, b :: bs, v :: vs, h, g => by
    simp only [List.map_cons, an_lel, Bool.and_eq_true] at h
    exact ⟨gE_new (gv_le h.1 g.1.1), an_lelK_ok h.2 g.2⟩
  | [], [], _ :: _, _, g => g.elim
  | _ :: _, _ :: _, [], _, g => g.elim
  | [], _ :: _, _, h, _ => by cases h
  | _ :: _, [], _, h, _ => by cases h
theorem gDs_0 (Lc : List pm_V) (n : Nat) : n = Lc.length → gDs Lc Lc (List.replicate n (some 0)) := by
  intro hn i d hd
  rw [List.getElem?_replicate] at hd
  split at hd
  · next hi =>
    cases hd
    have hl : i < Lc.length := by omega
    exact ⟨Lc[i].1, Lc[i].2, List.getElem?_eq_getElem hl, by rw [List.getElem?_eq_getElem hl, Int.add_zero]⟩
  · cases hd
theorem an_leS_ok {w : an_W} {ms : List Nat} {L0 : List pm_V} {A0 : pm_A} {s : an_S} {cc : pm_S} (h : gS w ms L0 A0 s cc) {c : an_C} (hc : an_leS s c = true) : gS w ms cc.1 A0 (an_st c) cc := by
  simp only [an_leS, Bool.and_eq_true] at hc
  obtain ⟨h1, h2, h3, h4, h5, h6⟩ := h
  have g1 := an_lel_ok hc.1 h1
  refine ⟨g1, an_lelK_ok hc.2.1 h2, ?_, gDs_0 _ _ g1.1, h5, h6⟩
  intro f hf
  have := List.all_eq_true.mp hc.2.2 f hf
  obtain ⟨g, hg, hx⟩ := List.any_eq_true.mp this
  simp only [Bool.and_eq_true] at hx
  obtain ⟨x1, x2, x3, x4⟩ := hx
  have x1 := Nat.eq_of_beq_eq_true x1
  have x2 := Nat.eq_of_beq_eq_true x2
  have x3 := ile_ok x3
  have x4 := ile_ok x4
  obtain ⟨r, k1, k2, k3, k4⟩ := h3 g hg
  rw [x1] at k1
  rw [x2] at k2 k3 k4
  exact ⟨r, k1, k2, by omega, by omega⟩
theorem an_cut_ok {pc : Nat} : ∀ {cuts : List an_C} {c : an_C}, an_cut cuts pc = some c → c ∈ cuts ∧ c.1 = pc
  | [], _, h => by cases h
  | x :: t, c, h => by
    simp only [an_cut] at h
    cases hb : Nat.beq x.1 pc with
    | true => rw [hb] at h; cases h; exact ⟨List.mem_cons_self, Nat.eq_of_beq_eq_true hb⟩
    | false => rw [hb] at h; obtain ⟨h1, h2⟩ := an_cut_ok (cuts := t) h; exact ⟨List.mem_cons_of_mem _ h1, h2⟩
/-- what a method ends with -/
def gPo (w : an_W) (Q : an_Q) (A0 : pm_A) (r : pm_R) : Prop := gR w Q.2.1 r.1 ∧ gH w r.2 ∧ gFr w Q.2.2 A0 r.2
theorem an_spl1_ok {w : an_W} {ms : List Nat} {L0 : List pm_V} {A0 : pm_A} {s : an_S} {cc : pm_S} (h : gS w ms L0 A0 s cc) (i : Nat) (t : Int) : ∃ s' ∈ an_spl1 i t s, gS w ms L0 A0 s' cc := by
  unfold an_spl1
  split
  · next v hv =>
    cases hb : an_isI v with
    | false => exact ⟨s, List.mem_singleton.mpr rfl, h⟩
    | true =>
      obtain ⟨h1, h2⟩ := h
      have hl : i < cc.1.length := by rw [← h1.1]; exact (List.getElem?_eq_some_iff.mp hv).1
      have hc : cc.1[i]? = some cc.1[i] := List.getElem?_eq_getElem hl
      have hg := (gv0 hb).mp (h1.2 i _ _ hv hc)
      have key : ∀ a : an_V, gv w a cc.1[i] → gS w ms L0 A0 (s.1.set i a, s.2) cc := by
        intro a ha
        refine ⟨⟨by rw [List.length_set]; exact h1.1, fun j b u hj hu => ?_⟩, h2⟩
        rw [List.getElem?_set] at hj
        by_cases e : i = j
        · subst e
          rw [if_pos rfl] at hj
          split at hj
          · cases hj; rw [hc] at hu; cases hu; exact ha
          · cases hj
        · rw [if_neg e] at hj; exact h1.2 j b u hj hu
      by_cases ht : cc.1[i].2 < t
      · refine ⟨_, List.mem_append_left _ ?_, key (0, v.2.1, min v.2.2 (t - 1)) ((gv0 rfl).mpr ⟨hg.1, hg.2.1, by simp only; omega⟩)⟩
        rw [show ile v.2.1 (t - 1) = true from decide_eq_true (by omega)]
        exact List.mem_singleton.mpr rfl
      · refine ⟨_, List.mem_append_right _ ?_, key (0, max v.2.1 t, v.2.2) ((gv0 rfl).mpr ⟨hg.1, by simp only; omega, hg.2.2⟩)⟩
        rw [show ile t v.2.2 = true from decide_eq_true (by omega)]
        exact List.mem_singleton.mpr rfl
  · exact ⟨s, List.mem_singleton.mpr rfl, h⟩
theorem an_spl_ok {w : an_W} {ms : List Nat} {L0 : List pm_V} {A0 : pm_A} {cc : pm_S} (pc : Nat) : ∀ (sp : List (Nat × Nat × Int)) {s : an_S}, gS w ms L0 A0 s cc → ∃ s' ∈ an_spl pc s sp, gS w ms L0 A0 s' cc
  | [], s, h => ⟨s, List.mem_singleton.mpr rfl, h⟩
  | d :: t, s, h => by
    simp only [an_spl]
    cases Nat.beq d.1 pc with
    | false => exact an_spl_ok pc t h
    | true =>
      obtain ⟨s1, m1, g1⟩ := an_spl1_ok h d.2.1 d.2.2
      obtain ⟨s2, m2, g2⟩ := an_spl_ok pc t g1
      exact ⟨s2, List.mem_flatMap.mpr ⟨s1, m1, m2⟩, g2⟩
theorem an_run_ok {w : an_W} {PT : pm_T} {CT : Nat → List an_Q} (hT : ∀ mid q, q ∈ CT mid → gCt w PT mid q) {Q : an_Q} {full : pm_P} (hs : pm_srt full = true) {sp : List (Nat × Nat × Int)} {cuts : List an_C} {R : List (Nat × Int)} {L : List an_V} {L0 : List pm_V} {A0 : pm_A} (h0 : gLs w L L0) (hb : an_rb L R = true) (hcb : ∀ c ∈ cuts, an_rb c.2.1 c.2.2.2.2 = true)
    (ih : ∀ c ∈ cuts, ∀ cc : pm_S, gS w Q.2.2 cc.1 A0 (an_st c) cc → rkl cc.1 c.2.2.2.2 < rkl L0 R → Tm PT (an_sh w) full c.1 cc (gPo w Q A0)) :
    ∀ (n : Nat) (pc : Nat) (s : an_S) (cc : pm_S), an_run w CT Q full sp cuts R n (pm_seek pc full) s = true → gS w Q.2.2 L0 A0 s cc → Tm PT (an_sh w) full pc cc (gPo w Q A0)
  | 0, _, _, _, h, _ => by cases h
  | n + 1, pc, s, cc, h, hg => by
    cases hq : pm_seek pc full with
    | nil => rw [hq] at h; cases h
    | cons q rest =>
      rw [hq] at h
      simp only [an_run] at h
      obtain ⟨s1, hm1, hg1⟩ := an_spl_ok q.1 sp hg
      have h := List.all_eq_true.mp h s1 hm1
      split at h
      · cases h
      · next succ hop =>
        rcases an_op_ok hT hop hg1 with ⟨n0, pc', c', s', h1, h2, h3⟩ | ⟨n0, r, h1, h2⟩
        · refine Tm.step hs hq h1 ?_
          have hx := List.all_eq_true.mp h (pc', s') h2
          simp only at hx
          split at hx
          · next c hc =>
            simp only [Bool.and_eq_true] at hx
            obtain ⟨x1, x2, x3⟩ := hx
            obtain ⟨m1, m2⟩ := an_cut_ok hc
            have gc := an_leS_ok h3 x1
            rw [← m2]
            refine ih c m1 c' gc ?_
            exact rkl_dec h0 gc.1 h3.2.2.2.1 hb (hcb c m1) (Nat.eq_of_beq_eq_true x2) x3
          · rw [pm_next_seek hs hq] at hx
            exact an_run_ok hT hs h0 hb hcb ih n pc' s' c' hx h3
        · exact Tm.ret hq h1 h2
theorem an_args_ok {w : an_W} : ∀ {P : List an_V} {a : List pm_V}, gA w P a → P.all (fun v => Nat.ble (v.1 + 1) 3 || Nat.beq v.1 4) = true → (a.map pm_cat).sum = (P.map an_cat).sum ∧ gLs w (an_lay P) (pm_lay a)
  | [], [], _, _ => ⟨rfl, rfl, fun i x y hx => by simp [an_lay] at hx⟩
  | p :: ps, v :: vs, h, hall => by
    simp only [List.all_cons, Bool.and_eq_true] at hall
    obtain ⟨i1, i2⟩ := an_args_ok h.2 hall.2
    have hcat : pm_cat v = an_cat p ∧ (v.1 = 1 ↔ Nat.beq p.1 1 = true) := by
      have hg := h.1
      have h1 := hall.1
      obtain ⟨t, x⟩ := v
      obtain ⟨ta, lo, hi⟩ := p
      match ta, h1, hg with
      | 0, _, hg => cases hg.1; exact ⟨rfl, by simp⟩
      | 1, _, hg => cases hg.1; exact ⟨rfl, by simp⟩
      | 2, _, hg => cases hg.1; exact ⟨rfl, by simp⟩
      | 4, _, hg => cases hg.1; exact ⟨rfl, by simp⟩
      | 3, h1, _ => exact absurd (show (Nat.ble (3 + 1) 3 || Nat.beq 3 4) = true from h1) (by decide)
      | n + 5, h1, _ =>
        simp only [Bool.or_eq_true] at h1
        rcases h1 with q | q
        · have := Nat.le_of_ble_eq_true q; omega
        · have := Nat.eq_of_beq_eq_true q; omega
    refine ⟨by simp only [List.map_cons, List.sum_cons, i1, hcat.1], ?_⟩
    simp only [an_lay, pm_lay]
    cases hp : Nat.beq p.1 1 with
    | true =>
      rw [if_pos (hcat.2.mpr hp)]
      refine ⟨by simp [i2.1], fun i x y hx hy => ?_⟩
      match i, hx, hy with
      | 0, hx, hy => simp at hx hy; subst hx; subst hy; exact h.1
      | 1, hx, hy => simp at hx hy; subst hx; trivial
      | i + 2, hx, hy => simp at hx hy; exact i2.2 i x y hx hy
    | false =>
      rw [if_neg (fun q => by rw [hcat.2.mp q] at hp; cases hp)]
      refine ⟨by simp [i2.1], fun i x y hx hy => ?_⟩
      match i, hx, hy with
      | 0, hx, hy => simp at hx hy; subst hx; subst hy; exact h.1
      | i + 1, hx, hy => simp at hx hy; exact i2.2 i x y hx hy
  | [], _ :: _, h, _ => h.elim
  | _ :: _, [], h, _ => h.elim
theorem an_meth_ok {w : an_W} {PT : pm_T} {CT : Nat → List an_Q} (hT : ∀ mid q, q ∈ CT mid → gCt w PT mid q) {Q : an_Q} {sp : List (Nat × Nat × Int)} {cuts : List an_C} {fuel mid : Nat} (h : an_meth w CT Q (PT mid).1 (PT mid).2 sp cuts fuel = true) : gCt w PT mid Q := by
  simp only [an_meth, Bool.and_eq_true] at h
  obtain ⟨hs, h1, h2, h3, h4⟩ := h
  have h1 := Nat.le_of_ble_eq_true h1
  have hcb : ∀ c ∈ cuts, an_rb c.2.1 c.2.2.2.2 = true := fun c hc => by
    have := List.all_eq_true.mp h4 c hc
    rw [Bool.and_eq_true] at this
    exact this.1
  have main : ∀ (m : Nat) (A0 : pm_A), ∀ c ∈ cuts, ∀ cc : pm_S, gS w Q.2.2 cc.1 A0 (an_st c) cc → rkl cc.1 c.2.2.2.2 < m → Tm PT (an_sh w) (PT mid).2 c.1 cc (gPo w Q A0) := by
    intro m A0
    induction m with
    | zero => intro c _ cc _ hm; exact absurd hm (by omega)
    | succ m ih =>
      intro c hc cc hg hm
      have hr := List.all_eq_true.mp h4 c hc
      rw [Bool.and_eq_true] at hr
      exact an_run_ok hT hs hg.1 (hcb c hc) hcb (fun c' hc' cc' hg' hlt => ih c' hc' cc' hg' (by omega)) fuel c.1 (an_st c) cc hr.2 hg
  refine Ct.of (fun a A hp => ?_)
  obtain ⟨hp1, hp2⟩ := hp
  obtain ⟨a1, a2⟩ := an_args_ok hp1 h2
  refine ⟨by rw [a1]; exact h1, ?_⟩
  split at h3
  · next c hc =>
    obtain ⟨m1, m2⟩ := an_cut_ok hc
    simp only [Bool.and_eq_true] at h3
    obtain ⟨k1, k2, k3⟩ := h3
    have k2 : c.2.2.1 = [] := List.length_eq_zero_iff.mp (Nat.eq_of_beq_eq_true k2)
    have k3 : c.2.2.2.1 = [] := List.length_eq_zero_iff.mp (Nat.eq_of_beq_eq_true k3)
    have gl : gLs w (an_args (PT mid).1 Q.1) (pm_args (PT mid).1 a) := by
      unfold an_args pm_args
      refine ⟨by simp [a2.1, a1], fun i x y hx hy => ?_⟩
      by_cases hi : i < (an_lay Q.1).length
      · rw [List.getElem?_append_left hi] at hx
        rw [List.getElem?_append_left (by rw [← a2.1]; exact hi)] at hy
        exact a2.2 i x y hx hy
      · rw [List.getElem?_append_right (by omega), List.getElem?_replicate] at hx
        split at hx
        · cases hx; trivial
        · cases hx
    have gl2 := an_lel_ok k1 gl
    have q1 : gKs w (pm_args (PT mid).1 a) A (c.2.2.1.map (fun v => (v, 0, 0, 0))) [] := by rw [k2]; trivial
    have q2 : gFs w (pm_args (PT mid).1 a) A c.2.2.2.1 := by rw [k3]; intro f hf; cases hf
    have := main (rkl (pm_args (PT mid).1 a) c.2.2.2.2 + 1) A c m1 (pm_args (PT mid).1 a, [], A) ⟨gl2, q1, q2, gDs_0 _ _ gl2.1, hp2, fun _ _ _ _ _ => rfl⟩ (Nat.lt_succ_self _)
    rw [m2] at this
    exact this
  · cases h3
/-- contracts as a list -/
def ctf (l : List (Nat × an_Q)) (k : Nat) : List an_Q := (l.filter (fun p => Nat.beq p.1 k)).map (fun p => p.2)
theorem ctf_ok {w : an_W} {PT : pm_T} {l : List (Nat × an_Q)} (h : ∀ p ∈ l, gCt w PT p.1 p.2) : ∀ mid q, q ∈ ctf l mid → gCt w PT mid q := by
  intro mid q hq
  obtain ⟨p, h1, h2⟩ := List.mem_map.mp hq
  obtain ⟨h3, h4⟩ := List.mem_filter.mp h1
  have := h p h3
  rw [Nat.eq_of_beq_eq_true h4, h2] at this
  exact this
theorem an_by {w : an_W} {PT : pm_T} {Q : an_Q} {mid : Nat} (l : List (Nat × an_Q)) (sp : List (Nat × Nat × Int)) (cuts : List an_C) (fuel : Nat) (hl : ∀ p ∈ l, gCt w PT p.1 p.2) (h : an_meth w (ctf l) Q (PT mid).1 (PT mid).2 sp cuts fuel = true) : gCt w PT mid Q := an_meth_ok (ctf_ok hl) h
theorem ct_c {w : an_W} {PT : pm_T} {mid : Nat} {q : an_Q} {l : List (Nat × an_Q)} (h : gCt w PT mid q) (t : ∀ p ∈ l, gCt w PT p.1 p.2) : ∀ p ∈ (mid, q) :: l, gCt w PT p.1 p.2 := List.forall_mem_cons.mpr ⟨h, t⟩
theorem ct_n {w : an_W} {PT : pm_T} : ∀ p ∈ ([] : List (Nat × an_Q)), gCt w PT p.1 p.2 := fun _ h => absurd h List.not_mem_nil
