/-! the first worlds -/
def vnum : Value → Int
  | .int i => i.toInt
  | .long i => i.toInt
  | .ref k => (k : Int)
  | _ => -1
def vkd : Value → Nat
  | .int _ => 0
  | .long _ => 1
  | .ref _ => 2
  | .null => 2
  | _ => 9
def wA (ws : rx_W) : pm_A := fun k j => match ws[k.toNat]? with
  | some (.inl (_, fs)) => match fs[j.toNat]? with
    | some v => vnum v
    | none => 0
  | some (.inr (_, _, u, d)) => vnum (rx_look u d j.toNat)
  | none => 0
theorem vnum_pv {v : Value} {k : Nat} (h : vkd v = k) (hk : k < 3) : pv (k, vnum v) v := by
  cases v with
  | int i => cases h; exact ⟨i, rfl, rfl⟩
  | long i => cases h; exact ⟨i, rfl, rfl⟩
  | ref a =>
    cases h
    refine Or.inr ⟨?_, ?_⟩
    · show (0 : Int) ≤ (a : Int); omega
    · show Value.ref a = Value.ref ((a : Int)).toNat
      rw [Int.toNat_natCast]
  | null => cases h; exact Or.inl ⟨rfl, rfl⟩
  | float b => cases h; exact absurd hk (show ¬ (9 < 3) by decide)
  | double b => cases h; exact absurd hk (show ¬ (9 < 3) by decide)
  | retAddr b => cases h; exact absurd hk (show ¬ (9 < 3) by decide)
def gvb (w : an_W) (a : an_V) (k : Nat) (x : Int) : Bool := match a.1 with
  | 0 => Nat.beq k 0 && (ile a.2.1 x && ile x a.2.2)
  | 1 => Nat.beq k 1 && (ile a.2.1 x && ile x a.2.2)
  | 2 => Nat.beq k 2 && ((ile 0 x && decide ((w.2 x : Int) = a.2.1)) || (decide (a.2.2 = 1) && decide (x = -1)))
  | _ => false
theorem gvb_ok {w : an_W} {a : an_V} {k : Nat} {x : Int} (h : gvb w a k x = true) : gv w a (k, x) ∧ k < 3 := by
  unfold gvb at h
  unfold gv
  split at h
  · next e =>
    rw [e]
    simp only [Bool.and_eq_true] at h
    have := Nat.eq_of_beq_eq_true h.1
    exact ⟨⟨this, ile_ok h.2.1, ile_ok h.2.2⟩, by omega⟩
  · next e =>
    rw [e]
    simp only [Bool.and_eq_true] at h
    have := Nat.eq_of_beq_eq_true h.1
    exact ⟨⟨this, ile_ok h.2.1, ile_ok h.2.2⟩, by omega⟩
  · next e =>
    rw [e]
    simp only [Bool.and_eq_true, Bool.or_eq_true, decide_eq_true_eq] at h
    have := Nat.eq_of_beq_eq_true h.1
    refine ⟨⟨this, h.2.imp (fun q => ⟨ile_ok q.1, q.2⟩) id⟩, by omega⟩
  · cases h
def vok (w : an_W) (a : an_V) (k : Nat) (v : Value) : Bool := Nat.beq (vkd v) k && gvb w a k (vnum v)
theorem vok_ok {w : an_W} {a : an_V} {k : Nat} {v : Value} (h : vok w a k v = true) : pv (k, vnum v) v ∧ gv w a (k, vnum v) := by
  unfold vok at h
  rw [Bool.and_eq_true] at h
  obtain ⟨g1, g2⟩ := gvb_ok h.2
  exact ⟨vnum_pv (Nat.eq_of_beq_eq_true h.1) g2, g1⟩
def fsC (w : an_W) (ci : Nat) : Nat → List an_V → List Value → Bool
  | j, a :: as, v :: vs => vok w a (pm_ftk ci j) v && fsC w ci (j + 1) as vs
  | _, [], [] => true
  | _, _, _ => false
theorem fsC_ok {w : an_W} {ci : Nat} : ∀ (as : List an_V) (vs : List Value) (j0 : Nat), fsC w ci j0 as vs = true → as.length = vs.length ∧ ∀ (j : Nat) (a : an_V) (v : Value), as[j]? = some a → vs[j]? = some v → vok w a (pm_ftk ci (j0 + j)) v = true
  | [], [], _, _ => ⟨rfl, fun j a v h => by simp at h⟩
  | [], _ :: _, _, h => by cases h
  | _ :: _, [], _, h => by cases h
  | a :: as, v :: vs, j0, h => by
    simp only [fsC, Bool.and_eq_true] at h
    obtain ⟨g1, g2⟩ := fsC_ok as vs (j0 + 1) h.2
    refine ⟨by rw [List.length_cons, List.length_cons, g1], fun j b u hb hu => ?_⟩
    match j, hb, hu with
    | 0, hb, hu => cases hb; cases hu; exact h.1
    | j + 1, hb, hu =>
      have := g2 j b u hb hu
      rwa [show j0 + 1 + j = j0 + (j + 1) by omega] at this
def ceC (w : an_W) (k : an_K) (e : rx_E) : Bool := match e with
  | .inl (ci, fs) => Nat.beq k.1 0 && (Nat.beq k.2.1 ci && (decide ((fs.length : Int) = k.2.2.1) && fsC w ci 0 k.2.2.2 fs))
  | .inr (t, n, u, d) => Nat.beq k.1 1 && (Nat.beq k.2.1 t && (decide ((n : Int) = k.2.2.1) && match k.2.2.2 with
    | [a] => (vok w a (pm_kd t) d && u.all (fun q => vok w a (pm_kd t) q.2)) || (List.range n).all (fun j => vok w a (pm_kd t) (rx_look u d j))
    | _ => false))
theorem look_all {P : Value → Bool} {d : Value} (hd : P d = true) : ∀ (u : List (Nat × Value)), u.all (fun q => P q.2) = true → ∀ j : Nat, P (rx_look u d j) = true
  | [], _, _ => hd
  | (k, v) :: t, h, j => by
    rw [List.all_cons, Bool.and_eq_true] at h
    rw [rx_look_cons]
    split
    · exact h.1
    · exact look_all hd t h.2 j
def woC (w : an_W) : Nat → rx_W → Bool
  | _, [] => true
  | i, e :: ws => (match w.1[w.2 (i : Int)]? with
    | some k => ceC w k e
    | none => false) && woC w (i + 1) ws
theorem woC_ok {w : an_W} : ∀ (ws : rx_W) (i : Nat), woC w i ws = true → ∀ (j : Nat) (e : rx_E), ws[j]? = some e → ∃ k, w.1[w.2 ((i + j : Nat) : Int)]? = some k ∧ ceC w k e = true
  | [], _, _, j, e, he => by simp at he
  | e0 :: ws, i, h, j, e, he => by
    simp only [woC, Bool.and_eq_true] at h
    match j, he with
    | 0, he =>
      cases he
      have h1 := h.1
      split at h1
      · next k hk => exact ⟨k, hk, h1⟩
      · cases h1
    | j + 1, he =>
      obtain ⟨k, k1, k2⟩ := woC_ok ws (i + 1) h.2 j e he
      exact ⟨k, by rwa [show i + (j + 1) = i + 1 + j by omega], k2⟩
theorem wo_all {w : an_W} {ws : rx_W} (h : woC w 0 ws = true) (hn : ∀ r : Int, (ws.length : Int) ≤ r → w.1[w.2 r]? = none) : pw (an_sh w) (wA ws) ws ∧ gH w (wA ws) := by
  have key : ∀ (r : Int) (k : an_K), 0 ≤ r → w.1[w.2 r]? = some k → ∃ e, ws[r.toNat]? = some e ∧ ceC w k e = true := fun r k r0 hk => by
    by_cases l : (ws.length : Int) ≤ r
    · rw [hn r l] at hk; cases hk
    · obtain ⟨e, he⟩ : ∃ e, ws[r.toNat]? = some e := ⟨ws[r.toNat]'(by omega), List.getElem?_eq_getElem _⟩
      obtain ⟨k', k1, k2⟩ := woC_ok ws 0 h r.toNat e he
      rw [show ((0 + r.toNat : Nat) : Int) = r by omega, hk] at k1
      cases k1
      exact ⟨e, he, k2⟩
  have sh : ∀ r : Int, ∀ k, w.1[w.2 r]? = some k → an_sh w r = (k.1, k.2.1, k.2.2.1) := fun r k hk => by unfold an_sh; rw [hk]
  have ex : ∀ r : Int, (an_sh w r).1 = 0 ∨ (an_sh w r).1 = 1 → ∃ k, w.1[w.2 r]? = some k := fun r hr => by
    cases hk : w.1[w.2 r]? with
    | some k => exact ⟨k, rfl⟩
    | none => unfold an_sh at hr; rw [hk] at hr; rcases hr with q | q <;> cases q
  have arr : ∀ (r : Int) (k : an_K), 0 ≤ r → w.1[w.2 r]? = some k → k.1 = 1 → ∃ (m : Nat) (u : List (Nat × Value)) (d : Value) (a : an_V), (m : Int) = k.2.2.1 ∧ ws[r.toNat]? = some (.inr (k.2.1, m, u, d)) ∧ k.2.2.2 = [a] ∧ ∀ j : Nat, j < m → vok w a (pm_kd k.2.1) (rx_look u d j) = true := fun r k r0 hk h1 => by
    obtain ⟨e, e1, e2⟩ := key r k r0 hk
    unfold ceC at e2
    split at e2
    · simp only [Bool.and_eq_true] at e2
      have := Nat.eq_of_beq_eq_true e2.1
      omega
    · next t n u d =>
      simp only [Bool.and_eq_true, decide_eq_true_eq] at e2
      obtain ⟨_, g2, g3, g4⟩ := e2
      have g2 := Nat.eq_of_beq_eq_true g2
      split at g4
      · next a ha =>
        refine ⟨n, u, d, a, g3, by rw [e1, g2], ha, fun j hj => ?_⟩
        rw [g2]
        rw [Bool.or_eq_true] at g4
        rcases g4 with g4 | g4
        · rw [Bool.and_eq_true] at g4
          exact look_all (P := fun v => vok w a (pm_kd t) v) g4.1 u g4.2 j
        · exact List.all_eq_true.mp g4 j (List.mem_range.mpr hj)
      · cases g4
  have obj : ∀ (r : Int) (k : an_K), 0 ≤ r → w.1[w.2 r]? = some k → k.1 = 0 → ∃ fs, ws[r.toNat]? = some (.inl (k.2.1, fs)) ∧ (fs.length : Int) = k.2.2.1 ∧ k.2.2.2.length = fs.length ∧ ∀ (j : Nat) (a : an_V) (v : Value), k.2.2.2[j]? = some a → fs[j]? = some v → vok w a (pm_ftk k.2.1 j) v = true := fun r k r0 hk h0 => by
    obtain ⟨e, e1, e2⟩ := key r k r0 hk
    unfold ceC at e2
    split at e2
    · next ci fs =>
      simp only [Bool.and_eq_true, decide_eq_true_eq] at e2
      obtain ⟨_, g2, g3, g4⟩ := e2
      have g2 := Nat.eq_of_beq_eq_true g2
      obtain ⟨q1, q2⟩ := fsC_ok _ _ _ g4
      refine ⟨fs, by rw [e1, g2], g3, q1, fun j a v ha hv => ?_⟩
      have := q2 j a v ha hv
      rw [Nat.zero_add] at this
      rw [g2]; exact this
    · simp only [Bool.and_eq_true] at e2
      have := Nat.eq_of_beq_eq_true e2.1
      omega
  have wAf : ∀ (r : Int) (ci : Nat) (fs : List Value) (j : Nat) (v : Value), ws[r.toNat]? = some (.inl (ci, fs)) → fs[j]? = some v → wA ws r j = vnum v := fun r ci fs j v h1 h2 => by
    unfold wA
    rw [h1]
    simp only [Int.toNat_natCast, h2]
  have wAa : ∀ (r : Int) (t n : Nat) (u : List (Nat × Value)) (d : Value) (j : Int), ws[r.toNat]? = some (.inr (t, n, u, d)) → wA ws r j = vnum (rx_look u d j.toNat) := fun r t n u d j h1 => by
    unfold wA
    rw [h1]
  refine ⟨fun i => ⟨fun h0 => ?_, fun h1 => ?_⟩, fun r k r0 hk => ⟨fun h0 j a ha => ?_, fun h1 a ha j j0 j1 => ?_⟩⟩
  · obtain ⟨k, hk⟩ := ex i (Or.inl h0)
    rw [sh i k hk] at h0 ⊢
    obtain ⟨fs, f1, f2, f3, f4⟩ := obj i k (by omega) hk h0
    rw [Int.toNat_natCast] at f1
    refine ⟨fs, f1, f2, fun j v hv => ?_⟩
    obtain ⟨a, ha⟩ : ∃ a, k.2.2.2[j]? = some a := ⟨k.2.2.2[j]'(by rw [f3]; exact (List.getElem?_eq_some_iff.mp hv).1), List.getElem?_eq_getElem _⟩
    have := (vok_ok (f4 j a v ha hv)).1
    rw [wAf i k.2.1 fs j v (by rw [Int.toNat_natCast]; exact f1) hv]
    exact this
  · obtain ⟨k, hk⟩ := ex i (Or.inr h1)
    rw [sh i k hk] at h1 ⊢
    obtain ⟨m, u, d, a, f1, f2, f3, f4⟩ := arr i k (by omega) hk h1
    rw [Int.toNat_natCast] at f2
    refine ⟨m, u, d, f1, f2, fun j hj => ?_⟩
    have := (vok_ok (f4 j hj)).1
    rw [wAa i k.2.1 m u d j (by rw [Int.toNat_natCast]; exact f2), Int.toNat_natCast]
    exact this
  · obtain ⟨fs, f1, f2, f3, f4⟩ := obj r k r0 hk h0
    obtain ⟨v, hv⟩ : ∃ v, fs[j]? = some v := ⟨fs[j]'(by rw [← f3]; exact (List.getElem?_eq_some_iff.mp ha).1), List.getElem?_eq_getElem _⟩
    rw [wAf r k.2.1 fs j v f1 hv]
    exact (vok_ok (f4 j a v ha hv)).2
  · obtain ⟨m, u, d, b, f1, f2, f3, f4⟩ := arr r k r0 hk h1
    rw [f3] at ha
    cases ha
    rw [wAa r k.2.1 m u d j f2]
    exact (vok_ok (f4 j.toNat (by omega))).2
theorem getD_ge {kl : List Nat} {i : Nat} (h : kl.length ≤ i) : kl.getD i 9999 = 9999 := by
  rw [List.getD_eq_getElem?_getD, List.getElem?_eq_none h]; rfl
theorem none_ge {K : List an_K} {kl : List Nat} {r : Int} (hK : K.length ≤ 9999) (h : (kl.length : Int) ≤ r) : K[if r < 0 then 9999 else kl.getD r.toNat 9999]? = none := by
  rw [if_neg (by omega), getD_ge (by omega)]
  exact List.getElem?_eq_none hK
theorem wx_chk : woC wX 0 WX = true := by decide +kernel
theorem wm_chk : woC wM 0 WM = true := by decide +kernel
theorem wx_all : pw (an_sh wX) (wA WX) WX ∧ gH wX (wA WX) := wo_all wx_chk (fun r h => none_ge (K := KX) (kl := kdXl) (by decide) (by rw [show kdXl.length = WX.length by decide +kernel]; exact h))
theorem wm_all : pw (an_sh wM) (wA WM) WM ∧ gH wM (wA WM) := wo_all wm_chk (fun r h => none_ge (K := KM) (kl := kdMl) (by decide) (by rw [show kdMl.length = WM.length by decide +kernel]; exact h))
theorem all_int {P : Int → Prop} [∀ x, Decidable (P x)] {n : Nat} (h : (List.range n).all (fun q => decide (P (q : Int))) = true) {x : Int} (x0 : 0 ≤ x) (x1 : x < n) : P x := by
  have := List.all_eq_true.mp h x.toNat (List.mem_range.mpr (by omega))
  rw [decide_eq_true_eq, Int.toNat_of_nonneg x0] at this
  exact this
theorem al_first : AL (wA WX) := by
  refine ⟨⟨by decide +kernel, by decide +kernel, by decide +kernel, by decide +kernel, by decide +kernel, by decide +kernel, by decide +kernel, by decide +kernel, by decide +kernel, by decide +kernel, by decide +kernel⟩, fun q q0 qk => ?_, fun x x0 x1 => ?_, fun i i0 i1 => ?_, fun i i0 i1 => ?_, fun i j i0 i1 j0 j1 hij => ?_⟩
  · have hq : q < (kdXl.length : Nat) := by
      by_cases l : q < (kdXl.length : Nat)
      · exact l
      · exfalso
        have e : wX.2 q = 9999 := by
          show (if q < 0 then 9999 else kdXl.getD q.toNat 9999) = 9999
          rw [if_neg (by omega), getD_ge (by omega)]
        rw [e] at qk; cases qk
    exact all_int (P := fun q => wX.2 q = 2 → wA WX q 2 = q + 1) (n := kdXl.length) (by decide +kernel) q0 hq qk
  · exact all_int (P := fun x => 72 < wA WX 73 x) (n := 100) (by decide +kernel) x0 x1
  · exact all_int (P := fun x => 72 < wA WX 82 x) (n := 6) (by decide +kernel) i0 i1
  · exact all_int (P := fun i => pc (wA WX) i < 72 ∧ ¬ pc (wA WX) i = 32 ∧ ¬ pc (wA WX) i = 35) (n := 13) (by decide +kernel) i0 (by omega)
  · have k := all_int (P := fun i => (List.range 13).all (fun q => decide (¬ i = (q : Int) → ¬ pc (wA WX) i = pc (wA WX) (q : Int))) = true) (n := 13) (by decide +kernel) i0 (by omega)
    exact all_int (P := fun j => ¬ i = j → ¬ pc (wA WX) i = pc (wA WX) j) (n := 13) k j0 (by omega) hij
theorem st_first : St (wA WX) := ⟨wx_all.2, al_first⟩
def A0M : pm_A := wA WM
def A8M : pm_A := pm_upd (pm_upd A0M 8 0 1) 9 0 1
def AtM : pm_A := pm_upd (pm_upd A8M 0 12 1) 0 13 0
theorem ls_first : LSm A8M 0 = [(1, eone 0)] := by
  have e1 : A8M 1 0 = 1 := by decide +kernel
  unfold LSm
  rw [e1]
  show [(A8M 2 0, xe A8M 0 0)] = _
  have e2 : A8M 2 0 = 1 := by decide +kernel
  have e3 : xe A8M 0 0 = eone 0 := by
    funext v
    show A8M 3 (12 * (200 * 0 + 0) + (v.1 : Int)) = if (v.1 : Int) = 0 then 1 else 0
    have := all_int (P := fun x => A8M 3 (12 * (200 * 0 + 0) + x) = if x = 0 then 1 else 0) (n := 12) (by decide +kernel) (x := (v.1 : Int)) (by omega) (by have := v.2; omega)
    exact this
  rw [e2, e3]
theorem g8_first : gH wM A8M := uM_9 (uM_8 wm_all.2 kn8 (by omega) (by omega)) kn9 (by omega) (by omega)
theorem ri_first : RI A0M := by
  have z5 : ∀ j : Int, A8M 5 j = 0 := fun j => by
    show pm_upd (pm_upd A0M 8 0 1) 9 0 1 5 j = 0
    rw [upd_o (by omega), upd_o (by omega)]; rfl
  have z7 : ∀ j : Int, AtM 7 j = 0 := fun j => by
    show pm_upd (pm_upd A8M 0 12 1) 0 13 0 7 j = 0
    rw [upd_o (by omega), upd_o (by omega)]
    show pm_upd (pm_upd A0M 8 0 1) 9 0 1 7 j = 0
    rw [upd_o (by omega), upd_o (by omega)]; rfl
  have e12 : AtM 0 12 = 1 := by decide +kernel
  have e13 : AtM 0 13 = 0 := by decide +kernel
  have hz : szd AtM := fun i i0 i1 => by
    have ei : i = 0 := by omega
    subst ei
    refine ⟨by decide +kernel, by decide +kernel, fun j j0 j1 => ?_⟩
    rw [z7, z7]; omega
  have hb : bgJ AtM A8M := by
    refine ⟨g8_first, by decide +kernel, by decide +kernel, fun j _ _ => by rw [z5, z7], fun k k0 k1 => ?_, by decide +kernel, fun r j h6 h10 => ?_⟩
    · have ek : k = 0 := by omega
      subst ek
      exact ls_first
    · show A8M r j = pm_upd (pm_upd A8M 0 12 1) 0 13 0 r j
      rw [upd_o (by omega), upd_o (by omega)]
  have hT := bg_tru hz (fun j _ _ => by rw [z7]; omega) (by omega) (by omega) (by omega) (by omega) hb
  have o8 : ∀ r j : Int, r ≠ 8 → r ≠ 9 → A0M r j = A8M r j := fun r j h h9 => (by
    show A0M r j = pm_upd (pm_upd A0M 8 0 1) 9 0 1 r j
    rw [upd_o (by omega), upd_o (by omega)])
  refine ⟨⟨_, [], hT.same wm_all.2 (o8 0 7 (by omega) (by omega)) (o8 0 8 (by omega) (by omega)) (fun j _ _ => o8 5 j (by omega) (by omega)) (fun p p0 p1 r j hr => o8 r j (by unfold inS at hr; omega) (by unfold inS at hr; omega))⟩, ⟨fun j _ _ => ?_, fun d d0 d1 => ?_⟩, fun sl hsl => ?_⟩
  · have : A0M 7 j = 0 := rfl
    rw [this]; omega
  · have : A0M 0 10 = 0 := by decide +kernel
    omega
  · rcases hsl with rfl | rfl
    · exact rgS_zero (by decide +kernel) (by decide +kernel) (fun f _ _ => rfl)
    · exact rgS_zero (by decide +kernel) (by decide +kernel) (fun f _ _ => rfl)
