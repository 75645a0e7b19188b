/-! THE PLAIN MACHINE GOES AS THE OTHER ONE -/
theorem i32_ix {i : Int32} {x : Int} (hi : i.toInt = x) (h0 : 0 ≤ x) : ¬ i < 0 ∧ i.toNatClampNeg = x.toNat := by
  refine ⟨fun q => ?_, ?_⟩
  · rw [Int32.lt_iff_toInt_lt] at q
    have e : (0 : Int32).toInt = 0 := rfl
    omega
  · rw [← hi]; rfl
theorem rx_ix_of {α : Type} {i : Int32} {n : Nat} {k : Nat → Option α} {x : Int} (hi : i.toInt = x) (h0 : 0 ≤ x) (h1 : x < n) : rx_ix i n k = k x.toNat := by
  obtain ⟨g1, g2⟩ := i32_ix hi h0
  unfold rx_ix
  rw [decide_eq_false g1, rx_fN_eq, g2]
  simp only [cond_false]
  have : Nat.ble n x.toNat = false := by
    rw [← Bool.not_eq_true]; intro q
    have := Nat.le_of_ble_eq_true q
    omega
  rw [this]; rfl
theorem pw_obj {sh : pm_Sh} {A : pm_A} {ws : rx_W} (h : pw sh A ws) {r : Int} (h0 : 0 ≤ r) (h1 : (sh r).1 = 0) : ∃ fs, ws[r.toNat]? = some (.inl ((sh r).2.1, fs)) ∧ (fs.length : Int) = (sh r).2.2 ∧ ∀ (j : Nat) (v : Value), fs[j]? = some v → pv (pm_ftk (sh r).2.1 j, A r j) v := by
  have e : ((r.toNat : Nat) : Int) = r := Int.toNat_of_nonneg h0
  have := (h r.toNat).1
  rw [e] at this
  exact this h1
theorem pw_arr {sh : pm_Sh} {A : pm_A} {ws : rx_W} (h : pw sh A ws) {r : Int} (h0 : 0 ≤ r) (h1 : (sh r).1 = 1) : ∃ (m : Nat) (u : List (Nat × Value)) (d : Value), (m : Int) = (sh r).2.2 ∧ ws[r.toNat]? = some (.inr ((sh r).2.1, m, u, d)) ∧ ∀ j : Nat, j < m → pv (pm_kd (sh r).2.1, A r j) (rx_look u d j) := by
  have e : ((r.toNat : Nat) : Int) = r := Int.toNat_of_nonneg h0
  have := (h r.toNat).2
  rw [e] at this
  exact this h1
/-- one number of a cell is written -/
theorem pw_put {sh : pm_Sh} {A : pm_A} {ws : rx_W} (h : pw sh A ws) {r : Int} (h0 : 0 ≤ r) (h1 : (sh r).1 = 0) {fs : List Value} (hw : ws[r.toNat]? = some (.inl ((sh r).2.1, fs))) {k : Nat} {x : Int} {v : Value} (hv : pv (pm_ftk (sh r).2.1 k, x) v) : pw sh (pm_upd A r k x) (ws.set r.toNat (.inl ((sh r).2.1, fs.set k v))) := by
  have e : ((r.toNat : Nat) : Int) = r := Int.toNat_of_nonneg h0
  intro j
  by_cases hj : j = r.toNat
  · subst hj
    rw [e]
    refine ⟨fun _ => ⟨fs.set k v, ?_, ?_, ?_⟩, fun q => by rw [h1] at q; cases q⟩
    · rw [List.getElem?_set]; simp [(List.getElem?_eq_some_iff.mp hw).1]
    · obtain ⟨fs', g1, g2, _⟩ := pw_obj h h0 h1
      rw [hw] at g1; cases g1
      rw [List.length_set]; exact g2
    · intro i w hi
      obtain ⟨fs', g1, g2, g3⟩ := pw_obj h h0 h1
      rw [hw] at g1; cases g1
      rw [List.getElem?_set] at hi
      by_cases hk : k = i
      · subst hk
        rw [if_pos rfl] at hi
        split at hi
        · cases hi; unfold pm_upd; simp; exact hv
        · cases hi
      · rw [if_neg hk] at hi
        have : pm_upd A r k x r i = A r i := by unfold pm_upd; rw [if_neg]; omega
        rw [this]
        exact g3 i w hi
  · have hne : ¬ (j : Int) = r := by omega
    have hA : ∀ i : Int, pm_upd A r k x j i = A j i := fun i => by unfold pm_upd; rw [if_neg]; exact fun q => hne q.1
    have hs : (ws.set r.toNat (.inl ((sh r).2.1, fs.set k v)))[j]? = ws[j]? := by rw [List.getElem?_set, if_neg (fun q => hj q.symm)]
    rw [hs]
    refine ⟨fun q => ?_, fun q => ?_⟩
    · obtain ⟨fs', g1, g2, g3⟩ := (h j).1 q
      exact ⟨fs', g1, g2, fun i w hi => by rw [hA]; exact g3 i w hi⟩
    · obtain ⟨m, u, d, g1, g2, g3⟩ := (h j).2 q
      exact ⟨m, u, d, g1, g2, fun i hi => by rw [hA]; exact g3 i hi⟩
theorem pw_ast {sh : pm_Sh} {A : pm_A} {ws : rx_W} (h : pw sh A ws) {r : Int} (h0 : 0 ≤ r) (h1 : (sh r).1 = 1) {m : Nat} {u u' : List (Nat × Value)} {d : Value} (hw : ws[r.toNat]? = some (.inr ((sh r).2.1, m, u, d))) {A' : pm_A} (hA : ∀ k i : Int, ¬ k = r → A' k i = A k i) (hu : ∀ j : Nat, j < m → pv (pm_kd (sh r).2.1, A' r j) (rx_look u' d j)) : pw sh A' (ws.set r.toNat (.inr ((sh r).2.1, m, u', d))) := by
  have e : ((r.toNat : Nat) : Int) = r := Int.toNat_of_nonneg h0
  intro j
  by_cases hj : j = r.toNat
  · subst hj
    rw [e]
    refine ⟨(fun q => by rw [h1] at q; cases q), fun _ => ⟨m, u', d, ?_, ?_, hu⟩⟩
    · obtain ⟨m', u0, d0, g1, g2, _⟩ := pw_arr h h0 h1
      rw [hw] at g2; cases g2
      exact g1
    · rw [List.getElem?_set]; simp [(List.getElem?_eq_some_iff.mp hw).1]
  · have hne : ¬ (j : Int) = r := by omega
    have hs : (ws.set r.toNat (.inr ((sh r).2.1, m, u', d)))[j]? = ws[j]? := by rw [List.getElem?_set, if_neg (fun q => hj q.symm)]
    rw [hs]
    refine ⟨fun q => ?_, fun q => ?_⟩
    · obtain ⟨fs', g1, g2, g3⟩ := (h j).1 q
      exact ⟨fs', g1, g2, fun i w hi => by rw [hA _ _ hne]; exact g3 i w hi⟩
    · obtain ⟨m, u, d, g1, g2, g3⟩ := (h j).2 q
      exact ⟨m, u, d, g1, g2, fun i hi => by rw [hA _ _ hne]; exact g3 i hi⟩
theorem pw_upd {sh : pm_Sh} {A : pm_A} {ws : rx_W} (h : pw sh A ws) {r i x : Int} (h0 : 0 ≤ r) (h1 : (sh r).1 = 1) (hi : 0 ≤ i) {m : Nat} {u : List (Nat × Value)} {d : Value} (hw : ws[r.toNat]? = some (.inr ((sh r).2.1, m, u, d))) {v : Value} (hv : pv (pm_kd (sh r).2.1, x) v) : pw sh (pm_upd A r i x) (ws.set r.toNat (.inr ((sh r).2.1, m, (i.toNat, v) :: u, d))) := by
  refine pw_ast h h0 h1 hw (fun k j hk => by unfold pm_upd; rw [if_neg]; exact fun q => hk q.1) (fun j hj => ?_)
  rw [rx_look_cons]
  obtain ⟨m', u0, d0, g1, g2, g3⟩ := pw_arr h h0 h1
  rw [hw] at g2; cases g2
  by_cases e : j = i.toNat
  · rw [if_pos e]
    have : (j : Int) = i := by omega
    unfold pm_upd
    rw [this]; simp; exact hv
  · rw [if_neg e]
    have : pm_upd A r i x r j = A r j := by unfold pm_upd; rw [if_neg]; omega
    rw [this]; exact g3 j hj
theorem i32_of {i : Int32} {x : Int} (h : i.toInt = x) : Int32.ofInt x = i := by rw [← h]; exact Int32.ofInt_toInt i
theorem i64_of {i : Int64} {x : Int} (h : i.toInt = x) : Int64.ofInt x = i := by rw [← h]; exact Int64.ofInt_toInt i
theorem pp_bi_ok (a : Nat) {i j : Int32} {x y : Int} (hi : i.toInt = x) (hj : j.toInt = y) : (o_bi a i j).toInt = pp_bi a x y := by
  match a with
  | 0 => show (i + j).toInt = w32 (x + y); rw [Int32.toInt_add, w32_eq, hi, hj]
  | 1 => show (i - j).toInt = w32 (x - y); rw [Int32.toInt_sub, w32_eq, hi, hj]
  | 2 => show (i * j).toInt = w32 (x * y); rw [Int32.toInt_mul, w32_eq, hi, hj]
  | n + 3 => show _ = (o_bi (n + 3) (Int32.ofInt x) (Int32.ofInt y)).toInt; rw [i32_of hi, i32_of hj]
theorem pp_lb_ok (a : Nat) {i j : Int64} {x y : Int} (hi : i.toInt = x) (hj : j.toInt = y) : (o_lb a i j).toInt = pp_lb a x y := by
  match a with
  | 0 => show (i + j).toInt = w64 (x + y); rw [Int64.toInt_add, w64_eq, hi, hj]
  | 1 => show (i - j).toInt = w64 (x - y); rw [Int64.toInt_sub, w64_eq, hi, hj]
  | 2 => show (i * j).toInt = w64 (x * y); rw [Int64.toInt_mul, w64_eq, hi, hj]
  | n + 3 => show _ = (o_lb (n + 3) (Int64.ofInt x) (Int64.ofInt y)).toInt; rw [i64_of hi, i64_of hj]
theorem pp_tst_ok (op : Nat) {i j : Int32} {x y : Int} (hi : i.toInt = x) (hj : j.toInt = y) : rx_tst Yo op (.int i) (.int j) = some (pp_tst op x y) := by
  have e1 : decide (i < j) = decide (x < y) := decide_eq_decide.mpr (by rw [Int32.lt_iff_toInt_lt, hi, hj])
  have e2 : decide (j < i) = decide (y < x) := decide_eq_decide.mpr (by rw [Int32.lt_iff_toInt_lt, hi, hj])
  have e3 : decide (i = j) = decide (x = y) := decide_eq_decide.mpr (by rw [← Int32.toInt_inj, hi, hj])
  match op with
  | 0 => show some (decide (i < j)) = some (decide (x < y)); rw [e1]
  | 1 =>
    show some (!decide (i < j)) = some (decide (y ≤ x))
    rw [e1]
    congr 1
    by_cases h : x < y
    · simp [h]
    · simp [h]; omega
  | 2 => show some (decide (j < i)) = some (decide (y < x)); rw [e2]
  | 3 =>
    show some (!decide (j < i)) = some (decide (x ≤ y))
    rw [e2]
    congr 1
    by_cases h : y < x
    · simp [h]
    · simp [h]; omega
  | 4 => show some (decide (i = j)) = some (decide (x = y)); rw [e3]
  | n + 5 => show some (!decide (i = j)) = some (!decide (x = y)); rw [e3]
theorem pp_un_ok (a : Nat) {K K' : List pm_V} {st : List Value} (h : pp_un a K = some K') (hl : pl K st) : ∃ st', o_un a st = some st' ∧ pl K' st' := by
  unfold pp_un at h
  split at h
  · split at h
    · cases h
      match st, hl with
      | v :: st', ⟨⟨i, e, hi⟩, h3⟩ =>
        subst e
        refine ⟨.int (-i) :: st', ?_, ⟨-i, rfl, ?_⟩, h3⟩
        · rw [show o_un 0 = rx_ineg from rfl]
          simp only [rx_ineg, rx_fI_eq]
        · show (-i).toInt = w32 _
          rw [Int32.toInt_neg, w32_eq, hi]
    · cases h
  · split at h
    · cases h
      match st, hl with
      | v :: st', ⟨⟨i, e, hi⟩, h3⟩ =>
        subst e
        refine ⟨.long (-i) :: st', ?_, ⟨-i, rfl, ?_⟩, h3⟩
        · rw [show o_un 1 = rx_lneg from rfl]
          simp only [rx_lneg, rx_fL_eq]
        · show (-i).toInt = w64 _
          rw [Int64.toInt_neg, w64_eq, hi]
    · cases h
  · split at h
    · cases h
      match st, hl with
      | v :: st', ⟨⟨i, e, hi⟩, h3⟩ =>
        subst e
        refine ⟨.long i.toInt64 :: st', ?_, ⟨i.toInt64, rfl, ?_⟩, h3⟩
        · rw [show o_un 2 = rx_i2l from rfl]
          simp only [rx_i2l, rx_fL_eq]
        · rw [Int32.toInt_toInt64]; exact hi
    · cases h
  · split at h
    · cases h
      match st, hl with
      | v :: st', ⟨⟨i, e, hi⟩, h3⟩ =>
        subst e
        refine ⟨.int i.toInt32 :: st', ?_, ⟨i.toInt32, rfl, ?_⟩, h3⟩
        · rw [show o_un 3 = rx_l2i from rfl]
          simp only [rx_l2i, rx_fI_eq]
        · show _ = w32 _
          rw [Int64.toInt_toInt32, w32_eq, hi]
    · cases h
  · split at h
    · next y x r =>
      cases h
      match st, hl with
      | v :: w :: st', ⟨⟨j, e, hj⟩, ⟨i, e2, hi⟩, h3⟩ =>
        subst e; subst e2
        refine ⟨.int (lg_cmp i j) :: st', ?_, ⟨lg_cmp i j, rfl, ?_⟩, h3⟩
        · rw [show o_un 4 = rx_lcmp from rfl]
          simp only [rx_lcmp, rx_fI_eq]
        · simp only at hj hi
          show (lg_cmp i j).toInt = if y < x then 1 else if x = y then 0 else -1
          unfold lg_cmp
          simp only [gt_iff_lt, Int64.lt_iff_toInt_lt, ← Int64.toInt_inj, hi, hj]
          split
          · rfl
          · split <;> rfl
    · cases h
  · split at h
    · cases h
      match st, hl with
      | v :: st', ⟨hv, h3⟩ =>
        have hc := pv_cat1 hv (fun q => by cases q)
        refine ⟨v :: v :: st', ?_, hv, hv, h3⟩
        rw [show o_un 5 = rx_dup from rfl]
        simp [rx_dup, hc]
    · cases h
      match st, hl with
      | v :: st', ⟨hv, h3⟩ =>
        have hc := pv_cat1 hv (fun q => by cases q)
        refine ⟨v :: v :: st', ?_, hv, hv, h3⟩
        rw [show o_un 5 = rx_dup from rfl]
        simp [rx_dup, hc]
    · cases h
  · split at h
    · cases h
      match st, hl with
      | v :: w :: st', ⟨hv, hw, h3⟩ =>
        have hc := pv_cat1 hv (fun q => by cases q)
        have hc2 := pv_cat1 hw (fun q => by cases q)
        refine ⟨v :: w :: v :: w :: st', ?_, hv, hw, hv, hw, h3⟩
        rw [show o_un 6 = rx_dup2 from rfl]
        simp [rx_dup2, hc, hc2]
    · cases h
      match st, hl with
      | v :: w :: st', ⟨hv, hw, h3⟩ =>
        have hc := pv_cat1 hv (fun q => by cases q)
        have hc2 := pv_cat1 hw (fun q => by cases q)
        refine ⟨v :: w :: v :: w :: st', ?_, hv, hw, hv, hw, h3⟩
        rw [show o_un 6 = rx_dup2 from rfl]
        simp [rx_dup2, hc, hc2]
    · cases h
  · next n0 n1 n2 n3 n4 n5 n6 =>
    have e : o_un a = rx_pop := by
      match a, n0, n1, n2, n3, n4, n5, n6 with
      | 0, n0, _, _, _, _, _, _ => exact absurd rfl n0
      | 1, _, n1, _, _, _, _, _ => exact absurd rfl n1
      | 2, _, _, n2, _, _, _, _ => exact absurd rfl n2
      | 3, _, _, _, n3, _, _, _ => exact absurd rfl n3
      | 4, _, _, _, _, n4, _, _ => exact absurd rfl n4
      | 5, _, _, _, _, _, n5, _ => exact absurd rfl n5
      | 6, _, _, _, _, _, _, n6 => exact absurd rfl n6
      | n + 7, _, _, _, _, _, _, _ => rfl
    rw [e]
    split at h
    · cases h
      match st, hl with
      | v :: st', ⟨hv, h3⟩ =>
        have hc := pv_cat1 hv (fun q => by cases q)
        refine ⟨st', ?_, h3⟩
        simp [rx_pop, hc]
    · cases h
      match st, hl with
      | v :: st', ⟨hv, h3⟩ =>
        have hc := pv_cat1 hv (fun q => by cases q)
        refine ⟨st', ?_, h3⟩
        simp [rx_pop, hc]
    · cases h
theorem i32_0 : (0 : Int32).toInt = 0 := rfl
theorem w32_in {x : Int} (h1 : -2147483648 ≤ x) (h2 : x ≤ 2147483647) : w32 x = x := by unfold w32; omega
theorem w64_in {x : Int} (h1 : -9223372036854775808 ≤ x) (h2 : x ≤ 9223372036854775807) : w64 x = x := by unfold w64; omega
/-- calls are answered alike -/
def pC (sh : pm_Sh) (rec : pm_C) (rec' : rx_C) : Prop := ∀ (mid : Nat) (a : List pm_V) (A : pm_A) (r : pm_R), rec mid a A = some r → ∀ (ca : List Value) (ws : rx_W), pl a ca → pw sh A ws → ∃ r' : rx_R, rec' mid ca ws = some r' ∧ po r.1 r'.1 ∧ pw sh r.2 r'.2
theorem sim_pure {sh : pm_Sh} {A : pm_A} {L K : List pm_V} {lv : rx_L} {st st' : List Value} {ws : rx_W} {rec : rx_C} {nx : Nat} {f : List Value → Option (List Value)} (hf : f st = some st') (hL : plv L lv) (hK : pl K st') (hw : pw sh A ws) : ∃ o', rx_pure f nx rec (lv, st, ws, 0, 0) = some o' ∧ pO sh (.inl (nx, (L, K, A))) o' :=
  ⟨.inl (nx, (lv, st', ws, 0, 0)), by unfold rx_pure; simp only [hf], rfl, hL, hK, hw, rfl, rfl⟩
theorem sim_br {sh : pm_Sh} {A : pm_A} {L K : List pm_V} {lv : rx_L} {st st' : List Value} {ws : rx_W} {rec : rx_C} {nx tg pc : Nat} {b : Bool} {f : List Value → Option (Bool × List Value)} (hf : f st = some (b, st')) (hp : pc = cond b tg nx) (hL : plv L lv) (hK : pl K st') (hw : pw sh A ws) : ∃ o', rx_br f tg nx rec (lv, st, ws, 0, 0) = some o' ∧ pO sh (.inl (pc, (L, K, A))) o' :=
  ⟨.inl (cond b tg nx, (lv, st', ws, 0, 0)), by unfold rx_br; simp only [hf], hp, hL, hK, hw, rfl, rfl⟩
theorem pl_recv {sh : pm_Sh} {A : pm_A} {ws : rx_W} (hw : pw sh A ws) {ci : Nat} {a : List pm_V} {ca : List Value} (h : pl a ca) (hr : pm_recv sh ci a = true) : rx_recv ci ws ca = true := by
  unfold pm_recv at hr
  split at hr
  · next r t =>
    simp only [decide_eq_true_eq] at hr
    match ca, h with
    | v :: cs, ⟨Or.inl ⟨e, _⟩, _⟩ => exact absurd e (by simp only; omega)
    | v :: cs, ⟨Or.inr ⟨e, e2⟩, _⟩ =>
      simp only at e e2
      subst e2
      obtain ⟨fs, g1, _⟩ := pw_obj hw hr.1 hr.2.1
      unfold rx_recv
      simp only [g1, hr.2.2]
      simp
  · cases hr
