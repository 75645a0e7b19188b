/-! one step -/
theorem pv_kd {a : Nat} {v : pm_V} {v0 : Value} (hv : pv v v0) (hk : pm_okt a v = true) (h3 : a < 3) : pv (pm_kd a, v.2) v0 := by
  obtain ⟨t, x⟩ := v
  match a, hk, h3 with
  | 0, h8, _ => cases Nat.eq_of_beq_eq_true h8; exact hv
  | 1, h8, _ => cases Nat.eq_of_beq_eq_true h8; exact hv
  | 2, h8, _ =>
    simp only [pm_okt, Bool.and_eq_true] at h8
    cases Nat.eq_of_beq_eq_true h8.1; exact hv
  | n + 3, _, h9 => exact absurd h9 (by omega)
theorem pv_kr {a : Nat} {b : Int} (h0 : 0 ≤ b) (h3 : 2 < a) : pv (pm_kd a, b) (.ref b.toNat) := by
  match a, h3 with
  | 0, h9 => exact absurd h9 (by omega)
  | 1, h9 => exact absurd h9 (by omega)
  | 2, h9 => exact absurd h9 (by omega)
  | n + 3, _ => exact Or.inr ⟨h0, rfl⟩
theorem o_m2_ok (a : Nat) {i j : Int32} {x y : Int} (hi : i.toInt = x) (hj : j.toInt = y) : (o_m2 a i j).toInt = if a = 0 then (if x < y then y else x) else (if y < x then y else x) := by
  match a with
  | 0 =>
    rw [show o_m2 0 = rx_max from rfl]
    unfold rx_max
    simp only [Int32.lt_iff_toInt_lt, hi, hj]
    simp only [if_true]
    split <;> assumption
  | n + 1 =>
    rw [show o_m2 (n + 1) = rx_min from rfl]
    unfold rx_min
    rw [if_neg (show ¬ n + 1 = 0 by omega)]
    simp only [Int32.lt_iff_toInt_lt, hi, hj]
    split <;> assumption
theorem sim_step {sh : pm_Sh} {rec : pm_C} {rec' : rx_C} (hC : pC sh rec rec') {o : pm_Op} {L K : List pm_V} {A : pm_A} {out : pm_O} {lv : rx_L} {st : List Value} {ws : rx_W} (h : pm_step sh rec o (L, K, A) = some out) (hL : plv L lv) (hK : pl K st) (hw : pw sh A ws) : ∃ out', sem o rec' (lv, st, ws, 0, 0) = some out' ∧ pO sh out out' := by
  obtain ⟨nx, code, a, b, c, z, ts⟩ := o
  match code, h with
  | 0, h =>
    rw [show sem (nx, 0, a, b, c, z, ts) = rx_pure (rx_push (.int (Int32.ofInt z))) nx from rfl]
    cases h
    exact sim_pure (rec := rec') (f := rx_push (.int (Int32.ofInt z))) rfl hL ⟨⟨_, rfl, by show _ = w32 z; rw [Int32.toInt_ofInt, w32_eq]⟩, hK⟩ hw
  | 1, h =>
    rw [show sem (nx, 1, a, b, c, z, ts) = rx_pure (rx_push (.long (Int64.ofNat a))) nx from rfl]
    cases h
    exact sim_pure (rec := rec') (f := rx_push (.long (Int64.ofNat a))) rfl hL ⟨⟨_, rfl, by show _ = w64 a; rw [Int64.toInt_ofNat', w64_eq]⟩, hK⟩ hw
  | 2, h =>
    rw [show sem (nx, 2, a, b, c, z, ts) = rx_pure (rx_push .null) nx from rfl]
    cases h
    exact sim_pure (rec := rec') (f := rx_push .null) rfl hL ⟨Or.inl ⟨rfl, rfl⟩, hK⟩ hw
  | 3, h =>
    rw [show sem (nx, 3, a, b, c, z, ts) = rx_ld a b nx from rfl]
    simp only [pm_step] at h
    split at h
    · next v hv =>
      obtain ⟨hc, rfl⟩ := k_if_s h
      rw [decide_eq_true_eq] at hc
      obtain ⟨w, g1, g2⟩ := hL b v hv (by omega)
      have g3 := pv_is g2
      rw [hc.1] at g3
      refine ⟨.inl (nx, (lv, w :: st, ws, 0, 0)), ?_, rfl, hL, ⟨g2, hK⟩, hw, rfl, rfl⟩
      skip
      unfold rx_ld
      simp only [g1, g3, cond_true]
    · cases h
  | 4, h =>
    rw [show sem (nx, 4, a, b, c, z, ts) = rx_st a b nx c from rfl]
    obtain ⟨v, K', rfl, h⟩ := k_v_s h
    obtain ⟨hc, rfl⟩ := k_if_s h
    rw [decide_eq_true_eq] at hc
    simp only at hc
    match st, hK with
    | w :: st', ⟨g2, hK'⟩ =>
      have g3 := pv_is g2
      rw [hc.1] at g3
      refine ⟨.inl (nx, ((b, w) :: cond (Nat.beq a 1) (rx_put2 lv b) (rx_put1 lv b), st', ws, 0, 0)), ?_, rfl, ?_, hK', hw, rfl, rfl⟩
      · skip
        unfold rx_st
        have g4 : Nat.ble (b + rx_cat w) c = true := Nat.ble_eq_true_of_le (by rw [pv_cat g2]; exact hc.2.2)
        simp only [g3, g4, Bool.and_self, cond_true]
      · by_cases e : a = 1
        · subst e
          rw [if_pos rfl]
          exact plv_put2 hL g2
        · rw [if_neg e]
          have : Nat.beq a 1 = false := by rw [← Bool.not_eq_true]; exact fun q => e (Nat.eq_of_beq_eq_true q)
          rw [this]
          exact plv_put1 hL g2
  | 5, h =>
    rw [show sem (nx, 5, a, b, c, z, ts) = rx_inc a (Int32.ofInt z) nx c from rfl]
    simp only [pm_step] at h
    split at h
    · next x hv =>
      obtain ⟨hc, rfl⟩ := k_if_s h
      rw [decide_eq_true_eq] at hc
      obtain ⟨w, g1, i, e, hi⟩ := hL a (0, x) hv (Nat.lt_of_sub_eq_succ rfl)
      subst e
      simp only at hi
      refine ⟨.inl (nx, ((a, .int (i + Int32.ofInt z)) :: rx_put1 lv a, st, ws, 0, 0)), ?_, rfl, plv_put1 hL ⟨_, rfl, ?_⟩, hK, hw, rfl, rfl⟩
      · skip
        unfold rx_inc
        have g4 : Nat.ble (a + 1) c = true := Nat.ble_eq_true_of_le hc
        simp only [g1, rx_fI_eq, g4, cond_true]
      · show _ = w32 (x + z)
        rw [Int32.toInt_add, Int32.toInt_ofInt, w32_eq, hi, Int.add_bmod_bmod]
    · cases h
  | 6, h =>
    rw [show sem (nx, 6, a, b, c, z, ts) = rx_pure (rx_bi (o_bi a)) nx from rfl]
    obtain ⟨y, x, K', rfl, h⟩ := k_ii_s h
    cases h
    match st, hK with
    | v1 :: v2 :: st', ⟨⟨j, e1, hj⟩, ⟨i, e2, hi⟩, hK'⟩ =>
      subst e1; subst e2
      exact sim_pure (rec := rec') (f := rx_bi (o_bi a)) (st' := .int (o_bi a i j) :: st') (by simp only [rx_bi, rx_fI_eq]) hL ⟨⟨_, rfl, pp_bi_ok a hi hj⟩, hK'⟩ hw
  | 7, h =>
    rw [show sem (nx, 7, a, b, c, z, ts) = rx_pure (rx_bid (o_bid a)) nx from rfl]
    obtain ⟨y, x, K', rfl, h⟩ := k_ii_s h
    split at h
    · cases h
    · next hy =>
      cases h
      match st, hK with
      | v1 :: v2 :: st', ⟨⟨j, e1, hj⟩, ⟨i, e2, hi⟩, hK'⟩ =>
        subst e1; subst e2
        simp only at hi hj
        have hj0 : ¬ j = 0 := fun q => hy (by rw [← hj, q]; rfl)
        exact sim_pure (rec := rec') (f := rx_bid (o_bid a)) (st' := .int (o_bid a i j) :: st') (by simp only [rx_bid, rx_fI_eq, hj0, if_false]) hL ⟨⟨_, rfl, by show _ = (o_bid a (Int32.ofInt x) (Int32.ofInt y)).toInt; rw [i32_of hi, i32_of hj]⟩, hK'⟩ hw
  | 8, h =>
    rw [show sem (nx, 8, a, b, c, z, ts) = rx_pure (rx_lb (o_lb a)) nx from rfl]
    obtain ⟨y, x, K', rfl, h⟩ := k_ll_s h
    cases h
    match st, hK with
    | v1 :: v2 :: st', ⟨⟨j, e1, hj⟩, ⟨i, e2, hi⟩, hK'⟩ =>
      subst e1; subst e2
      exact sim_pure (rec := rec') (f := rx_lb (o_lb a)) (st' := .long (o_lb a i j) :: st') (by simp only [rx_lb, rx_fL_eq]) hL ⟨⟨_, rfl, pp_lb_ok a hi hj⟩, hK'⟩ hw
  | 9, h =>
    rw [show sem (nx, 9, a, b, c, z, ts) = rx_pure (rx_lbd (o_lbd a)) nx from rfl]
    obtain ⟨y, x, K', rfl, h⟩ := k_ll_s h
    split at h
    · cases h
    · next hy =>
      cases h
      match st, hK with
      | v1 :: v2 :: st', ⟨⟨j, e1, hj⟩, ⟨i, e2, hi⟩, hK'⟩ =>
        subst e1; subst e2
        simp only at hi hj
        have hj0 : ¬ j = 0 := fun q => hy (by rw [← hj, q]; rfl)
        exact sim_pure (rec := rec') (f := rx_lbd (o_lbd a)) (st' := .long (o_lbd a i j) :: st') (by simp only [rx_lbd, rx_fL_eq, hj0, if_false]) hL ⟨⟨_, rfl, by show _ = (o_lbd a (Int64.ofInt x) (Int64.ofInt y)).toInt; rw [i64_of hi, i64_of hj]⟩, hK'⟩ hw
  | 10, h =>
    rw [show sem (nx, 10, a, b, c, z, ts) = rx_pure (rx_ls (o_ls a)) nx from rfl]
    obtain ⟨y, x, K', rfl, h⟩ := k_il_s h
    cases h
    match st, hK with
    | v1 :: v2 :: st', ⟨⟨j, e1, hj⟩, ⟨i, e2, hi⟩, hK'⟩ =>
      subst e1; subst e2
      simp only at hi hj
      exact sim_pure (rec := rec') (f := rx_ls (o_ls a)) (st' := .long (o_ls a i j) :: st') (by simp only [rx_ls, rx_fL_eq]) hL ⟨⟨_, rfl, by show _ = (o_ls a (Int64.ofInt x) (Int32.ofInt y)).toInt; rw [i64_of hi, i32_of hj]⟩, hK'⟩ hw
  | 11, h =>
    rw [show sem (nx, 11, a, b, c, z, ts) = rx_pure (o_un a) nx from rfl]
    simp only [pm_step] at h
    split at h
    · next K' hk =>
      cases h
      obtain ⟨st', g1, g2⟩ := pp_un_ok a hk hK
      exact sim_pure (rec := rec') (f := o_un a) g1 hL g2 hw
    · cases h
  | 12, h =>
    rw [show sem (nx, 12, a, b, c, z, ts) = rx_br rx_goto b nx from rfl]
    cases h
    exact sim_br (rec := rec') (f := rx_goto) (b := true) rfl rfl hL hK hw
  | 13, h =>
    rw [show sem (nx, 13, a, b, c, z, ts) = rx_br rx_nul b nx from rfl]
    obtain ⟨x, K', rfl, h⟩ := k_r_s h
    cases h
    match st, hK with
    | v :: st', ⟨Or.inl ⟨e, e2⟩, hK'⟩ =>
      simp only at e
      subst e2; subst e
      exact sim_br (rec := rec') (f := rx_nul) (b := true) rfl rfl hL hK' hw
    | v :: st', ⟨Or.inr ⟨e, e2⟩, hK'⟩ =>
      simp only at e
      subst e2
      exact sim_br (rec := rec') (f := rx_nul) (b := false) rfl (by rw [if_neg (by omega)]; rfl) hL hK' hw
  | 14, h =>
    rw [show sem (nx, 14, a, b, c, z, ts) = rx_br (rx_cmp Yo a) b nx from rfl]
    obtain ⟨y, x, K', rfl, h⟩ := k_ii_s h
    cases h
    match st, hK with
    | v1 :: v2 :: st', ⟨⟨j, e1, hj⟩, ⟨i, e2, hi⟩, hK'⟩ =>
      subst e1; subst e2
      exact sim_br (rec := rec') (f := rx_cmp Yo a) (b := pp_tst a x y) (st' := st') (by simp only [rx_cmp, pp_tst_ok a hi hj]) rfl hL hK' hw
  | 15, h =>
    rw [show sem (nx, 15, a, b, c, z, ts) = rx_br (rx_cm0 Yo a) b nx from rfl]
    obtain ⟨x, K', rfl, h⟩ := k_i_s h
    cases h
    match st, hK with
    | v2 :: st', ⟨⟨i, e2, hi⟩, hK'⟩ =>
      subst e2
      exact sim_br (rec := rec') (f := rx_cm0 Yo a) (b := pp_tst a x 0) (st' := st') (by simp only [rx_cm0, pp_tst_ok a hi i32_0]) rfl hL hK' hw
  | 16, h =>
    rw [show sem (nx, 16, a, b, c, z, ts) = rx_sw Yo z (z + ts.length - 1) ts b from rfl]
    obtain ⟨x, K', rfl, h⟩ := k_i_s h
    match st, hK with
    | v2 :: st', ⟨⟨i, e2, hi⟩, hK'⟩ =>
      subst e2
      simp only at hi
      split at h
      · next hc =>
        cases h
        refine ⟨.inl (b, (lv, st', ws, 0, 0)), ?_, rfl, hL, hK', hw, rfl, rfl⟩
        skip
        unfold rx_sw
        simp only [hi, if_pos hc]
      · next hc =>
        split at h
        · next t ht =>
          cases h
          refine ⟨.inl (t, (lv, st', ws, 0, 0)), ?_, rfl, hL, hK', hw, rfl, rfl⟩
          skip
          unfold rx_sw
          simp only [hi, if_neg hc, ht]
        · cases h
  | 17, h =>
    rw [show sem (nx, 17, a, b, c, z, ts) = rx_get a b nx from rfl]
    obtain ⟨r, K', rfl, h⟩ := k_r_s h
    obtain ⟨hc, rfl⟩ := k_if_s h
    rw [decide_eq_true_eq] at hc
    simp only at hc
    match st, hK with
    | v :: st', ⟨Or.inl ⟨e, e2⟩, hK'⟩ => exact absurd e (by simp only; omega)
    | v :: st', ⟨Or.inr ⟨e, e2⟩, hK'⟩ =>
      simp only at e e2
      subst e2
      obtain ⟨fs, g1, g2, g3⟩ := pw_obj hw hc.1 hc.2.1
      rw [hc.2.2.1] at g1 g3
      have hb : b < fs.length := by omega
      have hf : fs[b]? = some fs[b] := List.getElem?_eq_getElem hb
      refine ⟨.inl (nx, (lv, fs[b] :: st', ws, 0, 0)), ?_, rfl, hL, ⟨g3 b _ hf, hK'⟩, hw, rfl, rfl⟩
      skip
      unfold rx_get
      simp only [g1, hf]
      simp
  | 18, h =>
    rw [show sem (nx, 18, a, b, c, z, ts) = rx_putf a b (fty c) nx from rfl]
    obtain ⟨v, r, K', rfl, h⟩ := k_vr_s h
    obtain ⟨hc, rfl⟩ := k_if_s h
    rw [decide_eq_true_eq] at hc
    simp only at hc
    match st, hK with
    | v1 :: v2 :: st', ⟨_, Or.inl ⟨e, e2⟩, hK'⟩ => exact absurd e (by simp only; omega)
    | v1 :: v2 :: st', ⟨hv, Or.inr ⟨e, e2⟩, hK'⟩ =>
      simp only at e e2
      subst e2
      obtain ⟨fs, g1, g2, g3⟩ := pw_obj hw hc.1 hc.2.1
      have hb : b < fs.length := by omega
      have hp := pw_put hw hc.1 hc.2.1 g1 (k := b) (x := v.2) (v := v1) (by rw [hc.2.2.1, ← hc.2.2.2.2.2]; exact hv)
      rw [hc.2.2.1] at g1 hp
      refine ⟨.inl (nx, (lv, st', ws.set r.toNat (.inl (a, fs.set b v1)), 0, 0)), ?_, rfl, hL, hK', hp, rfl, rfl⟩
      skip
      unfold rx_putf
      have g4 := pv_okt hv hc.2.2.2.2.1
      have g5 : Nat.ble (b + 1) fs.length = true := Nat.ble_eq_true_of_le hb
      simp only [g1, g4, g5]
      simp
  | 19, h =>
    rw [show sem (nx, 19, a, b, c, z, ts) = rx_ald a (o_kd a) nx from rfl]
    obtain ⟨i, r, K', rfl, h⟩ := k_ir_s h
    obtain ⟨hc, rfl⟩ := k_if_s h
    rw [decide_eq_true_eq] at hc
    simp only at hc
    match st, hK with
    | v1 :: v2 :: st', ⟨_, Or.inl ⟨e, e2⟩, hK'⟩ => exact absurd e (by simp only; omega)
    | v1 :: v2 :: st', ⟨⟨ii, e1, hi⟩, Or.inr ⟨e, e2⟩, hK'⟩ =>
      simp only at e e2 hi
      subst e2; subst e1
      obtain ⟨m, u, d, g1, g2, g3⟩ := pw_arr hw hc.1 hc.2.1
      rw [hc.2.2.1] at g2 g3
      have g4 := g3 i.toNat (by omega)
      rw [show ((i.toNat : Nat) : Int) = i from Int.toNat_of_nonneg hc.2.2.2.1] at g4
      refine ⟨.inl (nx, (lv, rx_look u d i.toNat :: st', ws, 0, 0)), ?_, rfl, hL, ⟨g4, hK'⟩, hw, rfl, rfl⟩
      skip
      unfold rx_ald
      simp only [g2, Nat.beq_refl, cond_true, rx_ix_of hi hc.2.2.2.1 (show i < m by omega)]
      have ek : o_kd a = pm_kd a := by unfold o_kd pm_kd; rfl
      rw [ek]
      generalize rx_look u d i.toNat = w at g4 ⊢
      generalize pm_kd a = t at g4 ⊢
      match t, g4 with
      | 0, ⟨j, e, _⟩ => subst e; rfl
      | 1, ⟨j, e, _⟩ => subst e; rfl
      | 2, Or.inl ⟨_, e⟩ => subst e; rfl
      | 2, Or.inr ⟨_, e⟩ => subst e; rfl
      | n + 3, g => exact g.elim
  | 20, h =>
    rw [show sem (nx, 20, a, b, c, z, ts) = rx_ast Yo a (fty a) nx from rfl]
    obtain ⟨v, i, r, K', rfl, h⟩ := k_vir_s h
    obtain ⟨hc, rfl⟩ := k_if_s h
    rw [decide_eq_true_eq] at hc
    simp only at hc
    match st, hK with
    | v0 :: v1 :: v2 :: st', ⟨_, _, Or.inl ⟨e, e2⟩, hK'⟩ => exact absurd e (by simp only; omega)
    | v0 :: v1 :: v2 :: st', ⟨hv, ⟨ii, e1, hi⟩, Or.inr ⟨e, e2⟩, hK'⟩ =>
      simp only at e e2 hi
      subst e2; subst e1
      obtain ⟨m, u, d, g1, g2, g3⟩ := pw_arr hw hc.1 hc.2.1
      have hkd : pv (pm_kd (sh r).2.1, v.2) v0 := by rw [hc.2.2.1]; exact pv_kd hv hc.2.2.2.2.2.2 hc.2.2.2.2.2.1
      have hp := pw_upd hw hc.1 hc.2.1 hc.2.2.2.1 g2 hkd
      rw [hc.2.2.1] at g2 hp
      refine ⟨.inl (nx, (lv, st', ws.set r.toNat (.inr (a, m, (i.toNat, v0) :: u, d)), 0, 0)), ?_, rfl, hL, hK', hp, rfl, rfl⟩
      skip
      unfold rx_ast
      have g4 := pv_okt hv hc.2.2.2.2.2.2
      simp only [g2, Nat.beq_refl, g4, Bool.and_self, cond_true, rx_ix_of hi hc.2.2.2.1 (show i < m by omega)]
  | 21, h =>
    rw [show sem (nx, 21, a, b, c, z, ts) = rx_asq a b nx from rfl]
    obtain ⟨bb, i, r, K', rfl, h⟩ := k_rir_s h
    obtain ⟨hc, rfl⟩ := k_if_s h
    rw [decide_eq_true_eq] at hc
    simp only at hc
    match st, hK with
    | v0 :: v1 :: v2 :: st', ⟨_, _, Or.inl ⟨e, e2⟩, hK'⟩ => exact absurd e (by simp only; omega)
    | v0 :: v1 :: v2 :: st', ⟨Or.inl ⟨e, e2⟩, _, Or.inr _, hK'⟩ => exact absurd e (by simp only; omega)
    | v0 :: v1 :: v2 :: st', ⟨Or.inr ⟨e3, e4⟩, ⟨ii, e1, hi⟩, Or.inr ⟨e, e2⟩, hK'⟩ =>
      simp only at e e2 hi e3 e4
      subst e2; subst e1; subst e4
      obtain ⟨m, u, d, g1, g2, g3⟩ := pw_arr hw hc.1 hc.2.1
      obtain ⟨fs, k1, _⟩ := pw_obj hw hc.2.2.2.2.2.2.1 hc.2.2.2.2.2.2.2.1
      have hkd : pv (pm_kd (sh r).2.1, bb) (.ref bb.toNat) := by rw [hc.2.2.1]; exact pv_kr e3 hc.2.2.2.2.2.1
      have hp := pw_upd hw hc.1 hc.2.1 hc.2.2.2.1 g2 hkd
      rw [hc.2.2.1] at g2 hp
      rw [hc.2.2.2.2.2.2.2.2] at k1
      refine ⟨.inl (nx, (lv, st', ws.set r.toNat (.inr (a, m, (i.toNat, .ref bb.toNat) :: u, d)), 0, 0)), ?_, rfl, hL, hK', hp, rfl, rfl⟩
      skip
      unfold rx_asq
      simp only [g2, k1, Nat.beq_refl, Bool.and_self, cond_true, rx_ix_of hi hc.2.2.2.1 (show i < m by omega)]
  | 22, h =>
    rw [show sem (nx, 22, a, b, c, z, ts) = rx_aln a nx from rfl]
    obtain ⟨r, K', rfl, h⟩ := k_r_s h
    obtain ⟨hc, rfl⟩ := k_if_s h
    rw [decide_eq_true_eq] at hc
    simp only at hc
    match st, hK with
    | v2 :: st', ⟨Or.inl ⟨e, e2⟩, hK'⟩ => exact absurd e (by simp only; omega)
    | v2 :: st', ⟨Or.inr ⟨e, e2⟩, hK'⟩ =>
      simp only at e e2
      subst e2
      obtain ⟨m, u, d, g1, g2, g3⟩ := pw_arr hw hc.1 hc.2.1
      rw [hc.2.2.1] at g2
      refine ⟨.inl (nx, (lv, .int (Int32.ofNat m) :: st', ws, 0, 0)), ?_, rfl, hL, ⟨⟨_, rfl, ?_⟩, hK'⟩, hw, rfl, rfl⟩
      · skip
        unfold rx_aln
        simp only [g2, Nat.beq_refl, cond_true]
      · show _ = (sh r).2.2
        rw [Int32.toInt_ofNat', ← g1, ← w32_eq, w32_in (by omega) (by omega)]
  | 23, h =>
    rw [show sem (nx, 23, a, b, c, z, ts) = rx_cl a b c (decide (z = 1)) 0 0 0 0 nx from rfl]
    simp only [pm_step] at h
    split at h
    · next hc =>
      split at h
      · cases h
      · next v A' hr =>
        cases h
        obtain ⟨t1, t2⟩ := pl_take b hK
        obtain ⟨⟨v', ws'⟩, g1, g2, g3⟩ := hC _ _ _ _ hr _ _ (pl_rev t1) hw
        refine ⟨.inl (nx, (lv, v'.toList ++ st.drop b, ws', 0, 0)), ?_, rfl, hL, ?_, g3, rfl, rfl⟩
        · skip
          unfold rx_cl
          have q1 : Nat.beq (st.take b).length b = true := by rw [← pl_len t1, hc.1]; exact Nat.beq_refl b
          have q2 : Nat.ble ((st.drop b).map rx_cat).sum 8 = true := Nat.ble_eq_true_of_le (by rw [pl_cat t2]; exact hc.2.1)
          have q3 : (!decide (z = 1) || rx_recv c ws (st.take b).reverse) = true := by
            have := hc.2.2
            rw [Bool.or_eq_true] at this ⊢
            rcases this with q | q
            · exact Or.inl q
            · exact Or.inr (pl_recv hw (pl_rev t1) q)
          simp only [q1, q2, q3, g1]
          rfl
        · match v, v', g2 with
          | none, none, _ => exact t2
          | some p, some w, g2 => exact ⟨g2, t2⟩
    · cases h
  | 24, h =>
    rw [show sem (nx, 24, a, b, c, z, ts) = rx_ret0 0 0 from rfl]
    simp only [pm_step] at h
    split at h
    · cases h
      match st, hK with
      | [], _ => exact ⟨.inr (none, ws), rfl, trivial, hw⟩
    · cases h
  | 25, h =>
    rw [show sem (nx, 25, a, b, c, z, ts) = rx_retv (fty a) 0 0 from rfl]
    simp only [pm_step] at h
    split at h
    · next v =>
      split at h
      · next hc =>
        cases h
        match st, hK with
        | [w], ⟨hv, _⟩ =>
          refine ⟨.inr (some w, ws), ?_, hv, hw⟩
          skip
          unfold rx_retv
          simp only [pv_okt hv hc]
          rfl
      · cases h
    · cases h
  | 26, h =>
    rw [show sem (nx, 26, a, b, c, z, ts) = rx_con (.int (Int32.ofInt z)) nx from rfl]
    cases h
    exact ⟨.inl (nx, (lv, .int (Int32.ofInt z) :: st, ws, 0, 0)), rfl, rfl, hL, ⟨⟨_, rfl, by show _ = w32 z; rw [Int32.toInt_ofInt, w32_eq]⟩, hK⟩, hw, rfl, rfl⟩
  | 27, h =>
    rw [show sem (nx, 27, a, b, c, z, ts) = rx_con (.long (Int64.ofInt z)) nx from rfl]
    cases h
    exact ⟨.inl (nx, (lv, .long (Int64.ofInt z) :: st, ws, 0, 0)), rfl, rfl, hL, ⟨⟨_, rfl, by show _ = w64 z; rw [Int64.toInt_ofInt, w64_eq]⟩, hK⟩, hw, rfl, rfl⟩
  | 28, h =>
    rw [show sem (nx, 28, a, b, c, z, ts) = rx_acp a c nx from rfl]
    obtain ⟨n, dp, bb, sp, aa, K', rfl, h⟩ := k_cp_s h
    obtain ⟨hc, rfl⟩ := k_if_s h
    rw [decide_eq_true_eq] at hc
    simp only at hc
    obtain ⟨c1, c2, c3, c4, c5, c6, c7, c8, c9, c10, c11, c12, c13⟩ := hc
    match st, hK with
    | v0 :: v1 :: v2 :: v3 :: v4 :: st', ⟨_, _, Or.inl ⟨e, e2⟩, _, _, hK'⟩ => exact absurd e (by simp only; omega)
    | v0 :: v1 :: v2 :: v3 :: v4 :: st', ⟨_, _, Or.inr _, _, Or.inl ⟨e, e2⟩, hK'⟩ => exact absurd e (by simp only; omega)
    | v0 :: v1 :: v2 :: v3 :: v4 :: st', ⟨⟨n', e5, hn⟩, ⟨dp', e6, hdp⟩, Or.inr ⟨e3, e4⟩, ⟨sp', e7, hsp⟩, Or.inr ⟨e, e2⟩, hK'⟩ =>
      simp only at e e2 e3 e4 hn hdp hsp
      subst e2; subst e4; subst e5; subst e6; subst e7
      obtain ⟨ma, ua, da, g1, g2, g3⟩ := pw_arr hw c1 c3
      obtain ⟨mb, ub, db, k1, k2, k3⟩ := pw_arr hw c2 c5
      obtain ⟨n1, n2⟩ := i32_ix hn c7
      obtain ⟨d1, d2⟩ := i32_ix hdp c8
      obtain ⟨s1, s2⟩ := i32_ix hsp c9
      have hp := pw_ast hw c2 c5 k2 (A' := pm_cpy A aa sp bb dp n) (u' := rx_cp ua da sp.toNat dp.toNat ub n.toNat) (fun k i hk => by unfold pm_cpy; rw [if_neg]; exact fun q => hk q.1) (fun j hj => by
        rw [rx_look_cp]
        by_cases hin : dp.toNat ≤ j ∧ j < dp.toNat + n.toNat
        · rw [if_pos hin]
          have : pm_cpy A aa sp bb dp n bb j = A aa ((sp.toNat + (j - dp.toNat) : Nat) : Int) := by
            unfold pm_cpy
            rw [if_pos ⟨rfl, by omega, by omega⟩]
            congr 1; omega
          rw [this, c6, ← c4]
          exact g3 _ (by omega)
        · rw [if_neg hin]
          have : pm_cpy A aa sp bb dp n bb j = A bb j := by unfold pm_cpy; rw [if_neg]; omega
          rw [this]; exact k3 j hj)
      rw [c4] at g2
      rw [c6] at k2 hp
      refine ⟨.inl (nx, (lv, st', ws.set bb.toNat (.inr (a, mb, rx_cp ua da sp.toNat dp.toNat ub n.toNat, db)), 0, 0)), ?_, rfl, hL, hK', hp, rfl, rfl⟩
      skip
      unfold rx_acp
      have q6 : Nat.ble (sp.toNat + n.toNat) ma = true := Nat.ble_eq_true_of_le (by omega)
      have q7 : Nat.ble (dp.toNat + n.toNat) mb = true := Nat.ble_eq_true_of_le (by omega)
      have q8 : Nat.ble ((st'.map rx_cat).sum + 18) c = true := Nat.ble_eq_true_of_le (by rw [pl_cat hK']; exact c12)
      simp only [g2, k2, Nat.beq_refl, decide_eq_false n1, decide_eq_false d1, decide_eq_false s1, n2, d2, s2, q6, q7, q8]
      simp
  | 29, h =>
    rw [show sem (nx, 29, a, b, c, z, ts) = rx_m2 (o_m2 a) 0 0 c nx from rfl]
    obtain ⟨y, x, K', rfl, h⟩ := k_ii_s h
    obtain ⟨hc, rfl⟩ := k_if_s h
    rw [decide_eq_true_eq] at hc
    simp only at hc
    match st, hK with
    | v1 :: v2 :: st', ⟨⟨j, e1, hj⟩, ⟨i, e2, hi⟩, hK'⟩ =>
      subst e1; subst e2
      simp only at hi hj
      refine ⟨.inl (nx, (lv, .int (o_m2 a i j) :: st', ws, 0, 0)), ?_, rfl, hL, ⟨⟨_, rfl, ?_⟩, hK'⟩, hw, rfl, rfl⟩
      · skip
        unfold rx_m2
        have q8 : Nat.ble ((st'.map rx_cat).sum + 13) c = true := Nat.ble_eq_true_of_le (by rw [pl_cat hK']; exact hc)
        simp only [q8, rx_fI_eq]
        rfl
      · exact o_m2_ok a hi hj
  | 30, h =>
    rw [show sem (nx, 30, a, b, c, z, ts) = rx_m1 rx_abs 0 0 c nx from rfl]
    obtain ⟨x, K', rfl, h⟩ := k_i_s h
    obtain ⟨hc, rfl⟩ := k_if_s h
    rw [decide_eq_true_eq] at hc
    simp only at hc
    match st, hK with
    | v2 :: st', ⟨⟨i, e2, hi⟩, hK'⟩ =>
      subst e2
      simp only at hi
      refine ⟨.inl (nx, (lv, .int (rx_abs i) :: st', ws, 0, 0)), ?_, rfl, hL, ⟨⟨_, rfl, ?_⟩, hK'⟩, hw, rfl, rfl⟩
      · skip
        unfold rx_m1
        have q8 : Nat.ble ((st'.map rx_cat).sum + 13) c = true := Nat.ble_eq_true_of_le (by rw [pl_cat hK']; exact hc)
        simp only [q8, rx_fI_eq]
        rfl
      · show (rx_abs i).toInt = if 0 ≤ x then x else w32 (0 - x)
        unfold rx_abs
        simp only [Int32.le_iff_toInt_le, hi, i32_0]
        split
        · exact hi
        · rw [Int32.toInt_sub, w32_eq, hi, i32_0]
  | n + 31, h => cases h
theorem pm_seek_map (pc : Nat) : ∀ P : pm_P, rx_seek pc (o_prog P) = o_prog (pm_seek pc P)
  | [] => rfl
  | q :: t => by
    show cond (Nat.beq q.1 pc) (o_prog (q :: t)) (rx_seek pc (o_prog t)) = o_prog (cond (Nat.beq q.1 pc) (q :: t) (pm_seek pc t))
    rw [pm_seek_map pc t]
    cases Nat.beq q.1 pc <;> rfl
theorem pm_next_map (pc : Nat) (full : pm_P) : ∀ P : pm_P, rx_next (o_prog full) pc (o_prog P) = o_prog (pm_next full pc P)
  | [] => pm_seek_map pc full
  | q :: t => by
    show cond (Nat.beq q.1 pc) (o_prog (q :: t)) (rx_seek pc (o_prog full)) = o_prog (cond (Nat.beq q.1 pc) (q :: t) (pm_seek pc full))
    rw [pm_seek_map pc full]
    cases Nat.beq q.1 pc <;> rfl
/-- the tables of methods fit -/
def pm_fit (PT : pm_T) (MT : Nat → rx_M) : Prop := ∀ mid : Nat, (PT mid).2 ≠ [] → (MT mid).2.2.2.2.2 = o_prog (PT mid).2 ∧ (MT mid).2.2.1 = (PT mid).1
theorem pm_run_nil (PT : pm_T) (sh : pm_Sh) (n : Nat) (full : pm_P) (s : pm_S) : pm_run PT sh n full [] s = none := by
  cases n <;> rfl
theorem sim_call {PT : pm_T} {MT : Nat → rx_M} (hf : pm_fit PT MT) {sh : pm_Sh} {n : Nat} (ih : ∀ (full suf : pm_P) (L K : List pm_V) (A : pm_A) (r : pm_R), pm_run PT sh n full suf (L, K, A) = some r → ∀ (lv : rx_L) (st : List Value) (ws : rx_W), plv L lv → pl K st → pw sh A ws → ∃ r' : rx_R, rx_run MT n (o_prog full) (o_prog suf) (lv, st, ws, 0, 0) = some r' ∧ po r.1 r'.1 ∧ pw sh r.2 r'.2) : pC sh (pm_call PT sh n) (rx_call MT n) := by
  intro mid a A r hr ca ws ha hw
  unfold pm_call at hr
  split at hr
  · next hs =>
    have hne : (PT mid).2 ≠ [] := fun e => by
      rw [e] at hr
      rw [show pm_seek 0 [] = [] from rfl, pm_run_nil] at hr
      cases hr
    obtain ⟨g1, g2⟩ := hf mid hne
    obtain ⟨r', h1, h2⟩ := ih _ _ _ _ _ _ hr (rx_args 0 ca) [] ws (plv_args ha) trivial hw
    refine ⟨r', ?_, h2⟩
    unfold rx_call
    rw [g1, g2, pm_seek_map]
    have : Nat.ble (ca.map rx_cat).sum (PT mid).1 = true := Nat.ble_eq_true_of_le (by rw [pl_cat ha]; exact hs)
    rw [this]
    exact h1
  · cases hr
theorem sim_run {PT : pm_T} {MT : Nat → rx_M} (hf : pm_fit PT MT) {sh : pm_Sh} : ∀ (n : Nat) (full suf : pm_P) (L K : List pm_V) (A : pm_A) (r : pm_R), pm_run PT sh n full suf (L, K, A) = some r → ∀ (lv : rx_L) (st : List Value) (ws : rx_W), plv L lv → pl K st → pw sh A ws → ∃ r' : rx_R, rx_run MT n (o_prog full) (o_prog suf) (lv, st, ws, 0, 0) = some r' ∧ po r.1 r'.1 ∧ pw sh r.2 r'.2
  | 0, full, suf, L, K, A, r, h => by cases h
  | n + 1, full, [], L, K, A, r, h => by cases h
  | n + 1, full, q :: rest, L, K, A, r, h => by
    intro lv st ws hL hK hw
    have ih := sim_run hf (sh := sh) n
    have hC := sim_call hf ih
    rw [pm_run_s] at h
    have es : rx_run MT (n + 1) (o_prog full) (o_prog (q :: rest)) (lv, st, ws, 0, 0) = match sem q.2 (rx_call MT n) (lv, st, ws, 0, 0) with
        | none => none
        | some (.inr r) => some r
        | some (.inl (pc, st')) => rx_run MT n (o_prog full) (rx_next (o_prog full) pc (o_prog rest)) st' := rfl
    rw [es]
    cases ho : pm_step sh (pm_call PT sh n) q.2 (L, K, A) with
    | none => rw [ho] at h; cases h
    | some o =>
      rw [ho] at h
      obtain ⟨o', g1, g2⟩ := sim_step hC ho hL hK hw
      rw [g1]
      match o, o', h, g2 with
      | .inr r0, .inr r', h, g2 =>
        cases h
        exact ⟨r', rfl, g2⟩
      | .inl (pc, s'), .inl (pc', lv', st', ws', c0, s0), h, g2 =>
        obtain ⟨e1, k1, k2, k3, e2, e3⟩ := g2
        subst e1; subst e2; subst e3
        obtain ⟨L', K', A'⟩ := s'
        simp only at h k1 k2 k3 ⊢
        rw [pm_next_map]
        exact ih _ _ _ _ _ _ h _ _ _ k1 k2 k3
      | .inl _, .inr _, _, g2 => exact g2.elim
      | .inr _, .inl _, _, g2 => exact g2.elim
/-- what a run of the plain machine says of the real one -/
theorem sim_all {PT : pm_T} {MT : Nat → rx_M} (hf : pm_fit PT MT) {sh : pm_Sh} (n : Nat) : pC sh (pm_call PT sh n) (rx_call MT n) := sim_call hf (sim_run hf n)
