theorem wN1 {PT : pm_T} {sh : pm_Sh} {o : pm_Op} {s s' : pm_S} {pc' : Nat} {k : pm_J} {z : pm_R → Prop} (h : pm_step sh (pm_call PT sh 0) o s = some (.inl (pc', s'))) (hk : k pc' s') : wN PT sh o s k z := Or.inl ⟨0, pc', s', h, hk⟩
theorem w64_0 : w64 ((0 : Nat) : Int) = 0 := by decide
theorem w64_1 : w64 ((1 : Nat) : Int) = 1 := by decide
theorem wb_ok {fr : Bool} {a : Nat} {x y : Int} {k : Int → Prop} (h : wb fr a x y k) : k (pp_bi a x y) := by
  cases fr with
  | true => exact h
  | false =>
  match a, h with
  | 0, h => show k (w32 (x + y)); rw [w32_in h.1.1 h.1.2]; exact h.2
  | 1, h => show k (w32 (x - y)); rw [w32_in h.1.1 h.1.2]; exact h.2
  | 2, h => show k (w32 (x * y)); rw [w32_in h.1.1 h.1.2]; exact h.2
  | n + 3, h => exact h
theorem wl_ok {fr : Bool} {a : Nat} {x y : Int} {k : Int → Prop} (h : wl fr a x y k) : k (pp_lb a x y) := by
  cases fr with
  | true => exact h
  | false =>
  match a, h with
  | 0, h => show k (w64 (x + y)); rw [w64_in h.1.1 h.1.2]; exact h.2
  | 1, h => show k (w64 (x - y)); rw [w64_in h.1.1 h.1.2]; exact h.2
  | 2, h => show k (w64 (x * y)); rw [w64_in h.1.1 h.1.2]; exact h.2
  | n + 3, h => exact h
theorem wt_ok {op : Nat} {x y : Int} {p q : Prop} (h : wt op x y p q) : cond (pp_tst op x y) p q := by
  match op, h with
  | 0, h =>
    show cond (decide (x < y)) p q
    by_cases e : x < y
    · rw [decide_eq_true e]; exact h.1 e
    · rw [decide_eq_false e]; exact h.2 (by omega)
  | 1, h =>
    show cond (decide (y ≤ x)) p q
    by_cases e : y ≤ x
    · rw [decide_eq_true e]; exact h.1 e
    · rw [decide_eq_false e]; exact h.2 (by omega)
  | 2, h =>
    show cond (decide (y < x)) p q
    by_cases e : y < x
    · rw [decide_eq_true e]; exact h.1 e
    · rw [decide_eq_false e]; exact h.2 (by omega)
  | 3, h =>
    show cond (decide (x ≤ y)) p q
    by_cases e : x ≤ y
    · rw [decide_eq_true e]; exact h.1 e
    · rw [decide_eq_false e]; exact h.2 (by omega)
  | 4, h =>
    show cond (decide (x = y)) p q
    by_cases e : x = y
    · rw [decide_eq_true e]; exact h.1 e
    · rw [decide_eq_false e]; exact h.2 e
  | n + 5, h =>
    show cond (!decide (x = y)) p q
    by_cases e : x = y
    · rw [decide_eq_true e]; exact h.2 e
    · rw [decide_eq_false e]; exact h.1 e
theorem cond_k {b : Bool} {t n : Nat} {s : pm_S} {k : pm_J} (h : cond b (k t s) (k n s)) : k (cond b t n) s := by
  cases b <;> exact h
set_option maxHeartbeats 4000000 in
theorem ws_ok {PT : pm_T} {sh : pm_Sh} {fr : Bool} {o : pm_Op} {s : pm_S} {k : pm_J} {z : pm_R → Prop} (h : ws PT sh fr o s k z) : wN PT sh o s k z := by
  obtain ⟨nx, code, a, b, c, d, ts⟩ := o
  obtain ⟨L, K, A⟩ := s
  match code, h with
  | 0, h =>
    obtain ⟨h1, h2⟩ := cond_F h
    rw [Bool.and_eq_true] at h1
    refine wN1 (s' := (L, (0, d) :: K, A)) ?_ h2
    simp only [pm_step]
    rw [w32_in (ile_ok h1.1) (ile_ok h1.2)]
  | 1, h =>
    match a, h with
    | 0, h =>
      refine wN1 (pc' := nx) (s' := (L, (1, 0) :: K, A)) ?_ h
      simp only [pm_step]
      rw [w64_0]
    | 1, h =>
      refine wN1 (pc' := nx) (s' := (L, (1, 1) :: K, A)) ?_ h
      simp only [pm_step]
      rw [w64_1]
    | n + 2, h => exact h.elim
  | 2, h => exact wN1 rfl h
  | 3, h =>
    simp only [ws] at h
    split at h
    · next v hv =>
      obtain ⟨h1, h2⟩ := cond_F h
      rw [Bool.and_eq_true] at h1
      refine wN1 (s' := (L, v :: K, A)) ?_ h2
      simp only [pm_step, hv]
      exact k_if_t ⟨Nat.eq_of_beq_eq_true h1.1, Nat.le_of_ble_eq_true h1.2⟩ _
    · exact h.elim
  | 4, h =>
    simp only [ws] at h
    split at h
    · next v K' _ =>
      obtain ⟨h1, h2⟩ := cond_F h
      simp only [Bool.and_eq_true] at h1
      refine wN1 (pc' := nx) (s' := (if a = 1 then pm_put2 L b v else pm_put1 L b v, K', A)) ?_ ?_
      · simp only [pm_step, k_v]
        exact k_if_t ⟨Nat.eq_of_beq_eq_true h1.1, Nat.le_of_ble_eq_true h1.2.1, Nat.le_of_ble_eq_true h1.2.2⟩ _
      · by_cases e : a = 1
        · rw [e] at h2; rw [if_pos e]; exact h2
        · have eb : Nat.beq a 1 = false := by rw [← Bool.not_eq_true]; exact fun q => e (Nat.eq_of_beq_eq_true q)
          rw [eb] at h2
          rw [if_neg e]; exact h2
    · exact h.elim
  | 5, h =>
    simp only [ws] at h
    split at h
    · next x hv =>
      obtain ⟨h1, h2, h3⟩ := cond_F h
      refine wN1 (s' := (pm_put1 L a (0, x + d), K, A)) ?_ h3
      simp only [pm_step, hv]
      rw [w32_in h2.1 h2.2]
      exact k_if_t (Nat.le_of_ble_eq_true h1) _
    · exact h.elim
  | 6, h =>
    simp only [ws] at h
    split at h
    · exact wN1 rfl (wb_ok h)
    · exact h.elim
  | 7, h =>
    simp only [ws] at h
    split at h
    · next y x K' _ =>
      obtain ⟨⟨h1, h2, h3, h4⟩, h5⟩ := h
      have ex : (Int32.ofInt x).toInt = x := by rw [Int32.toInt_ofInt]; show x.bmod (2 ^ 32) = _; rw [← w32_eq, w32_in (by omega) (by omega)]
      have ey : (Int32.ofInt y).toInt = y := by rw [Int32.toInt_ofInt]; show y.bmod (2 ^ 32) = _; rw [← w32_eq, w32_in (by omega) (by omega)]
      refine wN1 (pc' := nx) (s' := (L, (0, (o_bid a (Int32.ofInt x) (Int32.ofInt y)).toInt) :: K', A)) ?_ ?_
      · simp only [pm_step, k_ii, if_neg (show ¬ y = 0 by omega)]
      · have e : (o_bid a (Int32.ofInt x) (Int32.ofInt y)).toInt = cond (Nat.beq a 0) (x / y) (x % y) := by
          clear h5
          match a with
          | 0 => exact i32_div ex ey h1 h3
          | n + 1 => exact i32_rem ex ey h1 h3
        rw [e]; exact h5
    · exact h.elim
  | 8, h =>
    simp only [ws] at h
    split at h
    · exact wN1 rfl (wl_ok h)
    · exact h.elim
  | 9, h =>
    simp only [ws] at h
    split at h
    · next y x K' _ =>
      obtain ⟨⟨h1, h2, h3, h4⟩, h5⟩ := h
      obtain ⟨q1, q2, q3⟩ := i64_quo h2 h3 h1 h4
      refine wN1 (pc' := nx) (s' := (L, (1, (o_lbd a (Int64.ofInt x) (Int64.ofInt y)).toInt) :: K', A)) ?_ ?_
      · simp only [pm_step, k_ll, if_neg h1]
      · have e : (o_lbd a (Int64.ofInt x) (Int64.ofInt y)).toInt = cond (Nat.beq a 0) (x.tdiv y) (x.tmod y) := by
          clear h5
          match a with
          | 0 => exact q2
          | n + 1 => exact q3
        rw [e]; exact h5
    · exact h.elim
  | 10, h =>
    simp only [ws] at h
    split at h
    · exact wN1 rfl h
    · exact h.elim
  | 11, h =>
    simp only [ws] at h
    split at h
    · split at h
      · next x K' _ =>
        refine wN1 (s' := (L, (0, -x) :: K', A)) ?_ h.2
        simp only [pm_step, pp_un]
        rw [w32_in h.1.1 h.1.2]
      · exact h.elim
    · split at h
      · next x K' _ =>
        cases fr with
        | true => exact wN1 rfl h
        | false =>
          refine wN1 (s' := (L, (1, -x) :: K', A)) ?_ h.2
          simp only [pm_step, pp_un]
          rw [w64_in h.1.1 h.1.2]
      · exact h.elim
    · split at h
      · exact wN1 rfl h
      · exact h.elim
    · split at h
      · next x K' _ =>
        refine wN1 (s' := (L, (0, x) :: K', A)) ?_ h.2
        simp only [pm_step, pp_un]
        rw [w32_in h.1.1 h.1.2]
      · exact h.elim
    · split at h
      · next y x K' _ =>
        by_cases e : y < x
        · refine wN1 (s' := (L, (0, 1) :: K', A)) ?_ (h.1 e)
          simp only [pm_step, pp_un, if_pos e]
        · by_cases e2 : x = y
          · refine wN1 (s' := (L, (0, 0) :: K', A)) ?_ (h.2.1 e2)
            simp only [pm_step, pp_un, if_neg e, if_pos e2]
          · refine wN1 (s' := (L, (0, -1) :: K', A)) ?_ (h.2.2 (by omega))
            simp only [pm_step, pp_un, if_neg e, if_neg e2]
      · exact h.elim
    · split at h
      · next K' hk =>
        refine wN1 (s' := (L, K', A)) ?_ h
        simp only [pm_step, hk]
      · exact h.elim
  | 12, h => exact wN1 rfl h
  | 13, h =>
    simp only [ws] at h
    split at h
    · next x K' _ =>
      by_cases e : x < 0
      · refine wN1 (s' := (L, K', A)) ?_ (h.1 e)
        simp only [pm_step, k_r, if_pos e]
      · refine wN1 (s' := (L, K', A)) ?_ (h.2 (by omega))
        simp only [pm_step, k_r, if_neg e]
    · exact h.elim
  | 14, h =>
    simp only [ws] at h
    split at h
    · exact wN1 rfl (cond_k (wt_ok h))
    · exact h.elim
  | 15, h =>
    simp only [ws] at h
    split at h
    · exact wN1 rfl (cond_k (wt_ok h))
    · exact h.elim
  | 16, h => exact h.elim
  | 17, h =>
    simp only [ws] at h
    split at h
    · next r K' _ =>
      refine wN1 (s' := (L, (pm_ftk a b, A r b) :: K', A)) ?_ (wfi_ok h.2)
      simp only [pm_step, k_r]
      exact k_if_t h.1 _
    · exact h.elim
  | 18, h =>
    simp only [ws] at h
    split at h
    · next v r K' _ =>
      obtain ⟨h1, h2, h3⟩ := cond_F h
      rw [Bool.and_eq_true] at h1
      refine wN1 (s' := (L, K', pm_upd A r b v.2)) ?_ (wfi_ok h3)
      simp only [pm_step, k_vr]
      exact k_if_t ⟨h2.1, h2.2.1, h2.2.2.1, h2.2.2.2, h1.1, Nat.eq_of_beq_eq_true h1.2⟩ _
    · exact h.elim
  | 19, h =>
    simp only [ws] at h
    split at h
    · next i r K' _ =>
      refine wN1 (s' := (L, (pm_kd a, A r i) :: K', A)) ?_ h.2
      simp only [pm_step, k_ir]
      exact k_if_t h.1 _
    · exact h.elim
  | 20, h =>
    simp only [ws] at h
    split at h
    · next v i r K' _ =>
      obtain ⟨h1, h2, h3⟩ := cond_F h
      refine wN1 (s' := (L, K', pm_upd A r i v.2)) ?_ h3
      simp only [pm_step, k_vir]
      exact k_if_t ⟨h2.1, h2.2.1, h2.2.2.1, h2.2.2.2.1, h2.2.2.2.2.1, Nat.le_of_ble_eq_true h1, h2.2.2.2.2.2⟩ _
    · exact h.elim
  | 21, h =>
    simp only [ws] at h
    split at h
    · next bb i r K' _ =>
      obtain ⟨h1, h2, h3⟩ := cond_F h
      refine wN1 (s' := (L, K', pm_upd A r i bb)) ?_ h3
      simp only [pm_step, k_rir]
      exact k_if_t ⟨h2.1, h2.2.1, h2.2.2.1, h2.2.2.2.1, h2.2.2.2.2.1, Nat.le_of_ble_eq_true h1, h2.2.2.2.2.2.1, h2.2.2.2.2.2.2.1, h2.2.2.2.2.2.2.2⟩ _
    · exact h.elim
  | 22, h => exact h.elim
  | 23, h =>
    obtain ⟨h1, h2, n0, ⟨rv, A'⟩, h3, h4⟩ := cond_F h
    rw [Bool.and_eq_true] at h1
    refine Or.inl ⟨n0, nx, (L, rv.toList ++ K.drop b, A'), ?_, h4⟩
    simp only [pm_step]
    rw [if_pos ⟨Nat.eq_of_beq_eq_true h1.1, Nat.le_of_ble_eq_true h1.2, h2⟩]
    rw [h3]
  | 24, h =>
    simp only [ws] at h
    split at h
    · exact Or.inr ⟨0, _, rfl, h⟩
    · exact h.elim
  | 25, h =>
    simp only [ws] at h
    split at h
    · next v _ =>
      refine Or.inr ⟨0, (some v, A), ?_, h.2⟩
      simp only [pm_step]
      rw [if_pos h.1]
    · exact h.elim
  | 26, h =>
    obtain ⟨h1, h2⟩ := cond_F h
    rw [Bool.and_eq_true] at h1
    refine wN1 (s' := (L, (0, d) :: K, A)) ?_ h2
    simp only [pm_step]
    rw [w32_in (ile_ok h1.1) (ile_ok h1.2)]
  | 27, h =>
    obtain ⟨h1, h2⟩ := cond_F h
    rw [Bool.and_eq_true] at h1
    refine wN1 (s' := (L, (1, d) :: K, A)) ?_ h2
    simp only [pm_step]
    rw [w64_in (ile_ok h1.1) (ile_ok h1.2)]
  | 28, h =>
    simp only [ws] at h
    split at h
    · next n dp bb sp aa K' _ =>
      obtain ⟨h1, h2, h3⟩ := cond_F h
      rw [Bool.and_eq_true] at h1
      refine wN1 (s' := (L, K', pm_cpy A aa sp bb dp n)) ?_ h3
      simp only [pm_step, k_cp]
      obtain ⟨g1, g2, g3, g4, g5, g6, g7, g8, g9, g10, g11⟩ := h2
      exact k_if_t ⟨g1, g2, g3, g4, g5, g6, g7, g8, g9, g10, g11, Nat.le_of_ble_eq_true h1.1, Nat.le_of_ble_eq_true h1.2⟩ _
    · exact h.elim
  | 29, h =>
    simp only [ws] at h
    split at h
    · next y x K' _ =>
      obtain ⟨h1, h2⟩ := cond_F h
      refine wN1 (s' := (L, (0, cond (Nat.beq a 0) (max x y) (min x y)) :: K', A)) ?_ h2
      simp only [pm_step, k_ii]
      rw [k_if_t (Nat.le_of_ble_eq_true h1)]
      congr 7
      by_cases e : a = 0
      · subst e
        rw [if_pos rfl]
        show (if x < y then y else x) = max x y
        split <;> omega
      · rw [if_neg e]
        have eb : Nat.beq a 0 = false := by rw [← Bool.not_eq_true]; exact fun q => e (Nat.eq_of_beq_eq_true q)
        rw [eb]
        show (if y < x then y else x) = min x y
        split <;> omega
    · exact h.elim
  | 30, h =>
    simp only [ws] at h
    split at h
    · next x K' _ =>
      obtain ⟨h1, h2, h3⟩ := cond_F h
      refine wN1 (s' := (L, (0, (x.natAbs : Int)) :: K', A)) ?_ h3
      simp only [pm_step, k_i]
      rw [k_if_t (Nat.le_of_ble_eq_true h1)]
      congr 7
      split
      · omega
      · rw [w32_in (by omega) (by omega)]; omega
    · exact h.elim
  | n + 31, h => exact h.elim
/-- from one marked place to the next -/
def wq (PT : pm_T) (sh : pm_Sh) (full : pm_P) (fr cuts : List Nat) (J : pm_J) (z : pm_R → Prop) : Nat → pm_P → pm_S → Prop
  | 0, _, _ => False
  | _ + 1, [], _ => False
  | n + 1, q :: rest, s => ws PT sh (fr.contains q.1) q.2 s (fun pc s' => cond (cuts.contains pc) (J pc s') (wq PT sh full fr cuts J z n (pm_next full pc rest) s')) z
theorem wq_ok {PT : pm_T} {sh : pm_Sh} {full : pm_P} (hs : pm_srt full = true) {fr cuts : List Nat} {J : pm_J} {z : pm_R → Prop} (hJ : ∀ pc s, J pc s → Tm PT sh full pc s z) : ∀ (n pc : Nat) (s : pm_S), wq PT sh full fr cuts J z n (pm_seek pc full) s → Tm PT sh full pc s z
  | 0, _, _, h => h.elim
  | n + 1, pc, s, h => by
    cases hq : pm_seek pc full with
    | nil => rw [hq] at h; exact h.elim
    | cons q rest =>
      rw [hq] at h
      rcases ws_ok h with ⟨n0, pc', s', h1, h2⟩ | ⟨n0, r, h1, h2⟩
      · refine Tm.step hs hq h1 ?_
        cases hc : cuts.contains pc' with
        | true => rw [hc] at h2; exact hJ pc' s' h2
        | false =>
          rw [hc] at h2
          have h2 : wq PT sh full fr cuts J z n (pm_next full pc' rest) s' := h2
          rw [pm_next_seek hs hq] at h2
          exact wq_ok hs hJ n pc' s' h2
      · exact Tm.ret hq h1 h2
theorem Cl.of {PT : pm_T} {sh : pm_Sh} {mid : Nat} {a : List pm_V} {A : pm_A} {Q : pm_R → Prop} (h1 : (a.map pm_cat).sum ≤ (PT mid).1) (h : Tm PT sh (PT mid).2 0 (pm_args (PT mid).1 a, [], A) Q) : Cl PT sh mid a A Q := by
  obtain ⟨n, r, h2, h3⟩ := h
  exact ⟨n, r, by unfold pm_call; rw [if_pos h1]; exact h2, h3⟩
theorem Cl.imp {PT : pm_T} {sh : pm_Sh} {mid : Nat} {a : List pm_V} {A : pm_A} {Q Q' : pm_R → Prop} (h : Cl PT sh mid a A Q) (hi : ∀ r, Q r → Q' r) : Cl PT sh mid a A Q' := by
  obtain ⟨n, r, h2, h3⟩ := h
  exact ⟨n, r, h2, hi r h3⟩
theorem Cl.gct {w : an_W} {PT : pm_T} {mid : Nat} {q : an_Q} (hq : gCt w PT mid q) {a : List pm_V} {A : pm_A} (ha : gA w q.1 a) (hA : gH w A) {Q : pm_R → Prop} (hi : ∀ r, gR w q.2.1 r.1 → gH w r.2 → gFr w q.2.2 A r.2 → Q r) : Cl PT (an_sh w) mid a A Q := by
  obtain ⟨n, r, h2, h3, h4, h5⟩ := hq a A ⟨ha, hA⟩
  exact ⟨n, r, h2, hi r h3 h4 h5⟩
