/-! Mill.multiply -/
theorem gv_ref {w : an_W} {r : Int} {k : Nat} (h0 : 0 ≤ r) (hk : w.2 r = k) : gv w (2, (k : Int), 0) (2, r) := ⟨rfl, Or.inl ⟨h0, by rw [hk]⟩⟩
theorem srt_multiply : pm_srt o_X5_multiply = true := by decide +kernel
abbrev MMu : List Nat := [800, 801, 10014, 10015, 10018]
def mul_post (A0 : pm_A) (r : pm_R) : Prop := ∃ x, r.1 = some (0, x) ∧ 0 ≤ x ∧ x ≤ 1 ∧ gH wX r.2 ∧ gFr wX MMu A0 r.2
def mul_G (A0 B : pm_A) : Prop := gH wX B ∧ gFr wX MMu A0 B
def mul_L (q a b p w s f t : Int) (v8 v9 v10 : pm_V) : List pm_V := [(2, q), (2, a), (2, b), (2, p), (0, w), (0, s), (0, f), (0, t), v8, v9, v10]
def mul_I91 (A0 : pm_A) (q a b p w s f t n v : Int) (st : pm_S) : Prop := ∃ B, st = (mul_L q a b p w s f t (1, n) (9, 0) (0, v), [], B) ∧ mul_G A0 B ∧ 0 ≤ s ∧ s < 200 ∧ 0 ≤ t ∧ t < 200 ∧ 0 ≤ w ∧ w ≤ 12 ∧ 0 ≤ v ∧ v ≤ w ∧ 0 ≤ f ∧ f ≤ B p 1 ∧ r64 n
def mul_I49 (A0 : pm_A) (q a b p w s t : Int) (st : pm_S) : Prop := ∃ B f v8 v9 v10, st = (mul_L q a b p w s f t v8 v9 v10, [], B) ∧ mul_G A0 B ∧ 0 ≤ s ∧ s < 200 ∧ 0 ≤ t ∧ 0 ≤ w ∧ w ≤ 12 ∧ 0 ≤ f ∧ f ≤ B p 1 ∧ t ≤ 200
def mulH (q a b p : Int) : Prop := (0 ≤ q ∧ wX.2 q = 4) ∧ (0 ≤ a ∧ wX.2 a = 2) ∧ (0 ≤ b ∧ wX.2 b = 2) ∧ (0 ≤ p ∧ wX.2 p = 2)
theorem mul_138 {A0 : pm_A} {q a b p w : Int} (hh : mulH q a b p) {s f t n : Int} {v10 : pm_V} {B : pm_A} (H49 : ∀ st, mul_I49 A0 q a b p w s (t + 1) st → Tm pmt (an_sh wX) o_X5_multiply 49 st (mul_post A0)) (hB : mul_G A0 B) (h1 : 0 ≤ s) (h2 : s < 200) (h3 : 0 ≤ t) (h4 : t < 200) (h5 : 0 ≤ w) (h6 : w ≤ 12) (h7 : 0 ≤ f) (h8 : f ≤ B p 1) (hn : r64 n) : Tm pmt (an_sh wX) o_X5_multiply 138 (mul_L q a b p w s f t (1, n) (9, 0) v10, [], B) (mul_post A0) := by
  obtain ⟨⟨hq0, hqk⟩, ⟨ha0, hak⟩, ⟨hb0, hbk⟩, ⟨hp0, hpk⟩⟩ := hh
  have k0 := fX_4_5 hB.1 hq0 hqk
  refine wq_ok srt_multiply (fr := []) (cuts := [49]) (J := fun pc st => pc = 49 ∧ mul_I49 A0 q a b p w s (t + 1) st) ?_ 30 138 _ ?_
  · rintro pc st ⟨rfl, h⟩; exact H49 st h
  · refine ⟨oX_4 hq0 hqk 5 rfl, ?_⟩
    refine ⟨rX_2 hp0 hpk, ?_⟩
    refine (add_ct hB.1 hp0 hpk k0.1 k0.2 hn h7 h8).imp ?_
    rintro ⟨r, C⟩ ⟨x, e, x1, x2, x3, x4, x5, x6⟩
    simp only at e x2 x3 x4 x5
    subst e
    have l1 := fX_2_1 x3 hp0 hpk
    have hC : mul_G A0 C := ⟨x3, gFr_tr hB.2 x4 (by decide)⟩
    refine ⟨⟨by omega, by omega⟩, ?_⟩
    refine ⟨fun h => ?_, fun h => ?_⟩
    · refine ⟨⟨by omega, by omega⟩, ?_⟩
      exact ⟨rfl, C, x + 1, _, _, _, rfl, hC, h1, h2, by omega, h5, h6, by omega, by omega, by omega⟩
    · exact ⟨rfl, 0, rfl, by omega, by omega, hC⟩
theorem mul_91 {A0 : pm_A} {q a b p w : Int} (hh : mulH q a b p) {s f t n : Int} (H49 : ∀ st, mul_I49 A0 q a b p w s (t + 1) st → Tm pmt (an_sh wX) o_X5_multiply 49 st (mul_post A0)) : ∀ (m : Nat) (v : Int) (st : pm_S), (w - v).toNat < m → mul_I91 A0 q a b p w s f t n v st → Tm pmt (an_sh wX) o_X5_multiply 91 st (mul_post A0) := by
  have hh0 := hh
  obtain ⟨⟨hq0, hqk⟩, ⟨ha0, hak⟩, ⟨hb0, hbk⟩, ⟨hp0, hpk⟩⟩ := hh
  intro m
  induction m with
  | zero => intro v st h; omega
  | succ m ih =>
    rintro v st hm ⟨B, rfl, hB, h1, h2, h3, h4, h5, h6, h7, h8, h9, h10, hn⟩
    have k0 := fX_4_5 hB.1 hq0 hqk
    have pa := fX_2_3 hB.1 ha0 hak
    have pb := fX_2_3 hB.1 hb0 hbk
    have m1 : 0 ≤ s * w := Int.mul_nonneg h1 h5
    have m2 : s * w ≤ 199 * 12 := Int.mul_le_mul (by omega) h6 h5 (by omega)
    have m3 : 0 ≤ t * w := Int.mul_nonneg h3 h5
    have m4 : t * w ≤ 199 * 12 := Int.mul_le_mul (by omega) h6 h5 (by omega)
    refine wq_ok srt_multiply (fr := [130]) (cuts := [91, 138]) (J := fun pc st => (pc = 91 ∧ v < w ∧ mul_I91 A0 q a b p w s f t n (v + 1) st) ∨ (pc = 138 ∧ st = (mul_L q a b p w s f t (1, n) (9, 0) (0, v), [], B))) ?_ 40 91 _ ?_
    · rintro pc st (⟨rfl, hv, h⟩ | ⟨rfl, rfl⟩)
      · exact ih (v + 1) st (by omega) h
      · exact mul_138 hh0 H49 hB h1 h2 h3 h4 h5 h6 h9 h10 hn
    · refine ⟨fun h => ?_, fun h => ?_⟩
      · exact Or.inr ⟨rfl, rfl⟩
      · refine ⟨oX_4 hq0 hqk 5 rfl, ?_⟩
        refine ⟨oX_2 ha0 hak 3 rfl, ?_⟩
        refine ⟨⟨by omega, by omega⟩, ?_⟩
        refine ⟨⟨by omega, by omega⟩, ?_⟩
        refine ⟨aX_15 pa.1 pa.2 (by omega) (by omega), ?_⟩
        refine ⟨oX_2 hb0 hbk 3 rfl, ?_⟩
        refine ⟨⟨by omega, by omega⟩, ?_⟩
        refine ⟨⟨by omega, by omega⟩, ?_⟩
        refine ⟨aX_15 pb.1 pb.2 (by omega) (by omega), ?_⟩
        refine ⟨tX_18 k0.1 k0.2 (by omega) (by omega) rfl, ?_⟩
        refine ⟨⟨by omega, by omega⟩, ?_⟩
        refine Or.inl ⟨rfl, h, _, rfl, ⟨uX_18 hB.1 k0.2 (w32_rng _).1 (w32_rng _).2, gFr_upd hB.2 (mX_18 k0.2 rfl)⟩, h1, h2, h3, h4, h5, h6, by omega, by omega, h9, ?_, hn⟩
        rw [upd_ne]
        · exact h10
        · intro e
          have e1 := shX_2 hpk
          have e2 := shX_18 k0.2
          rw [← e, e1] at e2
          cases e2
theorem mul_49 {A0 : pm_A} {q a b p w : Int} (hh : mulH q a b p) {s : Int} (H167 : ∀ B f t v8 v9 v10, mul_G A0 B → 0 ≤ s → s < 200 → 0 ≤ w → w ≤ 12 → Tm pmt (an_sh wX) o_X5_multiply 167 (mul_L q a b p w s f t v8 v9 v10, [], B) (mul_post A0)) : ∀ (m : Nat) (t : Int) (st : pm_S), (200 - t).toNat < m → mul_I49 A0 q a b p w s t st → Tm pmt (an_sh wX) o_X5_multiply 49 st (mul_post A0) := by
  have hh0 := hh
  obtain ⟨⟨hq0, hqk⟩, ⟨ha0, hak⟩, ⟨hb0, hbk⟩, ⟨hp0, hpk⟩⟩ := hh
  intro m
  induction m with
  | zero => intro t st h; omega
  | succ m ih =>
    rintro t st hm ⟨B, f, v8, v9, v10, rfl, hB, h1, h2, h3, h5, h6, h7, h8, h9⟩
    have la := fX_2_1 hB.1 ha0 hak
    have lb := fX_2_1 hB.1 hb0 hbk
    have na := fX_2_2 hB.1 ha0 hak
    have nb := fX_2_2 hB.1 hb0 hbk
    refine wq_ok srt_multiply (fr := []) (cuts := [91, 167]) (J := fun pc st => (pc = 91 ∧ t < 200 ∧ ∃ n : Int, mul_I91 A0 q a b p w s f t n 0 st) ∨ (pc = 167 ∧ st = (mul_L q a b p w s f t v8 v9 v10, [], B))) ?_ 40 49 _ ?_
    · rintro pc st (⟨rfl, ht, n, h⟩ | ⟨rfl, rfl⟩)
      · exact mul_91 hh0 (fun st h => ih (t + 1) st (by omega) h) _ 0 st (Nat.lt_succ_self _) h
      · exact H167 B f t v8 v9 v10 hB h1 h2 h5 h6
    · refine ⟨oX_2 hb0 hbk 1 rfl, ?_⟩
      refine ⟨fun h => ?_, fun h => ?_⟩
      · exact Or.inr ⟨rfl, rfl⟩
      · refine ⟨oX_2 ha0 hak 2 rfl, ?_⟩
        refine ⟨aX_14 na.1 na.2 h1 h2, ?_⟩
        refine ⟨oX_2 hb0 hbk 2 rfl, ?_⟩
        refine ⟨aX_14 nb.1 nb.2 h3 (by omega), ?_⟩
        refine ⟨rfl, ?_⟩
        have y1 := eX_14 hB.1 na.1 na.2 h1 h2
        have y2 := eX_14 hB.1 nb.1 nb.2 h3 (show t < 200 by omega)
        refine Cl.gct q_X5_multiplied_0 (a := [(1, B (B a 2) s), (1, B (B b 2) t)]) ⟨⟨rfl, y1.1, y1.2⟩, ⟨rfl, y2.1, y2.2⟩, trivial⟩ hB.1 ?_
        rintro ⟨r, C⟩ hr hC1 hC2
        simp only at hr hC1 hC2
        match r, hr with
        | some v, ⟨hv, _⟩ =>
          obtain ⟨n, rfl⟩ := gJ (a := (1, -9223372036854775808, 9223372036854775807)) rfl hv
          have hn := (gv1 (a := (1, -9223372036854775808, 9223372036854775807)) rfl).mp hv
          have hCG : mul_G A0 C := ⟨hC1, gFr_tr hB.2 hC2 (fun x hx => by cases hx)⟩
          have hp1 : C p 1 = B p 1 := hC2 p 1 hp0 (by omega) (fun hx => by cases hx)
          have yes : mul_I91 A0 q a b p w s f t n 0 (mul_L q a b p w s f t (1, n) (9, 0) (0, 0), [], C) := ⟨C, rfl, hCG, h1, h2, h3, by omega, h5, h6, by omega, by omega, h7, by omega, ⟨hn.2.1, hn.2.2⟩⟩
          refine ⟨fun h4 => ?_, fun h4 => ?_, fun h4 => ?_⟩
          · refine ⟨fun h0 => ?_, fun h0 => by omega⟩
            exact Or.inl ⟨rfl, by omega, n, yes⟩
          · refine ⟨fun h0 => by omega, fun h0 => ?_⟩
            exact ⟨rfl, 0, rfl, by omega, by omega, hCG⟩
          · refine ⟨fun h0 => ?_, fun h0 => by omega⟩
            exact Or.inl ⟨rfl, by omega, n, yes⟩
def mul_I34 (A0 : pm_A) (q a b p w s : Int) (st : pm_S) : Prop := ∃ B v6 v7 v8 v9 v10, st = ([(2, q), (2, a), (2, b), (2, p), (0, w), (0, s), v6, v7, v8, v9, v10], [], B) ∧ mul_G A0 B ∧ 0 ≤ s ∧ s ≤ 200 ∧ 0 ≤ w ∧ w ≤ 12
theorem mul_34 {A0 : pm_A} {q a b p w : Int} (hh : mulH q a b p) : ∀ (m : Nat) (s : Int) (st : pm_S), (200 - s).toNat < m → mul_I34 A0 q a b p w s st → Tm pmt (an_sh wX) o_X5_multiply 34 st (mul_post A0) := by
  have hh0 := hh
  obtain ⟨⟨hq0, hqk⟩, ⟨ha0, hak⟩, ⟨hb0, hbk⟩, ⟨hp0, hpk⟩⟩ := hh
  intro m
  induction m with
  | zero => intro t st h; omega
  | succ m ih =>
    rintro s st hm ⟨B, v6, v7, v8, v9, v10, rfl, hB, h1, h2, h5, h6⟩
    have la := fX_2_1 hB.1 ha0 hak
    have lp := fX_2_1 hB.1 hp0 hpk
    refine wq_ok srt_multiply (fr := []) (cuts := [49]) (J := fun pc st => pc = 49 ∧ s < 200 ∧ mul_I49 A0 q a b p w s 0 st) ?_ 40 34 _ ?_
    · rintro pc st ⟨rfl, hs, h⟩
      refine mul_49 hh0 (fun C f t v8 v9 v10 hC k1 k2 k3 k4 => ?_) _ 0 st (Nat.lt_succ_self _) h
      refine wq_ok srt_multiply (fr := []) (cuts := [34]) (J := fun pc st => pc = 34 ∧ mul_I34 A0 q a b p w (s + 1) st) ?_ 10 167 _ ?_
      · rintro pc st ⟨rfl, h⟩
        exact ih (s + 1) st (by omega) h
      · refine ⟨⟨by omega, by omega⟩, ?_⟩
        exact ⟨rfl, C, _, _, _, _, _, rfl, hC, by omega, by omega, k3, k4⟩
    · refine ⟨oX_2 ha0 hak 1 rfl, ?_⟩
      refine ⟨fun h => ?_, fun h => ?_⟩
      · exact ⟨rfl, 1, rfl, by omega, by omega, hB⟩
      · exact ⟨rfl, by omega, B, 0, _, _, _, rfl, hB, h1, by omega, by omega, h5, h6, by omega, lp.1, by omega⟩
theorem q_X5_multiply_0 : gCt wX pmt 45 Q_X5_multiply_0 := by
  rintro l A ⟨hl, hA⟩
  match l, hl with
  | [x, y, z, u], ⟨h1, h2, h3, h4, _⟩ =>
    obtain ⟨q, rfl, hq0, hqk⟩ := gRf (a := (2, 4, 0)) rfl h1
    obtain ⟨a, rfl, ha0, hak⟩ := gRf (a := (2, 2, 0)) rfl h2
    obtain ⟨b, rfl, hb0, hbk⟩ := gRf (a := (2, 2, 0)) rfl h3
    obtain ⟨p, rfl, hp0, hpk⟩ := gRf (a := (2, 2, 0)) rfl h4
    have la := fX_2_1 hA ha0 hak
    have lb := fX_2_1 hA hb0 hbk
    have wa := fX_2_0 hA ha0 hak
    have done : ∀ r, mul_post A r → gR wX Q_X5_multiply_0.2.1 r.1 ∧ gH wX r.2 ∧ gFr wX Q_X5_multiply_0.2.2 A r.2 := by
      rintro ⟨r, B⟩ ⟨x, e, k1, k2, k3, k4⟩
      simp only at e k3 k4
      subst e
      exact ⟨⟨⟨rfl, k1, k2⟩, Nat.lt_of_sub_eq_succ rfl⟩, k3, k4⟩
    refine Cl.imp (Q := mul_post A) ?_ done
    refine Cl.of (Nat.le_of_ble_eq_true rfl) ?_
    refine wq_ok (full := o_X5_multiply) srt_multiply (fr := []) (cuts := [34]) (J := fun pc st => pc = 34 ∧ mul_I34 A q a b p (A a 0) 0 st) ?_ 30 0 _ ?_
    · rintro pc st ⟨rfl, h⟩
      exact mul_34 ⟨⟨hq0, hqk⟩, ⟨ha0, hak⟩, ⟨hb0, hbk⟩, ⟨hp0, hpk⟩⟩ _ 0 st (Nat.lt_succ_self _) h
    · refine ⟨oX_2 ha0 hak 1 rfl, ?_⟩
      refine ⟨oX_2 hb0 hbk 1 rfl, ?_⟩
      refine ⟨⟨by omega, by omega⟩, ?_⟩
      refine ⟨⟨by omega, by omega⟩, ?_⟩
      refine ⟨fun h => ?_, fun h => ?_⟩
      · refine ⟨oX_2 ha0 hak 0 rfl, ?_⟩
        refine ⟨rX_2 hp0 hpk, ?_⟩
        refine Cl.gct q_X8_clear_0 (a := [(2, p), (0, A a 0)]) ⟨gv_ref hp0 hpk, ⟨rfl, wa.1, wa.2⟩, trivial⟩ hA ?_
        rintro ⟨r, C⟩ hr hC1 hC2
        simp only at hr hC1 hC2
        match r, hr with
        | none, _ => exact ⟨rfl, C, _, _, _, _, _, rfl, ⟨hC1, gFr_tr (fun _ _ _ _ _ => rfl) hC2 (by decide)⟩, by omega, by omega, wa.1, wa.2⟩
      · exact ⟨rfl, 0, rfl, by omega, by omega, hA, fun _ _ _ _ _ => rfl⟩
