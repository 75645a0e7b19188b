/-! Ring.tellArrow, tellArrows -/
theorem srt_tellArrow : pm_srt o_X6_tellArrow = true := by decide +kernel
def bnd (A : pm_A) (r N : Int) : Prop := ∀ j : Int, 0 ≤ j → j < 72 → -N ≤ A r j ∧ A r j ≤ N
def ta_post (A0 : pm_A) (r N : Int) (q : pm_R) : Prop := q.1 = none ∧ gH wX q.2 ∧ gFr wX [10016] A0 q.2 ∧ bnd q.2 r N
theorem tellArrow_ct {A : pm_A} {r x y N : Int} (hA : gH wX A) (hr0 : 0 ≤ r) (hrk : wX.2 r = 16) (hN : bnd A r N) (hN0 : 0 ≤ N) (hN2 : N ≤ 2998) : Cl pmt (an_sh wX) 63 [(2, r), (0, x), (0, y)] A (ta_post A r (N + 1)) := by
  have no : ta_post A r (N + 1) (none, A) := ⟨rfl, hA, fun _ _ _ _ _ => rfl, fun j j0 j1 => by have := hN j j0 j1; show -(N + 1) ≤ A r j ∧ A r j ≤ N + 1; omega⟩
  refine Cl.of (Nat.le_of_ble_eq_true rfl) ?_
  refine wq_ok (full := o_X6_tellArrow) srt_tellArrow (fr := []) (cuts := [32]) (J := fun pc st => pc = 32 ∧ 0 ≤ x ∧ x < 6 ∧ 0 ≤ y ∧ y < 6 ∧ st = ([(2, r), (0, x), (0, y)], [], pm_upd A r (x * 6 + y) (A r (x * 6 + y) + 1))) ?_ 40 0 _ ?_
  · rintro pc st ⟨rfl, x0, x1, y0, y1, rfl⟩
    have h1 := hN (x * 6 + y) (by omega) (by omega)
    have hB : gH wX (pm_upd A r (x * 6 + y) (A r (x * 6 + y) + 1)) := uX_16 hA hrk (by omega) (by omega)
    have hBF : gFr wX [10016] A (pm_upd A r (x * 6 + y) (A r (x * 6 + y) + 1)) := gFr_upd (fun _ _ _ _ _ => rfl) (mX_16 hrk rfl)
    have hBv : ∀ j : Int, 0 ≤ j → j < 72 → -N ≤ pm_upd A r (x * 6 + y) (A r (x * 6 + y) + 1) r j ∧ pm_upd A r (x * 6 + y) (A r (x * 6 + y) + 1) r j ≤ N + 1 := by
      intro j j0 j1
      have := hN j j0 j1
      by_cases e : j = x * 6 + y
      · rw [e, upd_at]; omega
      · rw [upd_n2 e]; omega
    generalize pm_upd A r (x * 6 + y) (A r (x * 6 + y) + 1) = B at hB hBF hBv
    have h2 := hBv (y * 6 + x) (by omega) (by omega)
    refine wq_ok srt_tellArrow (fr := []) (cuts := []) (J := fun _ _ => False) (fun _ _ h => h.elim) 20 32 _ ?_
    refine ⟨⟨by omega, by omega⟩, ?_⟩
    refine ⟨⟨by omega, by omega⟩, ?_⟩
    refine ⟨aX_16 hr0 hrk (by omega) (by omega), ?_⟩
    refine ⟨⟨by omega, by omega⟩, ?_⟩
    refine ⟨tX_16 hr0 hrk (by omega) (by omega) rfl, ?_⟩
    refine ⟨rfl, uX_16 hB hrk (by omega) (by omega), gFr_upd hBF (mX_16 hrk rfl), fun j j0 j1 => ?_⟩
    have := hBv j j0 j1
    show -(N + 1) ≤ pm_upd B r (y * 6 + x) (B r (y * 6 + x) - 1) r j ∧ pm_upd B r (y * 6 + x) (B r (y * 6 + x) - 1) r j ≤ N + 1
    by_cases e : j = y * 6 + x
    · rw [e, upd_at]; omega
    · rw [upd_n2 e]; omega
  · refine ⟨fun h => no, fun h => ?_⟩
    refine ⟨fun h2 => no, fun h2 => ?_⟩
    refine ⟨fun h3 => no, fun h3 => ?_⟩
    refine ⟨fun h4 => no, fun h4 => ?_⟩
    have h1 := hN (x * 6 + y) (by omega) (by omega)
    refine ⟨⟨by omega, by omega⟩, ?_⟩
    refine ⟨⟨by omega, by omega⟩, ?_⟩
    refine ⟨aX_16 hr0 hrk (by omega) (by omega), ?_⟩
    refine ⟨⟨by omega, by omega⟩, ?_⟩
    refine ⟨tX_16 hr0 hrk (by omega) (by omega) rfl, ?_⟩
    exact ⟨rfl, by omega, by omega, by omega, by omega, rfl⟩
theorem srt_tellArrows : pm_srt o_X6_tellArrows = true := by decide +kernel
def tas_post (A0 : pm_A) (q : pm_R) : Prop := q.1 = none ∧ gH wX q.2 ∧ gFr wX [10016] A0 q.2
def tas_G (A0 B : pm_A) (r N : Int) : Prop := gH wX B ∧ gFr wX [10016] A0 B ∧ bnd B r N
def tas_H (s r : Int) : Prop := (0 ≤ s ∧ wX.2 s = 9) ∧ (0 ≤ r ∧ wX.2 r = 16)
def tas_I27 (A0 : pm_A) (s r a b c : Int) (st : pm_S) : Prop := ∃ B, st = ([(2, s), (2, r), (0, a), (0, b), (0, c)], [], B) ∧ tas_G A0 B r (3 * (100 * a + 10 * b + c)) ∧ 0 ≤ a ∧ a < b ∧ b < c ∧ c ≤ 10 ∧ b ≤ 9
theorem tas_free {A0 B C : pm_A} {r N : Int} (hr0 : 0 ≤ r) (hB : tas_G A0 B r N) (hC : gH wX C) (hF : gFr wX [] B C) : tas_G A0 C r N := ⟨hC, gFr_tr hB.2.1 hF (fun x hx => by cases hx), fun j j0 j1 => by rw [hF r j hr0 j0 (fun h => by cases h)]; exact hB.2.2 j j0 j1⟩
theorem tas_27 {A0 : pm_A} {s r a b : Int} (hh : tas_H s r) (H123 : ∀ B c, tas_G A0 B r (3 * (100 * a + 10 * b + c)) → 0 ≤ a → a < b → b < c → c ≤ 10 → b ≤ 9 → Tm pmt (an_sh wX) o_X6_tellArrows 123 ([(2, s), (2, r), (0, a), (0, b), (0, c)], [], B) (tas_post A0)) : ∀ (m : Nat) (c : Int) (st : pm_S), (11 - c).toNat < m → tas_I27 A0 s r a b c st → Tm pmt (an_sh wX) o_X6_tellArrows 27 st (tas_post A0) := by
  obtain ⟨⟨hs0, hsk⟩, ⟨hr0, hrk⟩⟩ := hh
  intro m
  induction m with
  | zero => intro c st h; omega
  | succ m ih =>
    rintro c st hm ⟨B, rfl, hB, ha, hab, hbc, hc, hb⟩
    have k0 := fX_9_0 hB.1 hs0 hsk
    refine wq_ok srt_tellArrows (fr := []) (cuts := [117, 123]) (J := fun pc st => (pc = 123 ∧ st = ([(2, s), (2, r), (0, a), (0, b), (0, c)], [], B)) ∨ (pc = 117 ∧ c < 10 ∧ ∃ C, st = ([(2, s), (2, r), (0, a), (0, b), (0, c)], [], C) ∧ tas_G A0 C r (3 * (100 * a + 10 * b + c) + 3))) ?_ 60 27 _ ?_
    · rintro pc st (⟨rfl, rfl⟩ | ⟨rfl, hc2, C, rfl, hC⟩)
      · exact H123 B c hB ha hab hbc hc hb
      · refine wq_ok srt_tellArrows (fr := []) (cuts := [27]) (J := fun pc st => pc = 27 ∧ tas_I27 A0 s r a b (c + 1) st) ?_ 10 117 _ ?_
        · rintro pc st ⟨rfl, h⟩
          exact ih (c + 1) st (by omega) h
        · refine ⟨⟨by omega, by omega⟩, ?_⟩
          refine ⟨rfl, C, rfl, ⟨hC.1, hC.2.1, fun j j0 j1 => ?_⟩, ha, hab, by omega, by omega, hb⟩
          have := hC.2.2 j j0 j1
          omega
    · refine ⟨oX_9 hs0 hsk 0 rfl, ?_⟩
      refine ⟨fun h => Or.inl ⟨rfl, rfl⟩, fun h => ?_⟩
      have wk : ∀ {C : pm_A} {N : Int}, tas_G A0 C r N → 0 ≤ N → N ≤ 3 * (100 * a + 10 * b + c) + 3 → tas_G A0 C r (3 * (100 * a + 10 * b + c) + 3) := fun {C N} hC _ hN => ⟨hC.1, hC.2.1, fun j j0 j1 => by have := hC.2.2 j j0 j1; omega⟩
      have lk : ∀ (C : pm_A) (N u v : Int), tas_G A0 C r N → r32 u → r32 v → ∀ Q : pm_R → Prop, (∀ D x, tas_G A0 D r N → 0 ≤ x → x ≤ 1 → Q (some (0, x), D)) → Cl pmt (an_sh wX) 49 [(2, s), (0, u), (0, v)] C Q := by
        intro C N u v hC hu hv Q hQ
        refine Cl.gct q_X6_areLinked_0 (a := [(2, s), (0, u), (0, v)]) ⟨gv_ref hs0 hsk, ⟨rfl, hu.1, hu.2⟩, ⟨rfl, hv.1, hv.2⟩, trivial⟩ hC.1 ?_
        rintro ⟨q, D⟩ hq hD1 hD2
        simp only at hq hD1 hD2
        match q, hq with
        | some w, ⟨hw, _⟩ =>
          obtain ⟨x, rfl⟩ := gI (a := (0, 0, 1)) rfl hw
          have hx := (gv0 (a := (0, 0, 1)) rfl).mp hw
          exact hQ D x (tas_free hr0 hC hD1 hD2) hx.2.1 hx.2.2
      have pk : ∀ (C : pm_A) (N u v : Int), tas_G A0 C r N → r32 u → r32 v → ∀ Q : pm_R → Prop, (∀ D x, tas_G A0 D r N → Q (some (0, x), D)) → Cl pmt (an_sh wX) 61 [(2, s), (0, u), (0, v)] C Q := by
        intro C N u v hC hu hv Q hQ
        refine Cl.gct q_X6_placeOf_0 (a := [(2, s), (0, u), (0, v)]) ⟨gv_ref hs0 hsk, ⟨rfl, hu.1, hu.2⟩, ⟨rfl, hv.1, hv.2⟩, trivial⟩ hC.1 ?_
        rintro ⟨q, D⟩ hq hD1 hD2
        simp only at hq hD1 hD2
        match q, hq with
        | some w, ⟨hw, _⟩ =>
          obtain ⟨x, rfl⟩ := gI (a := (0, -1, 127)) rfl hw
          exact hQ D x (tas_free hr0 hC hD1 hD2)
      have tk : ∀ (C : pm_A) (N u v : Int), tas_G A0 C r N → 0 ≤ N → N ≤ 2998 → ∀ Q : pm_R → Prop, (∀ D, tas_G A0 D r (N + 1) → Q (none, D)) → Cl pmt (an_sh wX) 63 [(2, r), (0, u), (0, v)] C Q := by
        intro C N u v hC h0 h1 Q hQ
        refine (tellArrow_ct hC.1 hr0 hrk hC.2.2 h0 h1).imp ?_
        rintro ⟨q, D⟩ ⟨e, d1, d2, d3⟩
        simp only at e d1 d2 d3
        subst e
        exact hQ D ⟨d1, gFr_tr hC.2.1 d2 (fun x hx => hx), d3⟩
      have ra : r32 a := ⟨by omega, by omega⟩
      have rb : r32 b := ⟨by omega, by omega⟩
      have rc : r32 c := ⟨by omega, by omega⟩
      refine ⟨rX_9 hs0 hsk, lk B _ a b hB ra rb _ (fun C x hC x0 x1 => ?_)⟩
      refine ⟨fun _ => Or.inr ⟨rfl, by omega, C, rfl, wk hC (by omega) (by omega)⟩, fun _ => ?_⟩
      refine ⟨rX_9 hs0 hsk, lk C _ b c hC rb rc _ (fun C x hC x0 x1 => ?_)⟩
      refine ⟨fun _ => Or.inr ⟨rfl, by omega, C, rfl, wk hC (by omega) (by omega)⟩, fun _ => ?_⟩
      refine ⟨rX_9 hs0 hsk, lk C _ a c hC ra rc _ (fun C x hC x0 x1 => ?_)⟩
      refine ⟨fun _ => Or.inr ⟨rfl, by omega, C, rfl, wk hC (by omega) (by omega)⟩, fun _ => ?_⟩
      refine ⟨rX_9 hs0 hsk, pk C _ a b hC ra rb _ (fun C y hC => ?_)⟩
      refine ⟨rX_9 hs0 hsk, pk C _ b c hC rb rc _ (fun C y hC => ?_)⟩
      refine ⟨rfl, tk C _ _ _ hC (by omega) (by omega) _ (fun C hC => ?_)⟩
      refine ⟨rX_9 hs0 hsk, pk C _ b c hC rb rc _ (fun C y hC => ?_)⟩
      refine ⟨rX_9 hs0 hsk, pk C _ a c hC ra rc _ (fun C y hC => ?_)⟩
      refine ⟨rfl, tk C _ _ _ hC (by omega) (by omega) _ (fun C hC => ?_)⟩
      refine ⟨rX_9 hs0 hsk, pk C _ a c hC ra rc _ (fun C y hC => ?_)⟩
      refine ⟨rX_9 hs0 hsk, pk C _ a b hC ra rb _ (fun C y hC => ?_)⟩
      refine ⟨rfl, tk C _ _ _ hC (by omega) (by omega) _ (fun C hC => ?_)⟩
      exact Or.inr ⟨rfl, by omega, C, rfl, wk hC (by omega) (by omega)⟩
def tas_I14 (A0 : pm_A) (s r a b : Int) (st : pm_S) : Prop := ∃ B v4, st = ([(2, s), (2, r), (0, a), (0, b), v4], [], B) ∧ tas_G A0 B r (3 * (100 * a + 10 * b)) ∧ 0 ≤ a ∧ a < b ∧ b ≤ 10
theorem tas_14 {A0 : pm_A} {s r a : Int} (hh : tas_H s r) (ha1 : a ≤ 9) (H129 : ∀ B v3 v4, tas_G A0 B r (3 * (100 * (a + 1))) → 0 ≤ a → Tm pmt (an_sh wX) o_X6_tellArrows 129 ([(2, s), (2, r), (0, a), v3, v4], [], B) (tas_post A0)) : ∀ (m : Nat) (b : Int) (st : pm_S), (11 - b).toNat < m → tas_I14 A0 s r a b st → Tm pmt (an_sh wX) o_X6_tellArrows 14 st (tas_post A0) := by
  have hh0 := hh
  obtain ⟨⟨hs0, hsk⟩, ⟨hr0, hrk⟩⟩ := hh
  intro m
  induction m with
  | zero => intro c st h; omega
  | succ m ih =>
    rintro b st hm ⟨B, v4, rfl, hB, ha, hab, hb⟩
    have k0 := fX_9_0 hB.1 hs0 hsk
    refine wq_ok srt_tellArrows (fr := []) (cuts := [27, 129]) (J := fun pc st => (pc = 129 ∧ ∃ v3 v4, st = ([(2, s), (2, r), (0, a), v3, v4], [], B)) ∨ (pc = 27 ∧ b < 10 ∧ tas_I27 A0 s r a b (b + 1) st)) ?_ 30 14 _ ?_
    · rintro pc st (⟨rfl, v3, v4, rfl⟩ | ⟨rfl, hb2, h⟩)
      · refine H129 B v3 v4 ⟨hB.1, hB.2.1, fun j j0 j1 => ?_⟩ ha
        have := hB.2.2 j j0 j1
        omega
      · refine tas_27 hh0 (fun C c hC _ _ hbc hc hb3 => ?_) _ (b + 1) st (Nat.lt_succ_self _) h
        refine wq_ok srt_tellArrows (fr := []) (cuts := [14]) (J := fun pc st => pc = 14 ∧ tas_I14 A0 s r a (b + 1) st) ?_ 10 123 _ ?_
        · rintro pc st ⟨rfl, h⟩
          exact ih (b + 1) st (by omega) h
        · refine ⟨⟨by omega, by omega⟩, ?_⟩
          refine ⟨rfl, C, _, rfl, ⟨hC.1, hC.2.1, fun j j0 j1 => ?_⟩, ha, by omega, by omega⟩
          have := hC.2.2 j j0 j1
          omega
    · refine ⟨oX_9 hs0 hsk 0 rfl, ?_⟩
      refine ⟨fun h => Or.inl ⟨rfl, _, _, rfl⟩, fun h => ?_⟩
      refine ⟨⟨by omega, by omega⟩, ?_⟩
      refine Or.inr ⟨rfl, by omega, B, rfl, ⟨hB.1, hB.2.1, fun j j0 j1 => ?_⟩, ha, hab, by omega, by omega, by omega⟩
      have := hB.2.2 j j0 j1
      omega
def tas_I2 (A0 : pm_A) (s r a : Int) (st : pm_S) : Prop := ∃ B v3 v4, st = ([(2, s), (2, r), (0, a), v3, v4], [], B) ∧ tas_G A0 B r (3 * (100 * a)) ∧ 0 ≤ a ∧ a ≤ 10
theorem tas_2 {A0 : pm_A} {s r : Int} (hh : tas_H s r) : ∀ (m : Nat) (a : Int) (st : pm_S), (10 - a).toNat < m → tas_I2 A0 s r a st → Tm pmt (an_sh wX) o_X6_tellArrows 2 st (tas_post A0) := by
  have hh0 := hh
  obtain ⟨⟨hs0, hsk⟩, ⟨hr0, hrk⟩⟩ := hh
  intro m
  induction m with
  | zero => intro c st h; omega
  | succ m ih =>
    rintro a st hm ⟨B, v3, v4, rfl, hB, ha, ha1⟩
    have k0 := fX_9_0 hB.1 hs0 hsk
    refine wq_ok srt_tellArrows (fr := []) (cuts := [14]) (J := fun pc st => pc = 14 ∧ a < 10 ∧ tas_I14 A0 s r a (a + 1) st) ?_ 30 2 _ ?_
    · rintro pc st ⟨rfl, ha2, h⟩
      refine tas_14 hh0 (by omega) (fun C w3 w4 hC _ => ?_) _ (a + 1) st (Nat.lt_succ_self _) h
      refine wq_ok srt_tellArrows (fr := []) (cuts := [2]) (J := fun pc st => pc = 2 ∧ tas_I2 A0 s r (a + 1) st) ?_ 10 129 _ ?_
      · rintro pc st ⟨rfl, h⟩
        exact ih (a + 1) st (by omega) h
      · refine ⟨⟨by omega, by omega⟩, ?_⟩
        exact ⟨rfl, C, _, _, rfl, hC, by omega, by omega⟩
    · refine ⟨oX_9 hs0 hsk 0 rfl, ?_⟩
      refine ⟨fun h => ⟨rfl, hB.1, hB.2.1⟩, fun h => ?_⟩
      refine ⟨⟨by omega, by omega⟩, ?_⟩
      refine ⟨rfl, by omega, B, _, rfl, ⟨hB.1, hB.2.1, fun j j0 j1 => ?_⟩, ha, by omega, by omega⟩
      have := hB.2.2 j j0 j1
      omega
theorem tellArrows_ct {A : pm_A} {s r : Int} (hA : gH wX A) (hh : tas_H s r) (hz : bnd A r 0) : Cl pmt (an_sh wX) 64 [(2, s), (2, r)] A (tas_post A) := by
  refine Cl.of (Nat.le_of_ble_eq_true rfl) ?_
  refine wq_ok (full := o_X6_tellArrows) srt_tellArrows (fr := []) (cuts := [2]) (J := fun pc st => pc = 2 ∧ tas_I2 A s r 0 st) ?_ 10 0 _ ?_
  · rintro pc st ⟨rfl, h⟩
    exact tas_2 hh _ 0 st (Nat.lt_succ_self _) h
  · exact ⟨rfl, A, _, _, rfl, ⟨hA, fun _ _ _ _ _ => rfl, hz⟩, by omega, by omega⟩
/-! Arrays.fill with 0 of a told table; Draft.restart -/
theorem srt_fill : pm_srt o_J7_fill_53178 = true := by decide +kernel
theorem fill_5 {A : pm_A} {r : Int} (hr0 : 0 ≤ r) (hrk : wX.2 r = 16) : ∀ (m : Nat) (i : Int) (B : pm_A), (72 - i).toNat < m → 0 ≤ i → i ≤ 72 → gH wX B → gFr wX [10016] A B → (∀ j, 0 ≤ j → j < i → B r j = 0) → Tm pmt (an_sh wX) o_J7_fill_53178 5 ([(2, r), (0, 0), (0, i), (0, 72)], [], B) (fun q => q.1 = none ∧ gH wX q.2 ∧ gFr wX [10016] A q.2 ∧ bnd q.2 r 0) := by
  intro m
  induction m with
  | zero => intro i B h; omega
  | succ m ih =>
    intro i B hm hi0 hi1 hB hF hz
    refine wq_ok srt_fill (fr := []) (cuts := [5]) (J := fun pc st => pc = 5 ∧ i < 72 ∧ st = ([(2, r), (0, 0), (0, i + 1), (0, 72)], [], pm_upd B r i 0)) ?_ 20 5 _ ?_
    · rintro pc st ⟨rfl, hi, rfl⟩
      refine ih (i + 1) _ (by omega) (by omega) (by omega) (uX_16 hB hrk (by omega) (by omega)) (gFr_upd hF (mX_16 hrk rfl)) (fun j j0 j1 => ?_)
      by_cases e : j = i
      · rw [e, upd_at]
      · rw [upd_n2 e]; exact hz j j0 (by omega)
    · refine ⟨fun h => ⟨rfl, hB, hF, fun j j0 j1 => ?_⟩, fun h => ?_⟩
      · have := hz j j0 (by omega)
        show -0 ≤ B r j ∧ B r j ≤ 0
        omega
      · refine ⟨tX_16 hr0 hrk hi0 (by omega) rfl, ?_⟩
        refine ⟨⟨by omega, by omega⟩, ?_⟩
        exact ⟨rfl, h, rfl⟩
theorem fill_ct {A : pm_A} {r : Int} (hA : gH wX A) (hr0 : 0 ≤ r) (hrk : wX.2 r = 16) : Cl pmt (an_sh wX) 1 [(2, r), (0, 0)] A (fun q => q.1 = none ∧ gH wX q.2 ∧ gFr wX [10016] A q.2 ∧ bnd q.2 r 0) := by
  refine Cl.of (Nat.le_of_ble_eq_true rfl) ?_
  have e := shX_16 hrk
  have st0 : pm_step (an_sh wX) (pm_call pmt (an_sh wX) 0) (4, 22, 0, 0, 0, 0, []) ([(2, r), (0, 0), (0, 0), (9, 0)], [(2, r)], A) = some (.inl (4, ([(2, r), (0, 0), (0, 0), (9, 0)], [(0, 72)], A))) := by
    simp only [pm_step, k_r]
    rw [k_if_t ⟨hr0, by rw [e], by rw [e], by rw [e]; simp only; omega⟩, e]
  refine wq_ok (full := o_J7_fill_53178) srt_fill (fr := []) (cuts := [3]) (J := fun pc st => pc = 3 ∧ st = ([(2, r), (0, 0), (0, 0), (9, 0)], [(2, r)], A)) ?_ 10 0 _ ?_
  · rintro pc st ⟨rfl, rfl⟩
    refine Tm.step srt_fill (q := (3, 4, 22, 0, 0, 0, 0, [])) rfl st0 ?_
    refine wq_ok srt_fill (fr := []) (cuts := [5]) (J := fun pc st => pc = 5 ∧ st = ([(2, r), (0, 0), (0, 0), (0, 72)], [], A)) ?_ 10 4 _ ?_
    · rintro pc st ⟨rfl, rfl⟩
      exact fill_5 hr0 hrk _ 0 A (Nat.lt_succ_self _) (by omega) (by omega) hA (fun _ _ _ _ _ => rfl) (fun j j0 j1 => by omega)
    · exact ⟨rfl, rfl⟩
  · exact ⟨rfl, rfl⟩
