section
/-! Share.add -/
theorem cpy_ne {A : pm_A} {a sp b dp n k i : Int} (h : ¬ k = b) : pm_cpy A a sp b dp n k i = A k i := by unfold pm_cpy; rw [if_neg (fun q => h q.1)]
theorem gH_cpy {w : an_W} {A : pm_A} (hH : gH w A) {ra rb s d n : Int} {ka kb : an_K} {va vb : an_V} (ha0 : 0 ≤ ra) (hka : w.1[w.2 ra]? = some ka) (hkb : w.1[w.2 rb]? = some kb) (c1 : ka.1 = 1) (c3 : kb.1 = 1) (c2 : ka.2.1 = kb.2.1) (hva : ka.2.2.2[0]? = some va) (hvb : kb.2.2.2[0]? = some vb) (hle : an_le va vb = true) (hs : 0 ≤ s) (hd : 0 ≤ d) (hsn : s + n ≤ ka.2.2.1) : gH w (pm_cpy A ra s rb d n) := by
  intro r' k' h0 hk'
  by_cases e : r' = rb
  · subst e
    rw [hkb] at hk'; cases hk'
    refine ⟨(fun q => by rw [c3] at q; cases q), fun q a' ha' j h1 h2 => ?_⟩
    unfold pm_cpy
    by_cases e2 : r' = r' ∧ (d ≤ j ∧ j < d + n)
    · rw [if_pos e2]
      rw [hvb] at ha'; cases ha'
      have := (hH ra ka ha0 hka).2 c1 va hva (s + (j - d)) (by omega) (by omega)
      rw [c2] at this
      exact gv_le hle this
    · rw [if_neg e2]; exact (hH r' kb h0 hkb).2 q a' ha' j h1 h2
  · refine ⟨fun q j a' hj => ?_, fun q a' ha' j h1 h2 => ?_⟩
    · rw [cpy_ne e]; exact (hH r' k' h0 hk').1 q j a' hj
    · rw [cpy_ne e]; exact (hH r' k' h0 hk').2 q a' ha' j h1 h2
theorem gFr_cpy {w : an_W} {ms : List Nat} {A0 A : pm_A} (h : gFr w ms A0 A) {ra rb s d n : Int} (hm : ∀ j, mcode w rb j ∈ ms) : gFr w ms A0 (pm_cpy A ra s rb d n) := by
  intro r' j h0 hj hn
  rw [cpy_ne]
  · exact h r' j h0 hj hn
  · intro e; subst e; exact hn (hm j)
/-- objects' numbers are as before -/
def obj_eq (A B : pm_A) : Prop := ∀ r j : Int, (an_sh wX r).1 = 0 → B r j = A r j
theorem obj_upd {A B : pm_A} (h : obj_eq A B) {r i x : Int} (hr : (an_sh wX r).1 = 1) : obj_eq A (pm_upd B r i x) := by
  intro r' j h0
  rw [upd_ne]
  · exact h r' j h0
  · intro e; subst e; omega
theorem obj_cpy {A B : pm_A} (h : obj_eq A B) {a s r d n : Int} (hr : (an_sh wX r).1 = 1) : obj_eq A (pm_cpy B a s r d n) := by
  intro r' j h0
  rw [cpy_ne]
  · exact h r' j h0
  · intro e; subst e; omega
/-- nothing but the share and its rows is written -/
def only (A B : pm_A) (s : Int) : Prop := ∀ r j : Int, ¬ r = s → ¬ r = A s 2 → ¬ r = A s 3 → B r j = A r j
def add_post (A : pm_A) (s : Int) (r : pm_R) : Prop := ∃ x, r.1 = some (0, x) ∧ -1 ≤ x ∧ x < r.2 s 1 ∧ gH wX r.2 ∧ gFr wX [801, 10014, 10015] A r.2 ∧ A s 1 ≤ r.2 s 1 ∧ only A r.2 s
/-- what stands in the middle of it -/
def add_mid (A B : pm_A) (s : Int) : Prop := gH wX B ∧ gFr wX [801, 10014, 10015] A B ∧ obj_eq A B ∧ only A B s
theorem only_upd {A B : pm_A} {s : Int} (h : only A B s) {r i x : Int} (hr : r = s ∨ r = A s 2 ∨ r = A s 3) : only A (pm_upd B r i x) s := by
  intro k j h1 h2 h3
  rw [upd_ne]
  · exact h k j h1 h2 h3
  · rintro rfl; rcases hr with q | q | q
    · exact h1 q
    · exact h2 q
    · exact h3 q
theorem only_cpy {A B : pm_A} {s : Int} (h : only A B s) {a sp r d n : Int} (hr : r = s ∨ r = A s 2 ∨ r = A s 3) : only A (pm_cpy B a sp r d n) s := by
  intro k j h1 h2 h3
  rw [cpy_ne]
  · exact h k j h1 h2 h3
  · rintro rfl; rcases hr with q | q | q
    · exact h1 q
    · exact h2 q
    · exact h3 q
theorem srt_add : pm_srt o_X8_add = true := by decide +kernel
theorem mc14 {r j : Int} (hk : wX.2 r = 14) : mcode wX r j ∈ [801, 10014, 10015] := by
  unfold mcode; rw [shX_14 hk]; simp only; rw [hk]; decide
theorem mc15 {r j : Int} (hk : wX.2 r = 15) : mcode wX r j ∈ [801, 10014, 10015] := by
  unfold mcode; rw [shX_15 hk]; simp only; rw [hk]; decide
theorem mc801 {r : Int} (hk : wX.2 r = 2) : mcode wX r 1 ∈ [801, 10014, 10015] := by
  unfold mcode; rw [shX_2 hk]; show 801 ∈ [801, 10014, 10015]; decide
theorem add_135 {A B : pm_A} {s : Int} (hB : add_mid A B s) {c f x to n : Int} (hs0 : 0 ≤ s) (hsk : wX.2 s = 2) (hc0 : 0 ≤ c) (hck : wX.2 c = 18) (hn : r64 n) (ht0 : 0 ≤ to) (ht1 : to ≤ A s 1) (hl : A s 1 < 200) : Tm pmt (an_sh wX) o_X8_add 135 ([(2, s), (2, c), (1, n), (9, 0), (0, f), (0, x), (0, to)], [], B) (add_post A s) := by
  obtain ⟨hB1, hB2, hB3, hB4⟩ := hB
  have e1 := shX_2 hsk
  have es : (an_sh wX s).1 = 0 := by rw [e1]
  have w0 := fX_2_0 hB1 hs0 hsk
  have n0 := fX_2_2 hB1 hs0 hsk
  have p0 := fX_2_3 hB1 hs0 hsk
  have en := shX_14 n0.2
  have ep := shX_15 p0.2
  have ec := shX_18 hck
  have g2 : 0 ≤ s ∧ (an_sh wX s).1 = 0 ∧ (an_sh wX s).2.1 = 8 ∧ ((2 : Nat) : Int) < (an_sh wX s).2.2 := by rw [e1]; exact ⟨hs0, rfl, rfl, by decide⟩
  have g3 : 0 ≤ s ∧ (an_sh wX s).1 = 0 ∧ (an_sh wX s).2.1 = 8 ∧ ((3 : Nat) : Int) < (an_sh wX s).2.2 := by rw [e1]; exact ⟨hs0, rfl, rfl, by decide⟩
  have g0 : 0 ≤ s ∧ (an_sh wX s).1 = 0 ∧ (an_sh wX s).2.1 = 8 ∧ ((0 : Nat) : Int) < (an_sh wX s).2.2 := by rw [e1]; exact ⟨hs0, rfl, rfl, by decide⟩
  have g1 : 0 ≤ s ∧ (an_sh wX s).1 = 0 ∧ (an_sh wX s).2.1 = 8 ∧ ((1 : Nat) : Int) < (an_sh wX s).2.2 := by rw [e1]; exact ⟨hs0, rfl, rfl, by decide⟩
  refine wq_ok srt_add (fr := []) (cuts := [143, 163]) (J := fun pc st => pc = 143 ∧ st = ([(2, s), (2, c), (1, n), (9, 0), (0, f), (0, x), (0, to)], [], pm_upd B (B s 2) to n)) ?_ 20 135 _ ?_
  · rintro pc st ⟨rfl, rfl⟩
    have hC : add_mid A (pm_upd B (B s 2) to n) s := ⟨gH_upd hB1 (k := (1, 1, 200, [(1, -9223372036854775808, 9223372036854775807)])) (by rw [n0.2]; rfl) (fun q => by cases q) (fun _ a ha => by cases ha; exact ⟨rfl, hn.1, hn.2⟩), gFr_upd hB2 (mc14 n0.2), obj_upd hB3 (by rw [en]), only_upd hB4 (Or.inr (Or.inl (hB3 s 2 es)))⟩
    generalize hCe : pm_upd B (B s 2) to n = C at hC
    obtain ⟨hC1, hC2, hC3, hC4⟩ := hC
    have w1 := fX_2_0 hC1 hs0 hsk
    have p1 := fX_2_3 hC1 hs0 hsk
    have ep1 := shX_15 p1.2
    have hw : C s 0 = A s 0 := hC3 s 0 es
    have hm1 : 0 ≤ to * C s 0 := Int.mul_nonneg ht0 w1.1
    have hm2 : to * C s 0 ≤ 199 * 12 := Int.mul_le_mul (by omega) w1.2 w1.1 (by omega)
    refine wq_ok srt_add (fr := []) (cuts := [163]) (J := fun pc st => pc = 163 ∧ st = ([(2, s), (2, c), (1, n), (9, 0), (0, f), (0, x), (0, to)], [], pm_cpy C c 0 (C s 3) (to * C s 0) (C s 0))) ?_ 20 143 _ ?_
    · rintro pc st ⟨rfl, rfl⟩
      have hD : add_mid A (pm_cpy C c 0 (C s 3) (to * C s 0) (C s 0)) s := ⟨gH_cpy hC1 (ka := (1, 0, 12, [(0, -2147483648, 2147483647)])) (kb := (1, 0, 2400, [(0, -2147483648, 2147483647)])) hc0 (by rw [hck]; rfl) (by rw [p1.2]; rfl) rfl rfl rfl rfl rfl rfl (by omega) hm1 (by simp only; omega), gFr_cpy hC2 (fun j => mc15 p1.2), obj_cpy hC3 (by rw [ep1]), only_cpy hC4 (Or.inr (Or.inr (hC3 s 3 es)))⟩
      generalize pm_cpy C c 0 (C s 3) (to * C s 0) (C s 0) = E at hD
      obtain ⟨hE1, hE2, hE3, hE4⟩ := hD
      have hl1 : E s 1 = A s 1 := hE3 s 1 es
      have l1 := fX_2_1 hE1 hs0 hsk
      refine wq_ok srt_add (fr := []) (cuts := []) (J := fun _ _ => False) (fun _ _ h => h.elim) 20 163 _ ?_
      refine ⟨g1, ?_⟩
      refine ⟨⟨by omega, by omega⟩, ?_⟩
      refine ⟨g1, ?_⟩
      refine ⟨rfl, to, rfl, by omega, ?_, ?_, ?_, ?_, only_upd hE4 (Or.inl rfl)⟩
      · show to < pm_upd E s 1 (E s 1 + 1) s 1
        rw [upd_at]; omega
      · exact gH_upd hE1 (k := (0, 8, 4, [(0, 0, 12), (0, 0, 200), (2, 14, 0), (2, 15, 0)])) (by rw [hsk]; rfl) (fun _ j a hj ej => by
          have : j = 1 := by omega
          subst this
          cases hj
          exact ⟨rfl, by simp only; omega, by simp only; omega⟩) (fun q => by cases q)
      · exact gFr_upd hE2 (mc801 hsk)
      · show A s 1 ≤ pm_upd E s 1 (E s 1 + 1) s 1
        rw [upd_at]; omega
    · refine ⟨g3, ?_⟩
      refine ⟨g0, ?_⟩
      refine ⟨⟨by omega, by omega⟩, ?_⟩
      refine ⟨g0, ?_⟩
      refine ⟨⟨hc0, p1.1, by rw [ec], by rw [ec], by rw [ep1], by rw [ep1], w1.1, hm1, by omega, by rw [ec]; simp only; omega, by rw [ep1]; simp only; omega⟩, ?_⟩
      exact ⟨rfl, rfl⟩
  · refine ⟨g2, ?_⟩
    refine ⟨⟨n0.1, by rw [en], by rw [en], ht0, by rw [en]; simp only; omega, rfl⟩, ?_⟩
    exact ⟨rfl, rfl⟩
theorem add_96 {A B : pm_A} {s : Int} (hB : add_mid A B s) {c f x to n : Int} (hs0 : 0 ≤ s) (hsk : wX.2 s = 2) (hc0 : 0 ≤ c) (hck : wX.2 c = 18) (hn : r64 n) (ht0 : 0 ≤ to) (ht1 : to ≤ A s 1) (hl : A s 1 < 200) : Tm pmt (an_sh wX) o_X8_add 96 ([(2, s), (2, c), (1, n), (9, 0), (0, f), (0, x), (0, to)], [], B) (add_post A s) := by
  obtain ⟨hB1, hB2, hB3, hB4⟩ := hB
  have e1 := shX_2 hsk
  have es : (an_sh wX s).1 = 0 := by rw [e1]
  have w0 := fX_2_0 hB1 hs0 hsk
  have p0 := fX_2_3 hB1 hs0 hsk
  have ep := shX_15 p0.2
  have hl1 : B s 1 = A s 1 := hB3 s 1 es
  have g3 : 0 ≤ s ∧ (an_sh wX s).1 = 0 ∧ (an_sh wX s).2.1 = 8 ∧ ((3 : Nat) : Int) < (an_sh wX s).2.2 := by rw [e1]; exact ⟨hs0, rfl, rfl, by decide⟩
  have g0 : 0 ≤ s ∧ (an_sh wX s).1 = 0 ∧ (an_sh wX s).2.1 = 8 ∧ ((0 : Nat) : Int) < (an_sh wX s).2.2 := by rw [e1]; exact ⟨hs0, rfl, rfl, by decide⟩
  have g1 : 0 ≤ s ∧ (an_sh wX s).1 = 0 ∧ (an_sh wX s).2.1 = 8 ∧ ((1 : Nat) : Int) < (an_sh wX s).2.2 := by rw [e1]; exact ⟨hs0, rfl, rfl, by decide⟩
  have m1 : 0 ≤ to * B s 0 := Int.mul_nonneg ht0 w0.1
  have m2 : 0 ≤ (B s 1 - to) * B s 0 := Int.mul_nonneg (by omega) w0.1
  have m3 : (to + 1) * B s 0 = to * B s 0 + B s 0 := by rw [Int.add_mul, Int.one_mul]
  have m4 : to * B s 0 + (B s 1 - to) * B s 0 = B s 1 * B s 0 := by rw [← Int.add_mul]; congr 1; omega
  have m5 : B s 1 * B s 0 ≤ 199 * 12 := Int.mul_le_mul (by omega) w0.2 w0.1 (by omega)
  refine wq_ok srt_add (fr := []) (cuts := [135]) (J := fun pc st => pc = 135 ∧ st = ([(2, s), (2, c), (1, n), (9, 0), (0, f), (0, x), (0, to)], [], pm_cpy B (B s 3) (to * B s 0) (B s 3) ((to + 1) * B s 0) ((B s 1 - to) * B s 0))) ?_ 30 96 _ ?_
  · rintro pc st ⟨rfl, rfl⟩
    exact add_135 ⟨gH_cpy hB1 (ka := (1, 0, 2400, [(0, -2147483648, 2147483647)])) (kb := (1, 0, 2400, [(0, -2147483648, 2147483647)])) p0.1 (by rw [p0.2]; rfl) (by rw [p0.2]; rfl) rfl rfl rfl rfl rfl rfl m1 (by omega) (by simp only; omega), gFr_cpy hB2 (fun j => mc15 p0.2), obj_cpy hB3 (by rw [ep]), only_cpy hB4 (Or.inr (Or.inr (hB3 s 3 es)))⟩ hs0 hsk hc0 hck hn ht0 ht1 hl
  · refine ⟨g3, ?_⟩
    refine ⟨g0, ?_⟩
    refine ⟨⟨by omega, by omega⟩, ?_⟩
    refine ⟨g3, ?_⟩
    refine ⟨⟨by omega, by omega⟩, ?_⟩
    refine ⟨g0, ?_⟩
    refine ⟨⟨by omega, by omega⟩, ?_⟩
    refine ⟨g1, ?_⟩
    refine ⟨⟨by omega, by omega⟩, ?_⟩
    refine ⟨g0, ?_⟩
    refine ⟨⟨by omega, by omega⟩, ?_⟩
    refine ⟨⟨p0.1, p0.1, by rw [ep], by rw [ep], by rw [ep], by rw [ep], m2, by omega, m1, by rw [ep]; simp only; omega, by rw [ep]; simp only; omega⟩, ?_⟩
    exact ⟨rfl, rfl⟩
theorem add_66 {A : pm_A} (hA : gH wX A) {s c f x n : Int} {v6 : pm_V} (hs0 : 0 ≤ s) (hsk : wX.2 s = 2) (hc0 : 0 ≤ c) (hck : wX.2 c = 18) (hn : r64 n) (hx : x < 0) (h2 : 0 ≤ -1 - x ∧ -1 - x ≤ A s 1 ∧ -201 ≤ x) (hl : A s 1 < 200) : Tm pmt (an_sh wX) o_X8_add 66 ([(2, s), (2, c), (1, n), (9, 0), (0, f), (0, x), v6], [], A) (add_post A s) := by
  have e1 := shX_2 hsk
  have l0 := fX_2_1 hA hs0 hsk
  have n0 := fX_2_2 hA hs0 hsk
  have en := shX_14 n0.2
  have g2 : 0 ≤ s ∧ (an_sh wX s).1 = 0 ∧ (an_sh wX s).2.1 = 8 ∧ ((2 : Nat) : Int) < (an_sh wX s).2.2 := by rw [e1]; exact ⟨hs0, rfl, rfl, by decide⟩
  have g1 : 0 ≤ s ∧ (an_sh wX s).1 = 0 ∧ (an_sh wX s).2.1 = 8 ∧ ((1 : Nat) : Int) < (an_sh wX s).2.2 := by rw [e1]; exact ⟨hs0, rfl, rfl, by decide⟩
  refine wq_ok srt_add (fr := []) (cuts := [96]) (J := fun pc st => pc = 96 ∧ st = ([(2, s), (2, c), (1, n), (9, 0), (0, f), (0, x), (0, -1 - x)], [], pm_cpy A (A s 2) (-1 - x) (A s 2) (-1 - x + 1) (A s 1 - (-1 - x)))) ?_ 30 66 _ ?_
  · rintro pc st ⟨rfl, rfl⟩
    exact add_96 ⟨gH_cpy hA (ka := (1, 1, 200, [(1, -9223372036854775808, 9223372036854775807)])) (kb := (1, 1, 200, [(1, -9223372036854775808, 9223372036854775807)])) n0.1 (by rw [n0.2]; rfl) (by rw [n0.2]; rfl) rfl rfl rfl rfl rfl rfl (by omega) (by omega) (by simp only; omega), gFr_cpy (fun _ _ _ _ _ => rfl) (fun j => mc14 n0.2), obj_cpy (fun _ _ _ => rfl) (by rw [en]), only_cpy (fun _ _ _ _ _ => rfl) (Or.inr (Or.inl rfl))⟩ hs0 hsk hc0 hck hn (by omega) (by omega) hl
  · refine ⟨⟨by omega, by omega⟩, ?_⟩
    refine ⟨g2, ?_⟩
    refine ⟨g2, ?_⟩
    refine ⟨⟨by omega, by omega⟩, ?_⟩
    refine ⟨g1, ?_⟩
    refine ⟨⟨by omega, by omega⟩, ?_⟩
    refine ⟨⟨n0.1, n0.1, by rw [en], by rw [en], by rw [en], by rw [en], by omega, by omega, by omega, by rw [en]; simp only; omega, by rw [en]; simp only; omega⟩, ?_⟩
    exact ⟨rfl, rfl⟩
theorem add_9 {A : pm_A} (hA : gH wX A) {s c f x n : Int} {v6 : pm_V} (hs0 : 0 ≤ s) (hsk : wX.2 s = 2) (hc0 : 0 ≤ c) (hck : wX.2 c = 18) (hn : r64 n) (hx1 : 0 ≤ x → x < A s 1) (hx2 : x < 0 → 0 ≤ -1 - x ∧ -1 - x ≤ A s 1 ∧ -201 ≤ x) : Tm pmt (an_sh wX) o_X8_add 9 ([(2, s), (2, c), (1, n), (9, 0), (0, f), (0, x), v6], [], A) (add_post A s) := by
  have e1 := shX_2 hsk
  have es : (an_sh wX s).1 = 0 := by rw [e1]
  have l0 := fX_2_1 hA hs0 hsk
  have n0 := fX_2_2 hA hs0 hsk
  have en := shX_14 n0.2
  have g2 : 0 ≤ s ∧ (an_sh wX s).1 = 0 ∧ (an_sh wX s).2.1 = 8 ∧ ((2 : Nat) : Int) < (an_sh wX s).2.2 := by rw [e1]; exact ⟨hs0, rfl, rfl, by decide⟩
  have g1 : 0 ≤ s ∧ (an_sh wX s).1 = 0 ∧ (an_sh wX s).2.1 = 8 ∧ ((1 : Nat) : Int) < (an_sh wX s).2.2 := by rw [e1]; exact ⟨hs0, rfl, rfl, by decide⟩
  have none_ok : add_post A s (some (0, -1), A) := ⟨-1, rfl, by omega, by show -1 < A s 1; omega, hA, fun _ _ _ _ _ => rfl, Int.le_refl _, fun _ _ _ _ _ => rfl⟩
  refine wq_ok srt_add (fr := [23]) (cuts := [25, 66]) (J := fun pc st => (pc = 25 ∧ 0 ≤ x ∧ ∃ y : Int, r64 y ∧ st = ([(2, s), (2, c), (1, n), (9, 0), (0, f), (0, x), v6], [], pm_upd A (A s 2) x y)) ∨ (pc = 66 ∧ x < 0 ∧ A s 1 < 200 ∧ st = ([(2, s), (2, c), (1, n), (9, 0), (0, f), (0, x), v6], [], A))) ?_ 60 9 _ ?_
  · rintro pc st (⟨rfl, hx, y, hy, rfl⟩ | ⟨rfl, hx, hl, rfl⟩)
    · have hx3 := hx1 hx
      have hB : add_mid A (pm_upd A (A s 2) x y) s := ⟨gH_upd hA (k := (1, 1, 200, [(1, -9223372036854775808, 9223372036854775807)])) (by rw [n0.2]; rfl) (fun q => by cases q) (fun _ a ha => by cases ha; exact ⟨rfl, hy.1, hy.2⟩), gFr_upd (fun _ _ _ _ _ => rfl) (mc14 n0.2), obj_upd (fun _ _ _ => rfl) (by rw [en]), only_upd (fun _ _ _ _ _ => rfl) (Or.inr (Or.inl rfl))⟩
      generalize pm_upd A (A s 2) x y = B at hB
      obtain ⟨hB1, hB2, hB3, hB4⟩ := hB
      have l1 : B s 1 = A s 1 := hB3 s 1 es
      have n1 := fX_2_2 hB1 hs0 hsk
      have en1 := shX_14 n1.2
      have y1 := eX_14 hB1 n1.1 n1.2 (j := x) hx (by omega)
      have fin : ∀ v : Int, -1 ≤ v → v < A s 1 → add_post A s (some (0, v), B) := fun v h1 h2 => ⟨v, rfl, h1, by show v < B s 1; omega, hB1, hB2, by show A s 1 ≤ B s 1; omega, hB4⟩
      refine wq_ok srt_add (fr := []) (cuts := []) (J := fun _ _ => False) (fun _ _ h => h.elim) 20 25 _ ?_
      refine ⟨g2, ?_⟩
      refine ⟨⟨n1.1, by rw [en1], by rw [en1], hx, by rw [en1]; simp only; omega⟩, ?_⟩
      refine ⟨fun h => ?_, fun h => ?_, fun h => ?_⟩
      · refine ⟨fun h0 => by omega, fun h0 => ?_⟩
        exact ⟨rfl, fin (-1) (by omega) (by omega)⟩
      · refine ⟨fun h0 => ?_, fun h0 => by omega⟩
        exact ⟨rfl, fin x (by omega) (by omega)⟩
      · refine ⟨fun h0 => ?_, fun h0 => by omega⟩
        exact ⟨rfl, fin x (by omega) (by omega)⟩
    · exact add_66 hA hs0 hsk hc0 hck hn hx (hx2 hx) hl
  · refine ⟨fun h => ?_, fun h => ?_⟩
    · have h2 := hx2 h
      refine ⟨g1, ?_⟩
      refine ⟨fun h3 => ?_, fun h3 => ?_⟩
      · exact ⟨rfl, none_ok⟩
      · refine ⟨fun h4 => ?_, fun h4 => ?_, fun h4 => ?_⟩
        · refine ⟨fun h0 => by omega, fun h0 => ?_⟩
          exact ⟨rfl, none_ok⟩
        · refine ⟨fun h0 => ?_, fun h0 => by omega⟩
          exact Or.inr ⟨rfl, h, h3, rfl⟩
        · refine ⟨fun h0 => ?_, fun h0 => by omega⟩
          exact Or.inr ⟨rfl, h, h3, rfl⟩
    · have h2 := hx1 h
      refine ⟨g2, ?_⟩
      refine ⟨⟨n0.1, by rw [en], by rw [en], h, by rw [en]; simp only; omega⟩, ?_⟩
      refine ⟨⟨n0.1, by rw [en], by rw [en], h, by rw [en]; simp only; omega, rfl⟩, ?_⟩
      exact Or.inl ⟨rfl, h, _, w64_rng _, rfl⟩
theorem add_ct {A : pm_A} (hA : gH wX A) {s c f n : Int} (hs0 : 0 ≤ s) (hsk : wX.2 s = 2) (hc0 : 0 ≤ c) (hck : wX.2 c = 18) (hn : r64 n) (hf0 : 0 ≤ f) (hf1 : f ≤ A s 1) : Cl pmt (an_sh wX) 73 [(2, s), (2, c), (1, n), (0, f)] A (add_post A s) := by
  have l0 := fX_2_1 hA hs0 hsk
  refine Cl.of (Nat.le_of_ble_eq_true rfl) ?_
  refine wq_ok (full := o_X8_add) srt_add (fr := []) (cuts := [9]) (J := fun pc st => pc = 9 ∧ ∃ x : Int, st = ([(2, s), (2, c), (1, n), (9, 0), (0, f), (0, x), (9, 0)], [], A) ∧ (0 ≤ x → x < A s 1) ∧ (x < 0 → 0 ≤ -1 - x ∧ -1 - x ≤ A s 1 ∧ -201 ≤ x)) ?_ 20 0 _ ?_
  · rintro pc st ⟨rfl, x, rfl, h1, h2⟩
    exact add_9 hA hs0 hsk hc0 hck hn h1 h2
  · refine ⟨?_, ?_⟩
    · show decide (0 ≤ s ∧ (an_sh wX s).1 = 0 ∧ (an_sh wX s).2.1 = 8) = true
      rw [decide_eq_true_eq, shX_2 hsk]
      exact ⟨hs0, rfl, rfl⟩
    · refine (find_ct hA hs0 hsk hc0 hck hf0 (by omega)).imp ?_
      rintro r ⟨x, rfl, h1, h2⟩
      refine ⟨rfl, x, rfl, fun q => (h1 q).2, fun q => ?_⟩
      have h3 := h2 q
      have h4 := h3.2.1 hf1
      omega
theorem q_X8_add_0 : gCt wX pmt 73 Q_X8_add_0 := by
  rintro a A ⟨ha, hA⟩
  match a, ha with
  | [x, y, z, u], ⟨h1, h2, h3, h4, _⟩ =>
    obtain ⟨s, rfl, hs0, hsk⟩ := gRf (a := (2, 2, 0)) rfl h1
    obtain ⟨c, rfl, hc0, hck⟩ := gRf (a := (2, 18, 0)) rfl h2
    obtain ⟨n, rfl⟩ := gJ (a := (1, -9223372036854775808, 9223372036854775807)) rfl h3
    obtain ⟨f, rfl⟩ := gI (a := (0, 0, 0)) rfl h4
    have hn := (gv1 (a := (1, -9223372036854775808, 9223372036854775807)) rfl).mp h3
    have hf := (gv0 (a := (0, 0, 0)) rfl).mp h4
    simp only at hn hf
    have l0 := fX_2_1 hA hs0 hsk
    refine (add_ct hA hs0 hsk hc0 hck ⟨hn.2.1, hn.2.2⟩ (by omega) (by omega)).imp ?_
    rintro ⟨r, B⟩ ⟨v, e, k1, k2, k3, k4, k5, k6⟩
    simp only at e k2 k3 k4 k5
    subst e
    have l1 := fX_2_1 k3 hs0 hsk
    exact ⟨⟨⟨rfl, k1, by show v ≤ 199; omega⟩, Nat.lt_of_sub_eq_succ rfl⟩, k3, k4⟩
end

section
/-! Mill.multiply -/
theorem gv_ref {w : an_W} {r : Int} {k : Nat} (h0 : 0 ≤ r) (hk : w.2 r = k) : gv w (2, (k : Int), 0) (2, r) := ⟨rfl, Or.inl ⟨h0, by rw [hk]⟩⟩
theorem srt_multiply : pm_srt o_X5_multiply = true := by decide +kernel
abbrev MMu : List Nat := [800, 801, 10014, 10015, 10018]
def mul_post (A0 : pm_A) (r : pm_R) : Prop := ∃ x, r.1 = some (0, x) ∧ 0 ≤ x ∧ x ≤ 1 ∧ gH wX r.2 ∧ gFr wX MMu A0 r.2
def mul_G (A0 B : pm_A) : Prop := gH wX B ∧ gFr wX MMu A0 B
def mul_L (q a b p w s f t : Int) (v8 v9 v10 : pm_V) : List pm_V := [(2, q), (2, a), (2, b), (2, p), (0, w), (0, s), (0, f), (0, t), v8, v9, v10]
def mul_I91 (A0 : pm_A) (q a b p w s f t n v : Int) (st : pm_S) : Prop := ∃ B, st = (mul_L q a b p w s f t (1, n) (9, 0) (0, v), [], B) ∧ mul_G A0 B ∧ 0 ≤ s ∧ s < 200 ∧ 0 ≤ t ∧ t < 200 ∧ 0 ≤ w ∧ w ≤ 12 ∧ 0 ≤ v ∧ v ≤ w ∧ 0 ≤ f ∧ f ≤ B p 1 ∧ r64 n
def mul_I49 (A0 : pm_A) (q a b p w s t : Int) (st : pm_S) : Prop := ∃ B f v8 v9 v10, st = (mul_L q a b p w s f t v8 v9 v10, [], B) ∧ mul_G A0 B ∧ 0 ≤ s ∧ s < 200 ∧ 0 ≤ t ∧ 0 ≤ w ∧ w ≤ 12 ∧ 0 ≤ f ∧ f ≤ B p 1 ∧ t ≤ 200
def mulH (q a b p : Int) : Prop := (0 ≤ q ∧ wX.2 q = 4) ∧ (0 ≤ a ∧ wX.2 a = 2) ∧ (0 ≤ b ∧ wX.2 b = 2) ∧ (0 ≤ p ∧ wX.2 p = 2)
theorem mul_138 {A0 : pm_A} {q a b p w : Int} (hh : mulH q a b p) {s f t n : Int} {v10 : pm_V} {B : pm_A} (H49 : ∀ st, mul_I49 A0 q a b p w s (t + 1) st → Tm pmt (an_sh wX) o_X5_multiply 49 st (mul_post A0)) (hB : mul_G A0 B) (h1 : 0 ≤ s) (h2 : s < 200) (h3 : 0 ≤ t) (h4 : t < 200) (h5 : 0 ≤ w) (h6 : w ≤ 12) (h7 : 0 ≤ f) (h8 : f ≤ B p 1) (hn : r64 n) : Tm pmt (an_sh wX) o_X5_multiply 138 (mul_L q a b p w s f t (1, n) (9, 0) v10, [], B) (mul_post A0) := by
  obtain ⟨⟨hq0, hqk⟩, ⟨ha0, hak⟩, ⟨hb0, hbk⟩, ⟨hp0, hpk⟩⟩ := hh
  have k0 := fX_4_5 hB.1 hq0 hqk
  refine wq_ok srt_multiply (fr := []) (cuts := [49]) (J := fun pc st => pc = 49 ∧ mul_I49 A0 q a b p w s (t + 1) st) ?_ 30 138 _ ?_
  · rintro pc st ⟨rfl, h⟩; exact H49 st h
  · refine ⟨oX_4 hq0 hqk 5 rfl, ?_⟩
    refine ⟨rX_2 hp0 hpk, ?_⟩
    refine (add_ct hB.1 hp0 hpk k0.1 k0.2 hn h7 h8).imp ?_
    rintro ⟨r, C⟩ ⟨x, e, x1, x2, x3, x4, x5, x6⟩
    simp only at e x2 x3 x4 x5
    subst e
    have l1 := fX_2_1 x3 hp0 hpk
    have hC : mul_G A0 C := ⟨x3, gFr_tr hB.2 x4 (by decide)⟩
    refine ⟨⟨by omega, by omega⟩, ?_⟩
    refine ⟨fun h => ?_, fun h => ?_⟩
    · refine ⟨⟨by omega, by omega⟩, ?_⟩
      exact ⟨rfl, C, x + 1, _, _, _, rfl, hC, h1, h2, by omega, h5, h6, by omega, by omega, by omega⟩
    · exact ⟨rfl, 0, rfl, by omega, by omega, hC⟩
theorem mul_91 {A0 : pm_A} {q a b p w : Int} (hh : mulH q a b p) {s f t n : Int} (H49 : ∀ st, mul_I49 A0 q a b p w s (t + 1) st → Tm pmt (an_sh wX) o_X5_multiply 49 st (mul_post A0)) : ∀ (m : Nat) (v : Int) (st : pm_S), (w - v).toNat < m → mul_I91 A0 q a b p w s f t n v st → Tm pmt (an_sh wX) o_X5_multiply 91 st (mul_post A0) := by
  have hh0 := hh
  obtain ⟨⟨hq0, hqk⟩, ⟨ha0, hak⟩, ⟨hb0, hbk⟩, ⟨hp0, hpk⟩⟩ := hh
  intro m
  induction m with
  | zero => intro v st h; omega
  | succ m ih =>
    rintro v st hm ⟨B, rfl, hB, h1, h2, h3, h4, h5, h6, h7, h8, h9, h10, hn⟩
    have k0 := fX_4_5 hB.1 hq0 hqk
    have pa := fX_2_3 hB.1 ha0 hak
    have pb := fX_2_3 hB.1 hb0 hbk
    have m1 : 0 ≤ s * w := Int.mul_nonneg h1 h5
    have m2 : s * w ≤ 199 * 12 := Int.mul_le_mul (by omega) h6 h5 (by omega)
    have m3 : 0 ≤ t * w := Int.mul_nonneg h3 h5
    have m4 : t * w ≤ 199 * 12 := Int.mul_le_mul (by omega) h6 h5 (by omega)
    refine wq_ok srt_multiply (fr := [130]) (cuts := [91, 138]) (J := fun pc st => (pc = 91 ∧ v < w ∧ mul_I91 A0 q a b p w s f t n (v + 1) st) ∨ (pc = 138 ∧ st = (mul_L q a b p w s f t (1, n) (9, 0) (0, v), [], B))) ?_ 40 91 _ ?_
    · rintro pc st (⟨rfl, hv, h⟩ | ⟨rfl, rfl⟩)
      · exact ih (v + 1) st (by omega) h
      · exact mul_138 hh0 H49 hB h1 h2 h3 h4 h5 h6 h9 h10 hn
    · refine ⟨fun h => ?_, fun h => ?_⟩
      · exact Or.inr ⟨rfl, rfl⟩
      · refine ⟨oX_4 hq0 hqk 5 rfl, ?_⟩
        refine ⟨oX_2 ha0 hak 3 rfl, ?_⟩
        refine ⟨⟨by omega, by omega⟩, ?_⟩
        refine ⟨⟨by omega, by omega⟩, ?_⟩
        refine ⟨aX_15 pa.1 pa.2 (by omega) (by omega), ?_⟩
        refine ⟨oX_2 hb0 hbk 3 rfl, ?_⟩
        refine ⟨⟨by omega, by omega⟩, ?_⟩
        refine ⟨⟨by omega, by omega⟩, ?_⟩
        refine ⟨aX_15 pb.1 pb.2 (by omega) (by omega), ?_⟩
        refine ⟨tX_18 k0.1 k0.2 (by omega) (by omega) rfl, ?_⟩
        refine ⟨⟨by omega, by omega⟩, ?_⟩
        refine Or.inl ⟨rfl, h, _, rfl, ⟨uX_18 hB.1 k0.2 (w32_rng _).1 (w32_rng _).2, gFr_upd hB.2 (mX_18 k0.2 rfl)⟩, h1, h2, h3, h4, h5, h6, by omega, by omega, h9, ?_, hn⟩
        rw [upd_ne]
        · exact h10
        · intro e
          have e1 := shX_2 hpk
          have e2 := shX_18 k0.2
          rw [← e, e1] at e2
          cases e2
theorem mul_49 {A0 : pm_A} {q a b p w : Int} (hh : mulH q a b p) {s : Int} (H167 : ∀ B f t v8 v9 v10, mul_G A0 B → 0 ≤ s → s < 200 → 0 ≤ w → w ≤ 12 → Tm pmt (an_sh wX) o_X5_multiply 167 (mul_L q a b p w s f t v8 v9 v10, [], B) (mul_post A0)) : ∀ (m : Nat) (t : Int) (st : pm_S), (200 - t).toNat < m → mul_I49 A0 q a b p w s t st → Tm pmt (an_sh wX) o_X5_multiply 49 st (mul_post A0) := by
  have hh0 := hh
  obtain ⟨⟨hq0, hqk⟩, ⟨ha0, hak⟩, ⟨hb0, hbk⟩, ⟨hp0, hpk⟩⟩ := hh
  intro m
  induction m with
  | zero => intro t st h; omega
  | succ m ih =>
    rintro t st hm ⟨B, f, v8, v9, v10, rfl, hB, h1, h2, h3, h5, h6, h7, h8, h9⟩
    have la := fX_2_1 hB.1 ha0 hak
    have lb := fX_2_1 hB.1 hb0 hbk
    have na := fX_2_2 hB.1 ha0 hak
    have nb := fX_2_2 hB.1 hb0 hbk
    refine wq_ok srt_multiply (fr := []) (cuts := [91, 167]) (J := fun pc st => (pc = 91 ∧ t < 200 ∧ ∃ n : Int, mul_I91 A0 q a b p w s f t n 0 st) ∨ (pc = 167 ∧ st = (mul_L q a b p w s f t v8 v9 v10, [], B))) ?_ 40 49 _ ?_
    · rintro pc st (⟨rfl, ht, n, h⟩ | ⟨rfl, rfl⟩)
      · exact mul_91 hh0 (fun st h => ih (t + 1) st (by omega) h) _ 0 st (Nat.lt_succ_self _) h
      · exact H167 B f t v8 v9 v10 hB h1 h2 h5 h6
    · refine ⟨oX_2 hb0 hbk 1 rfl, ?_⟩
      refine ⟨fun h => ?_, fun h => ?_⟩
      · exact Or.inr ⟨rfl, rfl⟩
      · refine ⟨oX_2 ha0 hak 2 rfl, ?_⟩
        refine ⟨aX_14 na.1 na.2 h1 h2, ?_⟩
        refine ⟨oX_2 hb0 hbk 2 rfl, ?_⟩
        refine ⟨aX_14 nb.1 nb.2 h3 (by omega), ?_⟩
        refine ⟨rfl, ?_⟩
        have y1 := eX_14 hB.1 na.1 na.2 h1 h2
        have y2 := eX_14 hB.1 nb.1 nb.2 h3 (show t < 200 by omega)
        refine Cl.gct q_X5_multiplied_0 (a := [(1, B (B a 2) s), (1, B (B b 2) t)]) ⟨⟨rfl, y1.1, y1.2⟩, ⟨rfl, y2.1, y2.2⟩, trivial⟩ hB.1 ?_
        rintro ⟨r, C⟩ hr hC1 hC2
        simp only at hr hC1 hC2
        match r, hr with
        | some v, ⟨hv, _⟩ =>
          obtain ⟨n, rfl⟩ := gJ (a := (1, -9223372036854775808, 9223372036854775807)) rfl hv
          have hn := (gv1 (a := (1, -9223372036854775808, 9223372036854775807)) rfl).mp hv
          have hCG : mul_G A0 C := ⟨hC1, gFr_tr hB.2 hC2 (fun x hx => by cases hx)⟩
          have hp1 : C p 1 = B p 1 := hC2 p 1 hp0 (by omega) (fun hx => by cases hx)
          have yes : mul_I91 A0 q a b p w s f t n 0 (mul_L q a b p w s f t (1, n) (9, 0) (0, 0), [], C) := ⟨C, rfl, hCG, h1, h2, h3, by omega, h5, h6, by omega, by omega, h7, by omega, ⟨hn.2.1, hn.2.2⟩⟩
          refine ⟨fun h4 => ?_, fun h4 => ?_, fun h4 => ?_⟩
          · refine ⟨fun h0 => ?_, fun h0 => by omega⟩
            exact Or.inl ⟨rfl, by omega, n, yes⟩
          · refine ⟨fun h0 => by omega, fun h0 => ?_⟩
            exact ⟨rfl, 0, rfl, by omega, by omega, hCG⟩
          · refine ⟨fun h0 => ?_, fun h0 => by omega⟩
            exact Or.inl ⟨rfl, by omega, n, yes⟩
def mul_I34 (A0 : pm_A) (q a b p w s : Int) (st : pm_S) : Prop := ∃ B v6 v7 v8 v9 v10, st = ([(2, q), (2, a), (2, b), (2, p), (0, w), (0, s), v6, v7, v8, v9, v10], [], B) ∧ mul_G A0 B ∧ 0 ≤ s ∧ s ≤ 200 ∧ 0 ≤ w ∧ w ≤ 12
theorem mul_34 {A0 : pm_A} {q a b p w : Int} (hh : mulH q a b p) : ∀ (m : Nat) (s : Int) (st : pm_S), (200 - s).toNat < m → mul_I34 A0 q a b p w s st → Tm pmt (an_sh wX) o_X5_multiply 34 st (mul_post A0) := by
  have hh0 := hh
  obtain ⟨⟨hq0, hqk⟩, ⟨ha0, hak⟩, ⟨hb0, hbk⟩, ⟨hp0, hpk⟩⟩ := hh
  intro m
  induction m with
  | zero => intro t st h; omega
  | succ m ih =>
    rintro s st hm ⟨B, v6, v7, v8, v9, v10, rfl, hB, h1, h2, h5, h6⟩
    have la := fX_2_1 hB.1 ha0 hak
    have lp := fX_2_1 hB.1 hp0 hpk
    refine wq_ok srt_multiply (fr := []) (cuts := [49]) (J := fun pc st => pc = 49 ∧ s < 200 ∧ mul_I49 A0 q a b p w s 0 st) ?_ 40 34 _ ?_
    · rintro pc st ⟨rfl, hs, h⟩
      refine mul_49 hh0 (fun C f t v8 v9 v10 hC k1 k2 k3 k4 => ?_) _ 0 st (Nat.lt_succ_self _) h
      refine wq_ok srt_multiply (fr := []) (cuts := [34]) (J := fun pc st => pc = 34 ∧ mul_I34 A0 q a b p w (s + 1) st) ?_ 10 167 _ ?_
      · rintro pc st ⟨rfl, h⟩
        exact ih (s + 1) st (by omega) h
      · refine ⟨⟨by omega, by omega⟩, ?_⟩
        exact ⟨rfl, C, _, _, _, _, _, rfl, hC, by omega, by omega, k3, k4⟩
    · refine ⟨oX_2 ha0 hak 1 rfl, ?_⟩
      refine ⟨fun h => ?_, fun h => ?_⟩
      · exact ⟨rfl, 1, rfl, by omega, by omega, hB⟩
      · exact ⟨rfl, by omega, B, 0, _, _, _, rfl, hB, h1, by omega, by omega, h5, h6, by omega, lp.1, by omega⟩
theorem q_X5_multiply_0 : gCt wX pmt 45 Q_X5_multiply_0 := by
  rintro l A ⟨hl, hA⟩
  match l, hl with
  | [x, y, z, u], ⟨h1, h2, h3, h4, _⟩ =>
    obtain ⟨q, rfl, hq0, hqk⟩ := gRf (a := (2, 4, 0)) rfl h1
    obtain ⟨a, rfl, ha0, hak⟩ := gRf (a := (2, 2, 0)) rfl h2
    obtain ⟨b, rfl, hb0, hbk⟩ := gRf (a := (2, 2, 0)) rfl h3
    obtain ⟨p, rfl, hp0, hpk⟩ := gRf (a := (2, 2, 0)) rfl h4
    have la := fX_2_1 hA ha0 hak
    have lb := fX_2_1 hA hb0 hbk
    have wa := fX_2_0 hA ha0 hak
    have done : ∀ r, mul_post A r → gR wX Q_X5_multiply_0.2.1 r.1 ∧ gH wX r.2 ∧ gFr wX Q_X5_multiply_0.2.2 A r.2 := by
      rintro ⟨r, B⟩ ⟨x, e, k1, k2, k3, k4⟩
      simp only at e k3 k4
      subst e
      exact ⟨⟨⟨rfl, k1, k2⟩, Nat.lt_of_sub_eq_succ rfl⟩, k3, k4⟩
    refine Cl.imp (Q := mul_post A) ?_ done
    refine Cl.of (Nat.le_of_ble_eq_true rfl) ?_
    refine wq_ok (full := o_X5_multiply) srt_multiply (fr := []) (cuts := [34]) (J := fun pc st => pc = 34 ∧ mul_I34 A q a b p (A a 0) 0 st) ?_ 30 0 _ ?_
    · rintro pc st ⟨rfl, h⟩
      exact mul_34 ⟨⟨hq0, hqk⟩, ⟨ha0, hak⟩, ⟨hb0, hbk⟩, ⟨hp0, hpk⟩⟩ _ 0 st (Nat.lt_succ_self _) h
    · refine ⟨oX_2 ha0 hak 1 rfl, ?_⟩
      refine ⟨oX_2 hb0 hbk 1 rfl, ?_⟩
      refine ⟨⟨by omega, by omega⟩, ?_⟩
      refine ⟨⟨by omega, by omega⟩, ?_⟩
      refine ⟨fun h => ?_, fun h => ?_⟩
      · refine ⟨oX_2 ha0 hak 0 rfl, ?_⟩
        refine ⟨rX_2 hp0 hpk, ?_⟩
        refine Cl.gct q_X8_clear_0 (a := [(2, p), (0, A a 0)]) ⟨gv_ref hp0 hpk, ⟨rfl, wa.1, wa.2⟩, trivial⟩ hA ?_
        rintro ⟨r, C⟩ hr hC1 hC2
        simp only at hr hC1 hC2
        match r, hr with
        | none, _ => exact ⟨rfl, C, _, _, _, _, _, rfl, ⟨hC1, gFr_tr (fun _ _ _ _ _ => rfl) hC2 (by decide)⟩, by omega, by omega, wa.1, wa.2⟩
      · exact ⟨rfl, 0, rfl, by omega, by omega, hA, fun _ _ _ _ _ => rfl⟩
end

section
theorem q_X5_addAll_0 : gCt wX pmt 39 Q_X5_addAll_0 := an_by [(73, Q_X8_add_0)] [] [(0, [(2, 4, 0), (2, 2, 0), (2, 2, 0), (3, 0, 0), (3, 0, 0)], [], [], [(0, 9), (0, 0), (0, 0)]), (8, [(2, 4, 0), (2, 2, 0), (2, 2, 0), (0, 0, 12), (0, 0, 200)], [], [], [(0, 4), (1, 4), (0, 26)])] 41 (ct_c q_X8_add_0 ct_n) (by decide +kernel)
theorem q_X5_takeAway_0 : gCt wX pmt 48 Q_X5_takeAway_0 := an_by [(77, Q_X8_find_0)] [] [(0, [(2, 4, 0), (2, 2, 0), (0, 0, 199), (2, 2, 0), (1, (-9223372036854775808), 9223372036854775807), (3, 0, 0), (3, 0, 0), (3, 0, 0), (3, 0, 0), (3, 0, 0)], [], [], [(0, 20), (0, 0), (0, 0), (0, 0), (0, 0)]), (12, [(2, 4, 0), (2, 2, 0), (0, 0, 199), (2, 2, 0), (1, (-9223372036854775808), 9223372036854775807), (3, 0, 0), (0, 0, 12), (0, 0, 200), (0, 0, 200), (3, 0, 0)], [], [], [(0, 13), (1, 8), (0, 33), (0, 0), (0, 0)]), (24, [(2, 4, 0), (2, 2, 0), (0, 0, 199), (2, 2, 0), (1, (-9223372036854775808), 9223372036854775807), (3, 0, 0), (0, 0, 12), (0, 0, 200), (0, 0, 199), (0, 0, 12)], [], [(3, 801, 1, 200)], [(0, 13), (1, 8), (0, 27), (1, 9), (0, 21)]), (132, [(2, 4, 0), (2, 2, 0), (0, 0, 199), (2, 2, 0), (1, (-9223372036854775808), 9223372036854775807), (3, 0, 0), (0, 0, 12), (0, 0, 200), (0, 0, 200), (3, 0, 0)], [(0, 0, 1)], [(3, 801, 0, 200)], [(0, 0), (0, 0), (0, 0), (0, 0), (0, 0)])] 80 (ct_c q_X8_find_0 ct_n) (by decide +kernel)
theorem q_X5_beginProduct_0 : gCt wX pmt 40 Q_X5_beginProduct_0 := an_by [(1, Q_J7_fill_53178_0), (1, Q_J7_fill_53178_1), (1, Q_J7_fill_53178_2), (1, Q_J7_fill_53178_3), (44, Q_X5_multiplied_0), (73, Q_X8_add_0), (75, Q_X8_clear_0)] [] [(0, [(2, 4, 0), (2, 1, 0), (0, 0, 5), (0, (-1), 1), (2, 2, 0), (3, 0, 0), (3, 0, 0), (3, 0, 0), (3, 0, 0), (3, 0, 0), (3, 0, 0), (3, 0, 0)], [], [], [(0, 33), (0, 0), (0, 0), (0, 0), (0, 0)]), (25, [(2, 4, 0), (2, 1, 0), (0, 0, 5), (0, (-1), 1), (2, 2, 0), (0, 0, 12), (1, (-9223372036854775808), 9223372036854775807), (3, 0, 0), (0, 0, 12), (3, 0, 0), (3, 0, 0), (3, 0, 0)], [], [], [(0, 19), (1, 8), (0, 50), (0, 0), (0, 0)]), (108, [(2, 4, 0), (2, 1, 0), (0, 0, 5), (0, (-1), 1), (2, 2, 0), (0, 1, 12), (1, (-9223372036854775808), 9223372036854775807), (3, 0, 0), (0, 0, 5), (0, 1, 2147483647), (2, 2, 0), (0, 0, 12)], [], [(1, 700, 1, 6)], [(0, 19), (1, 8), (0, 5), (1, 11), (0, 17)]), (145, [(2, 4, 0), (2, 1, 0), (0, 0, 5), (0, (-1), 1), (2, 2, 0), (0, 1, 12), (1, (-9223372036854775808), 9223372036854775807), (3, 0, 0), (0, 0, 5), (0, 1, 2147483647), (2, 2, 0), (0, 0, 2147483647)], [], [(1, 700, 1, 6)], [(0, 19), (1, 8), (0, 2), (1, 11), (0, 22)]), (191, [(2, 4, 0), (2, 1, 0), (0, 0, 5), (0, (-1), 1), (2, 2, 0), (0, 1, 12), (1, (-9223372036854775808), 9223372036854775807), (3, 0, 0), (0, 0, 11), (0, (-2147483648), 2147483647), (3, 0, 0), (3, 0, 0)], [], [], [(0, 19), (1, 8), (0, 1), (0, 0), (0, 0)]), (231, [(2, 4, 0), (2, 1, 0), (0, 0, 5), (0, (-1), 1), (2, 2, 0), (0, 0, 12), (1, (-9223372036854775808), 9223372036854775807), (3, 0, 0), (0, 0, 12), (3, 0, 0), (3, 0, 0), (3, 0, 0)], [], [], [(0, 1), (0, 0), (0, 0), (0, 0), (0, 0)]), (232, [(2, 4, 0), (2, 1, 0), (0, 0, 5), (0, (-1), 1), (2, 2, 0), (0, 0, 12), (1, (-9223372036854775808), 9223372036854775807), (3, 0, 0), (0, 0, 12), (3, 0, 0), (3, 0, 0), (3, 0, 0)], [(0, 0, 1)], [], [(0, 0), (0, 0), (0, 0), (0, 0), (0, 0)])] 128 (ct_c q_J7_fill_53178_0 (ct_c q_J7_fill_53178_1 (ct_c q_J7_fill_53178_2 (ct_c q_J7_fill_53178_3 (ct_c q_X5_multiplied_0 (ct_c q_X8_add_0 (ct_c q_X8_clear_0 ct_n))))))) (by decide +kernel)
theorem q_X5_product_0 : gCt wX pmt 46 Q_X5_product_0 := an_by [(40, Q_X5_beginProduct_0), (45, Q_X5_multiply_0)] [] [(0, [(2, 4, 0), (2, 1, 0), (0, 0, 5), (0, (-1), 1), (2, 2, 0), (2, 2, 0), (3, 0, 0), (3, 0, 0), (3, 0, 0), (3, 0, 0), (3, 0, 0), (3, 0, 0)], [], [], [(0, 19), (0, 0), (0, 0), (0, 0), (0, 0)]), (25, [(2, 4, 0), (2, 1, 0), (0, 0, 5), (0, (-1), 1), (2, 2, 0), (2, 2, 0), (2, 2, 0), (2, 2, 0), (0, 0, 6), (3, 0, 0), (3, 0, 0), (3, 0, 0)], [], [], [(0, 4), (1, 8), (0, 28), (0, 0), (0, 0)]), (66, [(2, 4, 0), (2, 1, 0), (0, 0, 5), (0, (-1), 1), (2, 2, 0), (2, 2, 0), (2, 2, 0), (2, 2, 0), (0, 0, 5), (3, 0, 0), (3, 0, 0), (3, 0, 0)], [(0, (-2147483648), 2147483647)], [(1, 700, 1, 6)], [(0, 4), (1, 8), (0, 5), (0, 0), (0, 0)]), (71, [(2, 4, 0), (2, 1, 0), (0, 0, 5), (0, (-1), 1), (2, 2, 0), (2, 2, 0), (2, 2, 0), (2, 2, 0), (0, 0, 5), (0, (-2147483648), 2147483647), (0, 0, 2147483647), (3, 0, 0)], [], [(1, 700, 1, 6)], [(0, 4), (1, 8), (0, 2), (1, 10), (0, 19)])] 72 (ct_c q_X5_beginProduct_0 (ct_c q_X5_multiply_0 ct_n)) (by decide +kernel)
end

section
/-! Seed.hasTable, Seed.isSameAs -/
theorem srt_hasTable : pm_srt o_X7_hasTable = true := by decide +kernel
def bool_post (A : pm_A) (r : pm_R) : Prop := ∃ x, r = (some (0, x), A) ∧ 0 ≤ x ∧ x ≤ 1
def ht_H (A : pm_A) (s o c : Int) : Prop := gH wX A ∧ (0 ≤ s ∧ wX.2 s = 1) ∧ (0 ≤ o ∧ wX.2 o = 10) ∧ (0 ≤ c ∧ wX.2 c = 13) ∧ ∀ i, 0 ≤ i → i < A s 0 → 0 ≤ A c i
theorem ht_40 {A : pm_A} {s o c i row : Int} (hh : ht_H A s o c) (H3 : ∀ st, (∃ v5 v6, st = ([(2, s), (2, o), (0, 0), (2, c), (0, i + 1), v5, v6], [], A)) → Tm pmt (an_sh wX) o_X7_hasTable 3 st (bool_post A)) (hi0 : 0 ≤ i) (hi1 : i < 12) (hr0 : 0 ≤ row) (hr1 : row ≤ 11) : ∀ (m : Nat) (j : Int), 0 ≤ j → j ≤ 6 → (6 - j).toNat < m → Tm pmt (an_sh wX) o_X7_hasTable 40 ([(2, s), (2, o), (0, 0), (2, c), (0, i), (0, row), (0, j)], [], A) (bool_post A) := by
  obtain ⟨hA, ⟨hs0, hsk⟩, ⟨ho0, hok⟩, ⟨hc0, hck⟩, hp⟩ := hh
  have p0 := fX_1_0 hA hs0 hsk
  have t0 := fX_1_2 hA hs0 hsk
  intro m
  induction m with
  | zero => intro j _ _ h; omega
  | succ m ih =>
    intro j hj0 hj1 hm
    refine wq_ok srt_hasTable (fr := []) (cuts := [3, 40]) (J := fun pc st => (pc = 40 ∧ j < 6 ∧ st = ([(2, s), (2, o), (0, 0), (2, c), (0, i), (0, row), (0, j + 1)], [], A)) ∨ (pc = 3 ∧ ∃ v5 v6, st = ([(2, s), (2, o), (0, 0), (2, c), (0, i + 1), v5, v6], [], A))) ?_ 60 40 _ ?_
    · rintro pc st (⟨rfl, h, rfl⟩ | ⟨rfl, h⟩)
      · exact ih (j + 1) (by omega) (by omega) (by omega)
      · exact H3 st h
    · refine ⟨oX_1 hs0 hsk 0 rfl, ?_⟩
      refine ⟨fun h => ?_, fun h => ?_⟩
      · refine ⟨⟨by omega, by omega⟩, ?_⟩
        exact Or.inr ⟨rfl, _, _, rfl⟩
      · have cj := hp j hj0 (by omega)
        have cj2 := eX_13 hA hc0 hck hj0 (show j < 6 by omega)
        refine ⟨oX_1 hs0 hsk 2 rfl, ?_⟩
        refine ⟨⟨by omega, by omega⟩, ?_⟩
        refine ⟨⟨by omega, by omega⟩, ?_⟩
        refine ⟨aX_10 t0.1 t0.2 (by omega) (by omega), ?_⟩
        refine ⟨⟨by omega, by omega⟩, ?_⟩
        refine ⟨⟨by omega, by omega⟩, ?_⟩
        refine ⟨aX_13 hc0 hck hj0 (by omega), ?_⟩
        refine ⟨⟨by omega, by omega⟩, ?_⟩
        refine ⟨aX_10 ho0 hok (by omega) (by omega), ?_⟩
        refine ⟨fun h2 => ?_, fun h2 => ?_⟩
        · refine ⟨⟨by omega, by omega⟩, ?_⟩
          exact Or.inl ⟨rfl, by omega, rfl⟩
        · exact ⟨rfl, 0, rfl, by omega, by omega⟩
theorem ht_3 {A : pm_A} {s o c : Int} (hh : ht_H A s o c) : ∀ (m : Nat) (i : Int) (st : pm_S), 0 ≤ i → i ≤ 12 → (12 - i).toNat < m → (∃ v5 v6, st = ([(2, s), (2, o), (0, 0), (2, c), (0, i), v5, v6], [], A)) → Tm pmt (an_sh wX) o_X7_hasTable 3 st (bool_post A) := by
  have hh0 := hh
  obtain ⟨hA, ⟨hs0, hsk⟩, ⟨ho0, hok⟩, ⟨hc0, hck⟩, hp⟩ := hh
  have p0 := fX_1_0 hA hs0 hsk
  have h0 := fX_1_1 hA hs0 hsk
  intro m
  induction m with
  | zero => intro i st _ _ h; omega
  | succ m ih =>
    rintro i st hi0 hi1 hm ⟨v5, v6, rfl⟩
    refine wq_ok srt_hasTable (fr := []) (cuts := [40]) (J := fun pc st => pc = 40 ∧ i < 12 ∧ ∃ row : Int, 0 ≤ row ∧ row ≤ 11 ∧ st = ([(2, s), (2, o), (0, 0), (2, c), (0, i), (0, row), (0, 0)], [], A)) ?_ 60 3 _ ?_
    · rintro pc st ⟨rfl, h, row, r0, r1, rfl⟩
      exact ht_40 hh0 (fun st h => ih (i + 1) st (by omega) (by omega) (by omega) h) hi0 h r0 r1 _ 0 (by omega) (by omega) (Nat.lt_succ_self _)
    · refine ⟨oX_1 hs0 hsk 0 rfl, ?_⟩
      refine ⟨oX_1 hs0 hsk 1 rfl, ?_⟩
      refine ⟨⟨by omega, by omega⟩, ?_⟩
      refine ⟨fun h => ?_, fun h => ?_⟩
      · exact ⟨rfl, 1, rfl, by omega, by omega⟩
      · refine ⟨oX_1 hs0 hsk 0 rfl, ?_⟩
        refine ⟨fun h2 => ?_, fun h2 => ?_⟩
        · exact ⟨rfl, by omega, i, by omega, by omega, rfl⟩
        · have ci := hp i hi0 (by omega)
          have ci2 := eX_13 hA hc0 hck hi0 (show i < 6 by omega)
          refine ⟨aX_13 hc0 hck hi0 (by omega), ?_⟩
          exact ⟨rfl, by omega, A c i, ci, by omega, rfl⟩
theorem hasTable_ct {A : pm_A} {s o c : Int} (hh : ht_H A s o c) : Cl pmt (an_sh wX) 68 [(2, s), (2, o), (0, 0), (2, c)] A (bool_post A) := by
  refine Cl.of (Nat.le_of_ble_eq_true rfl) ?_
  refine wq_ok (full := o_X7_hasTable) srt_hasTable (fr := []) (cuts := [3]) (J := fun pc st => pc = 3 ∧ ∃ v5 v6, st = ([(2, s), (2, o), (0, 0), (2, c), (0, 0), v5, v6], [], A)) ?_ 10 0 _ ?_
  · rintro pc st ⟨rfl, h⟩
    exact ht_3 hh _ 0 st (by omega) (by omega) (Nat.lt_succ_self _) h
  · exact ⟨rfl, _, _, rfl⟩
theorem srt_isSameAs : pm_srt o_X7_isSameAs = true := by decide +kernel
def sm_post (A0 : pm_A) (r : pm_R) : Prop := ∃ x, r.1 = some (0, x) ∧ 0 ≤ x ∧ x ≤ 1 ∧ gH wX r.2 ∧ gFr wX [10013] A0 r.2
def sm_I (A0 : pm_A) (s o i : Int) (st : pm_S) : Prop := ∃ B, st = ([(2, s), (2, o), (0, i)], [], B) ∧ gH wX B ∧ gFr wX [10013] A0 B ∧ 0 ≤ i ∧ i ≤ 6 ∧ ∀ j, 0 ≤ j → j < i → 0 ≤ B (B s 5) j
theorem sm_26 {A0 : pm_A} {s o : Int} (hs0 : 0 ≤ s) (hsk : wX.2 s = 1) (ho0 : 0 ≤ o) (hok : wX.2 o = 1) : ∀ (m : Nat) (i : Int) (st : pm_S), (6 - i).toNat < m → sm_I A0 s o i st → Tm pmt (an_sh wX) o_X7_isSameAs 26 st (sm_post A0) := by
  intro m
  induction m with
  | zero => intro i st h; omega
  | succ m ih =>
    rintro i st hm ⟨B, rfl, hB, hF, hi0, hi1, hp⟩
    have p0 := fX_1_0 hB hs0 hsk
    have l0 := fX_1_4 hB hs0 hsk
    have t0 := fX_1_5 hB hs0 hsk
    have q0 := fX_1_2 hB ho0 hok
    refine wq_ok srt_isSameAs (fr := []) (cuts := [26, 50]) (J := fun pc st => (pc = 50 ∧ i < 6 ∧ ∃ C x, st = ([(2, s), (2, o), (0, i)], [], pm_upd C (C s 5) i x) ∧ gH wX C ∧ gFr wX [10013] A0 C ∧ -1 ≤ x ∧ x ≤ 5 ∧ ∀ j, 0 ≤ j → j < i → 0 ≤ C (C s 5) j)) ?_ 60 26 _ ?_
    · rintro pc st ⟨rfl, hi, C, x, rfl, hC, hCF, x0, x1, hCp⟩
      have t1 := fX_1_5 hC hs0 hsk
      have es := shX_1 hsk
      have et := shX_13 t1.2
      have ne : ¬ s = C s 5 := fun q => by rw [← q, es] at et; cases et
      have hD : gH wX (pm_upd C (C s 5) i x) := uX_13 hC t1.2 x0 x1
      have hDF : gFr wX [10013] A0 (pm_upd C (C s 5) i x) := gFr_upd hCF (mX_13 t1.2 rfl)
      have d5 : pm_upd C (C s 5) i x s 5 = C s 5 := upd_ne ne
      have dx : pm_upd C (C s 5) i x (C s 5) i = x := upd_at
      have dj : ∀ j, 0 ≤ j → j < i → 0 ≤ pm_upd C (C s 5) i x (C s 5) j := fun j j0 j1 => by rw [upd_n2 (by omega)]; exact hCp j j0 j1
      generalize pm_upd C (C s 5) i x = D at hD hDF d5 dx dj
      refine wq_ok srt_isSameAs (fr := []) (cuts := [26]) (J := fun pc st => pc = 26 ∧ sm_I A0 s o (i + 1) st) ?_ 20 50 _ ?_
      · rintro pc st ⟨rfl, h⟩
        exact ih (i + 1) st (by omega) h
      · refine ⟨oX_1 hs0 hsk 5 rfl, ?_⟩
        refine ⟨aX_13 (by rw [d5]; exact t1.1) (by rw [d5]; exact t1.2) hi0 hi, ?_⟩
        refine ⟨fun h => ?_, fun h => ?_⟩
        · refine ⟨⟨by omega, by omega⟩, ?_⟩
          refine ⟨rfl, D, rfl, hD, hDF, by omega, by omega, fun j j0 j1 => ?_⟩
          rw [d5] at h ⊢
          by_cases e : j = i
          · rw [e, dx]; rw [dx] at h; omega
          · exact dj j j0 (by omega)
        · exact ⟨rfl, 0, rfl, by omega, by omega, hD, hDF⟩
    · refine ⟨oX_1 hs0 hsk 0 rfl, ?_⟩
      refine ⟨fun h => ?_, fun h => ?_⟩
      · refine ⟨oX_1 ho0 hok 2 rfl, ?_⟩
        refine ⟨oX_1 hs0 hsk 5 rfl, ?_⟩
        refine ⟨rX_1 hs0 hsk, ?_⟩
        refine (hasTable_ct (s := s) (o := B o 2) (c := B s 5) ⟨hB, ⟨hs0, hsk⟩, q0, t0, fun j j0 j1 => hp j j0 (by omega)⟩).imp ?_
        rintro r ⟨x, rfl, x0, x1⟩
        refine ⟨?_, x, rfl, x0, x1, hB, hF⟩
        show (Nat.beq 0 0 && (decide (x = 0) || decide (x = 1))) = true
        simp only [Bool.and_eq_true, Bool.or_eq_true, decide_eq_true_eq]
        exact ⟨rfl, by omega⟩
      · have li := eX_12 hB l0.1 l0.2 hi0 (show i < 6 by omega)
        refine ⟨oX_1 hs0 hsk 5 rfl, ?_⟩
        refine ⟨oX_1 hs0 hsk 4 rfl, ?_⟩
        refine ⟨aX_12 l0.1 l0.2 hi0 (by omega), ?_⟩
        refine ⟨rX_1 ho0 hok, ?_⟩
        refine Cl.gct q_X7_placeOf_0 (a := [(2, o), (2, B (B s 4) i)]) ⟨gv_ref ho0 hok, gv_ref li.1 li.2, trivial⟩ hB ?_
        rintro ⟨r, C⟩ hr hC1 hC2
        simp only at hr hC1 hC2
        match r, hr with
        | some v, ⟨hv, _⟩ =>
          obtain ⟨x, rfl⟩ := gI (a := (0, -1, 5)) rfl hv
          have hx := (gv0 (a := (0, -1, 5)) rfl).mp hv
          have e5 : C s 5 = B s 5 := hC2 s 5 hs0 (by omega) (fun h => by cases h)
          have t1 := fX_1_5 hC1 hs0 hsk
          refine ⟨tX_13 (by rw [← e5]; exact t1.1) (by rw [← e5]; exact t1.2) hi0 (by omega) rfl, ?_⟩
          refine ⟨rfl, by omega, C, x, ?_, hC1, gFr_tr hF hC2 (fun y hy => by cases hy), hx.2.1, hx.2.2, fun j j0 j1 => ?_⟩
          · rw [e5]
          · rw [e5, hC2 (B s 5) j t0.1 j0 (fun h => by cases h)]; exact hp j j0 j1
theorem q_X7_isSameAs_0 : gCt wX pmt 70 Q_X7_isSameAs_0 := by
  rintro l A ⟨hl, hA⟩
  match l, hl with
  | [x, y], ⟨h1, h2, _⟩ =>
    obtain ⟨s, rfl, hs0, hsk⟩ := gRf (a := (2, 1, 0)) rfl h1
    obtain ⟨o, rfl, ho0, hok⟩ := gRf (a := (2, 1, 0)) rfl h2
    have done : ∀ r, sm_post A r → gR wX Q_X7_isSameAs_0.2.1 r.1 ∧ gH wX r.2 ∧ gFr wX Q_X7_isSameAs_0.2.2 A r.2 := by
      rintro ⟨r, B⟩ ⟨x, e, k1, k2, k3, k4⟩
      simp only at e k3 k4
      subst e
      exact ⟨⟨⟨rfl, k1, k2⟩, Nat.lt_of_sub_eq_succ rfl⟩, k3, k4⟩
    refine Cl.imp (Q := sm_post A) ?_ done
    refine Cl.of (Nat.le_of_ble_eq_true rfl) ?_
    have no : sm_post A (some (0, 0), A) := ⟨0, rfl, by omega, by omega, hA, fun _ _ _ _ _ => rfl⟩
    refine wq_ok (full := o_X7_isSameAs) srt_isSameAs (fr := []) (cuts := [26]) (J := fun pc st => pc = 26 ∧ sm_I A s o 0 st) ?_ 40 0 _ ?_
    · rintro pc st ⟨rfl, h⟩
      exact sm_26 hs0 hsk ho0 hok _ 0 st (Nat.lt_succ_self _) h
    · refine ⟨oX_1 hs0 hsk 0 rfl, ?_⟩
      refine ⟨oX_1 ho0 hok 0 rfl, ?_⟩
      refine ⟨fun h => ?_, fun h => ?_⟩
      · exact ⟨rfl, no⟩
      · refine ⟨oX_1 hs0 hsk 1 rfl, ?_⟩
        refine ⟨oX_1 ho0 hok 1 rfl, ?_⟩
        refine ⟨fun h2 => ?_, fun h2 => ?_⟩
        · exact ⟨rfl, A, rfl, hA, fun _ _ _ _ _ => rfl, by omega, by omega, fun j j0 j1 => by omega⟩
        · exact ⟨rfl, no⟩
end

section
/-! Kinds.tracePath -/
theorem srt_tracePath : pm_srt o_X4_tracePath = true := by decide +kernel
/-- the n-th place on the way back -/
def itr (A : pm_A) (f x : Int) : Nat → Int
  | 0 => x
  | n + 1 => A f (itr A f x n)
abbrev TPm : List Nat := [400, 10032]
def tp_post (A0 : pm_A) (r : pm_R) : Prop := r.1 = none ∧ gH wX r.2 ∧ gFr wX TPm A0 r.2
def tp_H (A0 : pm_A) (s b last : Int) : Prop := (0 ≤ s ∧ wX.2 s = 7) ∧ (0 ≤ b ∧ wX.2 b = 6) ∧ gH wX A0 ∧ 0 ≤ last ∧ last ≤ 2999
def tp_B (A0 B : pm_A) (s b last t : Int) : Prop := gH wX B ∧ gFr wX TPm A0 B ∧ B s 0 = t ∧ 1 ≤ t ∧ t ≤ 3000 ∧ ∀ n : Nat, n ≤ (t - 1).toNat → 0 ≤ itr A0 (A0 b 2) last n ∧ itr A0 (A0 b 2) last n ≤ 2999
theorem tp_from {A0 B : pm_A} {s b last t : Int} (hh : tp_H A0 s b last) (hB : tp_B A0 B s b last t) {x : Int} (hx : 0 ≤ x) : B b 2 = A0 b 2 ∧ B (A0 b 2) x = A0 (A0 b 2) x := by
  obtain ⟨⟨hs0, hsk⟩, ⟨hb0, hbk⟩, hA, _⟩ := hh
  have f0 := fX_6_2 hA hb0 hbk
  refine ⟨hB.2.1 b 2 hb0 (by omega) ?_, hB.2.1 _ x f0.1 hx ?_⟩
  · unfold mcode; rw [shX_6 hbk]; show ¬ 102 ∈ TPm; decide
  · unfold mcode; rw [shX_31 f0.2]; show ¬ 10000 + wX.2 (A0 b 2) ∈ TPm; rw [f0.2]; decide
theorem tp_74 {A0 : pm_A} {s b last k t : Int} (hh : tp_H A0 s b last) : ∀ (m : Nat) (i : Int) (B : pm_A), (i + 1).toNat < m → -1 ≤ i → i ≤ t - 2 → tp_B A0 B s b last t → Tm pmt (an_sh wX) o_X4_tracePath 74 ([(2, s), (2, b), (0, last), (0, k), (0, itr A0 (A0 b 2) last (t - 2 - i).toNat), (0, i)], [], B) (tp_post A0) := by
  have hh0 := hh
  obtain ⟨⟨hs0, hsk⟩, ⟨hb0, hbk⟩, hA, hl0, hl1⟩ := hh
  intro m
  induction m with
  | zero => intro i B h; omega
  | succ m ih =>
    intro i B hm hi0 hi1 hB
    obtain ⟨hB1, hB2, hB3, ht0, ht1, hit⟩ := hB
    have n0 := fX_6_3 hB1 hb0 hbk
    have p0 := fX_7_2 hB1 hs0 hsk
    have f0 := fX_6_2 hB1 hb0 hbk
    refine wq_ok srt_tracePath (fr := []) (cuts := [74, 93]) (J := fun pc st => pc = 93 ∧ 0 ≤ i ∧ ∃ y, r32 y ∧ st = ([(2, s), (2, b), (0, last), (0, k), (0, itr A0 (A0 b 2) last (t - 2 - i).toNat), (0, i)], [], pm_upd B (B s 2) i y)) ?_ 40 74 _ ?_
    · rintro pc st ⟨rfl, hi, y, hy, rfl⟩
      have hx := hit (t - 2 - i).toNat (by omega)
      have es := shX_7 hsk
      have ep := shX_32 p0.2
      have ne : ¬ s = B s 2 := fun q => by rw [← q, es] at ep; cases ep
      have hC : tp_B A0 (pm_upd B (B s 2) i y) s b last t := ⟨uX_32 hB1 p0.2 hy.1 hy.2, gFr_upd hB2 (mX_32 p0.2 rfl), by rw [upd_ne ne]; exact hB3, ht0, ht1, hit⟩
      generalize pm_upd B (B s 2) i y = C at hC
      have g1 := tp_from hh0 hC hx.1
      have f1 := fX_6_2 hC.1 hb0 hbk
      have e : itr A0 (A0 b 2) last (t - 2 - (i - 1)).toNat = A0 (A0 b 2) (itr A0 (A0 b 2) last (t - 2 - i).toNat) := by
        have : (t - 2 - (i - 1)).toNat = (t - 2 - i).toNat + 1 := by omega
        rw [this]; rfl
      refine wq_ok srt_tracePath (fr := []) (cuts := [74]) (J := fun pc st => pc = 74 ∧ st = ([(2, s), (2, b), (0, last), (0, k), (0, itr A0 (A0 b 2) last (t - 2 - (i + -1)).toNat), (0, i + -1)], [], C)) ?_ 20 93 _ ?_
      · rintro pc st ⟨rfl, rfl⟩
        exact ih (i + -1) C (by omega) (by omega) (by omega) hC
      · refine ⟨oX_6 hb0 hbk 2 rfl, ?_⟩
        refine ⟨aX_31 f1.1 f1.2 hx.1 (by omega), ?_⟩
        refine ⟨⟨by omega, by omega⟩, ?_⟩
        refine ⟨rfl, ?_⟩
        rw [show i + -1 = i - 1 by omega, e, ← g1.2, ← g1.1]
        rfl
    · refine ⟨fun h => ?_, fun h => ?_⟩
      · exact ⟨rfl, hB1, hB2⟩
      · have hx := hit (t - 2 - i).toNat (by omega)
        have y1 := eX_32 hB1 n0.1 n0.2 hx.1 (show itr A0 (A0 b 2) last (t - 2 - i).toNat < 3000 by omega)
        refine ⟨oX_7 hs0 hsk 2 rfl, ?_⟩
        refine ⟨oX_6 hb0 hbk 3 rfl, ?_⟩
        refine ⟨aX_32 n0.1 n0.2 hx.1 (by omega), ?_⟩
        refine ⟨tX_32 p0.1 p0.2 h (by omega) rfl, ?_⟩
        exact ⟨rfl, h, _, y1, rfl⟩
theorem tp_51 {A0 B : pm_A} {s b last k t at_ : Int} {v5 : pm_V} (hh : tp_H A0 s b last) (hk : r32 k) (hB : tp_B A0 B s b last t) : Tm pmt (an_sh wX) o_X4_tracePath 51 ([(2, s), (2, b), (0, last), (0, k), (0, at_), v5], [], B) (tp_post A0) := by
  have hh0 := hh
  obtain ⟨⟨hs0, hsk⟩, ⟨hb0, hbk⟩, hA, hl0, hl1⟩ := hh
  obtain ⟨hB1, hB2, hB3, ht0, ht1, hit⟩ := hB
  have p0 := fX_7_2 hB1 hs0 hsk
  refine wq_ok srt_tracePath (fr := []) (cuts := [63]) (J := fun pc st => pc = 63 ∧ st = ([(2, s), (2, b), (0, last), (0, k), (0, at_), v5], [], pm_upd B (B s 2) (B s 0 - 1) k)) ?_ 30 51 _ ?_
  · rintro pc st ⟨rfl, rfl⟩
    have es := shX_7 hsk
    have ep := shX_32 p0.2
    have ne : ¬ s = B s 2 := fun q => by rw [← q, es] at ep; cases ep
    have hC : tp_B A0 (pm_upd B (B s 2) (B s 0 - 1) k) s b last t := ⟨uX_32 hB1 p0.2 hk.1 hk.2, gFr_upd hB2 (mX_32 p0.2 rfl), by rw [upd_ne ne]; exact hB3, ht0, ht1, hit⟩
    generalize pm_upd B (B s 2) (B s 0 - 1) k = C at hC
    have hC3 := hC.2.2.1
    refine wq_ok srt_tracePath (fr := []) (cuts := [74]) (J := fun pc st => pc = 74 ∧ st = ([(2, s), (2, b), (0, last), (0, k), (0, last), (0, C s 0 - 2)], [], C)) ?_ 20 63 _ ?_
    · rintro pc st ⟨rfl, rfl⟩
      have := tp_74 (k := k) (t := t) hh0 _ (t - 2) C (Nat.lt_succ_self _) (by omega) (by omega) hC
      rw [show (t - 2 - (t - 2)).toNat = 0 by omega] at this
      rw [hC3]
      exact this
    · refine ⟨oX_7 hs0 hsk 0 rfl, ?_⟩
      refine ⟨⟨by omega, by omega⟩, ?_⟩
      exact ⟨rfl, rfl⟩
  · refine ⟨oX_7 hs0 hsk 2 rfl, ?_⟩
    refine ⟨oX_7 hs0 hsk 0 rfl, ?_⟩
    refine ⟨⟨by omega, by omega⟩, ?_⟩
    refine ⟨tX_32 p0.1 p0.2 (by omega) (by omega) rfl, ?_⟩
    exact ⟨rfl, rfl⟩
theorem mc400 {r : Int} (hk : wX.2 r = 7) : mcode wX r 0 ∈ TPm := by
  unfold mcode; rw [shX_7 hk]; show 400 ∈ TPm; decide
theorem tp_put {A0 B : pm_A} {s b last t t2 : Int} (hh : tp_H A0 s b last) (hB : gH wX B) (hF : gFr wX TPm A0 B) (h1 : 1 ≤ t) (h2 : t ≤ 3000) (hit : ∀ n : Nat, n ≤ (t - 1).toNat → 0 ≤ itr A0 (A0 b 2) last n ∧ itr A0 (A0 b 2) last n ≤ 2999) : tp_B A0 (pm_upd B s 0 t) s b last t := by
  obtain ⟨⟨hs0, hsk⟩, _⟩ := hh
  refine ⟨gH_upd hB (k := (0, 4, 6, [(0, 0, 3000), (0, -2147483648, 2147483647), (2, 32, 0), (2, 10, 0), (1, -9223372036854775808, 9223372036854775807), (1, -9223372036854775808, 9223372036854775807)])) (by rw [hsk]; rfl) (fun _ j a hj ej => ?_) (fun q => by cases q), gFr_upd hF (mc400 hsk), upd_at, h1, h2, hit⟩
  have : j = 0 := by omega
  subst this
  cases hj
  exact ⟨rfl, by simp only; omega, by simp only; omega⟩
theorem tp_8 {A0 : pm_A} {s b last k : Int} {v5 : pm_V} (hh : tp_H A0 s b last) (hk : r32 k) : ∀ (m : Nat) (t : Int) (B : pm_A), (3000 - t).toNat < m → tp_B A0 B s b last t → Tm pmt (an_sh wX) o_X4_tracePath 8 ([(2, s), (2, b), (0, last), (0, k), (0, itr A0 (A0 b 2) last (t - 1).toNat), v5], [], B) (tp_post A0) := by
  have hh0 := hh
  obtain ⟨⟨hs0, hsk⟩, ⟨hb0, hbk⟩, hA, hl0, hl1⟩ := hh
  intro m
  induction m with
  | zero => intro t B h; omega
  | succ m ih =>
    intro t B hm hB
    have hB0 := hB
    obtain ⟨hB1, hB2, hB3, ht0, ht1, hit⟩ := hB
    have f0 := fX_6_2 hB1 hb0 hbk
    have hx := hit (t - 1).toNat (by omega)
    have g1 := tp_from hh0 hB0 hx.1
    have y1 := eX_31 hB1 f0.1 f0.2 hx.1 (show itr A0 (A0 b 2) last (t - 1).toNat < 3000 by omega)
    refine wq_ok srt_tracePath (fr := []) (cuts := [39, 51]) (J := fun pc st => (pc = 51 ∧ st = ([(2, s), (2, b), (0, last), (0, k), (0, itr A0 (A0 b 2) last (t - 1).toNat), v5], [], B)) ∨ (pc = 39 ∧ t < 3000 ∧ ¬ B (B b 2) (itr A0 (A0 b 2) last (t - 1).toNat) = -1 ∧ st = ([(2, s), (2, b), (0, last), (0, k), (0, itr A0 (A0 b 2) last (t - 1).toNat), v5], [], pm_upd B s 0 (B s 0 + 1)))) ?_ 40 8 _ ?_
    · rintro pc st (⟨rfl, rfl⟩ | ⟨rfl, ht, hne, rfl⟩)
      · exact tp_51 hh0 hk hB0
      · have e : itr A0 (A0 b 2) last (t + 1 - 1).toNat = A0 (A0 b 2) (itr A0 (A0 b 2) last (t - 1).toNat) := by
          have : (t + 1 - 1).toNat = (t - 1).toNat + 1 := by omega
          rw [this]; rfl
        have hC : tp_B A0 (pm_upd B s 0 (B s 0 + 1)) s b last (t + 1) := by
          rw [hB3]
          refine tp_put (t2 := 0) hh0 hB1 hB2 (by omega) (by omega) (fun n hn => ?_)
          by_cases hn2 : n ≤ (t - 1).toNat
          · exact hit n hn2
          · have : n = (t + 1 - 1).toNat := by omega
            have key : A0 (A0 b 2) (itr A0 (A0 b 2) last (t - 1).toNat) = B (B b 2) (itr A0 (A0 b 2) last (t - 1).toNat) := by rw [g1.1, g1.2]
            rw [this, e, key]
            omega
        generalize pm_upd B s 0 (B s 0 + 1) = C at hC
        have g2 := tp_from hh0 hC hx.1
        have f1 := fX_6_2 hC.1 hb0 hbk
        refine wq_ok srt_tracePath (fr := []) (cuts := [8]) (J := fun pc st => pc = 8 ∧ st = ([(2, s), (2, b), (0, last), (0, k), (0, itr A0 (A0 b 2) last (t + 1 - 1).toNat), v5], [], C)) ?_ 20 39 _ ?_
        · rintro pc st ⟨rfl, rfl⟩
          exact ih (t + 1) C (by omega) hC
        · refine ⟨oX_6 hb0 hbk 2 rfl, ?_⟩
          refine ⟨aX_31 f1.1 f1.2 hx.1 (by omega), ?_⟩
          refine ⟨rfl, ?_⟩
          rw [e, ← g2.2, ← g2.1]
          rfl
    · refine ⟨oX_6 hb0 hbk 2 rfl, ?_⟩
      refine ⟨aX_31 f0.1 f0.2 hx.1 (by omega), ?_⟩
      refine ⟨fun h => ?_, fun h => ?_⟩
      · exact Or.inl ⟨rfl, rfl⟩
      · refine ⟨oX_7 hs0 hsk 0 rfl, ?_⟩
        refine ⟨fun h2 => ?_, fun h2 => ?_⟩
        · exact Or.inl ⟨rfl, rfl⟩
        · refine ⟨oX_7 hs0 hsk 0 rfl, ?_⟩
          refine ⟨⟨by omega, by omega⟩, ?_⟩
          refine ⟨oX_7 hs0 hsk 0 rfl, ?_⟩
          exact Or.inr ⟨rfl, by omega, h, rfl⟩
theorem q_X4_tracePath_0 : gCt wX pmt 37 Q_X4_tracePath_0 := by
  rintro l A ⟨hl, hA⟩
  match l, hl with
  | [x, y, z, u], ⟨h1, h2, h3, h4, _⟩ =>
    obtain ⟨s, rfl, hs0, hsk⟩ := gRf (a := (2, 7, 0)) rfl h1
    obtain ⟨b, rfl, hb0, hbk⟩ := gRf (a := (2, 6, 0)) rfl h2
    obtain ⟨last, rfl⟩ := gI (a := (0, 0, 2999)) rfl h3
    obtain ⟨k, rfl⟩ := gI (a := (0, -2147483648, 2147483647)) rfl h4
    have hl := (gv0 (a := (0, 0, 2999)) rfl).mp h3
    have hk := (gv0 (a := (0, -2147483648, 2147483647)) rfl).mp h4
    have hh : tp_H A s b last := ⟨⟨hs0, hsk⟩, ⟨hb0, hbk⟩, hA, hl.2.1, hl.2.2⟩
    refine Cl.imp (Q := tp_post A) ?_ ?_
    · refine Cl.of (Nat.le_of_ble_eq_true rfl) ?_
      refine wq_ok (full := o_X4_tracePath) srt_tracePath (fr := []) (cuts := [8]) (J := fun pc st => pc = 8 ∧ st = ([(2, s), (2, b), (0, last), (0, k), (0, last), (9, 0)], [], pm_upd A s 0 1)) ?_ 20 0 _ ?_
      · rintro pc st ⟨rfl, rfl⟩
        have hB : tp_B A (pm_upd A s 0 1) s b last 1 := tp_put (t2 := 0) hh hA (fun _ _ _ _ _ => rfl) (by omega) (by omega) (fun n hn => by
          have : n = 0 := by omega
          rw [this]; exact hl.2)
        exact tp_8 (v5 := (9, 0)) hh ⟨hk.2.1, hk.2.2⟩ _ 1 _ (Nat.lt_succ_self _) hB
      · refine ⟨oX_7 hs0 hsk 0 rfl, ?_⟩
        exact ⟨rfl, rfl⟩
    · rintro ⟨r, B⟩ ⟨e, k1, k2⟩
      simp only at e k1 k2
      subst e
      exact ⟨trivial, k1, k2⟩
end

section
/-! Ring.tellArrow, tellArrows -/
theorem srt_tellArrow : pm_srt o_X6_tellArrow = true := by decide +kernel
def bnd (A : pm_A) (r N : Int) : Prop := ∀ j : Int, 0 ≤ j → j < 72 → -N ≤ A r j ∧ A r j ≤ N
def ta_post (A0 : pm_A) (r N : Int) (q : pm_R) : Prop := q.1 = none ∧ gH wX q.2 ∧ gFr wX [10016] A0 q.2 ∧ bnd q.2 r N
theorem tellArrow_ct {A : pm_A} {r x y N : Int} (hA : gH wX A) (hr0 : 0 ≤ r) (hrk : wX.2 r = 16) (hN : bnd A r N) (hN0 : 0 ≤ N) (hN2 : N ≤ 2998) : Cl pmt (an_sh wX) 63 [(2, r), (0, x), (0, y)] A (ta_post A r (N + 1)) := by
  have no : ta_post A r (N + 1) (none, A) := ⟨rfl, hA, fun _ _ _ _ _ => rfl, fun j j0 j1 => by have := hN j j0 j1; show -(N + 1) ≤ A r j ∧ A r j ≤ N + 1; omega⟩
  refine Cl.of (Nat.le_of_ble_eq_true rfl) ?_
  refine wq_ok (full := o_X6_tellArrow) srt_tellArrow (fr := []) (cuts := [32]) (J := fun pc st => pc = 32 ∧ 0 ≤ x ∧ x < 6 ∧ 0 ≤ y ∧ y < 6 ∧ st = ([(2, r), (0, x), (0, y)], [], pm_upd A r (x * 6 + y) (A r (x * 6 + y) + 1))) ?_ 40 0 _ ?_
  · rintro pc st ⟨rfl, x0, x1, y0, y1, rfl⟩
    have h1 := hN (x * 6 + y) (by omega) (by omega)
    have hB : gH wX (pm_upd A r (x * 6 + y) (A r (x * 6 + y) + 1)) := uX_16 hA hrk (by omega) (by omega)
    have hBF : gFr wX [10016] A (pm_upd A r (x * 6 + y) (A r (x * 6 + y) + 1)) := gFr_upd (fun _ _ _ _ _ => rfl) (mX_16 hrk rfl)
    have hBv : ∀ j : Int, 0 ≤ j → j < 72 → -N ≤ pm_upd A r (x * 6 + y) (A r (x * 6 + y) + 1) r j ∧ pm_upd A r (x * 6 + y) (A r (x * 6 + y) + 1) r j ≤ N + 1 := by
      intro j j0 j1
      have := hN j j0 j1
      by_cases e : j = x * 6 + y
      · rw [e, upd_at]; omega
      · rw [upd_n2 e]; omega
    generalize pm_upd A r (x * 6 + y) (A r (x * 6 + y) + 1) = B at hB hBF hBv
    have h2 := hBv (y * 6 + x) (by omega) (by omega)
    refine wq_ok srt_tellArrow (fr := []) (cuts := []) (J := fun _ _ => False) (fun _ _ h => h.elim) 20 32 _ ?_
    refine ⟨⟨by omega, by omega⟩, ?_⟩
    refine ⟨⟨by omega, by omega⟩, ?_⟩
    refine ⟨aX_16 hr0 hrk (by omega) (by omega), ?_⟩
    refine ⟨⟨by omega, by omega⟩, ?_⟩
    refine ⟨tX_16 hr0 hrk (by omega) (by omega) rfl, ?_⟩
    refine ⟨rfl, uX_16 hB hrk (by omega) (by omega), gFr_upd hBF (mX_16 hrk rfl), fun j j0 j1 => ?_⟩
    have := hBv j j0 j1
    show -(N + 1) ≤ pm_upd B r (y * 6 + x) (B r (y * 6 + x) - 1) r j ∧ pm_upd B r (y * 6 + x) (B r (y * 6 + x) - 1) r j ≤ N + 1
    by_cases e : j = y * 6 + x
    · rw [e, upd_at]; omega
    · rw [upd_n2 e]; omega
  · refine ⟨fun h => no, fun h => ?_⟩
    refine ⟨fun h2 => no, fun h2 => ?_⟩
    refine ⟨fun h3 => no, fun h3 => ?_⟩
    refine ⟨fun h4 => no, fun h4 => ?_⟩
    have h1 := hN (x * 6 + y) (by omega) (by omega)
    refine ⟨⟨by omega, by omega⟩, ?_⟩
    refine ⟨⟨by omega, by omega⟩, ?_⟩
    refine ⟨aX_16 hr0 hrk (by omega) (by omega), ?_⟩
    refine ⟨⟨by omega, by omega⟩, ?_⟩
    refine ⟨tX_16 hr0 hrk (by omega) (by omega) rfl, ?_⟩
    exact ⟨rfl, by omega, by omega, by omega, by omega, rfl⟩
theorem srt_tellArrows : pm_srt o_X6_tellArrows = true := by decide +kernel
def tas_post (A0 : pm_A) (q : pm_R) : Prop := q.1 = none ∧ gH wX q.2 ∧ gFr wX [10016] A0 q.2
def tas_G (A0 B : pm_A) (r N : Int) : Prop := gH wX B ∧ gFr wX [10016] A0 B ∧ bnd B r N
def tas_H (s r : Int) : Prop := (0 ≤ s ∧ wX.2 s = 9) ∧ (0 ≤ r ∧ wX.2 r = 16)
def tas_I27 (A0 : pm_A) (s r a b c : Int) (st : pm_S) : Prop := ∃ B, st = ([(2, s), (2, r), (0, a), (0, b), (0, c)], [], B) ∧ tas_G A0 B r (3 * (100 * a + 10 * b + c)) ∧ 0 ≤ a ∧ a < b ∧ b < c ∧ c ≤ 10 ∧ b ≤ 9
theorem tas_free {A0 B C : pm_A} {r N : Int} (hr0 : 0 ≤ r) (hB : tas_G A0 B r N) (hC : gH wX C) (hF : gFr wX [] B C) : tas_G A0 C r N := ⟨hC, gFr_tr hB.2.1 hF (fun x hx => by cases hx), fun j j0 j1 => by rw [hF r j hr0 j0 (fun h => by cases h)]; exact hB.2.2 j j0 j1⟩
theorem tas_27 {A0 : pm_A} {s r a b : Int} (hh : tas_H s r) (H123 : ∀ B c, tas_G A0 B r (3 * (100 * a + 10 * b + c)) → 0 ≤ a → a < b → b < c → c ≤ 10 → b ≤ 9 → Tm pmt (an_sh wX) o_X6_tellArrows 123 ([(2, s), (2, r), (0, a), (0, b), (0, c)], [], B) (tas_post A0)) : ∀ (m : Nat) (c : Int) (st : pm_S), (11 - c).toNat < m → tas_I27 A0 s r a b c st → Tm pmt (an_sh wX) o_X6_tellArrows 27 st (tas_post A0) := by
  obtain ⟨⟨hs0, hsk⟩, ⟨hr0, hrk⟩⟩ := hh
  intro m
  induction m with
  | zero => intro c st h; omega
  | succ m ih =>
    rintro c st hm ⟨B, rfl, hB, ha, hab, hbc, hc, hb⟩
    have k0 := fX_9_0 hB.1 hs0 hsk
    refine wq_ok srt_tellArrows (fr := []) (cuts := [117, 123]) (J := fun pc st => (pc = 123 ∧ st = ([(2, s), (2, r), (0, a), (0, b), (0, c)], [], B)) ∨ (pc = 117 ∧ c < 10 ∧ ∃ C, st = ([(2, s), (2, r), (0, a), (0, b), (0, c)], [], C) ∧ tas_G A0 C r (3 * (100 * a + 10 * b + c) + 3))) ?_ 60 27 _ ?_
    · rintro pc st (⟨rfl, rfl⟩ | ⟨rfl, hc2, C, rfl, hC⟩)
      · exact H123 B c hB ha hab hbc hc hb
      · refine wq_ok srt_tellArrows (fr := []) (cuts := [27]) (J := fun pc st => pc = 27 ∧ tas_I27 A0 s r a b (c + 1) st) ?_ 10 117 _ ?_
        · rintro pc st ⟨rfl, h⟩
          exact ih (c + 1) st (by omega) h
        · refine ⟨⟨by omega, by omega⟩, ?_⟩
          refine ⟨rfl, C, rfl, ⟨hC.1, hC.2.1, fun j j0 j1 => ?_⟩, ha, hab, by omega, by omega, hb⟩
          have := hC.2.2 j j0 j1
          omega
    · refine ⟨oX_9 hs0 hsk 0 rfl, ?_⟩
      refine ⟨fun h => Or.inl ⟨rfl, rfl⟩, fun h => ?_⟩
      have wk : ∀ {C : pm_A} {N : Int}, tas_G A0 C r N → 0 ≤ N → N ≤ 3 * (100 * a + 10 * b + c) + 3 → tas_G A0 C r (3 * (100 * a + 10 * b + c) + 3) := fun {C N} hC _ hN => ⟨hC.1, hC.2.1, fun j j0 j1 => by have := hC.2.2 j j0 j1; omega⟩
      have lk : ∀ (C : pm_A) (N u v : Int), tas_G A0 C r N → r32 u → r32 v → ∀ Q : pm_R → Prop, (∀ D x, tas_G A0 D r N → 0 ≤ x → x ≤ 1 → Q (some (0, x), D)) → Cl pmt (an_sh wX) 49 [(2, s), (0, u), (0, v)] C Q := by
        intro C N u v hC hu hv Q hQ
        refine Cl.gct q_X6_areLinked_0 (a := [(2, s), (0, u), (0, v)]) ⟨gv_ref hs0 hsk, ⟨rfl, hu.1, hu.2⟩, ⟨rfl, hv.1, hv.2⟩, trivial⟩ hC.1 ?_
        rintro ⟨q, D⟩ hq hD1 hD2
        simp only at hq hD1 hD2
        match q, hq with
        | some w, ⟨hw, _⟩ =>
          obtain ⟨x, rfl⟩ := gI (a := (0, 0, 1)) rfl hw
          have hx := (gv0 (a := (0, 0, 1)) rfl).mp hw
          exact hQ D x (tas_free hr0 hC hD1 hD2) hx.2.1 hx.2.2
      have pk : ∀ (C : pm_A) (N u v : Int), tas_G A0 C r N → r32 u → r32 v → ∀ Q : pm_R → Prop, (∀ D x, tas_G A0 D r N → Q (some (0, x), D)) → Cl pmt (an_sh wX) 61 [(2, s), (0, u), (0, v)] C Q := by
        intro C N u v hC hu hv Q hQ
        refine Cl.gct q_X6_placeOf_0 (a := [(2, s), (0, u), (0, v)]) ⟨gv_ref hs0 hsk, ⟨rfl, hu.1, hu.2⟩, ⟨rfl, hv.1, hv.2⟩, trivial⟩ hC.1 ?_
        rintro ⟨q, D⟩ hq hD1 hD2
        simp only at hq hD1 hD2
        match q, hq with
        | some w, ⟨hw, _⟩ =>
          obtain ⟨x, rfl⟩ := gI (a := (0, -1, 127)) rfl hw
          exact hQ D x (tas_free hr0 hC hD1 hD2)
      have tk : ∀ (C : pm_A) (N u v : Int), tas_G A0 C r N → 0 ≤ N → N ≤ 2998 → ∀ Q : pm_R → Prop, (∀ D, tas_G A0 D r (N + 1) → Q (none, D)) → Cl pmt (an_sh wX) 63 [(2, r), (0, u), (0, v)] C Q := by
        intro C N u v hC h0 h1 Q hQ
        refine (tellArrow_ct hC.1 hr0 hrk hC.2.2 h0 h1).imp ?_
        rintro ⟨q, D⟩ ⟨e, d1, d2, d3⟩
        simp only at e d1 d2 d3
        subst e
        exact hQ D ⟨d1, gFr_tr hC.2.1 d2 (fun x hx => hx), d3⟩
      have ra : r32 a := ⟨by omega, by omega⟩
      have rb : r32 b := ⟨by omega, by omega⟩
      have rc : r32 c := ⟨by omega, by omega⟩
      refine ⟨rX_9 hs0 hsk, lk B _ a b hB ra rb _ (fun C x hC x0 x1 => ?_)⟩
      refine ⟨fun _ => Or.inr ⟨rfl, by omega, C, rfl, wk hC (by omega) (by omega)⟩, fun _ => ?_⟩
      refine ⟨rX_9 hs0 hsk, lk C _ b c hC rb rc _ (fun C x hC x0 x1 => ?_)⟩
      refine ⟨fun _ => Or.inr ⟨rfl, by omega, C, rfl, wk hC (by omega) (by omega)⟩, fun _ => ?_⟩
      refine ⟨rX_9 hs0 hsk, lk C _ a c hC ra rc _ (fun C x hC x0 x1 => ?_)⟩
      refine ⟨fun _ => Or.inr ⟨rfl, by omega, C, rfl, wk hC (by omega) (by omega)⟩, fun _ => ?_⟩
      refine ⟨rX_9 hs0 hsk, pk C _ a b hC ra rb _ (fun C y hC => ?_)⟩
      refine ⟨rX_9 hs0 hsk, pk C _ b c hC rb rc _ (fun C y hC => ?_)⟩
      refine ⟨rfl, tk C _ _ _ hC (by omega) (by omega) _ (fun C hC => ?_)⟩
      refine ⟨rX_9 hs0 hsk, pk C _ b c hC rb rc _ (fun C y hC => ?_)⟩
      refine ⟨rX_9 hs0 hsk, pk C _ a c hC ra rc _ (fun C y hC => ?_)⟩
      refine ⟨rfl, tk C _ _ _ hC (by omega) (by omega) _ (fun C hC => ?_)⟩
      refine ⟨rX_9 hs0 hsk, pk C _ a c hC ra rc _ (fun C y hC => ?_)⟩
      refine ⟨rX_9 hs0 hsk, pk C _ a b hC ra rb _ (fun C y hC => ?_)⟩
      refine ⟨rfl, tk C _ _ _ hC (by omega) (by omega) _ (fun C hC => ?_)⟩
      exact Or.inr ⟨rfl, by omega, C, rfl, wk hC (by omega) (by omega)⟩
def tas_I14 (A0 : pm_A) (s r a b : Int) (st : pm_S) : Prop := ∃ B v4, st = ([(2, s), (2, r), (0, a), (0, b), v4], [], B) ∧ tas_G A0 B r (3 * (100 * a + 10 * b)) ∧ 0 ≤ a ∧ a < b ∧ b ≤ 10
theorem tas_14 {A0 : pm_A} {s r a : Int} (hh : tas_H s r) (ha1 : a ≤ 9) (H129 : ∀ B v3 v4, tas_G A0 B r (3 * (100 * (a + 1))) → 0 ≤ a → Tm pmt (an_sh wX) o_X6_tellArrows 129 ([(2, s), (2, r), (0, a), v3, v4], [], B) (tas_post A0)) : ∀ (m : Nat) (b : Int) (st : pm_S), (11 - b).toNat < m → tas_I14 A0 s r a b st → Tm pmt (an_sh wX) o_X6_tellArrows 14 st (tas_post A0) := by
  have hh0 := hh
  obtain ⟨⟨hs0, hsk⟩, ⟨hr0, hrk⟩⟩ := hh
  intro m
  induction m with
  | zero => intro c st h; omega
  | succ m ih =>
    rintro b st hm ⟨B, v4, rfl, hB, ha, hab, hb⟩
    have k0 := fX_9_0 hB.1 hs0 hsk
    refine wq_ok srt_tellArrows (fr := []) (cuts := [27, 129]) (J := fun pc st => (pc = 129 ∧ ∃ v3 v4, st = ([(2, s), (2, r), (0, a), v3, v4], [], B)) ∨ (pc = 27 ∧ b < 10 ∧ tas_I27 A0 s r a b (b + 1) st)) ?_ 30 14 _ ?_
    · rintro pc st (⟨rfl, v3, v4, rfl⟩ | ⟨rfl, hb2, h⟩)
      · refine H129 B v3 v4 ⟨hB.1, hB.2.1, fun j j0 j1 => ?_⟩ ha
        have := hB.2.2 j j0 j1
        omega
      · refine tas_27 hh0 (fun C c hC _ _ hbc hc hb3 => ?_) _ (b + 1) st (Nat.lt_succ_self _) h
        refine wq_ok srt_tellArrows (fr := []) (cuts := [14]) (J := fun pc st => pc = 14 ∧ tas_I14 A0 s r a (b + 1) st) ?_ 10 123 _ ?_
        · rintro pc st ⟨rfl, h⟩
          exact ih (b + 1) st (by omega) h
        · refine ⟨⟨by omega, by omega⟩, ?_⟩
          refine ⟨rfl, C, _, rfl, ⟨hC.1, hC.2.1, fun j j0 j1 => ?_⟩, ha, by omega, by omega⟩
          have := hC.2.2 j j0 j1
          omega
    · refine ⟨oX_9 hs0 hsk 0 rfl, ?_⟩
      refine ⟨fun h => Or.inl ⟨rfl, _, _, rfl⟩, fun h => ?_⟩
      refine ⟨⟨by omega, by omega⟩, ?_⟩
      refine Or.inr ⟨rfl, by omega, B, rfl, ⟨hB.1, hB.2.1, fun j j0 j1 => ?_⟩, ha, hab, by omega, by omega, by omega⟩
      have := hB.2.2 j j0 j1
      omega
def tas_I2 (A0 : pm_A) (s r a : Int) (st : pm_S) : Prop := ∃ B v3 v4, st = ([(2, s), (2, r), (0, a), v3, v4], [], B) ∧ tas_G A0 B r (3 * (100 * a)) ∧ 0 ≤ a ∧ a ≤ 10
theorem tas_2 {A0 : pm_A} {s r : Int} (hh : tas_H s r) : ∀ (m : Nat) (a : Int) (st : pm_S), (10 - a).toNat < m → tas_I2 A0 s r a st → Tm pmt (an_sh wX) o_X6_tellArrows 2 st (tas_post A0) := by
  have hh0 := hh
  obtain ⟨⟨hs0, hsk⟩, ⟨hr0, hrk⟩⟩ := hh
  intro m
  induction m with
  | zero => intro c st h; omega
  | succ m ih =>
    rintro a st hm ⟨B, v3, v4, rfl, hB, ha, ha1⟩
    have k0 := fX_9_0 hB.1 hs0 hsk
    refine wq_ok srt_tellArrows (fr := []) (cuts := [14]) (J := fun pc st => pc = 14 ∧ a < 10 ∧ tas_I14 A0 s r a (a + 1) st) ?_ 30 2 _ ?_
    · rintro pc st ⟨rfl, ha2, h⟩
      refine tas_14 hh0 (by omega) (fun C w3 w4 hC _ => ?_) _ (a + 1) st (Nat.lt_succ_self _) h
      refine wq_ok srt_tellArrows (fr := []) (cuts := [2]) (J := fun pc st => pc = 2 ∧ tas_I2 A0 s r (a + 1) st) ?_ 10 129 _ ?_
      · rintro pc st ⟨rfl, h⟩
        exact ih (a + 1) st (by omega) h
      · refine ⟨⟨by omega, by omega⟩, ?_⟩
        exact ⟨rfl, C, _, _, rfl, hC, by omega, by omega⟩
    · refine ⟨oX_9 hs0 hsk 0 rfl, ?_⟩
      refine ⟨fun h => ⟨rfl, hB.1, hB.2.1⟩, fun h => ?_⟩
      refine ⟨⟨by omega, by omega⟩, ?_⟩
      refine ⟨rfl, by omega, B, _, rfl, ⟨hB.1, hB.2.1, fun j j0 j1 => ?_⟩, ha, by omega, by omega⟩
      have := hB.2.2 j j0 j1
      omega
theorem tellArrows_ct {A : pm_A} {s r : Int} (hA : gH wX A) (hh : tas_H s r) (hz : bnd A r 0) : Cl pmt (an_sh wX) 64 [(2, s), (2, r)] A (tas_post A) := by
  refine Cl.of (Nat.le_of_ble_eq_true rfl) ?_
  refine wq_ok (full := o_X6_tellArrows) srt_tellArrows (fr := []) (cuts := [2]) (J := fun pc st => pc = 2 ∧ tas_I2 A s r 0 st) ?_ 10 0 _ ?_
  · rintro pc st ⟨rfl, h⟩
    exact tas_2 hh _ 0 st (Nat.lt_succ_self _) h
  · exact ⟨rfl, A, _, _, rfl, ⟨hA, fun _ _ _ _ _ => rfl, hz⟩, by omega, by omega⟩
/-! Arrays.fill with 0 of a told table; Draft.restart -/
theorem srt_fill : pm_srt o_J7_fill_53178 = true := by decide +kernel
theorem fill_5 {A : pm_A} {r : Int} (hr0 : 0 ≤ r) (hrk : wX.2 r = 16) : ∀ (m : Nat) (i : Int) (B : pm_A), (72 - i).toNat < m → 0 ≤ i → i ≤ 72 → gH wX B → gFr wX [10016] A B → (∀ j, 0 ≤ j → j < i → B r j = 0) → Tm pmt (an_sh wX) o_J7_fill_53178 5 ([(2, r), (0, 0), (0, i), (0, 72)], [], B) (fun q => q.1 = none ∧ gH wX q.2 ∧ gFr wX [10016] A q.2 ∧ bnd q.2 r 0) := by
  intro m
  induction m with
  | zero => intro i B h; omega
  | succ m ih =>
    intro i B hm hi0 hi1 hB hF hz
    refine wq_ok srt_fill (fr := []) (cuts := [5]) (J := fun pc st => pc = 5 ∧ i < 72 ∧ st = ([(2, r), (0, 0), (0, i + 1), (0, 72)], [], pm_upd B r i 0)) ?_ 20 5 _ ?_
    · rintro pc st ⟨rfl, hi, rfl⟩
      refine ih (i + 1) _ (by omega) (by omega) (by omega) (uX_16 hB hrk (by omega) (by omega)) (gFr_upd hF (mX_16 hrk rfl)) (fun j j0 j1 => ?_)
      by_cases e : j = i
      · rw [e, upd_at]
      · rw [upd_n2 e]; exact hz j j0 (by omega)
    · refine ⟨fun h => ⟨rfl, hB, hF, fun j j0 j1 => ?_⟩, fun h => ?_⟩
      · have := hz j j0 (by omega)
        show -0 ≤ B r j ∧ B r j ≤ 0
        omega
      · refine ⟨tX_16 hr0 hrk hi0 (by omega) rfl, ?_⟩
        refine ⟨⟨by omega, by omega⟩, ?_⟩
        exact ⟨rfl, h, rfl⟩
theorem fill_ct {A : pm_A} {r : Int} (hA : gH wX A) (hr0 : 0 ≤ r) (hrk : wX.2 r = 16) : Cl pmt (an_sh wX) 1 [(2, r), (0, 0)] A (fun q => q.1 = none ∧ gH wX q.2 ∧ gFr wX [10016] A q.2 ∧ bnd q.2 r 0) := by
  refine Cl.of (Nat.le_of_ble_eq_true rfl) ?_
  have e := shX_16 hrk
  have st0 : pm_step (an_sh wX) (pm_call pmt (an_sh wX) 0) (4, 22, 0, 0, 0, 0, []) ([(2, r), (0, 0), (0, 0), (9, 0)], [(2, r)], A) = some (.inl (4, ([(2, r), (0, 0), (0, 0), (9, 0)], [(0, 72)], A))) := by
    simp only [pm_step, k_r]
    rw [k_if_t ⟨hr0, by rw [e], by rw [e], by rw [e]; simp only; omega⟩, e]
  refine wq_ok (full := o_J7_fill_53178) srt_fill (fr := []) (cuts := [3]) (J := fun pc st => pc = 3 ∧ st = ([(2, r), (0, 0), (0, 0), (9, 0)], [(2, r)], A)) ?_ 10 0 _ ?_
  · rintro pc st ⟨rfl, rfl⟩
    refine Tm.step srt_fill (q := (3, 4, 22, 0, 0, 0, 0, [])) rfl st0 ?_
    refine wq_ok srt_fill (fr := []) (cuts := [5]) (J := fun pc st => pc = 5 ∧ st = ([(2, r), (0, 0), (0, 0), (0, 72)], [], A)) ?_ 10 4 _ ?_
    · rintro pc st ⟨rfl, rfl⟩
      exact fill_5 hr0 hrk _ 0 A (Nat.lt_succ_self _) (by omega) (by omega) hA (fun _ _ _ _ _ => rfl) (fun j j0 j1 => by omega)
    · exact ⟨rfl, rfl⟩
  · exact ⟨rfl, rfl⟩
end

section
/-! Draft.greatestDivisor -/
theorem srt_gd : pm_srt o_X2_greatestDivisor = true := by decide +kernel
theorem mod_half {x y : Int} (h0 : 0 < y) (h1 : y < x) : 2 * (x % y) < x := by
  have a1 : 0 ≤ x % y := Int.emod_nonneg x (by omega)
  have a2 : x % y < y := Int.emod_lt_of_pos x h0
  have a3 := Int.mul_ediv_add_emod x y
  have a4 : 1 ≤ x / y := by
    have := Int.ediv_le_ediv h0 (show y ≤ x by omega)
    rw [Int.ediv_self (by omega)] at this
    exact this
  have a5 : y * 1 ≤ y * (x / y) := Int.mul_le_mul_of_nonneg_left a4 (by omega)
  omega
def gd_L (a b x y t : Int) (v9 v10 : pm_V) : List pm_V := [(1, a), (9, 0), (1, b), (9, 0), (1, x), (9, 0), (1, y), (9, 0), (0, t), v9, v10]
theorem gd_step {A : pm_A} {sh : pm_Sh} {a b x y t : Int} {v9 v10 : pm_V} (hx0 : 0 ≤ x) (hx1 : x ≤ 9223372036854775807) (hy0 : 0 ≤ y) (hy1 : y ≤ 9223372036854775807) (ht0 : 0 ≤ t) (ht : t < 200) (H : ¬ y = 0 → ∀ v9 v10, Tm pmt sh o_X2_greatestDivisor 9 (gd_L a b y (x % y) (t + 1) v9 v10, [], A) (fun r => r = (some (1, (Int.gcd y (x % y) : Int)), A))) : Tm pmt sh o_X2_greatestDivisor 9 (gd_L a b x y t v9 v10, [], A) (fun r => r = (some (1, (Int.gcd x y : Int)), A)) := by
  refine wq_ok srt_gd (fr := []) (cuts := [9]) (J := fun pc st => pc = 9 ∧ ¬ y = 0 ∧ ∃ v9 v10, st = (gd_L a b y (x.tmod y) (t + 1) v9 v10, [], A)) ?_ 30 9 _ ?_
  · rintro pc st ⟨rfl, hy, w9, w10, rfl⟩
    have := H hy w9 w10
    rw [gcd_step hx0 hy0] at this
    rw [Int.tmod_eq_emod_of_nonneg hx0]
    exact this
  · refine ⟨fun h => by omega, fun h => ?_⟩
    refine ⟨fun h2 => ?_, fun h2 => ?_, fun h2 => by omega⟩
    · refine ⟨fun h0 => by omega, fun h0 => ?_⟩
      refine ⟨⟨by omega, ⟨by omega, by omega⟩, ⟨by omega, by omega⟩, fun q => by omega⟩, ?_⟩
      refine ⟨⟨by omega, by omega⟩, ?_⟩
      exact ⟨rfl, by omega, _, _, rfl⟩
    · refine ⟨fun h0 => ?_, fun h0 => by omega⟩
      refine ⟨rfl, ?_⟩
      subst h2
      rw [Int.gcd_zero_right]
      have : ((x.natAbs : Nat) : Int) = x := by omega
      rw [this]
theorem gd_9 {A : pm_A} {sh : pm_Sh} {a b : Int} : ∀ (k : Nat) (x y t : Int) (v9 v10 : pm_V), 0 ≤ y → y < x → x < 2 ^ k → x ≤ 9223372036854775807 → 0 ≤ t → t + 2 * k ≤ 200 → Tm pmt sh o_X2_greatestDivisor 9 (gd_L a b x y t v9 v10, [], A) (fun r => r = (some (1, (Int.gcd x y : Int)), A)) := by
  intro k
  induction k with
  | zero => intro x y t v9 v10 h1 h2 h3; simp at h3; omega
  | succ k ih =>
    intro x y t v9 v10 hy0 hyx hx hx1 ht0 ht
    have hx2 : x < 2 * 2 ^ k := by rw [Int.pow_succ] at hx; omega
    refine gd_step (by omega) hx1 hy0 (by omega) ht0 (by omega) (fun hy w9 w10 => ?_)
    have a1 : 0 ≤ x % y := Int.emod_nonneg x (by omega)
    have a2 : x % y < y := Int.emod_lt_of_pos x (by omega)
    have a3 := mod_half (show 0 < y by omega) hyx
    refine gd_step hy0 (by omega) a1 (by omega) (by omega) (by omega) (fun hz u9 u10 => ?_)
    have b1 : 0 ≤ y % (x % y) := Int.emod_nonneg y (by omega)
    have b2 : y % (x % y) < x % y := Int.emod_lt_of_pos y (by omega)
    exact ih (x % y) (y % (x % y)) (t + 1 + 1) u9 u10 b1 b2 (by omega) (by omega) (by omega) (by omega)
theorem gd_ct {A : pm_A} (sh : pm_Sh) {a b : Int} (ha0 : 0 ≤ a) (ha1 : a ≤ 9223372036854775807) (hb0 : 0 ≤ b) (hb1 : b ≤ 2999) : Cl pmt sh 23 [(1, a), (1, b)] A (fun r => r = (some (1, (Int.gcd a b : Int)), A)) := by
  refine Cl.of (Nat.le_of_ble_eq_true rfl) ?_
  refine wq_ok (full := o_X2_greatestDivisor) srt_gd (fr := []) (cuts := [9]) (J := fun pc st => pc = 9 ∧ ∃ v9 v10, st = (gd_L a b a b 0 v9 v10, [], A)) ?_ 20 0 _ ?_
  · rintro pc st ⟨rfl, v9, v10, rfl⟩
    refine gd_step ha0 ha1 hb0 (by omega) (by omega) (by omega) (fun hb w9 w10 => ?_)
    have a1 : 0 ≤ a % b := Int.emod_nonneg a (by omega)
    have a2 : a % b < b := Int.emod_lt_of_pos a (by omega)
    exact gd_9 12 b (a % b) (0 + 1) w9 w10 a1 a2 (by omega) (by omega) (by omega) (by omega)
  · exact ⟨rfl, _, _, rfl⟩
end
