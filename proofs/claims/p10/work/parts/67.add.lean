/-! Share.add -/
theorem cpy_ne {A : pm_A} {a sp b dp n k i : Int} (h : ¬ k = b) : pm_cpy A a sp b dp n k i = A k i := by unfold pm_cpy; rw [if_neg (fun q => h q.1)]
theorem gH_cpy {w : an_W} {A : pm_A} (hH : gH w A) {ra rb s d n : Int} {ka kb : an_K} {va vb : an_V} (ha0 : 0 ≤ ra) (hka : w.1[w.2 ra]? = some ka) (hkb : w.1[w.2 rb]? = some kb) (c1 : ka.1 = 1) (c3 : kb.1 = 1) (c2 : ka.2.1 = kb.2.1) (hva : ka.2.2.2[0]? = some va) (hvb : kb.2.2.2[0]? = some vb) (hle : an_le va vb = true) (hs : 0 ≤ s) (hd : 0 ≤ d) (hsn : s + n ≤ ka.2.2.1) : gH w (pm_cpy A ra s rb d n) := by
  intro r' k' h0 hk'
  by_cases e : r' = rb
  · subst e
    rw [hkb] at hk'; cases hk'
    refine ⟨(fun q => by rw [c3] at q; cases q), fun q a' ha' j h1 h2 => ?_⟩
    unfold pm_cpy
    by_cases e2 : r' = r' ∧ (d ≤ j ∧ j < d + n)
    · rw [if_pos e2]
      rw [hvb] at ha'; cases ha'
      have := (hH ra ka ha0 hka).2 c1 va hva (s + (j - d)) (by omega) (by omega)
      rw [c2] at this
      exact gv_le hle this
    · rw [if_neg e2]; exact (hH r' kb h0 hkb).2 q a' ha' j h1 h2
  · refine ⟨fun q j a' hj => ?_, fun q a' ha' j h1 h2 => ?_⟩
    · rw [cpy_ne e]; exact (hH r' k' h0 hk').1 q j a' hj
    · rw [cpy_ne e]; exact (hH r' k' h0 hk').2 q a' ha' j h1 h2
theorem gFr_cpy {w : an_W} {ms : List Nat} {A0 A : pm_A} (h : gFr w ms A0 A) {ra rb s d n : Int} (hm : ∀ j, mcode w rb j ∈ ms) : gFr w ms A0 (pm_cpy A ra s rb d n) := by
  intro r' j h0 hj hn
  rw [cpy_ne]
  · exact h r' j h0 hj hn
  · intro e; subst e; exact hn (hm j)
/-- objects' numbers are as before -/
def obj_eq (A B : pm_A) : Prop := ∀ r j : Int, (an_sh wX r).1 = 0 → B r j = A r j
theorem obj_upd {A B : pm_A} (h : obj_eq A B) {r i x : Int} (hr : (an_sh wX r).1 = 1) : obj_eq A (pm_upd B r i x) := by
  intro r' j h0
  rw [upd_ne]
  · exact h r' j h0
  · intro e; subst e; omega
theorem obj_cpy {A B : pm_A} (h : obj_eq A B) {a s r d n : Int} (hr : (an_sh wX r).1 = 1) : obj_eq A (pm_cpy B a s r d n) := by
  intro r' j h0
  rw [cpy_ne]
  · exact h r' j h0
  · intro e; subst e; omega
/-- nothing but the share and its rows is written -/
def only (A B : pm_A) (s : Int) : Prop := ∀ r j : Int, ¬ r = s → ¬ r = A s 2 → ¬ r = A s 3 → B r j = A r j
def add_post (A : pm_A) (s : Int) (r : pm_R) : Prop := ∃ x, r.1 = some (0, x) ∧ -1 ≤ x ∧ x < r.2 s 1 ∧ gH wX r.2 ∧ gFr wX [801, 10014, 10015] A r.2 ∧ A s 1 ≤ r.2 s 1 ∧ only A r.2 s
/-- what stands in the middle of it -/
def add_mid (A B : pm_A) (s : Int) : Prop := gH wX B ∧ gFr wX [801, 10014, 10015] A B ∧ obj_eq A B ∧ only A B s
theorem only_upd {A B : pm_A} {s : Int} (h : only A B s) {r i x : Int} (hr : r = s ∨ r = A s 2 ∨ r = A s 3) : only A (pm_upd B r i x) s := by
  intro k j h1 h2 h3
  rw [upd_ne]
  · exact h k j h1 h2 h3
  · rintro rfl; rcases hr with q | q | q
    · exact h1 q
    · exact h2 q
    · exact h3 q
theorem only_cpy {A B : pm_A} {s : Int} (h : only A B s) {a sp r d n : Int} (hr : r = s ∨ r = A s 2 ∨ r = A s 3) : only A (pm_cpy B a sp r d n) s := by
  intro k j h1 h2 h3
  rw [cpy_ne]
  · exact h k j h1 h2 h3
  · rintro rfl; rcases hr with q | q | q
    · exact h1 q
    · exact h2 q
    · exact h3 q
theorem srt_add : pm_srt o_X8_add = true := by decide +kernel
theorem mc14 {r j : Int} (hk : wX.2 r = 14) : mcode wX r j ∈ [801, 10014, 10015] := by
  unfold mcode; rw [shX_14 hk]; simp only; rw [hk]; decide
theorem mc15 {r j : Int} (hk : wX.2 r = 15) : mcode wX r j ∈ [801, 10014, 10015] := by
  unfold mcode; rw [shX_15 hk]; simp only; rw [hk]; decide
theorem mc801 {r : Int} (hk : wX.2 r = 2) : mcode wX r 1 ∈ [801, 10014, 10015] := by
  unfold mcode; rw [shX_2 hk]; show 801 ∈ [801, 10014, 10015]; decide
theorem add_135 {A B : pm_A} {s : Int} (hB : add_mid A B s) {c f x to n : Int} (hs0 : 0 ≤ s) (hsk : wX.2 s = 2) (hc0 : 0 ≤ c) (hck : wX.2 c = 18) (hn : r64 n) (ht0 : 0 ≤ to) (ht1 : to ≤ A s 1) (hl : A s 1 < 200) : Tm pmt (an_sh wX) o_X8_add 135 ([(2, s), (2, c), (1, n), (9, 0), (0, f), (0, x), (0, to)], [], B) (add_post A s) := by
  obtain ⟨hB1, hB2, hB3, hB4⟩ := hB
  have e1 := shX_2 hsk
  have es : (an_sh wX s).1 = 0 := by rw [e1]
  have w0 := fX_2_0 hB1 hs0 hsk
  have n0 := fX_2_2 hB1 hs0 hsk
  have p0 := fX_2_3 hB1 hs0 hsk
  have en := shX_14 n0.2
  have ep := shX_15 p0.2
  have ec := shX_18 hck
  have g2 : 0 ≤ s ∧ (an_sh wX s).1 = 0 ∧ (an_sh wX s).2.1 = 8 ∧ ((2 : Nat) : Int) < (an_sh wX s).2.2 := by rw [e1]; exact ⟨hs0, rfl, rfl, by decide⟩
  have g3 : 0 ≤ s ∧ (an_sh wX s).1 = 0 ∧ (an_sh wX s).2.1 = 8 ∧ ((3 : Nat) : Int) < (an_sh wX s).2.2 := by rw [e1]; exact ⟨hs0, rfl, rfl, by decide⟩
  have g0 : 0 ≤ s ∧ (an_sh wX s).1 = 0 ∧ (an_sh wX s).2.1 = 8 ∧ ((0 : Nat) : Int) < (an_sh wX s).2.2 := by rw [e1]; exact ⟨hs0, rfl, rfl, by decide⟩
  have g1 : 0 ≤ s ∧ (an_sh wX s).1 = 0 ∧ (an_sh wX s).2.1 = 8 ∧ ((1 : Nat) : Int) < (an_sh wX s).2.2 := by rw [e1]; exact ⟨hs0, rfl, rfl, by decide⟩
  refine wq_ok srt_add (fr := []) (cuts := [143, 163]) (J := fun pc st => pc = 143 ∧ st = ([(2, s), (2, c), (1, n), (9, 0), (0, f), (0, x), (0, to)], [], pm_upd B (B s 2) to n)) ?_ 20 135 _ ?_
  · rintro pc st ⟨rfl, rfl⟩
    have hC : add_mid A (pm_upd B (B s 2) to n) s := ⟨gH_upd hB1 (k := (1, 1, 200, [(1, -9223372036854775808, 9223372036854775807)])) (by rw [n0.2]; rfl) (fun q => by cases q) (fun _ a ha => by cases ha; exact ⟨rfl, hn.1, hn.2⟩), gFr_upd hB2 (mc14 n0.2), obj_upd hB3 (by rw [en]), only_upd hB4 (Or.inr (Or.inl (hB3 s 2 es)))⟩
    generalize hCe : pm_upd B (B s 2) to n = C at hC
    obtain ⟨hC1, hC2, hC3, hC4⟩ := hC
    have w1 := fX_2_0 hC1 hs0 hsk
    have p1 := fX_2_3 hC1 hs0 hsk
    have ep1 := shX_15 p1.2
    have hw : C s 0 = A s 0 := hC3 s 0 es
    have hm1 : 0 ≤ to * C s 0 := Int.mul_nonneg ht0 w1.1
    have hm2 : to * C s 0 ≤ 199 * 12 := Int.mul_le_mul (by omega) w1.2 w1.1 (by omega)
    refine wq_ok srt_add (fr := []) (cuts := [163]) (J := fun pc st => pc = 163 ∧ st = ([(2, s), (2, c), (1, n), (9, 0), (0, f), (0, x), (0, to)], [], pm_cpy C c 0 (C s 3) (to * C s 0) (C s 0))) ?_ 20 143 _ ?_
    · rintro pc st ⟨rfl, rfl⟩
      have hD : add_mid A (pm_cpy C c 0 (C s 3) (to * C s 0) (C s 0)) s := ⟨gH_cpy hC1 (ka := (1, 0, 12, [(0, -2147483648, 2147483647)])) (kb := (1, 0, 2400, [(0, -2147483648, 2147483647)])) hc0 (by rw [hck]; rfl) (by rw [p1.2]; rfl) rfl rfl rfl rfl rfl rfl (by omega) hm1 (by simp only; omega), gFr_cpy hC2 (fun j => mc15 p1.2), obj_cpy hC3 (by rw [ep1]), only_cpy hC4 (Or.inr (Or.inr (hC3 s 3 es)))⟩
      generalize pm_cpy C c 0 (C s 3) (to * C s 0) (C s 0) = E at hD
      obtain ⟨hE1, hE2, hE3, hE4⟩ := hD
      have hl1 : E s 1 = A s 1 := hE3 s 1 es
      have l1 := fX_2_1 hE1 hs0 hsk
      refine wq_ok srt_add (fr := []) (cuts := []) (J := fun _ _ => False) (fun _ _ h => h.elim) 20 163 _ ?_
      refine ⟨g1, ?_⟩
      refine ⟨⟨by omega, by omega⟩, ?_⟩
      refine ⟨g1, ?_⟩
      refine ⟨rfl, to, rfl, by omega, ?_, ?_, ?_, ?_, only_upd hE4 (Or.inl rfl)⟩
      · show to < pm_upd E s 1 (E s 1 + 1) s 1
        rw [upd_at]; omega
      · exact gH_upd hE1 (k := (0, 8, 4, [(0, 0, 12), (0, 0, 200), (2, 14, 0), (2, 15, 0)])) (by rw [hsk]; rfl) (fun _ j a hj ej => by
          have : j = 1 := by omega
          subst this
          cases hj
          exact ⟨rfl, by simp only; omega, by simp only; omega⟩) (fun q => by cases q)
      · exact gFr_upd hE2 (mc801 hsk)
      · show A s 1 ≤ pm_upd E s 1 (E s 1 + 1) s 1
        rw [upd_at]; omega
    · refine ⟨g3, ?_⟩
      refine ⟨g0, ?_⟩
      refine ⟨⟨by omega, by omega⟩, ?_⟩
      refine ⟨g0, ?_⟩
      refine ⟨⟨hc0, p1.1, by rw [ec], by rw [ec], by rw [ep1], by rw [ep1], w1.1, hm1, by omega, by rw [ec]; simp only; omega, by rw [ep1]; simp only; omega⟩, ?_⟩
      exact ⟨rfl, rfl⟩
  · refine ⟨g2, ?_⟩
    refine ⟨⟨n0.1, by rw [en], by rw [en], ht0, by rw [en]; simp only; omega, rfl⟩, ?_⟩
    exact ⟨rfl, rfl⟩
theorem add_96 {A B : pm_A} {s : Int} (hB : add_mid A B s) {c f x to n : Int} (hs0 : 0 ≤ s) (hsk : wX.2 s = 2) (hc0 : 0 ≤ c) (hck : wX.2 c = 18) (hn : r64 n) (ht0 : 0 ≤ to) (ht1 : to ≤ A s 1) (hl : A s 1 < 200) : Tm pmt (an_sh wX) o_X8_add 96 ([(2, s), (2, c), (1, n), (9, 0), (0, f), (0, x), (0, to)], [], B) (add_post A s) := by
  obtain ⟨hB1, hB2, hB3, hB4⟩ := hB
  have e1 := shX_2 hsk
  have es : (an_sh wX s).1 = 0 := by rw [e1]
  have w0 := fX_2_0 hB1 hs0 hsk
  have p0 := fX_2_3 hB1 hs0 hsk
  have ep := shX_15 p0.2
  have hl1 : B s 1 = A s 1 := hB3 s 1 es
  have g3 : 0 ≤ s ∧ (an_sh wX s).1 = 0 ∧ (an_sh wX s).2.1 = 8 ∧ ((3 : Nat) : Int) < (an_sh wX s).2.2 := by rw [e1]; exact ⟨hs0, rfl, rfl, by decide⟩
  have g0 : 0 ≤ s ∧ (an_sh wX s).1 = 0 ∧ (an_sh wX s).2.1 = 8 ∧ ((0 : Nat) : Int) < (an_sh wX s).2.2 := by rw [e1]; exact ⟨hs0, rfl, rfl, by decide⟩
  have g1 : 0 ≤ s ∧ (an_sh wX s).1 = 0 ∧ (an_sh wX s).2.1 = 8 ∧ ((1 : Nat) : Int) < (an_sh wX s).2.2 := by rw [e1]; exact ⟨hs0, rfl, rfl, by decide⟩
  have m1 : 0 ≤ to * B s 0 := Int.mul_nonneg ht0 w0.1
  have m2 : 0 ≤ (B s 1 - to) * B s 0 := Int.mul_nonneg (by omega) w0.1
  have m3 : (to + 1) * B s 0 = to * B s 0 + B s 0 := by rw [Int.add_mul, Int.one_mul]
  have m4 : to * B s 0 + (B s 1 - to) * B s 0 = B s 1 * B s 0 := by rw [← Int.add_mul]; congr 1; omega
  have m5 : B s 1 * B s 0 ≤ 199 * 12 := Int.mul_le_mul (by omega) w0.2 w0.1 (by omega)
  refine wq_ok srt_add (fr := []) (cuts := [135]) (J := fun pc st => pc = 135 ∧ st = ([(2, s), (2, c), (1, n), (9, 0), (0, f), (0, x), (0, to)], [], pm_cpy B (B s 3) (to * B s 0) (B s 3) ((to + 1) * B s 0) ((B s 1 - to) * B s 0))) ?_ 30 96 _ ?_
  · rintro pc st ⟨rfl, rfl⟩
    exact add_135 ⟨gH_cpy hB1 (ka := (1, 0, 2400, [(0, -2147483648, 2147483647)])) (kb := (1, 0, 2400, [(0, -2147483648, 2147483647)])) p0.1 (by rw [p0.2]; rfl) (by rw [p0.2]; rfl) rfl rfl rfl rfl rfl rfl m1 (by omega) (by simp only; omega), gFr_cpy hB2 (fun j => mc15 p0.2), obj_cpy hB3 (by rw [ep]), only_cpy hB4 (Or.inr (Or.inr (hB3 s 3 es)))⟩ hs0 hsk hc0 hck hn ht0 ht1 hl
  · refine ⟨g3, ?_⟩
    refine ⟨g0, ?_⟩
    refine ⟨⟨by omega, by omega⟩, ?_⟩
    refine ⟨g3, ?_⟩
    refine ⟨⟨by omega, by omega⟩, ?_⟩
    refine ⟨g0, ?_⟩
    refine ⟨⟨by omega, by omega⟩, ?_⟩
    refine ⟨g1, ?_⟩
    refine ⟨⟨by omega, by omega⟩, ?_⟩
    refine ⟨g0, ?_⟩
    refine ⟨⟨by omega, by omega⟩, ?_⟩
    refine ⟨⟨p0.1, p0.1, by rw [ep], by rw [ep], by rw [ep], by rw [ep], m2, by omega, m1, by rw [ep]; simp only; omega, by rw [ep]; simp only; omega⟩, ?_⟩
    exact ⟨rfl, rfl⟩
theorem add_66 {A : pm_A} (hA : gH wX A) {s c f x n : Int} {v6 : pm_V} (hs0 : 0 ≤ s) (hsk : wX.2 s = 2) (hc0 : 0 ≤ c) (hck : wX.2 c = 18) (hn : r64 n) (hx : x < 0) (h2 : 0 ≤ -1 - x ∧ -1 - x ≤ A s 1 ∧ -201 ≤ x) (hl : A s 1 < 200) : Tm pmt (an_sh wX) o_X8_add 66 ([(2, s), (2, c), (1, n), (9, 0), (0, f), (0, x), v6], [], A) (add_post A s) := by
  have e1 := shX_2 hsk
  have l0 := fX_2_1 hA hs0 hsk
  have n0 := fX_2_2 hA hs0 hsk
  have en := shX_14 n0.2
  have g2 : 0 ≤ s ∧ (an_sh wX s).1 = 0 ∧ (an_sh wX s).2.1 = 8 ∧ ((2 : Nat) : Int) < (an_sh wX s).2.2 := by rw [e1]; exact ⟨hs0, rfl, rfl, by decide⟩
  have g1 : 0 ≤ s ∧ (an_sh wX s).1 = 0 ∧ (an_sh wX s).2.1 = 8 ∧ ((1 : Nat) : Int) < (an_sh wX s).2.2 := by rw [e1]; exact ⟨hs0, rfl, rfl, by decide⟩
  refine wq_ok srt_add (fr := []) (cuts := [96]) (J := fun pc st => pc = 96 ∧ st = ([(2, s), (2, c), (1, n), (9, 0), (0, f), (0, x), (0, -1 - x)], [], pm_cpy A (A s 2) (-1 - x) (A s 2) (-1 - x + 1) (A s 1 - (-1 - x)))) ?_ 30 66 _ ?_
  · rintro pc st ⟨rfl, rfl⟩
    exact add_96 ⟨gH_cpy hA (ka := (1, 1, 200, [(1, -9223372036854775808, 9223372036854775807)])) (kb := (1, 1, 200, [(1, -9223372036854775808, 9223372036854775807)])) n0.1 (by rw [n0.2]; rfl) (by rw [n0.2]; rfl) rfl rfl rfl rfl rfl rfl (by omega) (by omega) (by simp only; omega), gFr_cpy (fun _ _ _ _ _ => rfl) (fun j => mc14 n0.2), obj_cpy (fun _ _ _ => rfl) (by rw [en]), only_cpy (fun _ _ _ _ _ => rfl) (Or.inr (Or.inl rfl))⟩ hs0 hsk hc0 hck hn (by omega) (by omega) hl
  · refine ⟨⟨by omega, by omega⟩, ?_⟩
    refine ⟨g2, ?_⟩
    refine ⟨g2, ?_⟩
    refine ⟨⟨by omega, by omega⟩, ?_⟩
    refine ⟨g1, ?_⟩
    refine ⟨⟨by omega, by omega⟩, ?_⟩
    refine ⟨⟨n0.1, n0.1, by rw [en], by rw [en], by rw [en], by rw [en], by omega, by omega, by omega, by rw [en]; simp only; omega, by rw [en]; simp only; omega⟩, ?_⟩
    exact ⟨rfl, rfl⟩
theorem add_9 {A : pm_A} (hA : gH wX A) {s c f x n : Int} {v6 : pm_V} (hs0 : 0 ≤ s) (hsk : wX.2 s = 2) (hc0 : 0 ≤ c) (hck : wX.2 c = 18) (hn : r64 n) (hx1 : 0 ≤ x → x < A s 1) (hx2 : x < 0 → 0 ≤ -1 - x ∧ -1 - x ≤ A s 1 ∧ -201 ≤ x) : Tm pmt (an_sh wX) o_X8_add 9 ([(2, s), (2, c), (1, n), (9, 0), (0, f), (0, x), v6], [], A) (add_post A s) := by
  have e1 := shX_2 hsk
  have es : (an_sh wX s).1 = 0 := by rw [e1]
  have l0 := fX_2_1 hA hs0 hsk
  have n0 := fX_2_2 hA hs0 hsk
  have en := shX_14 n0.2
  have g2 : 0 ≤ s ∧ (an_sh wX s).1 = 0 ∧ (an_sh wX s).2.1 = 8 ∧ ((2 : Nat) : Int) < (an_sh wX s).2.2 := by rw [e1]; exact ⟨hs0, rfl, rfl, by decide⟩
  have g1 : 0 ≤ s ∧ (an_sh wX s).1 = 0 ∧ (an_sh wX s).2.1 = 8 ∧ ((1 : Nat) : Int) < (an_sh wX s).2.2 := by rw [e1]; exact ⟨hs0, rfl, rfl, by decide⟩
  have none_ok : add_post A s (some (0, -1), A) := ⟨-1, rfl, by omega, by show -1 < A s 1; omega, hA, fun _ _ _ _ _ => rfl, Int.le_refl _, fun _ _ _ _ _ => rfl⟩
  refine wq_ok srt_add (fr := [23]) (cuts := [25, 66]) (J := fun pc st => (pc = 25 ∧ 0 ≤ x ∧ ∃ y : Int, r64 y ∧ st = ([(2, s), (2, c), (1, n), (9, 0), (0, f), (0, x), v6], [], pm_upd A (A s 2) x y)) ∨ (pc = 66 ∧ x < 0 ∧ A s 1 < 200 ∧ st = ([(2, s), (2, c), (1, n), (9, 0), (0, f), (0, x), v6], [], A))) ?_ 60 9 _ ?_
  · rintro pc st (⟨rfl, hx, y, hy, rfl⟩ | ⟨rfl, hx, hl, rfl⟩)
    · have hx3 := hx1 hx
      have hB : add_mid A (pm_upd A (A s 2) x y) s := ⟨gH_upd hA (k := (1, 1, 200, [(1, -9223372036854775808, 9223372036854775807)])) (by rw [n0.2]; rfl) (fun q => by cases q) (fun _ a ha => by cases ha; exact ⟨rfl, hy.1, hy.2⟩), gFr_upd (fun _ _ _ _ _ => rfl) (mc14 n0.2), obj_upd (fun _ _ _ => rfl) (by rw [en]), only_upd (fun _ _ _ _ _ => rfl) (Or.inr (Or.inl rfl))⟩
      generalize pm_upd A (A s 2) x y = B at hB
      obtain ⟨hB1, hB2, hB3, hB4⟩ := hB
      have l1 : B s 1 = A s 1 := hB3 s 1 es
      have n1 := fX_2_2 hB1 hs0 hsk
      have en1 := shX_14 n1.2
      have y1 := eX_14 hB1 n1.1 n1.2 (j := x) hx (by omega)
      have fin : ∀ v : Int, -1 ≤ v → v < A s 1 → add_post A s (some (0, v), B) := fun v h1 h2 => ⟨v, rfl, h1, by show v < B s 1; omega, hB1, hB2, by show A s 1 ≤ B s 1; omega, hB4⟩
      refine wq_ok srt_add (fr := []) (cuts := []) (J := fun _ _ => False) (fun _ _ h => h.elim) 20 25 _ ?_
      refine ⟨g2, ?_⟩
      refine ⟨⟨n1.1, by rw [en1], by rw [en1], hx, by rw [en1]; simp only; omega⟩, ?_⟩
      refine ⟨fun h => ?_, fun h => ?_, fun h => ?_⟩
      · refine ⟨fun h0 => by omega, fun h0 => ?_⟩
        exact ⟨rfl, fin (-1) (by omega) (by omega)⟩
      · refine ⟨fun h0 => ?_, fun h0 => by omega⟩
        exact ⟨rfl, fin x (by omega) (by omega)⟩
      · refine ⟨fun h0 => ?_, fun h0 => by omega⟩
        exact ⟨rfl, fin x (by omega) (by omega)⟩
    · exact add_66 hA hs0 hsk hc0 hck hn hx (hx2 hx) hl
  · refine ⟨fun h => ?_, fun h => ?_⟩
    · have h2 := hx2 h
      refine ⟨g1, ?_⟩
      refine ⟨fun h3 => ?_, fun h3 => ?_⟩
      · exact ⟨rfl, none_ok⟩
      · refine ⟨fun h4 => ?_, fun h4 => ?_, fun h4 => ?_⟩
        · refine ⟨fun h0 => by omega, fun h0 => ?_⟩
          exact ⟨rfl, none_ok⟩
        · refine ⟨fun h0 => ?_, fun h0 => by omega⟩
          exact Or.inr ⟨rfl, h, h3, rfl⟩
        · refine ⟨fun h0 => ?_, fun h0 => by omega⟩
          exact Or.inr ⟨rfl, h, h3, rfl⟩
    · have h2 := hx1 h
      refine ⟨g2, ?_⟩
      refine ⟨⟨n0.1, by rw [en], by rw [en], h, by rw [en]; simp only; omega⟩, ?_⟩
      refine ⟨⟨n0.1, by rw [en], by rw [en], h, by rw [en]; simp only; omega, rfl⟩, ?_⟩
      exact Or.inl ⟨rfl, h, _, w64_rng _, rfl⟩
theorem add_ct {A : pm_A} (hA : gH wX A) {s c f n : Int} (hs0 : 0 ≤ s) (hsk : wX.2 s = 2) (hc0 : 0 ≤ c) (hck : wX.2 c = 18) (hn : r64 n) (hf0 : 0 ≤ f) (hf1 : f ≤ A s 1) : Cl pmt (an_sh wX) 73 [(2, s), (2, c), (1, n), (0, f)] A (add_post A s) := by
  have l0 := fX_2_1 hA hs0 hsk
  refine Cl.of (Nat.le_of_ble_eq_true rfl) ?_
  refine wq_ok (full := o_X8_add) srt_add (fr := []) (cuts := [9]) (J := fun pc st => pc = 9 ∧ ∃ x : Int, st = ([(2, s), (2, c), (1, n), (9, 0), (0, f), (0, x), (9, 0)], [], A) ∧ (0 ≤ x → x < A s 1) ∧ (x < 0 → 0 ≤ -1 - x ∧ -1 - x ≤ A s 1 ∧ -201 ≤ x)) ?_ 20 0 _ ?_
  · rintro pc st ⟨rfl, x, rfl, h1, h2⟩
    exact add_9 hA hs0 hsk hc0 hck hn h1 h2
  · refine ⟨?_, ?_⟩
    · show decide (0 ≤ s ∧ (an_sh wX s).1 = 0 ∧ (an_sh wX s).2.1 = 8) = true
      rw [decide_eq_true_eq, shX_2 hsk]
      exact ⟨hs0, rfl, rfl⟩
    · refine (find_ct hA hs0 hsk hc0 hck hf0 (by omega)).imp ?_
      rintro r ⟨x, rfl, h1, h2⟩
      refine ⟨rfl, x, rfl, fun q => (h1 q).2, fun q => ?_⟩
      have h3 := h2 q
      have h4 := h3.2.1 hf1
      omega
theorem q_X8_add_0 : gCt wX pmt 73 Q_X8_add_0 := by
  rintro a A ⟨ha, hA⟩
  match a, ha with
  | [x, y, z, u], ⟨h1, h2, h3, h4, _⟩ =>
    obtain ⟨s, rfl, hs0, hsk⟩ := gRf (a := (2, 2, 0)) rfl h1
    obtain ⟨c, rfl, hc0, hck⟩ := gRf (a := (2, 18, 0)) rfl h2
    obtain ⟨n, rfl⟩ := gJ (a := (1, -9223372036854775808, 9223372036854775807)) rfl h3
    obtain ⟨f, rfl⟩ := gI (a := (0, 0, 0)) rfl h4
    have hn := (gv1 (a := (1, -9223372036854775808, 9223372036854775807)) rfl).mp h3
    have hf := (gv0 (a := (0, 0, 0)) rfl).mp h4
    simp only at hn hf
    have l0 := fX_2_1 hA hs0 hsk
    refine (add_ct hA hs0 hsk hc0 hck ⟨hn.2.1, hn.2.2⟩ (by omega) (by omega)).imp ?_
    rintro ⟨r, B⟩ ⟨v, e, k1, k2, k3, k4, k5, k6⟩
    simp only at e k2 k3 k4 k5
    subst e
    have l1 := fX_2_1 k3 hs0 hsk
    exact ⟨⟨⟨rfl, k1, by show v ≤ 199; omega⟩, Nat.lt_of_sub_eq_succ rfl⟩, k3, k4⟩
