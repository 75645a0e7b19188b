/-! searches, finite -/
def cl (f : Int → Int) : Nat → Int → Int
  | 0, _ => 0
  | n + 1, t => if t = -1 then 0 else 1 + cl f n (f t)
theorem cl_none (f : Int → Int) (n : Nat) : cl f n (-1) = 0 := by cases n; rfl; exact if_pos rfl
theorem cl_nonneg (f : Int → Int) : ∀ (n : Nat) (t : Int), 0 ≤ cl f n t
  | 0, _ => Int.le_refl 0
  | n + 1, t => by
    unfold cl
    have := cl_nonneg f n (f t)
    split <;> omega
theorem cl_stab {f : Int → Int} {M : Int} (h : ∀ t : Int, 0 ≤ t → t < M → -1 ≤ f t ∧ f t < t) : ∀ (n : Nat) (t : Int), -1 ≤ t → t < n → t < M → cl f (n + 1) t = cl f n t
  | 0, t, h0, h1, _ => by
    have : t = -1 := by omega
    rw [this, cl_none, cl_none]
  | n + 1, t, h0, h1, h2 => by
    show (if t = -1 then 0 else 1 + cl f (n + 1) (f t)) = (if t = -1 then 0 else 1 + cl f n (f t))
    by_cases e : t = -1
    · rw [if_pos e, if_pos e]
    · have := h t (by omega) h2
      rw [if_neg e, if_neg e, cl_stab h n (f t) this.1 (by omega) (by omega)]
theorem cl_step {f : Int → Int} {M : Int} (h : ∀ t : Int, 0 ≤ t → t < M → -1 ≤ f t ∧ f t < t) : ∀ (N : Nat) (t : Int), -1 ≤ t → t < M → t < N → ¬ t = -1 → cl f N t = 1 + cl f N (f t)
  | 0, t, h0, h1, h2, h3 => by omega
  | n + 1, t, h0, h1, h2, h3 => by
    have := h t (by omega) h1
    rw [cl_stab h n (f t) this.1 (by omega) (by omega), cl, if_neg h3]
theorem cl_le {f : Int → Int} {M : Int} (h : ∀ t : Int, 0 ≤ t → t < M → -1 ≤ f t ∧ f t < t) : ∀ (n : Nat) (t : Int), -1 ≤ t → t < M → cl f n t ≤ t + 1
  | 0, t, h0, h2 => by show (0 : Int) ≤ t + 1; omega
  | n + 1, t, h0, h2 => by
    rw [cl]
    by_cases e : t = -1
    · rw [if_pos e]; omega
    · have := h t (by omega) h2
      have := cl_le h n (f t) this.1 (by omega)
      rw [if_neg e]; omega
theorem srt_searches : pm_srt o_X10_searches = true := by decide +kernel
def sch_post (A : pm_A) (r : pm_R) : Prop := (∃ x, r.1 = some (0, x)) ∧ fF A r.2
theorem FL.f {B : pm_A} (hB : gH wM B) (h : FL B) : ∀ t : Int, 0 ≤ t → t < B 0 40 → -1 ≤ B 25 t ∧ B 25 t < t := fun t t0 t1 => by
  have p40 := fM_0_40 hB (r := 0) (by omega) km0
  have b := eM_25 hB (r := 25) (by omega) kn25 t0 (show t < 3000 by omega)
  exact ⟨b.1, (h.2 t t0 t1).2⟩
theorem sch_302 {A : pm_A} {w1 w2 w3 : pm_V} {n4 : Int} {N : Nat} (hN : 3000 < N) : ∀ (m : Nat) (t b : Int) (B : pm_A), (t + 1).toNat < m → -1 ≤ t → t < B 0 40 → fF A B → FL B → r32 b → Tm pmt (an_sh wM) o_X10_searches 302 ([(2, 0), w1, w2, w3, (0, n4), (0, cl (B 25) N t), (0, b), (0, t)], [], B) (sch_post A) := by
  intro m
  induction m with
  | zero => intro t b B h; omega
  | succ m ih =>
    intro t b B hm t0 t1 hF hL hb
    have p40 := fM_0_40 hF.1 (r := 0) (by omega) km0
    have c43 := pM_43 hF.1
    have hf := hL.f hF.1
    have n0 := cl_nonneg (B 25) N t
    have n1 := cl_le hf N t t0 t1
    have hcl : ¬ t = -1 → cl (B 25) N t = 1 + cl (B 25) N (B 25 t) := fun e => by
      exact cl_step hf N t t0 t1 (by omega) e
    have n2 := cl_nonneg (B 25) N (B 25 t)
    have hstep : ¬ t = -1 → ∀ C : pm_A, C = pm_upd B 27 (cl (B 25) N t + (-1)) b → Tm pmt (an_sh wM) o_X10_searches 320 ([(2, 0), w1, w2, w3, (0, n4), (0, cl (B 25) N t + (-1)), (0, b), (0, t)], [], C) (sch_post A) := fun hne C hC => by
      have e25 : C 25 = B 25 := by rw [hC]; exact funext fun j => upd_o (by omega)
      have e40 : C 0 40 = B 0 40 := by rw [hC]; exact upd_o (by omega)
      have hg : gH wM C := by rw [hC]; exact uM_27 hF.1 kn27 hb.1 hb.2
      have hFC : fF A C := by rw [hC]; rw [hC] at hg; exact ⟨hg, gFr_upd hF.2 (mM_27 kn27 rfl)⟩
      have hLC : FL C := by
        refine ⟨fun i i0 i1 => ?_, fun i i0 i1 => ?_⟩
        · rw [e40, show C 28 i = B 28 i from by rw [hC]; exact upd_o (by omega)]; exact hL.1 i i0 i1
        · rw [e25, show C 29 i = B 29 i from by rw [hC]; exact upd_o (by omega)]; exact hL.2 i i0 (by omega)
      have c39 := pM_39 hg
      have c38 := pM_38 hg
      have h1 := hf t (by omega) t1
      have b26 := eM_26 hg (r := 26) (by omega) kn26 (j := t) (by omega) (by omega)
      refine wq_ok srt_searches (fr := []) (cuts := [302]) (J := fun pc st => (pc = 302 ∧ st = ([(2, 0), w1, w2, w3, (0, n4), (0, cl (B 25) N t + (-1)), (0, C (C 0 39) t), (0, C (C 0 38) t)], [], C))) ?_ 16 320 _ ?_
      · rintro pc st (⟨rfl, rfl⟩)
        rw [c38, c39, e25, hcl hne, show 1 + cl (B 25) N (B 25 t) + (-1) = cl (C 25) N (B 25 t) by rw [e25]; omega]
        exact ih _ _ C (by omega) h1.1 (by omega) hFC hLC b26
      · refine ⟨oM_0 (by omega) km0 39 rfl, ?_⟩
        refine ⟨aM_26 (r := C 0 39) (by rw [c39]; omega) (by rw [c39]; exact kn26) (by omega) (by omega), ?_⟩
        have e1 : C (C 0 39) t = C 26 t := by rw [c39]
        refine ⟨oM_0 (by omega) km0 38 rfl, ?_⟩
        refine ⟨aM_25 (r := C 0 38) (by rw [c38]; omega) (by rw [c38]; exact kn25) (by omega) (by omega), ?_⟩
        have e2 : C (C 0 38) t = C 25 t := by rw [c38]
        exact ⟨rfl, rfl⟩
    refine wq_ok srt_searches (fr := []) (cuts := [320]) (J := fun pc st => (pc = 320 ∧ (¬ t = ((-1))) ∧ st = ([(2, 0), w1, w2, w3, (0, n4), (0, (cl (B 25) N t) + (-1)), (0, b), (0, t)], [], pm_upd B (B 0 43) ((cl (B 25) N t) + (-1)) b))) ?_ 14 302 _ ?_
    · rintro pc st (⟨rfl, h0, rfl⟩)
      rw [c43]
      exact hstep h0 _ rfl
    · refine ⟨fun h0 => ?_, fun h0 => ?_⟩
      · exact ⟨rfl, ⟨_, rfl⟩, hF⟩
      · refine ⟨(by have := hcl h0; exact ⟨by omega, by omega⟩), ?_⟩
        refine ⟨oM_0 (by omega) km0 43 rfl, ?_⟩
        refine ⟨tM_27 (r := B 0 43) (by rw [c43]; omega) (by rw [c43]; exact kn27) (by have := hcl h0; omega) (by have := hcl h0; omega) rfl, ?_⟩
        exact ⟨rfl, h0, rfl⟩
theorem sch_275 {A B : pm_A} {w1 w5 w6 w7 : pm_V} {fr bb n : Int} {N : Nat} (hN : 3000 < N) (hF : fF A B) (hL : FL B) (f0 : -1 ≤ fr) (f1 : fr < B 0 40) (hb : r32 bb) (hn : n = cl (B 25) N fr) : Tm pmt (an_sh wM) o_X10_searches 275 ([(2, 0), w1, (0, fr), (0, bb), (0, n), w5, w6, w7], [], B) (sch_post A) := by
  have p40 := fM_0_40 hF.1 (r := 0) (by omega) km0
  have hf := hL.f hF.1
  have n0 := cl_nonneg (B 25) N fr
  have n1 := cl_le hf N fr f0 f1
  have go : ∀ x w4, x = cl (B 25) N fr → Tm pmt (an_sh wM) o_X10_searches 302 ([(2, 0), w1, (0, fr), (0, bb), (0, w4), (0, pm_upd B 0 42 x 0 42), (0, bb), (0, fr)], [], pm_upd B 0 42 x) (sch_post A) := fun x w4 hx => by
    have e : pm_upd B 0 42 x 0 42 = cl (pm_upd B 0 42 x 25) N fr := by
      rw [upd_at, hx]
      congr 1
    rw [e]
    have e40 : pm_upd B 0 42 x 0 40 = B 0 40 := upd_o (by omega)
    refine sch_302 hN _ fr bb _ (Nat.lt_succ_self _) f0 (by rw [e40]; exact f1) ⟨uM_0_42 hF.1 (by omega) (by omega), gFr_upd hF.2 (by rw [mc_0]; decide)⟩ ⟨fun i i0 i1 => ?_, fun i i0 i1 => ?_⟩ hb
    · rw [e40, upd_o (by omega)]; exact hL.1 i i0 i1
    · rw [e40] at i1; rw [upd_o (by omega), upd_o (by omega)]; exact hL.2 i i0 i1
  refine wq_ok srt_searches (fr := []) (cuts := [302]) (J := fun pc st => (pc = 302 ∧ (¬ fr = ((-1))) ∧ st = ([(2, 0), w1, (0, fr), (0, bb), (0, n), (0, (pm_upd B 0 42 n) 0 42), (0, bb), (0, fr)], [], pm_upd B 0 42 n)) ∨ (pc = 302 ∧ (fr = ((-1))) ∧ st = ([(2, 0), w1, (0, fr), (0, bb), (0, n), (0, (pm_upd B 0 42 0) 0 42), (0, bb), (0, fr)], [], pm_upd B 0 42 0))) ?_ 19 275 _ ?_
  · rintro pc st (⟨rfl, h0, rfl⟩ | ⟨rfl, h0, rfl⟩)
    · exact go n _ hn
    · exact go 0 _ (by rw [h0, cl_none])
  · refine ⟨fun h0 => ?_, fun h0 => ?_⟩
    · refine ⟨oM_0 (by omega) km0 42 rfl, ?_⟩
      refine ⟨oM_0 (by omega) km0 42 rfl, ?_⟩
      exact Or.inl (⟨rfl, h0, rfl⟩)
    · refine ⟨oM_0 (by omega) km0 42 rfl, ?_⟩
      refine ⟨oM_0 (by omega) km0 42 rfl, ?_⟩
      exact Or.inr (⟨rfl, h0, rfl⟩)
theorem sch_249 {A B : pm_A} {w1 w6 w7 : pm_V} {fr bb : Int} {N : Nat} (hN : 3000 < N) (hF : fF A B) (hL : FL B) (f0 : -1 ≤ fr) (f1 : fr < B 0 40) (hb : r32 bb) (hfb : bb = -1 → fr = -1) : ∀ (m : Nat) (n t : Int), (t + 1).toNat < m → -1 ≤ t → t < B 0 40 → 0 ≤ n → n + cl (B 25) N t = cl (B 25) N fr → (fr = -1 → t = -1) → Tm pmt (an_sh wM) o_X10_searches 249 ([(2, 0), w1, (0, fr), (0, bb), (0, n), (0, t), w6, w7], [], B) (sch_post A) := by
  have p40 := fM_0_40 hF.1 (r := 0) (by omega) km0
  have hf := hL.f hF.1
  have n1 := cl_le hf N fr f0 f1
  have c38 := pM_38 hF.1
  intro m
  induction m with
  | zero => intro n t h; omega
  | succ m ih =>
    intro n t hm t0 t1 n0 hn hft
    have n2 := cl_nonneg (B 25) N t
    have hcl : ¬ t = -1 → cl (B 25) N t = 1 + cl (B 25) N (B 25 t) := fun e => by
      exact cl_step hf N t t0 t1 (by omega) e
    refine wq_ok srt_searches (fr := []) (cuts := [249, 275]) (J := fun pc st => (pc = 275 ∧ (t = ((-1))) ∧ st = ([(2, 0), w1, (0, fr), (0, bb), (0, n), (0, t), w6, w7], [], B)) ∨ (pc = 275 ∧ (¬ t = ((-1))) ∧ (bb = ((-1))) ∧ st = ([(2, 0), w1, (0, fr), (0, bb), (0, n), (0, t), w6, w7], [], B)) ∨ (pc = 249 ∧ (¬ t = ((-1))) ∧ (¬ bb = ((-1))) ∧ st = ([(2, 0), w1, (0, fr), (0, bb), (0, n + 1), (0, B (B 0 38) t), w6, w7], [], B))) ?_ 18 249 _ ?_
    · rintro pc st (⟨rfl, h0, rfl⟩ | ⟨rfl, h0, h1, rfl⟩ | ⟨rfl, h0, h1, rfl⟩)
      · exact sch_275 hN hF hL f0 f1 hb (by rw [h0, cl_none] at hn; omega)
      · exact absurd (hft (hfb h1)) h0
      · rw [c38]
        have h2 := hcl h0
        have h3 := hf t (by omega) t1
        exact ih (n + 1) _ (by omega) h3.1 (by omega) (by omega) (by omega) (fun e => absurd (hft e) h0)
    · refine ⟨fun h0 => ?_, fun h0 => ?_⟩
      · exact Or.inl (⟨rfl, h0, rfl⟩)
      · refine ⟨fun h1 => ?_, fun h1 => ?_⟩
        · exact Or.inr (Or.inl (⟨rfl, h0, h1, rfl⟩))
        · refine ⟨⟨by omega, by omega⟩, ?_⟩
          refine ⟨oM_0 (by omega) km0 38 rfl, ?_⟩
          refine ⟨aM_25 (r := B 0 38) (by rw [c38]; omega) (by rw [c38]; exact kn25) (by omega) (by omega), ?_⟩
          have e1 : B (B 0 38) t = B 25 t := by rw [c38]
          exact Or.inr (Or.inr (⟨rfl, h0, h1, rfl⟩))
theorem ex_N : ∃ N : Nat, 3000 < N := ⟨3001, by omega⟩
theorem sch_206 {A B : pm_A} {w4 w5 w6 w7 : pm_V} {how fr bb : Int} (hF : fF A B) (hL : FL B) (f0 : -1 ≤ fr) (f1 : fr < B 0 40) (hb : r32 bb) (hfb : bb = -1 → fr = -1) : Tm pmt (an_sh wM) o_X10_searches 206 ([(2, 0), (0, how), (0, fr), (0, bb), w4, w5, w6, w7], [], B) (sch_post A) := by
  have p40 := fM_0_40 hF.1 (r := 0) (by omega) km0
  have go : ∀ x, -2147483648 ≤ x → x ≤ 2147483647 → Tm pmt (an_sh wM) o_X10_searches 228 ([(2, 0), (0, how), (0, fr), (0, bb), w4, w5, w6, w7], [], pm_upd B 0 41 x) (sch_post A) := fun x x0 x1 => by
    have e40 : pm_upd B 0 41 x 0 40 = B 0 40 := upd_o (by omega)
    have hFC : fF A (pm_upd B 0 41 x) := ⟨uM_0_41 hF.1 x0 x1, gFr_upd hF.2 (by rw [mc_0]; decide)⟩
    have hLC : FL (pm_upd B 0 41 x) := ⟨fun i i0 i1 => by rw [e40, upd_o (by omega)]; exact hL.1 i i0 i1, fun i i0 i1 => by rw [e40] at i1; rw [upd_o (by omega), upd_o (by omega)]; exact hL.2 i i0 i1⟩
    have f1' : fr < pm_upd B 0 41 x 0 40 := by rw [e40]; exact f1
    revert hFC hLC f1'
    generalize pm_upd B 0 41 x = C
    intro hFC hLC f1' 
    refine wq_ok srt_searches (fr := []) (cuts := [249]) (J := fun pc st => (pc = 249 ∧ (¬ how = 3) ∧ (2 ≤ how) ∧ st = ([(2, 0), (0, how), (0, fr), (0, bb), (0, 0), (0, fr), w6, w7], [], C))) ?_ 15 228 _ ?_
    · rintro pc st (⟨rfl, h0, h1, rfl⟩)
      obtain ⟨N, hN⟩ := ex_N
      exact sch_249 hN hFC hLC f0 f1' hb hfb _ 0 fr (Nat.lt_succ_self _) f0 f1' (by omega) (by omega) (fun e => e)
    · refine ⟨fun h0 => ?_, fun h0 => ?_⟩
      · refine ⟨fun h1 => ?_, fun h1 => ?_⟩
        · exact ⟨rfl, h0, h1, rfl⟩
        · exact ⟨rfl, ⟨_, rfl⟩, hFC⟩
      · exact ⟨rfl, ⟨_, rfl⟩, hFC⟩
  refine wq_ok srt_searches (fr := []) (cuts := [228]) (J := fun pc st => (pc = 228 ∧ (¬ how = 2) ∧ st = ([(2, 0), (0, how), (0, fr), (0, bb), w4, w5, w6, w7], [], pm_upd B 0 41 (B 0 40))) ∨ (pc = 228 ∧ (how = 2) ∧ st = ([(2, 0), (0, how), (0, fr), (0, bb), w4, w5, w6, w7], [], pm_upd B 0 41 ((B 0 40) + 1)))) ?_ 15 206 _ ?_
  · rintro pc st (⟨rfl, h0, rfl⟩ | ⟨rfl, h0, rfl⟩)
    · exact go _ (by omega) (by omega)
    · exact go _ (by omega) (by omega)
  · refine ⟨fun h0 => ?_, fun h0 => ?_⟩
    · refine ⟨oM_0 (by omega) km0 40 rfl, ?_⟩
      refine ⟨oM_0 (by omega) km0 41 rfl, ?_⟩
      exact Or.inl (⟨rfl, h0, rfl⟩)
    · refine ⟨oM_0 (by omega) km0 40 rfl, ?_⟩
      refine ⟨⟨by omega, by omega⟩, ?_⟩
      refine ⟨oM_0 (by omega) km0 41 rfl, ?_⟩
      exact Or.inr (⟨rfl, h0, rfl⟩)
def sI (A B : pm_A) (how fr bb : Int) : Prop := fF A B ∧ FL B ∧ (-1 ≤ fr ∧ fr < B 0 40) ∧ (-1 ≤ bb ∧ bb ≤ 5) ∧ (bb = -1 → fr = -1)
theorem fl_arr {A B : pm_A} {i x : Int} (hF : fF A B) (hL : FL B) (x0 : -2147483648 ≤ x) (x1 : x ≤ 2147483647) : fF A (pm_upd B 5 i x) ∧ FL (pm_upd B 5 i x) ∧ pm_upd B 5 i x 0 40 = B 0 40 := by
  have e40 : pm_upd B 5 i x 0 40 = B 0 40 := upd_o (by omega)
  exact ⟨⟨uM_5 hF.1 kn5 x0 x1, gFr_upd hF.2 (mM_5 kn5 rfl)⟩, ⟨fun j j0 j1 => by rw [e40, upd_o (by omega)]; exact hL.1 j j0 j1, fun j j0 j1 => by rw [e40] at j1; rw [upd_o (by omega), upd_o (by omega)]; exact hL.2 j j0 j1⟩, e40⟩
theorem sch_124 {A : pm_A} {w2 w3 : pm_V} {hw x6 t k : Int} (t0 : 0 ≤ t) (k0 : 0 ≤ k) (k1 : k ≤ 5) (H : ∀ how w6 w7 C, sI A C how t k → t < C 0 40 → Tm pmt (an_sh wM) o_X10_searches 63 ([(2, 0), (0, how), (0, t), (0, k), (0, t), (0, k + 1), w6, w7], [], C) (sch_post A)) : ∀ (m : Nat) (i : Int) (B : pm_A), (36 - i).toNat < m → 0 ≤ i → i ≤ 36 → fF A B → FL B → t < B 0 40 → Tm pmt (an_sh wM) o_X10_searches 124 ([(2, 0), (0, hw), w2, w3, (0, t), (0, k), (0, x6), (0, i)], [], B) (sch_post A) := by
  intro m
  induction m with
  | zero => intro i B h; omega
  | succ m ih =>
    intro i B hm i0 i1 hF hL ht
    have c9 := pM_9 hF.1
    have c19 := pM_19 hF.1
    have b12 : i < 36 → -2147483648 ≤ B 12 i ∧ B 12 i ≤ 2147483647 := fun h => eM_12 hF.1 (r := 12) (by omega) kn12 i0 (by omega)
    have p7 := fM_0_7 hF.1 (r := 0) (by omega) km0
    refine wq_ok srt_searches (fr := []) (cuts := [124, 193]) (J := fun pc st => (pc = 193 ∧ ∃ C x, (0 ≤ x ∧ x ≤ 3) ∧ fF A C ∧ FL C ∧ B 0 40 ≤ C 0 40 ∧ st = ([(2, 0), (0, hw), (0, t), (0, k), (0, t), (0, k), (0, x6), (0, i)], [(0, x)], C)) ∨ (pc = 124 ∧ (i < 36) ∧ ((B 0 7) ≤ (i / 6)) ∧ st = ([(2, 0), (0, hw), w2, w3, (0, t), (0, k), (0, x6), (0, i + 1)], [], pm_upd B (B 0 9) i 0)) ∨ (pc = 124 ∧ (i < 36) ∧ ((i / 6) < (B 0 7)) ∧ ((B 0 7) ≤ (i % 6)) ∧ st = ([(2, 0), (0, hw), w2, w3, (0, t), (0, k), (0, x6), (0, i + 1)], [], pm_upd B (B 0 9) i 0)) ∨ (pc = 124 ∧ (i < 36) ∧ ((i / 6) < (B 0 7)) ∧ ((i % 6) < (B 0 7)) ∧ st = ([(2, 0), (0, hw), w2, w3, (0, t), (0, k), (0, x6), (0, i + 1)], [], pm_upd B (B 0 9) i (B (B 0 19) i)))) ?_ 31 124 _ ?_
    · rintro pc st (⟨rfl, C, x, q2, q3, q4, q5, rfl⟩ | ⟨rfl, h0, h1, rfl⟩ | ⟨rfl, h0, h1, h2, rfl⟩ | ⟨rfl, h0, h1, h2, rfl⟩)
      · refine wq_ok srt_searches (fr := []) (cuts := [63]) (J := fun pc st => (pc = 63 ∧ st = ([(2, 0), (0, x), (0, t), (0, k), (0, t), (0, k + 1), (0, x6), (0, i)], [], C))) ?_ 8 193 _ ?_
        · rintro pc st (⟨rfl, rfl⟩)
          exact H x _ _ C ⟨q3, q4, ⟨by omega, by omega⟩, ⟨by omega, by omega⟩, fun e => by omega⟩ (by omega)
        · refine ⟨⟨by omega, by omega⟩, ?_⟩
          exact ⟨rfl, rfl⟩
      · rw [c9]
        obtain ⟨g1, g2, g3⟩ := fl_arr (i := i) (x := 0) hF hL (by omega) (by omega)
        exact ih (i + 1) _ (by omega) (by omega) (by omega) g1 g2 (by rw [g3]; exact ht)
      · rw [c9]
        obtain ⟨g1, g2, g3⟩ := fl_arr (i := i) (x := 0) hF hL (by omega) (by omega)
        exact ih (i + 1) _ (by omega) (by omega) (by omega) g1 g2 (by rw [g3]; exact ht)
      · rw [c9, c19]
        have b := b12 h0
        obtain ⟨g1, g2, g3⟩ := fl_arr (i := i) hF hL b.1 b.2
        exact ih (i + 1) _ (by omega) (by omega) (by omega) g1 g2 (by rw [g3]; exact ht)
    · refine ⟨fun h0 => ?_, fun h0 => ?_⟩
      · refine ⟨rM_0 (by omega) km0, ?_⟩
        refine (tells_ex (fr := t) (bb := k) hF hL (by omega) (Or.inl ht) ⟨by omega, by omega⟩).imp ?_
        rintro ⟨r1, C⟩ ⟨x, q1, q2, q3, q4, q5⟩
        simp only at q1 q2 q3 q4 q5
        subst q1
        exact Or.inl (⟨rfl, C, x, q2, q3, q4, q5, rfl⟩)
      · refine ⟨oM_0 (by omega) km0 9 rfl, ?_⟩
        refine ⟨⟨by omega, by omega, by omega, by omega⟩, ?_⟩
        refine ⟨oM_0 (by omega) km0 7 rfl, ?_⟩
        refine ⟨fun h1 => ?_, fun h1 => ?_⟩
        · refine ⟨tM_5 (r := B 0 9) (by rw [c9]; omega) (by rw [c9]; exact kn5) (by omega) (by omega) rfl, ?_⟩
          refine ⟨⟨by omega, by omega⟩, ?_⟩
          exact Or.inr (Or.inl (⟨rfl, h0, h1, rfl⟩))
        · refine ⟨⟨by omega, by omega, by omega, by omega⟩, ?_⟩
          refine ⟨oM_0 (by omega) km0 7 rfl, ?_⟩
          refine ⟨fun h2 => ?_, fun h2 => ?_⟩
          · refine ⟨tM_5 (r := B 0 9) (by rw [c9]; omega) (by rw [c9]; exact kn5) (by omega) (by omega) rfl, ?_⟩
            refine ⟨⟨by omega, by omega⟩, ?_⟩
            exact Or.inr (Or.inr (Or.inl (⟨rfl, h0, h1, h2, rfl⟩)))
          · refine ⟨oM_0 (by omega) km0 19 rfl, ?_⟩
            refine ⟨aM_12 (r := B 0 19) (by rw [c19]; omega) (by rw [c19]; exact kn12) (by omega) (by omega), ?_⟩
            have e1 : B (B 0 19) i = B 12 i := by rw [c19]
            refine ⟨tM_5 (r := B 0 9) (by rw [c9]; omega) (by rw [c9]; exact kn5) (by omega) (by omega) rfl, ?_⟩
            refine ⟨⟨by omega, by omega⟩, ?_⟩
            exact Or.inr (Or.inr (Or.inr (⟨rfl, h0, h1, h2, rfl⟩)))
theorem sch_80 {A : pm_A} {w2 w3 w7 : pm_V} {hw t k : Int} (t0 : 0 ≤ t) (k0 : 0 ≤ k) (k1 : k ≤ 5) (H : ∀ how w6 w7 C, sI A C how t k → t < C 0 40 → Tm pmt (an_sh wM) o_X10_searches 63 ([(2, 0), (0, how), (0, t), (0, k), (0, t), (0, k + 1), w6, w7], [], C) (sch_post A)) : ∀ (m : Nat) (i : Int) (B : pm_A), (36 - i).toNat < m → 0 ≤ i → i ≤ 36 → fF A B → FL B → t < B 0 40 → Tm pmt (an_sh wM) o_X10_searches 80 ([(2, 0), (0, hw), w2, w3, (0, t), (0, k), (0, i), w7], [], B) (sch_post A) := by
  intro m
  induction m with
  | zero => intro i B h; omega
  | succ m ih =>
    intro i B hm i0 i1 hF hL ht
    have p40 := fM_0_40 hF.1 (r := 0) (by omega) km0
    have c9 := pM_9 hF.1
    have c37 := pM_37 hF.1
    have b24 : i < 36 → -2147483648 ≤ B 24 (36 * t + i) ∧ B 24 (36 * t + i) ≤ 2147483647 := fun h => eM_24 hF.1 (r := 24) (by omega) kn24 (by omega) (by omega)
    refine wq_ok srt_searches (fr := []) (cuts := [80, 119]) (J := fun pc st => (pc = 119 ∧ ∃ C x, gH wM C ∧ gFr wM [10012] B C ∧ st = ([(2, 0), (0, hw), w2, w3, (0, t), (0, k), (0, i), w7], [(0, x)], C)) ∨ (pc = 80 ∧ (i < 36) ∧ st = ([(2, 0), (0, hw), w2, w3, (0, t), (0, k), (0, i + 1), w7], [], pm_upd B (B 0 9) i (B (B 0 37) ((36 * t) + i))))) ?_ 22 80 _ ?_
    · rintro pc st (⟨rfl, C, x, f2, f3, rfl⟩ | ⟨rfl, h0, rfl⟩)
      · have hFC : fF A C := hF.tr f2 f3 (fun x hx => by rw [List.mem_singleton] at hx; rw [hx]; decide)
        have ec : ∀ r j : Int, 0 ≤ r → r ≤ 38 → 0 ≤ j → (r = 0 → j < 100) → r ≠ 12 → C r j = B r j := fun r j r0 r1 j0 j1 hne => f3 r j r0 j0 (fr_out r0 r1 j0 j1 (fun h => by rw [List.mem_singleton]; omega) (fun h => by rw [List.mem_singleton]; omega))
        have e40 := ec 0 40 (by omega) (by omega) (by omega) (by omega) (by omega)
        have hLC : FL C := ⟨fun i i0 i1 => by rw [ec 28 i (by omega) (by omega) i0 (by omega) (by omega), e40]; exact hL.1 i i0 i1, fun t t0 t1 => by rw [ec 29 t (by omega) (by omega) t0 (by omega) (by omega), ec 25 t (by omega) (by omega) t0 (by omega) (by omega)]; exact hL.2 t t0 (by omega)⟩
        refine wq_ok srt_searches (fr := []) (cuts := [124]) (J := fun pc st => (pc = 124 ∧ st = ([(2, 0), (0, hw), w2, w3, (0, t), (0, k), (0, x), (0, 0)], [], C))) ?_ 8 119 _ ?_
        · rintro pc st (⟨rfl, rfl⟩)
          exact sch_124 t0 k0 k1 H _ 0 C (Nat.lt_succ_self _) (by omega) (by omega) hFC hLC (by omega)
        · exact ⟨rfl, rfl⟩
      · rw [c9, c37]
        have b := b24 h0
        obtain ⟨g1, g2, g3⟩ := fl_arr (i := i) hF hL b.1 b.2
        exact ih (i + 1) _ (by omega) (by omega) (by omega) g1 g2 (by rw [g3]; exact ht)
    · refine ⟨fun h0 => ?_, fun h0 => ?_⟩
      · refine ⟨rM_0 (by omega) km0, ?_⟩
        refine Cl.gct q_X10_turnsArrows_0 (A := B) (a := [(2, 0), (0, k)]) ⟨gv_ref (by omega) km0, ⟨rfl, by simp only; omega, by simp only; omega⟩, trivial⟩ hF.1 ?_
        rintro ⟨r1, C⟩ f1 f2 f3
        simp only at f1 f2 f3
        match r1, f1 with
        | some (0, x), fx => exact Or.inl (⟨rfl, C, x, f2, f3, rfl⟩)
        | some (n + 1, x), ⟨⟨q, _⟩, _⟩ => exact absurd q (by intro q; cases q)
        | none, q => exact absurd q (by intro q; cases q)
      · refine ⟨oM_0 (by omega) km0 9 rfl, ?_⟩
        refine ⟨oM_0 (by omega) km0 37 rfl, ?_⟩
        refine ⟨⟨by omega, by omega⟩, ?_⟩
        refine ⟨⟨by omega, by omega⟩, ?_⟩
        refine ⟨aM_24 (r := B 0 37) (by rw [c37]; omega) (by rw [c37]; exact kn24) (by omega) (by omega), ?_⟩
        have e1 : B (B 0 37) ((36 * t) + i) = B 24 ((36 * t) + i) := by rw [c37]
        refine ⟨tM_5 (r := B 0 9) (by rw [c9]; omega) (by rw [c9]; exact kn5) (by omega) (by omega) rfl, ?_⟩
        refine ⟨⟨by omega, by omega⟩, ?_⟩
        exact Or.inr (⟨rfl, h0, rfl⟩)
theorem sch_63 {A : pm_A} {t : Int} (t0 : 0 ≤ t) (H : ∀ how fr bb w5 w6 w7 C, sI A C how fr bb → t < C 0 40 → Tm pmt (an_sh wM) o_X10_searches 46 ([(2, 0), (0, how), (0, fr), (0, bb), (0, t + 1), w5, w6, w7], [], C) (sch_post A)) : ∀ (m : Nat) (k how fr bb : Int) (w6 w7 : pm_V) (B : pm_A), (6 - k).toNat < m → 0 ≤ k → k ≤ 6 → sI A B how fr bb → t < B 0 40 → Tm pmt (an_sh wM) o_X10_searches 63 ([(2, 0), (0, how), (0, fr), (0, bb), (0, t), (0, k), w6, w7], [], B) (sch_post A) := by
  intro m
  induction m with
  | zero => intro k how fr bb w6 w7 B h; omega
  | succ m ih =>
    intro k how fr bb w6 w7 B hm k0 k1 hI ht
    have p40 := fM_0_40 hI.1.1 (r := 0) (by omega) km0
    have p7 := fM_0_7 hI.1.1 (r := 0) (by omega) km0
    have h200 : Tm pmt (an_sh wM) o_X10_searches 200 ([(2, 0), (0, how), (0, fr), (0, bb), (0, t), (0, k), w6, w7], [], B) (sch_post A) := by
      refine wq_ok srt_searches (fr := []) (cuts := [46]) (J := fun pc st => (pc = 46 ∧ st = ([(2, 0), (0, how), (0, fr), (0, bb), (0, t + 1), (0, k), w6, w7], [], B))) ?_ 7 200 _ ?_
      · rintro pc st (⟨rfl, rfl⟩)
        exact H _ _ _ _ _ _ B hI ht
      · refine ⟨⟨by omega, by omega⟩, ?_⟩
        exact ⟨rfl, rfl⟩
    refine wq_ok srt_searches (fr := []) (cuts := [80, 200]) (J := fun pc st => (pc = 200 ∧ ((B 0 7) ≤ k) ∧ st = ([(2, 0), (0, how), (0, fr), (0, bb), (0, t), (0, k), w6, w7], [], B)) ∨ (pc = 200 ∧ (k < (B 0 7)) ∧ (2 ≤ how) ∧ st = ([(2, 0), (0, how), (0, fr), (0, bb), (0, t), (0, k), w6, w7], [], B)) ∨ (pc = 80 ∧ (k < (B 0 7)) ∧ (how < 2) ∧ st = ([(2, 0), (0, how), (0, fr), (0, bb), (0, t), (0, k), (0, 0), w7], [], B))) ?_ 14 63 _ ?_
    · rintro pc st (⟨rfl, h0, rfl⟩ | ⟨rfl, h0, h1, rfl⟩ | ⟨rfl, h0, h1, rfl⟩)
      · exact h200
      · exact h200
      · exact sch_80 t0 k0 (by omega) (fun how w6 w7 C hC hC2 => ih (k + 1) how t k w6 w7 C (by omega) (by omega) (by omega) hC hC2) _ 0 B (Nat.lt_succ_self _) (by omega) (by omega) hI.1 hI.2.1 ht
    · refine ⟨oM_0 (by omega) km0 7 rfl, ?_⟩
      refine ⟨fun h0 => ?_, fun h0 => ?_⟩
      · exact Or.inl (⟨rfl, h0, rfl⟩)
      · refine ⟨fun h1 => ?_, fun h1 => ?_⟩
        · exact Or.inr (Or.inl (⟨rfl, h0, h1, rfl⟩))
        · exact Or.inr (Or.inr (⟨rfl, h0, h1, rfl⟩))
theorem sch_46 {A : pm_A} : ∀ (m : Nat) (t how fr bb : Int) (w5 w6 w7 : pm_V) (B : pm_A), (3001 - t).toNat < m → 0 ≤ t → t ≤ 3000 → sI A B how fr bb → Tm pmt (an_sh wM) o_X10_searches 46 ([(2, 0), (0, how), (0, fr), (0, bb), (0, t), w5, w6, w7], [], B) (sch_post A) := by
  intro m
  induction m with
  | zero => intro t how fr bb w5 w6 w7 B h; omega
  | succ m ih =>
    intro t how fr bb w5 w6 w7 B hm t0 t1 hI
    have p40 := fM_0_40 hI.1.1 (r := 0) (by omega) km0
    obtain ⟨i1, i2, i3, i4, i5⟩ := id hI
    refine wq_ok srt_searches (fr := []) (cuts := [63, 206]) (J := fun pc st => (pc = 206 ∧ ((B 0 40) ≤ t) ∧ st = ([(2, 0), (0, how), (0, fr), (0, bb), (0, t), w5, w6, w7], [], B)) ∨ (pc = 206 ∧ (t < (B 0 40)) ∧ (2 ≤ how) ∧ st = ([(2, 0), (0, how), (0, fr), (0, bb), (0, t), w5, w6, w7], [], B)) ∨ (pc = 63 ∧ (t < (B 0 40)) ∧ (how < 2) ∧ st = ([(2, 0), (0, how), (0, fr), (0, bb), (0, t), (0, 0), w6, w7], [], B))) ?_ 14 46 _ ?_
    · rintro pc st (⟨rfl, h0, rfl⟩ | ⟨rfl, h0, h1, rfl⟩ | ⟨rfl, h0, h1, rfl⟩)
      · exact sch_206 i1 i2 i3.1 i3.2 ⟨by omega, by omega⟩ i5
      · exact sch_206 i1 i2 i3.1 i3.2 ⟨by omega, by omega⟩ i5
      · exact sch_63 t0 (fun how fr bb w5 w6 w7 C hC hC2 => ih (t + 1) how fr bb w5 w6 w7 C (by omega) (by omega) (by have := fM_0_40 hC.1.1 (r := 0) (by omega) km0; omega) hC) _ 0 _ _ _ _ _ B (Nat.lt_succ_self _) (by omega) (by omega) hI h0
    · refine ⟨oM_0 (by omega) km0 40 rfl, ?_⟩
      refine ⟨fun h0 => ?_, fun h0 => ?_⟩
      · exact Or.inl (⟨rfl, h0, rfl⟩)
      · refine ⟨fun h1 => ?_, fun h1 => ?_⟩
        · exact Or.inr (Or.inl (⟨rfl, h0, h1, rfl⟩))
        · exact Or.inr (Or.inr (⟨rfl, h0, h1, rfl⟩))
theorem sch_12 {A : pm_A} : ∀ (m : Nat) (i : Int) (w2 w3 w4 w5 w6 w7 : pm_V) (B : pm_A), (4096 - i).toNat < m → 0 ≤ i → i ≤ 4096 → fF A B → B 0 40 = 0 → (∀ h : Int, 0 ≤ h → h < i → B 28 h = -1) → Tm pmt (an_sh wM) o_X10_searches 12 ([(2, 0), (0, i), w2, w3, w4, w5, w6, w7], [], B) (sch_post A) := by
  intro m
  induction m with
  | zero => intro i w2 w3 w4 w5 w6 w7 B h; omega
  | succ m ih =>
    intro i w2 w3 w4 w5 w6 w7 B hm i0 i1 hF h40 hh
    have c44 := pM_44 hF.1
    have hL : 4096 ≤ i → FL B := fun hi => ⟨fun h h0 h1 => by rw [hh h h0 (by omega)]; omega, fun t t0 t1 => by omega⟩
    refine wq_ok srt_searches (fr := []) (cuts := [12, 38]) (J := fun pc st => (pc = 38 ∧ ∃ C x, fF A C ∧ FL C ∧ B 0 40 ≤ C 0 40 ∧ st = ([(2, 0), (0, i), w2, w3, w4, w5, w6, w7], [(0, x)], C)) ∨ (pc = 12 ∧ (i < 4096) ∧ st = ([(2, 0), (0, i + 1), w2, w3, w4, w5, w6, w7], [], pm_upd B (B 0 44) i ((-1))))) ?_ 15 12 _ ?_
    · rintro pc st (⟨rfl, C, x, q3, q4, q5, rfl⟩ | ⟨rfl, h0, rfl⟩)
      · refine wq_ok srt_searches (fr := []) (cuts := [46]) (J := fun pc st => (pc = 46 ∧ st = ([(2, 0), (0, x), (0, (-1)), (0, (-1)), (0, 0), w5, w6, w7], [], C))) ?_ 12 38 _ ?_
        · rintro pc st (⟨rfl, rfl⟩)
          exact sch_46 _ 0 x (-1) (-1) _ _ _ C (Nat.lt_succ_self _) (by omega) (by omega) ⟨q3, q4, ⟨by omega, by omega⟩, ⟨by omega, by omega⟩, fun _ => rfl⟩
        · exact ⟨rfl, rfl⟩
      · rw [c44]
        refine ih (i + 1) _ _ _ _ _ _ _ (by omega) (by omega) (by omega) ⟨uM_28 hF.1 kn28 (by omega) (by omega), gFr_upd hF.2 (mM_28 kn28 rfl)⟩ (by rw [upd_o (by omega)]; exact h40) (fun h g0 g1 => ?_)
        by_cases e : h = i
        · rw [e, upd_at]
        · rw [upd_o (by omega)]; exact hh h g0 (by omega)
    · refine ⟨fun h0 => ?_, fun h0 => ?_⟩
      · refine ⟨rM_0 (by omega) km0, ?_⟩
        refine (tells_ex (fr := -1) (bb := -1) hF (hL h0) (by omega) (Or.inr rfl) ⟨by omega, by omega⟩).imp ?_
        rintro ⟨r1, C⟩ ⟨x, q1, q2, q3, q4, q5⟩
        simp only at q1 q2 q3 q4 q5
        subst q1
        exact Or.inl (⟨rfl, C, x, q3, q4, q5, rfl⟩)
      · refine ⟨oM_0 (by omega) km0 44 rfl, ?_⟩
        refine ⟨tM_28 (r := B 0 44) (by rw [c44]; omega) (by rw [c44]; exact kn28) (by omega) (by omega) rfl, ?_⟩
        refine ⟨⟨by omega, by omega⟩, ?_⟩
        exact Or.inr (⟨rfl, h0, rfl⟩)
theorem searches_ex {A : pm_A} (hA : gH wM A) : Cl pmt (an_sh wM) 182 [(2, 0)] A (sch_post A) := by
  refine Cl.of (Nat.le_of_ble_eq_true rfl) ?_
  refine wq_ok (full := o_X10_searches) srt_searches (fr := []) (cuts := [12]) (J := fun pc st => (pc = 12 ∧ st = ([(2, 0), (0, 0), (9, 0), (9, 0), (9, 0), (9, 0), (9, 0), (9, 0)], [], pm_upd (pm_upd A 0 40 0) 0 42 0))) ?_ 13 0 _ ?_
  · rintro pc st (⟨rfl, rfl⟩)
    exact sch_12 _ 0 _ _ _ _ _ _ _ (Nat.lt_succ_self _) (by omega) (by omega) ⟨uM_0_42 (uM_0_40 hA (by omega) (by omega)) (by omega) (by omega), gFr_upd (gFr_upd (fun _ _ _ _ _ => rfl) (by rw [mc_0]; decide)) (by rw [mc_0]; decide)⟩ (by rw [upd_o (by omega), upd_at]) (fun h g0 g1 => by omega)
  · refine ⟨oM_0 (by omega) km0 40 rfl, ?_⟩
    refine ⟨oM_0 (by omega) km0 42 rfl, ?_⟩
    exact ⟨rfl, rfl⟩
theorem srt_Mfinite : pm_srt o_X10_finite = true := by decide +kernel
theorem mfinite_ct {A : pm_A} (h : RI A) : Cl pmt (an_sh wM) 141 [(2, 0)] A ri_post := by
  have hg := h.g
  refine Cl.of (Nat.le_of_ble_eq_true rfl) ?_
  refine wq_ok (full := o_X10_finite) srt_Mfinite (fr := []) (cuts := [6]) (J := fun pc st => (pc = 6 ∧ ∃ C, savesJ A C 30 72 ∧ st = ([(2, 0), (9, 0)], [], C))) ?_ 7 0 _ ?_
  · rintro pc st (⟨rfl, C, hC, rfl⟩)
    refine wq_ok srt_Mfinite (fr := []) (cuts := [10]) (J := fun pc st => (pc = 10 ∧ ∃ B x, fF C B ∧ st = ([(2, 0), (9, 0)], [(0, x)], B))) ?_ 6 6 _ ?_
    · rintro pc st (⟨rfl, B, x, hB, rfl⟩)
      refine wq_ok srt_Mfinite (fr := []) (cuts := [17]) (J := fun pc st => (pc = 17 ∧ ∃ D, restoresJ B D 30 72 ∧ st = ([(2, 0), (0, x)], [], D))) ?_ 8 10 _ ?_
      · rintro pc st (⟨rfl, D, hD, rfl⟩)
        have hout : ∀ r j : Int, 0 ≤ r → r ≤ 38 → 0 ≤ j → (r = 0 → j < 100) → (r = 0 ∧ j ≠ 40 ∧ j ≠ 41 ∧ j ≠ 42) ∨ (r ≠ 0 ∧ r ≠ 5 ∧ r ≠ 12 ∧ r ≠ 24 ∧ r ≠ 25 ∧ r ≠ 26 ∧ r ≠ 27 ∧ r ≠ 28 ∧ r ≠ 29) → B r j = C r j := fun r j r0 r1 j0 j1 hr => hB.2 r j r0 j0 (fr_out r0 r1 j0 j1 (fun e => by unfold fms; simp only [List.mem_cons, List.not_mem_nil, or_false]; omega) (fun e => by unfold fms; simp only [List.mem_cons, List.not_mem_nil, or_false]; omega))
        have hRI : RI D := restored h hC hB.1 (fun r j j0 j1 hr => hout r j (by omega) (by omega) j0 j1 (by omega)) (fun p p0 p1 r j hr => hout r j (by unfold inS at hr; omega) (by unfold inS at hr; omega) (by unfold inS at hr; omega) (by unfold inS at hr; omega) (by unfold inS at hr; omega)) hD
        refine wq_ok srt_Mfinite (fr := []) (cuts := []) (J := fun _ _ => False) ?_ 6 17 _ ?_
        · intro pc st h; exact h.elim
        · exact ⟨rfl, ⟨_, rfl⟩, hRI⟩
      · refine ⟨rM_0 (by omega) km0, ?_⟩
        refine (restores_ex (p := 30) hB.1 (by omega) (by omega)).imp ?_
        rintro ⟨r1, D⟩ ⟨q1, q2⟩
        simp only at q1 q2
        subst q1
        exact ⟨rfl, D, q2, rfl⟩
    · refine ⟨rM_0 (by omega) km0, ?_⟩
      refine (searches_ex hC.1).imp ?_
      rintro ⟨r1, B⟩ ⟨⟨x, q1⟩, q2⟩
      simp only at q1 q2
      subst q1
      exact ⟨rfl, B, x, q2, rfl⟩
  · refine ⟨rM_0 (by omega) km0, ?_⟩
    refine (saves_ex (p := 30) hg (by omega) (by omega)).imp ?_
    rintro ⟨r1, C⟩ ⟨q1, q2⟩
    simp only at q1 q2
    subst q1
    exact ⟨rfl, C, q2, rfl⟩
