/-! Mill.product: what it returns is one of the two shares given -/
theorem srt_product : pm_srt o_X5_product = true := by decide +kernel
theorem srt_exchange : pm_srt o_X5_exchange = true := by decide +kernel
theorem pp_bi_m (x y : Int) : -2147483648 ≤ pp_bi 2 x y ∧ pp_bi 2 x y ≤ 2147483647 := by
  show -2147483648 ≤ w32 (x * y) ∧ w32 (x * y) ≤ 2147483647
  unfold w32; omega
def pr_H (m s k g b o : Int) : Prop := (0 ≤ m ∧ wX.2 m = 4) ∧ (0 ≤ s ∧ wX.2 s = 1) ∧ (0 ≤ k ∧ k ≤ 5) ∧ (-1 ≤ g ∧ g ≤ 1) ∧ (0 ≤ b ∧ wX.2 b = 2) ∧ (0 ≤ o ∧ wX.2 o = 2)
def pr_post (A : pm_A) (b o : Int) (r : pm_R) : Prop := ∃ x, r.1 = some (2, x) ∧ (x = -1 ∨ x = b ∨ x = o) ∧ gH wX r.2 ∧ gFr wX dv_M A r.2
def pr_I (A B : pm_A) (b o u v : Int) : Prop := gH wX B ∧ gFr wX dv_M A B ∧ ((u = b ∧ v = o) ∨ (u = o ∧ v = b))
theorem pr_71 {A : pm_A} {m s k g b o i T : Int} (hh : pr_H m s k g b o) (hi0 : 0 ≤ i) (hi1 : i ≤ 5) (hT : T ≤ 2147483647) (H : ∀ C u v w9 w10 w11, pr_I A C b o u v → Tm pmt (an_sh wX) o_X5_product 116 ([(2, m), (2, s), (0, k), (0, g), (2, b), (2, o), (2, u), (2, v), (0, i), w9, w10, w11], [], C) (pr_post A b o)) : ∀ (n : Nat) (d u v : Int) (w11 : pm_V) (B : pm_A), (T - d).toNat < n → 0 ≤ d → pr_I A B b o u v → Tm pmt (an_sh wX) o_X5_product 71 ([(2, m), (2, s), (0, k), (0, g), (2, b), (2, o), (2, u), (2, v), (0, i), (0, T), (0, d), w11], [], B) (pr_post A b o) := by
  obtain ⟨⟨m0, mk⟩, ⟨s0, sk⟩, hk, hg, ⟨b0, bk⟩, ⟨o0, ok⟩⟩ := hh
  intro n
  induction n with
  | zero => intro d u v w11 B h; omega
  | succ n ih =>
    intro d u v w11 B hn hd0 hI
    have hI0 := hI
    obtain ⟨h1, h2, h3⟩ := hI
    have hu : 0 ≤ u ∧ wX.2 u = 2 := by rcases h3 with ⟨e, _⟩ | ⟨e, _⟩ <;> rw [e] <;> constructor <;> assumption
    have hv : 0 ≤ v ∧ wX.2 v = 2 := by rcases h3 with ⟨_, e⟩ | ⟨_, e⟩ <;> rw [e] <;> constructor <;> assumption
    have l0 := fX_1_4 h1 s0 sk
    have e0 := eX_12 h1 l0.1 l0.2 hi0 (show i < 6 by omega)
    refine wq_ok srt_product (fr := []) (cuts := [71, 116]) (J := fun pc st => (pc = 116 ∧ st = ([(2, m), (2, s), (0, k), (0, g), (2, b), (2, o), (2, u), (2, v), (0, i), (0, T), (0, d), w11], [], B)) ∨ (pc = 71 ∧ d < T ∧ ∃ C, gH wX C ∧ gFr wX dv_M A C ∧ st = ([(2, m), (2, s), (0, k), (0, g), (2, b), (2, o), (2, v), (2, u), (0, i), (0, T), (0, d + 1), (2, v)], [], C))) ?_ 40 71 _ ?_
    · rintro pc st (⟨rfl, rfl⟩ | ⟨rfl, hd, C, c1, c2, rfl⟩)
      · exact H B u v _ _ _ hI0
      · exact ih (d + 1) v u _ C (by omega) (by omega) ⟨c1, c2, by rcases h3 with ⟨e1, e2⟩ | ⟨e1, e2⟩; exact Or.inr ⟨e2, e1⟩; exact Or.inl ⟨e2, e1⟩⟩
    · refine ⟨fun h => Or.inl ⟨rfl, rfl⟩, fun h => ?_⟩
      refine ⟨oX_1 s0 sk 4 rfl, ?_⟩
      refine ⟨aX_12 l0.1 l0.2 hi0 (by omega), ?_⟩
      refine ⟨rX_4 m0 mk, ?_⟩
      refine Cl.gct q_X5_multiply_0 (A := B) (a := [(2, m), (2, u), (2, B (B s 4) i), (2, v)]) ⟨gv_ref m0 mk, gv_ref hu.1 hu.2, gv_ref e0.1 e0.2, gv_ref hv.1 hv.2, trivial⟩ h1 ?_
      rintro ⟨r1, C⟩ g1 g2 g3
      simp only at g1 g2 g3
      have hF := gFr_tr h2 g3 (dv_sub rfl)
      match r1, g1 with
      | some (0, x), _ =>
        refine ⟨fun _ => ?_, fun _ => ?_⟩
        · refine ⟨⟨by omega, by omega⟩, ?_⟩
          exact Or.inr ⟨rfl, h, C, g2, hF, rfl⟩
        · exact ⟨rfl, -1, rfl, Or.inl rfl, g2, hF⟩
      | some (n + 1, x), ⟨⟨q, _⟩, _⟩ => exact absurd q (by intro q; cases q)
      | none, q => exact absurd q (by intro q; cases q)
theorem pr_25 {A : pm_A} {m s k g b o : Int} (hh : pr_H m s k g b o) : ∀ (n : Nat) (i u v : Int) (w9 w10 w11 : pm_V) (B : pm_A), (6 - i).toNat < n → 0 ≤ i → i ≤ 6 → pr_I A B b o u v → Tm pmt (an_sh wX) o_X5_product 25 ([(2, m), (2, s), (0, k), (0, g), (2, b), (2, o), (2, u), (2, v), (0, i), w9, w10, w11], [], B) (pr_post A b o) := by
  intro n
  induction n with
  | zero => intro i u v w9 w10 w11 B h; omega
  | succ n ih =>
    intro i u v w9 w10 w11 B hn hi0 hi1 hI
    have hh0 := hh
    have hI0 := hI
    obtain ⟨⟨m0, mk⟩, ⟨s0, sk⟩, hk, hg, ⟨b0, bk⟩, ⟨o0, ok⟩⟩ := hh
    obtain ⟨h1, h2, h3⟩ := hI
    have p6 := fX_1_0 h1 s0 sk
    have l0 := fX_1_4 h1 s0 sk
    have t0 := fX_1_2 h1 s0 sk
    refine wq_ok srt_product (fr := [61]) (cuts := [71]) (J := fun pc st => pc = 71 ∧ i < B s 0 ∧ ∃ T : Int, T ≤ 2147483647 ∧ st = ([(2, m), (2, s), (0, k), (0, g), (2, b), (2, o), (2, u), (2, v), (0, i), (0, T), (0, 0), w11], [], B)) ?_ 40 25 _ ?_
    · rintro pc st ⟨rfl, hi, T, hT, rfl⟩
      refine pr_71 hh0 hi0 (by omega) hT (fun C u v w9 w10 w11 hC => ?_) _ 0 u v w11 B (Nat.lt_succ_self _) (by omega) hI0
      refine wq_ok srt_product (fr := []) (cuts := [25]) (J := fun pc st => pc = 25 ∧ st = ([(2, m), (2, s), (0, k), (0, g), (2, b), (2, o), (2, u), (2, v), (0, i + 1), w9, w10, w11], [], C)) ?_ 40 116 _ ?_
      · rintro pc st ⟨rfl, rfl⟩
        exact ih (i + 1) u v w9 w10 w11 C (by omega) (by omega) (by omega) hC
      · refine ⟨⟨by omega, by omega⟩, ?_⟩
        exact ⟨rfl, rfl⟩
    · refine ⟨oX_1 s0 sk 0 rfl, ?_⟩
      refine ⟨fun h => ?_, fun h => ?_⟩
      · refine ⟨rfl, u, rfl, ?_, h1, h2⟩
        rcases h3 with ⟨e, _⟩ | ⟨e, _⟩
        · exact Or.inr (Or.inl e)
        · exact Or.inr (Or.inr e)
      · have hi : i < B s 0 := h
        have e0 := eX_12 h1 l0.1 l0.2 hi0 (show i < 6 by omega)
        refine ⟨oX_1 s0 sk 4 rfl, ?_⟩
        refine ⟨aX_12 l0.1 l0.2 hi0 (by omega), ?_⟩
        refine ⟨oX_2 e0.1 e0.2 1 rfl, ?_⟩
        refine ⟨fun _ => ?_, fun _ => ?_⟩
        · exact ⟨rfl, hi, 0, by omega, rfl⟩
        · refine ⟨oX_1 s0 sk 2 rfl, ?_⟩
          refine ⟨⟨by omega, by omega⟩, ?_⟩
          refine ⟨⟨by omega, by omega⟩, ?_⟩
          refine ⟨aX_10 t0.1 t0.2 (by omega) (by omega), ?_⟩
          exact ⟨rfl, hi, pp_bi 2 g (B (B s 2) (i * 6 + k)), (pp_bi_m _ _).2, rfl⟩
theorem product_ct {A : pm_A} {m s k g b o : Int} (hA : gH wX A) (hh : pr_H m s k g b o) : Cl pmt (an_sh wX) 46 [(2, m), (2, s), (0, k), (0, g), (2, b), (2, o)] A (pr_post A b o) := by
  have hh0 := hh
  obtain ⟨⟨m0, mk⟩, ⟨s0, sk⟩, hk, hg, ⟨b0, bk⟩, ⟨o0, ok⟩⟩ := hh
  refine Cl.of (Nat.le_of_ble_eq_true rfl) ?_
  refine wq_ok (full := o_X5_product) srt_product (fr := []) (cuts := [25]) (J := fun pc st => pc = 25 ∧ ∃ C w9 w10 w11, gH wX C ∧ gFr wX dv_M A C ∧ st = ([(2, m), (2, s), (0, k), (0, g), (2, b), (2, o), (2, b), (2, o), (0, 0), w9, w10, w11], [], C)) ?_ 40 0 _ ?_
  · rintro pc st ⟨rfl, C, w9, w10, w11, c1, c2, rfl⟩
    exact pr_25 hh0 _ 0 b o w9 w10 w11 C (Nat.lt_succ_self _) (by omega) (by omega) ⟨c1, c2, Or.inl ⟨rfl, rfl⟩⟩
  · refine ⟨rX_4 m0 mk, ?_⟩
    refine Cl.gct q_X5_beginProduct_0 (A := A) (a := [(2, m), (2, s), (0, k), (0, g), (2, b)]) ⟨gv_ref m0 mk, gv_ref s0 sk, ⟨rfl, hk.1, hk.2⟩, ⟨rfl, hg.1, hg.2⟩, gv_ref b0 bk, trivial⟩ hA ?_
    rintro ⟨r1, C⟩ g1 g2 g3
    simp only at g1 g2 g3
    have hF : gFr wX dv_M A C := gFr_tr (fun _ _ _ _ _ => rfl) g3 (dv_sub rfl)
    match r1, g1 with
    | some (0, x), _ =>
      refine ⟨fun _ => ?_, fun _ => ?_⟩
      · exact ⟨rfl, C, _, _, _, g2, hF, rfl⟩
      · exact ⟨rfl, -1, rfl, Or.inl rfl, g2, hF⟩
    | some (n + 1, x), ⟨⟨q, _⟩, _⟩ => exact absurd q (by intro q; cases q)
    | none, q => exact absurd q (by intro q; cases q)
