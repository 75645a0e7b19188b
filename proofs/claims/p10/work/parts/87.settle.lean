/-! Mill.settle, and the turns -/
def sw (o k i : Int) : Int := if i = o + k then 12 else if i = 12 then o + k else i
theorem sw_a {o k i : Int} (h : i = o + k) : sw o k i = 12 := by unfold sw; rw [if_pos h]
theorem sw_b {o k i : Int} (h : ¬ i = o + k) (h2 : i = 12) : sw o k i = o + k := by unfold sw; rw [if_neg h, if_pos h2]
theorem sw_c {o k i : Int} (h : ¬ i = o + k) (h2 : ¬ i = 12) : sw o k i = i := by unfold sw; rw [if_neg h, if_neg h2]
theorem sw_3 (o k i : Int) : (i = o + k ∧ sw o k i = 12) ∨ (¬ i = o + k ∧ i = 12 ∧ sw o k i = o + k) ∨ (¬ i = o + k ∧ ¬ i = 12 ∧ sw o k i = i) := by
  by_cases h : i = o + k
  · exact Or.inl ⟨h, sw_a h⟩
  · by_cases h2 : i = 12
    · exact Or.inr (Or.inl ⟨h, h2, sw_b h h2⟩)
    · exact Or.inr (Or.inr ⟨h, h2, sw_c h h2⟩)
def swp (A : pm_A) (L k : Int) : pm_A := pm_upd (pm_upd A L k (A 28 0)) 28 0 (A L k)
theorem sw_pc {A : pm_A} {s L o k i : Int} (ho : own s L o) (k0 : 0 ≤ k) (k1 : k ≤ 5) (i0 : 0 ≤ i) (i1 : i ≤ 12) : pc (swp A L k) i = pc A (sw o k i) := by
  have nL : ¬ L = 28 := by rcases ho with ⟨_, e, _⟩ | ⟨_, e, _⟩ <;> omega
  rcases sw_3 o k i with ⟨e, q⟩ | ⟨e, e2, q⟩ | ⟨e, e2, q⟩
  · rw [q, e, own_pc ho k0 k1, pc_12]
    unfold swp
    rw [upd_ne nL, upd_at]
  · rw [q, e2, own_pc ho k0 k1, pc_12]
    unfold swp
    rw [upd_at]
  · rw [q]
    unfold pc swp
    by_cases h6 : i < 6
    · rw [if_pos h6, if_pos h6, upd_ne (by omega)]
      rcases ho with ⟨_, rfl, rfl⟩ | ⟨_, rfl, rfl⟩
      · rw [upd_n2 (by omega)]
      · rw [upd_ne (by omega)]
    · rw [if_neg h6, if_neg h6]
      by_cases h12 : i < 12
      · rw [if_pos h12, if_pos h12, upd_ne (by omega)]
        rcases ho with ⟨_, rfl, rfl⟩ | ⟨_, rfl, rfl⟩
        · rw [upd_ne (by omega)]
        · rw [upd_n2 (by omega)]
      · omega
theorem sw_AL {A : pm_A} {s L o k : Int} (h : AL A) (ho : own s L o) (k0 : 0 ≤ k) (k1 : k ≤ 5) : AL (swp A L k) := by
  have ok := own_k ho
  have nL : L = 4 ∨ L = 52 := by rcases ho with ⟨_, e, _⟩ | ⟨_, e, _⟩ <;> omega
  obtain ⟨⟨a1, a2, a3, a4, a5, a6, a7, a8, a9, a10, a11⟩, b, c, d, e⟩ := h
  have far : ∀ r j : Int, ¬ r = 28 → ¬ r = L → swp A L k r j = A r j := fun r j h1 h2 => by unfold swp; rw [upd_ne h1, upd_ne h2]
  refine ⟨⟨?_, ?_, ?_, ?_, ?_, ?_, ?_, ?_, ?_, ?_, ?_⟩, fun q q0 qk => ?_, fun x x0 x1 => ?_, fun i i0 i1 => ?_, fun i i0 i1 => ?_, fun i j i0 i1 j0 j1 hij => ?_⟩
  · rw [far 0 0 (by omega) (by omega)]; exact a1
  · rw [far 0 2 (by omega) (by omega)]; exact a2
  · rw [far 0 8 (by omega) (by omega)]; exact a3
  · rw [far 0 9 (by omega) (by omega)]; exact a4
  · rw [far 1 4 (by omega) (by omega)]; exact a5
  · rw [far 49 4 (by omega) (by omega)]; exact a6
  · rw [far 72 8 (by omega) (by omega)]; exact a7
  · rw [far 72 0 (by omega) (by omega)]; exact a8
  · rw [far 79 4 (by omega) (by omega)]; exact a9
  · unfold swp; rw [upd_n2 (by omega), upd_ne (by omega)]; exact a10
  · unfold swp; rw [upd_n2 (by omega), upd_ne (by omega)]; exact a11
  · rw [far q 2 (fun w => by rw [w, kk28] at qk; exact absurd qk (by decide)) (fun w => by rw [w, ok.2.1.2] at qk; exact absurd qk (by decide))]
    exact b q q0 qk
  · rw [far 73 x (by omega) (by omega)]; exact c x x0 x1
  · rw [far 82 i (by omega) (by omega)]; exact d i i0 i1
  · rw [sw_pc ho k0 k1 i0 i1]
    refine e.1 _ ?_ ?_
    · rcases sw_3 o k i with ⟨_, q⟩ | ⟨_, _, q⟩ | ⟨_, _, q⟩ <;> omega
    · rcases sw_3 o k i with ⟨_, q⟩ | ⟨_, _, q⟩ | ⟨_, _, q⟩ <;> omega
  · rw [sw_pc ho k0 k1 i0 i1, sw_pc ho k0 k1 j0 j1]
    refine e.2 _ _ ?_ ?_ ?_ ?_ ?_
    · rcases sw_3 o k i with ⟨_, q⟩ | ⟨_, _, q⟩ | ⟨_, _, q⟩ <;> omega
    · rcases sw_3 o k i with ⟨_, q⟩ | ⟨_, _, q⟩ | ⟨_, _, q⟩ <;> omega
    · rcases sw_3 o k j with ⟨_, q⟩ | ⟨_, _, q⟩ | ⟨_, _, q⟩ <;> omega
    · rcases sw_3 o k j with ⟨_, q⟩ | ⟨_, _, q⟩ | ⟨_, _, q⟩ <;> omega
    · rcases sw_3 o k i with ⟨_, q⟩ | ⟨_, _, q⟩ | ⟨_, _, q⟩ <;> rcases sw_3 o k j with ⟨_, w⟩ | ⟨_, _, w⟩ | ⟨_, _, w⟩ <;> omega
def se_M : List Nat := [500, 10010, 10012]
def se_post (A : pm_A) (r : pm_R) : Prop := r.1 = none ∧ gH wX r.2 ∧ AL r.2 ∧ gFr wX se_M A r.2
theorem sw_gH {A : pm_A} {s L o k : Int} (hA : gH wX A) (ho : own s L o) (k0 : 0 ≤ k) (k1 : k ≤ 5) : gH wX (swp A L k) ∧ gFr wX se_M A (swp A L k) := by
  have ok := own_k ho
  have f0 := fX_4_0 hA (r := 28) (by omega) kk28
  have eA := eX_12 hA ok.2.1.1 ok.2.1.2 k0 (show k < 6 by omega)
  refine ⟨?_, ?_⟩
  · refine gH_upd (gH_upd hA (k := (1, 5, 6, [(2, 2, 0)])) (by rw [ok.2.1.2]; rfl) (fun q => by cases q) (fun _ a ha => ?_)) (k := (0, 5, 7, [(2, 2, 0), (2, 2, 0), (2, 2, 0), (2, 2, 0), (2, 2, 0), (2, 18, 0), (2, 18, 0)])) (by rw [kk28]; rfl) (fun _ j a hj ej => ?_) (fun q => by cases q)
    · cases ha
      exact gv_ref f0.1 f0.2
    · have : j = 0 := by omega
      subst this
      cases hj
      exact gv_ref eA.1 eA.2
  · refine gFr_upd (gFr_upd (fun _ _ _ _ _ => rfl) ?_) ?_
    · unfold mcode; rw [shX_12 ok.2.1.2]; show (10000 + wX.2 L : Nat) ∈ se_M; rw [ok.2.1.2]; decide
    · unfold mcode; rw [shX_4 kk28]; show 500 ∈ se_M; decide
theorem se_22 {A B : pm_A} {s k : Int} {v3 : pm_V} (hs : 0 ≤ s ∧ wX.2 s = 1) (k0 : 0 ≤ k) (k1 : k ≤ 5) (h1 : gH wX B) (h2 : AL B) (h3 : gFr wX se_M A B) : Tm pmt (an_sh wX) o_X5_settle 22 ([(2, 28), (2, s), (0, k), v3], [], B) (se_post A) := by
  have t0 := fX_1_2 h1 hs.1 hs.2
  have p0 := fX_1_0 h1 hs.1 hs.2
  have q0 := fX_1_1 h1 hs.1 hs.2
  refine wq_ok srt_settle (fr := []) (cuts := []) (J := fun pc st => False) (fun _ _ h => h.elim) 20 22 _ ?_
  refine ⟨oX_1 hs.1 hs.2 2 rfl, ?_⟩
  refine ⟨oX_1 hs.1 hs.2 0 rfl, ?_⟩
  refine ⟨oX_1 hs.1 hs.2 1 rfl, ?_⟩
  refine ⟨⟨by omega, by omega⟩, ?_⟩
  refine ⟨oX_1 hs.1 hs.2 0 rfl, ?_⟩
  refine ⟨rfl, ?_⟩
  refine Cl.gct q_X9_turnTable_0 (A := B) (a := [(2, B s 2), (0, B s 0 + B s 1), (0, B s 0), (0, k)]) ⟨gv_ref t0.1 t0.2, ⟨rfl, by simp only; omega, by simp only; omega⟩, ⟨rfl, p0.1, p0.2⟩, ⟨rfl, k0, k1⟩, trivial⟩ h1 ?_
  rintro ⟨r1, C⟩ g1 g2 g3
  simp only at g1 g2 g3
  cases r1 with
  | some v => exact absurd g1 (by intro q; cases q)
  | none => exact ⟨rfl, g2, al_keep g3 rfl h2, gFr_tr h3 g3 (fun x hx => by
      cases hx with
      | head => exact List.Mem.tail _ (List.Mem.head _)
      | tail _ q => cases q)⟩
theorem settle_ct {A : pm_A} {s L o k : Int} (hA : gH wX A) (h : AL A) (ho : own s L o) (k0 : 0 ≤ k) (k1 : k ≤ 5) : Cl pmt (an_sh wX) 47 [(2, 28), (2, s), (0, k)] A (se_post A) := by
  have ok := own_k ho
  have eL := own_L ho h
  have f0 := fX_4_0 hA (r := 28) (by omega) kk28
  have sg := sw_gH hA ho k0 k1
  have sA := sw_AL h ho k0 k1
  have s12 := shX_12 ok.2.1.2
  have s2 := shX_2 f0.2
  refine Cl.of (Nat.le_of_ble_eq_true rfl) ?_
  refine wq_ok (full := o_X5_settle) srt_settle (fr := []) (cuts := [22]) (J := fun pc st => pc = 22 ∧ ∃ v3, st = ([(2, 28), (2, s), (0, k), v3], [], pm_upd (pm_upd A (A s 4) k (A 28 0)) 28 0 (A (A s 4) k))) ?_ 20 0 _ ?_
  · rintro pc st ⟨rfl, v3, rfl⟩
    rw [eL]
    exact se_22 ok.1 k0 k1 sg.1 sA sg.2
  · refine ⟨oX_1 ok.1.1 ok.1.2 4 rfl, ?_⟩
    refine ⟨aX_12 (by rw [eL]; exact ok.2.1.1) (by rw [eL]; exact ok.2.1.2) k0 (by omega), ?_⟩
    refine ⟨oX_1 ok.1.1 ok.1.2 4 rfl, ?_⟩
    refine ⟨oX_4 (by omega) kk28 0 rfl, ?_⟩
    refine ⟨⟨by rw [eL]; exact ok.2.1.1, by rw [eL, s12], by rw [eL, s12], k0, by rw [eL, s12]; simp only; omega, f0.1, by rw [s2], by rw [s2]⟩, ?_⟩
    refine ⟨oX_4 (by omega) kk28 0 rfl, ?_⟩
    exact ⟨rfl, _, rfl⟩
