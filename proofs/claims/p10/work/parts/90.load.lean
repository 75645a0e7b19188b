/-! Atlas.load -/
theorem srt_load : pm_srt o_X0_load = true := by decide +kernel
theorem z72 : (0 : Int) ≤ 72 := by omega
theorem z79 : (0 : Int) ≤ 79 := by omega
theorem al_82 {A : pm_A} {i q : Int} (h : AL A) (hq : 72 < q) : AL (pm_upd A 82 i q) := by
  obtain ⟨⟨a1, a2, a3, a4, a5, a6, a7, a8, a9, a10, a11⟩, b, c, d, e⟩ := h
  have far : ∀ r j : Int, ¬ r = 82 → pm_upd A 82 i q r j = A r j := fun r j h1 => upd_ne h1
  refine ⟨⟨?_, ?_, ?_, ?_, ?_, ?_, ?_, ?_, ?_, ?_, ?_⟩, fun x x0 xk => ?_, fun x x0 x1 => ?_, fun j j0 j1 => ?_, pool_eq (fun j j0 j1 => ?_) e⟩
  · rw [far 0 0 (by omega)]; exact a1
  · rw [far 0 2 (by omega)]; exact a2
  · rw [far 0 8 (by omega)]; exact a3
  · rw [far 0 9 (by omega)]; exact a4
  · rw [far 1 4 (by omega)]; exact a5
  · rw [far 49 4 (by omega)]; exact a6
  · rw [far 72 8 (by omega)]; exact a7
  · rw [far 72 0 (by omega)]; exact a8
  · rw [far 79 4 (by omega)]; exact a9
  · rw [far 28 1 (by omega)]; exact a10
  · rw [far 28 2 (by omega)]; exact a11
  · rw [far x 2 (fun w => by rw [w, kk82] at xk; exact absurd xk (by decide))]; exact b x x0 xk
  · rw [far 73 x (by omega)]; exact c x x0 x1
  · by_cases w : j = i
    · rw [w, upd_at]; exact hq
    · rw [upd_n2 w]; exact d j j0 j1
  · unfold pc
    rw [far 4 j (by omega), far 52 (j - 6) (by omega), far 28 0 (by omega)]
/-- the first i seats at hand are numbers of letters -/
def satn (A : pm_A) (i : Int) : Prop := ∀ j, 0 ≤ j → j < i → 0 ≤ A (A 72 9) j
def ld_post (r : pm_R) : Prop := r.1 = none ∧ St r.2 ∧ sat r.2 72
theorem ld_51 {B : pm_A} {r i : Int} (hB : St B) (i0 : 0 ≤ i) (i1 : i ≤ 5) (hs : satn B (i + 1)) (H : ∀ C, St C → satn C (i + 1) → Tm pmt (an_sh wX) o_X0_load 23 ([(2, 72), (0, r), (0, i + 1)], [], C) ld_post) : Tm pmt (an_sh wX) o_X0_load 51 ([(2, 72), (0, r), (0, i)], [], B) ld_post := by
  obtain ⟨⟨a1, a2, a3, a4, a5, a6, a7, a8, a9, a10, a11⟩, b, c, d, e⟩ := hB.2
  have s0 := fX_5_9 hB.1 z72 kk72
  have v0 := eX_27 hB.1 s0.1 s0.2 i0 (show i < 6 by omega)
  have v1 := hs i i0 (by omega)
  have x0 := eX_22 hB.1 (r := 73) (by omega) kk73 v1 (show B (B 72 9) i < 100 by omega)
  have s12 := shX_12 kk82
  have s2 := shX_2 x0.2
  have n9 : ¬ B 72 9 = 82 := fun q => by rw [q, kk82] at s0; exact absurd s0.2 (by decide)
  refine wq_ok srt_load (fr := []) (cuts := [23]) (J := fun pc st => pc = 23 ∧ st = ([(2, 72), (0, r), (0, i + 1)], [], pm_upd B (B (B 72 8) 4) i (B (B 72 0) (B (B 72 9) i)))) ?_ 30 51 _ ?_
  · rintro pc st ⟨rfl, rfl⟩
    rw [a7, a9, a8]
    refine H _ ⟨?_, al_82 hB.2 (c _ v1 (by omega))⟩ (fun j j0 j1 => ?_)
    · exact gH_upd hB.1 (k := (1, 5, 6, [(2, 2, 0)])) (by rw [kk82]; rfl) (fun q => by cases q) (fun _ a ha => by cases ha; exact gv_ref x0.1 x0.2)
    · have e9 : ∀ q, pm_upd B 82 i q 72 9 = B 72 9 := fun q => upd_ne (by omega)
      rw [e9, upd_ne n9]; exact hs j j0 j1
  · refine ⟨oX_5 z72 kk72 8 rfl, ?_⟩
    refine ⟨oX_1 (r := B 72 8) (by rw [a7]; omega) (by rw [a7]; exact kk79) 4 rfl, ?_⟩
    refine ⟨oX_5 z72 kk72 0 rfl, ?_⟩
    refine ⟨oX_5 z72 kk72 9 rfl, ?_⟩
    refine ⟨aX_27 s0.1 s0.2 i0 (by omega), ?_⟩
    refine ⟨aX_22 (r := B 72 0) (by rw [a8]; omega) (by rw [a8]; exact kk73) v1 (by omega), ?_⟩
    refine ⟨⟨by rw [a7, a9]; omega, by rw [a7, a9, s12], by rw [a7, a9, s12], i0, by rw [a7, a9, s12]; simp only; omega, by rw [a8]; exact x0.1, by rw [a8, s2], by rw [a8, s2]⟩, ?_⟩
    refine ⟨⟨by omega, by omega⟩, ?_⟩
    exact ⟨rfl, rfl⟩
theorem ld_23 {r : Int} (r0 : 0 ≤ r) (r1 : r ≤ 149) : ∀ (n : Nat) (i : Int) (B : pm_A), (6 - i).toNat < n → 0 ≤ i → i ≤ 6 → St B → satn B i → Tm pmt (an_sh wX) o_X0_load 23 ([(2, 72), (0, r), (0, i)], [], B) ld_post := by
  intro n
  induction n with
  | zero => intro i B h; omega
  | succ n ih =>
    intro i B hn i0 i1 hB hs
    have t0 := fX_5_8 hB.1 z72 kk72
    have p0 := fX_1_0 hB.1 t0.1 t0.2
    have s0 := fX_5_9 hB.1 z72 kk72
    have q0 := fX_5_2 hB.1 z72 kk72
    have ne : ¬ (72 : Int) = B 72 9 := fun q => by rw [← q, kk72] at s0; exact absurd s0.2 (by decide)
    refine wq_ok srt_load (fr := []) (cuts := [51]) (J := fun pc st => pc = 51 ∧ i < B (B 72 8) 0 ∧ st = ([(2, 72), (0, r), (0, i)], [], pm_upd B (B 72 9) i (B (B 72 2) (r * 6 + i)))) ?_ 30 23 _ ?_
    · rintro pc st ⟨rfl, hi, rfl⟩
      have v0 := eX_23 hB.1 q0.1 q0.2 (j := r * 6 + i) (by omega) (by omega)
      refine ld_51 (hB.keep (ms := [10027]) (uX_27 hB.1 s0.2 (by omega) v0.2) (gFr_upd (fun _ _ _ _ _ => rfl) (mX_27 s0.2 rfl)) rfl) i0 (by omega) (fun j j0 j1 => ?_) (fun C hC hC2 => ih (i + 1) C (by omega) (by omega) (by omega) hC hC2)
      rw [upd_ne ne]
      by_cases w : j = i
      · rw [w, upd_at]; exact v0.1
      · rw [upd_n2 w]; exact hs j j0 (by omega)
    · refine ⟨oX_5 z72 kk72 8 rfl, ?_⟩
      refine ⟨oX_1 t0.1 t0.2 0 rfl, ?_⟩
      refine ⟨fun h => ?_, fun h => ?_⟩
      · exact ⟨rfl, hB, fun j j0 j1 => hs j j0 (by have h1 : B (B 72 8) 0 ≤ i := h; have h2 : j < B (B 72 8) 0 := j1; omega)⟩
      · have hi : i < B (B 72 8) 0 := h
        refine ⟨oX_5 z72 kk72 9 rfl, ?_⟩
        refine ⟨oX_5 z72 kk72 2 rfl, ?_⟩
        refine ⟨⟨by omega, by omega⟩, ?_⟩
        refine ⟨⟨by omega, by omega⟩, ?_⟩
        refine ⟨aX_23 q0.1 q0.2 (by omega) (by omega), ?_⟩
        refine ⟨tX_27 s0.1 s0.2 i0 (by omega) rfl, ?_⟩
        exact ⟨rfl, hi, rfl⟩
theorem load_ct {A : pm_A} {r : Int} (hA : St A) (r0 : 0 ≤ r) (r1 : r ≤ 149) : Cl pmt (an_sh wX) 10 [(2, 72), (0, r)] A ld_post := by
  have t0 := fX_5_8 hA.1 z72 kk72
  have u0 := fX_1_2 hA.1 t0.1 t0.2
  have o0 := fX_5_4 hA.1 z72 kk72
  have e1 := shX_10 u0.2
  have e2 := shX_25 o0.2
  refine Cl.of (Nat.le_of_ble_eq_true rfl) ?_
  refine wq_ok (full := o_X0_load) srt_load (fr := []) (cuts := [23]) (J := fun pc st => pc = 23 ∧ st = ([(2, 72), (0, r), (0, 0)], [], pm_cpy A (A 72 4) (r * 72) (A (A 72 8) 2) 0 72)) ?_ 30 0 _ ?_
  · rintro pc st ⟨rfl, rfl⟩
    refine ld_23 r0 r1 _ 0 _ (Nat.lt_succ_self _) (by omega) (by omega) (hA.keep (ms := [10010]) (gH_cpy hA.1 (ka := (1, 0, 10800, [(0, -2147483648, 2147483647)])) (kb := (1, 0, 72, [(0, -2147483648, 2147483647)])) o0.1 (by rw [o0.2]; rfl) (by rw [u0.2]; rfl) rfl rfl rfl rfl rfl rfl (by omega) (by omega) (by simp only; omega)) (gFr_cpy (fun _ _ _ _ _ => rfl) (fun j => mX_10 u0.2 rfl)) rfl) (fun j j0 j1 => by omega)
  · refine ⟨oX_5 z72 kk72 4 rfl, ?_⟩
    refine ⟨⟨by omega, by omega⟩, ?_⟩
    refine ⟨oX_5 z72 kk72 8 rfl, ?_⟩
    refine ⟨oX_1 t0.1 t0.2 2 rfl, ?_⟩
    refine ⟨⟨o0.1, u0.1, by rw [e2], by rw [e2], by rw [e1], by rw [e1], by omega, by omega, by omega, by rw [e2]; simp only; omega, by rw [e1]; simp only; omega⟩, ?_⟩
    exact ⟨rfl, rfl⟩
