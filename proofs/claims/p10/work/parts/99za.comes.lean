/-! comes, goesThrough, all -/
def TruX (s : cx_Sd 12) (ks : List (Fin 12)) (n m : Int) (arr : Int → Int) (L : Int → cr_Pl_ 12) : Prop := (1 ≤ n ∧ n ≤ 6) ∧ (0 ≤ m ∧ m ≤ 6) ∧ (∀ i j : Fin 12, (j.1 : Int) < n → ((i.1 : Int) < n + m → cr_bs s.b ks i j = arr (6 * (i.1 : Int) + (j.1 : Int))) ∧ (n + m ≤ (i.1 : Int) → cr_bs s.b ks i j = 0)) ∧ (∀ k ∈ ks, (k.1 : Int) < n) ∧ (∀ v k : Fin 12, (k.1 : Int) < n → s.b v k ≤ 9 ∧ -9 ≤ s.b v k) ∧ (∀ i j : Int, 0 ≤ i → i < n + m → 0 ≤ j → j < n → -9999 ≤ arr (6 * i + j) ∧ arr (6 * i + j) ≤ 9999) ∧ ∀ i : Fin 12, (i.1 : Int) < n → cr_Shr (L i.1) ∧ (∀ y ∈ L i.1, y.1 ≤ 1000000000000) ∧ ∀ x : cr_Pv 12, (cr_gp s.b ks x).1 i = cr_vl x.1 (L i.1)
theorem Tru.x {s : cx_Sd 12} {ks : List (Fin 12)} {A : pm_A} (h : Tru s ks A) : TruX s ks (A 0 7) (A 0 8) (A 5) (LSm A) := by
  have p7 := fM_0_7 h.1 (r := 0) (by omega) km0
  have p8 := fM_0_8 h.1 (r := 0) (by omega) km0
  obtain ⟨hg, h1, hb, hks, h9, ha, hl⟩ := h
  refine ⟨⟨h1, p7.2⟩, p8, hb, hks, h9, ha, fun i hi => ?_⟩
  obtain ⟨l1, l2, l3⟩ := hl i hi
  exact ⟨shr_of l1 l2, fun y hy => by
    obtain ⟨q, q0, q1, rfl⟩ := mem_LSm hy
    exact (l2 q q0 q1).2, l3⟩
theorem TruX.to {s : cx_Sd 12} {ks : List (Fin 12)} {n m : Int} {arr : Int → Int} {L : Int → cr_Pl_ 12} {C : pm_A} (h : TruX s ks n m arr L) (hC : gH wM C) (e7 : C 0 7 = n) (e8 : C 0 8 = m) (e5 : ∀ j : Int, 0 ≤ j → j < 72 → C 5 j = arr j) (hL : ∀ t : Int, 0 ≤ t → t < n → LSm C t = L t) : Tru s ks C := by
  obtain ⟨h1, h2, hb, hks, h9, ha, hl⟩ := h
  refine ⟨hC, by omega, fun i j hj => ⟨fun hi => ?_, fun hi => ?_⟩, fun k hk => by rw [e7]; exact hks k hk, fun v k hk => h9 v k (by omega), fun i j i0 i1 j0 j1 => ?_, fun i hi => ?_⟩
  · rw [e5 _ (by omega) (by omega)]; exact (hb i j (by omega)).1 (by omega)
  · exact (hb i j (by omega)).2 (by omega)
  · rw [e5 _ (by omega) (by omega)]; exact ha i j i0 (by omega) j0 (by omega)
  · rw [e7] at hi
    obtain ⟨l1, l2, l3⟩ := hl i hi
    have e := hL i.1 (by omega) hi
    refine ⟨srtd_of (by rw [e]; exact l1), fun q q0 q1 => ?_, fun x => by rw [l3 x]; unfold VS; rw [e]⟩
    have hin := in_LSm (A := C) (p := i.1) q0 q1
    rw [e] at hin
    have a1 : 0 < C 2 (200 * (i.1 : Int) + q) := l1.2 _ hin
    exact ⟨by omega, l2 _ hin⟩
theorem TruX.congr {s : cx_Sd 12} {ks : List (Fin 12)} {n m : Int} {arr arr' : Int → Int} {L L' : Int → cr_Pl_ 12} (h : TruX s ks n m arr L) (e5 : ∀ j : Int, 0 ≤ j → j < 72 → arr' j = arr j) (hL : ∀ t : Int, 0 ≤ t → t < n → L' t = L t) : TruX s ks n m arr' L' := by
  obtain ⟨h1, h2, hb, hks, h9, ha, hl⟩ := h
  refine ⟨h1, h2, fun i j hj => ⟨fun hi => ?_, fun hi => (hb i j hj).2 hi⟩, hks, h9, fun i j i0 i1 j0 j1 => ?_, fun i hi => ?_⟩
  · rw [e5 _ (by omega) (by omega)]; exact (hb i j hj).1 hi
  · rw [e5 _ (by omega) (by omega)]; exact ha i j i0 i1 j0 j1
  · rw [hL i.1 (by omega) hi]; exact hl i hi
theorem srt_comes : pm_srt o_X10_comes = true := by decide +kernel
def cmF (A B : pm_A) : Prop := gH wM B ∧ (∀ r j, r ≠ 17 → r ≠ 18 → ¬ (r = 0 ∧ j = 24) → B r j = A r j) ∧ (∀ j : Int, j < 6 * A 0 24 → B 17 j = A 17 j) ∧ ∀ j : Int, j < 72 * A 0 24 → B 18 j = A 18 j
def cm_post (A : pm_A) (r : pm_R) : Prop := cmF A r.2 ∧ (r.1 = some (0, 0) ∨ (r.1 = some (0, 1) ∧ A 0 24 < 150 ∧ r.2 0 24 = A 0 24 + 1 ∧ A 0 26 ≤ 100 ∧ (∀ t : Int, 0 ≤ t → t < A 0 7 → r.2 17 (6 * A 0 24 + t) = A 23 t) ∧ ∀ j : Int, 0 ≤ j → j < 72 → r.2 18 (72 * A 0 24 + j) = A 5 j))
def cmJ (A B : pm_A) (i : Int) : Prop := cmF A B ∧ B 0 24 = A 0 24 ∧ (∀ t : Int, 0 ≤ t → t < A 0 7 → B 17 (6 * A 0 24 + t) = A 23 t) ∧ ∀ j : Int, 0 ≤ j → j < i → B 18 (72 * A 0 24 + j) = A 5 j
theorem cm_50 {A : pm_A} (hA : gH wM A) (hs : A 0 24 < 150) : ∀ (m : Nat) (i : Int) (B : pm_A), (72 - i).toNat < m → 0 ≤ i → i ≤ 72 → cmJ A B i → Tm pmt (an_sh wM) o_X10_comes 50 ([(2, 0), (0, i)], [], B) (cm_post A) := by
  have p24 := fM_0_24 hA (r := 0) (by omega) km0
  intro m
  induction m with
  | zero => intro i B h; omega
  | succ m ih =>
    intro i B hm i0 i1 hJ
    obtain ⟨⟨g1, g2, g3, g4⟩, g5, g6, g7⟩ := hJ
    have c9 := pM_9 g1
    have c28 := pM_28 g1
    have e5 : B 5 i = A 5 i := g2 5 i (by omega) (by omega) (by omega)
    have e26 : pm_upd B 0 24 (B 0 24 + 1) 0 26 = A 0 26 := by rw [upd_o (by omega)]; exact g2 0 26 (by omega) (by omega) (by omega)
    have hF : cmF A (pm_upd B 0 24 (B 0 24 + 1)) := ⟨uM_0_24 g1 (by omega) (by omega), fun r j h1 h2 h3 => by rw [upd_o (fun e => h3 ⟨e.1, e.2⟩)]; exact g2 r j h1 h2 h3, fun j hj => by rw [upd_o (by omega)]; exact g3 j hj, fun j hj => by rw [upd_o (by omega)]; exact g4 j hj⟩
    have hfin : 72 ≤ i → A 0 26 ≤ 100 → cm_post A (some (0, 1), pm_upd B 0 24 (B 0 24 + 1)) := fun hi hl => ⟨hF, Or.inr ⟨rfl, hs, by show pm_upd B 0 24 (B 0 24 + 1) 0 24 = _; rw [upd_at, g5], hl, fun t t0 t1 => by show pm_upd B 0 24 (B 0 24 + 1) 17 _ = _; rw [upd_o (by omega)]; exact g6 t t0 t1, fun j j0 j1 => by show pm_upd B 0 24 (B 0 24 + 1) 18 _ = _; rw [upd_o (by omega)]; exact g7 j j0 (by omega)⟩⟩
    refine wq_ok srt_comes (fr := []) (cuts := [50]) (J := fun pc st => (pc = 50 ∧ (i < 72) ∧ st = ([(2, 0), (0, i + 1)], [], pm_upd B (B 0 28) ((72 * (B 0 24)) + i) (B (B 0 9) i)))) ?_ 23 50 _ ?_
    · rintro pc st (⟨rfl, h0, rfl⟩)
      rw [c9, c28, g5]
      have b := eM_5 g1 (r := 5) (by omega) kn5 i0 (show i < 72 by omega)
      refine ih (i + 1) _ (by omega) (by omega) (by omega) ⟨⟨uM_18 g1 kn18 b.1 b.2, fun r j h1 h2 h3 => by rw [upd_o (by omega)]; exact g2 r j h1 h2 h3, fun j hj => by rw [upd_o (by omega)]; exact g3 j hj, fun j hj => by rw [upd_o (by omega)]; exact g4 j hj⟩, by rw [upd_o (by omega)]; exact g5, fun t t0 t1 => by rw [upd_o (by omega)]; exact g6 t t0 t1, fun j j0 j1 => ?_⟩
      by_cases hj : j = i
      · rw [hj, upd_at]; exact e5
      · rw [upd_o (by omega)]; exact g7 j j0 (by omega)
    · refine ⟨fun h0 => ?_, fun h0 => ?_⟩
      · refine ⟨oM_0 (by omega) km0 24 rfl, ?_⟩
        refine ⟨⟨by omega, by omega⟩, ?_⟩
        refine ⟨oM_0 (by omega) km0 24 rfl, ?_⟩
        refine ⟨oM_0 (by omega) km0 26 rfl, ?_⟩
        refine ⟨fun h1 => ?_, fun h1 => ?_⟩
        · exact ⟨rfl, hF, Or.inl rfl⟩
        · exact ⟨rfl, hfin h0 (by rw [e26] at h1; exact h1)⟩
      · refine ⟨oM_0 (by omega) km0 28 rfl, ?_⟩
        refine ⟨oM_0 (by omega) km0 24 rfl, ?_⟩
        refine ⟨⟨by omega, by omega⟩, ?_⟩
        refine ⟨⟨by omega, by omega⟩, ?_⟩
        refine ⟨oM_0 (by omega) km0 9 rfl, ?_⟩
        refine ⟨aM_5 (r := B 0 9) (by rw [c9]; omega) (by rw [c9]; exact kn5) (by omega) (by omega), ?_⟩
        have e1 : B (B 0 9) i = B 5 i := by rw [c9]
        refine ⟨tM_18 (r := B 0 28) (by rw [c28]; omega) (by rw [c28]; exact kn18) (by omega) (by omega) rfl, ?_⟩
        refine ⟨⟨by omega, by omega⟩, ?_⟩
        exact ⟨rfl, h0, rfl⟩
def cmI (A B : pm_A) (i : Int) : Prop := cmF A B ∧ B 0 24 = A 0 24 ∧ ∀ t : Int, 0 ≤ t → t < i → B 17 (6 * A 0 24 + t) = A 23 t
theorem cm_14 {A : pm_A} (hA : gH wM A) (hs : A 0 24 < 150) (hth : ∀ t : Int, 0 ≤ t → t < A 0 7 → 0 ≤ A 23 t ∧ A 23 t ≤ 100) : ∀ (m : Nat) (i : Int) (B : pm_A), (6 - i).toNat < m → 0 ≤ i → i ≤ A 0 7 → cmI A B i → Tm pmt (an_sh wM) o_X10_comes 14 ([(2, 0), (0, i)], [], B) (cm_post A) := by
  have p24 := fM_0_24 hA (r := 0) (by omega) km0
  have p7 := fM_0_7 hA (r := 0) (by omega) km0
  intro m
  induction m with
  | zero => intro i B h; omega
  | succ m ih =>
    intro i B hm i0 i1 hJ
    obtain ⟨⟨g1, g2, g3, g4⟩, g5, g6⟩ := hJ
    have c27 := pM_27 g1
    have c35 := pM_35 g1
    have e7 : B 0 7 = A 0 7 := g2 0 7 (by omega) (by omega) (by omega)
    have e23 : B 23 i = A 23 i := g2 23 i (by omega) (by omega) (by omega)
    refine wq_ok srt_comes (fr := []) (cuts := [14, 50]) (J := fun pc st => (pc = 50 ∧ ((B 0 7) ≤ i) ∧ st = ([(2, 0), (0, 0)], [], B)) ∨ (pc = 14 ∧ (i < (B 0 7)) ∧ st = ([(2, 0), (0, i + 1)], [], pm_upd B (B 0 27) ((6 * (B 0 24)) + i) (B (B 0 35) i)))) ?_ 24 14 _ ?_
    · rintro pc st (⟨rfl, h0, rfl⟩ | ⟨rfl, h0, rfl⟩)
      · exact cm_50 hA hs _ 0 B (Nat.lt_succ_self _) (by omega) (by omega) ⟨⟨g1, g2, g3, g4⟩, g5, fun t t0 t1 => g6 t t0 (by rw [e7] at h0; omega), fun j j0 j1 => by omega⟩
      · rw [e7] at h0
        rw [c27, c35, g5]
        have b := hth i i0 h0
        refine ih (i + 1) _ (by omega) (by omega) (by omega) ⟨⟨uM_17 g1 kn17 (by omega) (by omega), fun r j h1 h2 h3 => by rw [upd_o (by omega)]; exact g2 r j h1 h2 h3, fun j hj => by rw [upd_o (by omega)]; exact g3 j hj, fun j hj => by rw [upd_o (by omega)]; exact g4 j hj⟩, by rw [upd_o (by omega)]; exact g5, fun t t0 t1 => ?_⟩
        by_cases hj : t = i
        · rw [hj, upd_at]; exact e23
        · rw [upd_o (by omega)]; exact g6 t t0 (by omega)
    · refine ⟨oM_0 (by omega) km0 7 rfl, ?_⟩
      refine ⟨fun h0 => ?_, fun h0 => ?_⟩
      · exact Or.inl (⟨rfl, h0, rfl⟩)
      · refine ⟨oM_0 (by omega) km0 27 rfl, ?_⟩
        refine ⟨oM_0 (by omega) km0 24 rfl, ?_⟩
        refine ⟨⟨by omega, by omega⟩, ?_⟩
        refine ⟨⟨by omega, by omega⟩, ?_⟩
        refine ⟨oM_0 (by omega) km0 35 rfl, ?_⟩
        refine ⟨aM_23 (r := B 0 35) (by rw [c35]; omega) (by rw [c35]; exact kn23) (by omega) (by omega), ?_⟩
        have e1 : B (B 0 35) i = B 23 i := by rw [c35]
        refine ⟨tM_17 (r := B 0 27) (by rw [c27]; omega) (by rw [c27]; exact kn17) (by omega) (by omega) rfl, ?_⟩
        refine ⟨⟨by omega, by omega⟩, ?_⟩
        exact Or.inr (⟨rfl, h0, rfl⟩)
theorem comes_ex {A : pm_A} (hA : gH wM A) (hth : ∀ t : Int, 0 ≤ t → t < A 0 7 → 0 ≤ A 23 t ∧ A 23 t ≤ 100) : Cl pmt (an_sh wM) 132 [(2, 0)] A (cm_post A) := by
  have p24 := fM_0_24 hA (r := 0) (by omega) km0
  have p7 := fM_0_7 hA (r := 0) (by omega) km0
  have hF : cmF A A := ⟨hA, fun _ _ _ _ _ => rfl, fun _ _ => rfl, fun _ _ => rfl⟩
  refine Cl.of (Nat.le_of_ble_eq_true rfl) ?_
  refine wq_ok (full := o_X10_comes) srt_comes (fr := []) (cuts := [14]) (J := fun pc st => (pc = 14 ∧ (¬ (A 0 24) = 150) ∧ st = ([(2, 0), (0, 0)], [], A))) ?_ 11 0 _ ?_
  · rintro pc st (⟨rfl, h0, rfl⟩)
    exact cm_14 hA (by omega) hth _ 0 A (Nat.lt_succ_self _) (by omega) (by omega) ⟨hF, rfl, fun t t0 t1 => by omega⟩
  · refine ⟨oM_0 (by omega) km0 24 rfl, ?_⟩
    refine ⟨fun h0 => ?_, fun h0 => ?_⟩
    · exact ⟨rfl, h0, rfl⟩
    · exact ⟨rfl, hF, Or.inl rfl⟩
