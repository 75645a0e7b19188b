/-! frames by kinds; saves, restores, order -/
theorem mc_0 (j : Int) : mcode wM 0 j = 1000 + j.toNat := by unfold mcode; rw [shM_0 km0]; show 100 * 10 + j.toNat = 1000 + j.toNat; omega
theorem mc_1 (j : Int) : mcode wM 1 j = 10001 := by unfold mcode; rw [shM_1 kn1]; rfl
theorem mc_2 (j : Int) : mcode wM 2 j = 10002 := by unfold mcode; rw [shM_2 kn2]; rfl
theorem mc_3 (j : Int) : mcode wM 3 j = 10003 := by unfold mcode; rw [shM_3 kn3]; rfl
theorem mc_4 (j : Int) : mcode wM 4 j = 10004 := by unfold mcode; rw [shM_4 kn4]; rfl
theorem mc_5 (j : Int) : mcode wM 5 j = 10005 := by unfold mcode; rw [shM_5 kn5]; rfl
theorem mc_6 (j : Int) : mcode wM 6 j = 10006 := by unfold mcode; rw [shM_6 kn6]; rfl
theorem mc_7 (j : Int) : mcode wM 7 j = 10007 := by unfold mcode; rw [shM_7 kn7]; rfl
theorem mc_8 (j : Int) : mcode wM 8 j = 10008 := by unfold mcode; rw [shM_8 kn8]; rfl
theorem mc_9 (j : Int) : mcode wM 9 j = 10009 := by unfold mcode; rw [shM_9 kn9]; rfl
theorem mc_10 (j : Int) : mcode wM 10 j = 10010 := by unfold mcode; rw [shM_10 kn10]; rfl
theorem mc_11 (j : Int) : mcode wM 11 j = 10011 := by unfold mcode; rw [shM_11 kn11]; rfl
theorem mc_12 (j : Int) : mcode wM 12 j = 10012 := by unfold mcode; rw [shM_12 kn12]; rfl
theorem mc_13 (j : Int) : mcode wM 13 j = 10013 := by unfold mcode; rw [shM_13 kn13]; rfl
theorem mc_14 (j : Int) : mcode wM 14 j = 10014 := by unfold mcode; rw [shM_14 kn14]; rfl
theorem mc_15 (j : Int) : mcode wM 15 j = 10015 := by unfold mcode; rw [shM_15 kn15]; rfl
theorem mc_16 (j : Int) : mcode wM 16 j = 10016 := by unfold mcode; rw [shM_16 kn16]; rfl
theorem mc_17 (j : Int) : mcode wM 17 j = 10017 := by unfold mcode; rw [shM_17 kn17]; rfl
theorem mc_18 (j : Int) : mcode wM 18 j = 10018 := by unfold mcode; rw [shM_18 kn18]; rfl
theorem mc_19 (j : Int) : mcode wM 19 j = 10019 := by unfold mcode; rw [shM_19 kn19]; rfl
theorem mc_20 (j : Int) : mcode wM 20 j = 10020 := by unfold mcode; rw [shM_20 kn20]; rfl
theorem mc_21 (j : Int) : mcode wM 21 j = 10021 := by unfold mcode; rw [shM_21 kn21]; rfl
theorem mc_22 (j : Int) : mcode wM 22 j = 10022 := by unfold mcode; rw [shM_22 kn22]; rfl
theorem mc_23 (j : Int) : mcode wM 23 j = 10023 := by unfold mcode; rw [shM_23 kn23]; rfl
theorem mc_24 (j : Int) : mcode wM 24 j = 10024 := by unfold mcode; rw [shM_24 kn24]; rfl
theorem mc_25 (j : Int) : mcode wM 25 j = 10025 := by unfold mcode; rw [shM_25 kn25]; rfl
theorem mc_26 (j : Int) : mcode wM 26 j = 10026 := by unfold mcode; rw [shM_26 kn26]; rfl
theorem mc_27 (j : Int) : mcode wM 27 j = 10027 := by unfold mcode; rw [shM_27 kn27]; rfl
theorem mc_28 (j : Int) : mcode wM 28 j = 10028 := by unfold mcode; rw [shM_28 kn28]; rfl
theorem mc_29 (j : Int) : mcode wM 29 j = 10029 := by unfold mcode; rw [shM_29 kn29]; rfl
theorem mc_30 (j : Int) : mcode wM 30 j = 10030 := by unfold mcode; rw [shM_30 kn30]; rfl
theorem mc_31 (j : Int) : mcode wM 31 j = 10031 := by unfold mcode; rw [shM_31 kn31]; rfl
theorem mc_32 (j : Int) : mcode wM 32 j = 10032 := by unfold mcode; rw [shM_32 kn32]; rfl
theorem mc_33 (j : Int) : mcode wM 33 j = 10033 := by unfold mcode; rw [shM_33 kn33]; rfl
theorem mc_34 (j : Int) : mcode wM 34 j = 10034 := by unfold mcode; rw [shM_34 kn34]; rfl
theorem mc_35 (j : Int) : mcode wM 35 j = 10035 := by unfold mcode; rw [shM_35 kn35]; rfl
theorem mc_36 (j : Int) : mcode wM 36 j = 10036 := by unfold mcode; rw [shM_36 kn36]; rfl
theorem mc_37 (j : Int) : mcode wM 37 j = 10037 := by unfold mcode; rw [shM_37 kn37]; rfl
theorem mc_38 (j : Int) : mcode wM 38 j = 10038 := by unfold mcode; rw [shM_38 kn38]; rfl
theorem rgS_same {n : Int} {F G : Int → Int} (h : rgS n F) (e : ∀ f : Int, 0 ≤ f → f < 100 → G f = F f) : rgS n G := by
  obtain ⟨h0, h1, h2⟩ := h
  refine ⟨h0, fun f f0 f1 => by rw [e f f0 f1]; exact h1 f f0 f1, fun f f0 f1 hf => ?_⟩
  rw [e f f0 f1] at hf
  obtain ⟨g1, g2⟩ := h2 f f0 f1 hf
  exact ⟨g1, fun g g0 g3 hg => g2 g g0 g3 (by rw [← e g g0 g3]; exact hg)⟩
theorem RG.same2 {A B : pm_A} (h : RG A) (e1 : ∀ j, 0 ≤ j → B 31 j = A 31 j) (e2 : ∀ j, 0 ≤ j → B 32 j = A 32 j) : RG B := fun sl hsl => by
  have := h sl hsl
  rw [← e1 sl (by omega)] at this
  exact rgS_same this (fun f f0 f1 => e2 _ (by omega))
theorem RI.typed {A B : pm_A} {ms : List Nat} (h : RI A) (hB : gH wM B) (hF : gFr wM ms A B) (hm : (ms.all fun c => !([1007, 1008, 1010, 10001, 10002, 10003, 10005, 10006, 10007, 10031, 10032].contains c)) = true) : RI B := by
  have hno : ∀ c, c ∈ ([1007, 1008, 1010, 10001, 10002, 10003, 10005, 10006, 10007, 10031, 10032] : List Nat) → ¬ c ∈ ms := fun c hc hin => by
    have := List.all_eq_true.1 hm c hin
    rw [List.contains_iff_mem.mpr hc] at this
    exact absurd this (by decide)
  have f0 : ∀ j : Int, j = 7 ∨ j = 8 ∨ j = 10 → B 0 j = A 0 j := fun j hj => hF 0 j (by omega) (by omega) (by rw [mc_0]; rcases hj with rfl | rfl | rfl <;> exact hno _ (by decide))
  have c1 : ∀ j : Int, 0 ≤ j → B 1 j = A 1 j := fun j j0 => hF 1 j (by omega) j0 (by rw [mc_1]; exact hno _ (by decide))
  have c2 : ∀ j : Int, 0 ≤ j → B 2 j = A 2 j := fun j j0 => hF 2 j (by omega) j0 (by rw [mc_2]; exact hno _ (by decide))
  have c3 : ∀ j : Int, 0 ≤ j → B 3 j = A 3 j := fun j j0 => hF 3 j (by omega) j0 (by rw [mc_3]; exact hno _ (by decide))
  have c5 : ∀ j : Int, 0 ≤ j → B 5 j = A 5 j := fun j j0 => hF 5 j (by omega) j0 (by rw [mc_5]; exact hno _ (by decide))
  have c6 : ∀ j : Int, 0 ≤ j → B 6 j = A 6 j := fun j j0 => hF 6 j (by omega) j0 (by rw [mc_6]; exact hno _ (by decide))
  have c7 : ∀ j : Int, 0 ≤ j → B 7 j = A 7 j := fun j j0 => hF 7 j (by omega) j0 (by rw [mc_7]; exact hno _ (by decide))
  have c31 : ∀ j : Int, 0 ≤ j → B 31 j = A 31 j := fun j j0 => hF 31 j (by omega) j0 (by rw [mc_31]; exact hno _ (by decide))
  have c32 : ∀ j : Int, 0 ≤ j → B 32 j = A 32 j := fun j j0 => hF 32 j (by omega) j0 (by rw [mc_32]; exact hno _ (by decide))
  obtain ⟨⟨s, ks, hT⟩, ⟨b1, b2⟩, hRG⟩ := h
  refine ⟨⟨s, ks, hT.same hB (f0 7 (by omega)) (f0 8 (by omega)) (fun j j0 _ => c5 j j0) (fun p p0 p1 r j hr => ?_)⟩, ⟨fun j j0 j1 => by rw [c7 j j0]; exact b1 j j0 j1, fun d d0 d1 => ?_⟩, hRG.same2 c31 c32⟩
  · unfold inS at hr
    rcases hr with ⟨rfl, rfl⟩ | ⟨rfl, h1, h2⟩ | ⟨rfl, h1, h2⟩
    · exact c1 _ p0
    · exact c2 _ (by omega)
    · exact c3 _ (by omega)
  · rw [c6 d d0, f0 7 (by omega)]; rw [f0 10 (by omega)] at d1; exact b2 d d0 d1
theorem ri_gct {mid : Nat} {q : an_Q} (hq : gCt wM pmt mid q) {a : List pm_V} {A : pm_A} (ha : gA wM q.1 a) (h : RI A) (hm : (q.2.2.all fun c => !([1007, 1008, 1010, 10001, 10002, 10003, 10005, 10006, 10007, 10031, 10032].contains c)) = true) : Cl pmt (an_sh wM) mid a A (fun r => gR wM q.2.1 r.1 ∧ RI r.2) :=
  Cl.gct hq ha h.g (fun r h1 h2 h3 => ⟨h1, h.typed h2 h3 hm⟩)
theorem Tru.ls {s : cx_Sd 12} {ks : List (Fin 12)} {A B : pm_A} (h : Tru s ks A) (hB : gH wM B) (e7 : B 0 7 = A 0 7) (e8 : B 0 8 = A 0 8) (e5 : ∀ j : Int, 0 ≤ j → j < 72 → B 5 j = A 5 j) (hs : ∀ p : Int, 0 ≤ p → p < A 0 7 → LSm B p = LSm A p) : Tru s ks B := by
  obtain ⟨hg, h1, hb, hks, h9, ha, hl⟩ := h
  have p7 := fM_0_7 hg (r := 0) (by omega) km0
  have p8 := fM_0_8 hg (r := 0) (by omega) km0
  refine ⟨hB, by omega, fun i j hj => ⟨fun hi => ?_, fun hi => ?_⟩, fun k hk => by rw [e7]; exact hks k hk, fun v k hk => h9 v k (by omega), fun i j i0 i1 j0 j1 => ?_, fun i hi => ?_⟩
  · rw [e5 _ (by omega) (by omega)]; exact (hb i j (by omega)).1 (by omega)
  · exact (hb i j (by omega)).2 (by omega)
  · rw [e5 _ (by omega) (by omega)]; exact ha i j i0 (by omega) j0 (by omega)
  · rw [e7] at hi
    have m := eM_1 hg (r := 1) (by omega) kn1 (j := i.1) (by omega) (by have := i.2; omega)
    have mB := eM_1 hB (r := 1) (by omega) kn1 (j := i.1) (by omega) (by have := i.2; omega)
    have hs := hs i.1 (by omega) hi
    obtain ⟨l1, l2, l3⟩ := hl i hi
    exact ⟨ls_srtd hs mB.1 m.1 l1, ls_cfs hs mB.1 m.1 l2, fun x => by rw [l3 x]; exact (congrFun (VS_of hs) x).symm⟩
theorem srt_saves : pm_srt o_X10_saves = true := by decide +kernel
theorem srt_restores : pm_srt o_X10_restores = true := by decide +kernel
def savesI (A B : pm_A) (p i : Int) : Prop := gH wM B ∧ (∀ r j, (∀ t : Int, 0 ≤ t → t < A 0 7 → ¬ inS (p + t) r j) → B r j = A r j) ∧ ∀ t : Int, 0 ≤ t → t < i → LSm B (p + t) = LSm A (t)
def savesJ (A B : pm_A) (p i : Int) : Prop := gH wM B ∧ (∀ r j, (∀ t : Int, 0 ≤ t → t < A 0 7 → ¬ inS (p + t) r j) → r ≠ 22 → B r j = A r j) ∧ (∀ t : Int, 0 ≤ t → t < A 0 7 → LSm B (p + t) = LSm A (t)) ∧ ∀ j : Int, 0 ≤ j → j < i → B 22 j = A 5 j
def saves_post (A : pm_A) (p : Int) (r : pm_R) : Prop := r.1 = none ∧ savesJ A r.2 p 72
theorem saves_26 {A : pm_A} {p : Int} (p0 : 6 ≤ p) (p1 : p ≤ 146) : ∀ (m : Nat) (i : Int) (B : pm_A), (72 - i).toNat < m → 0 ≤ i → i ≤ 72 → savesJ A B p i → Tm pmt (an_sh wM) o_X10_saves 26 ([(2, 0), (0, p), (0, i)], [], B) (saves_post A p) := by
  intro m
  induction m with
  | zero => intro i B h; omega
  | succ m ih =>
    intro i B hm i0 i1 hJ
    obtain ⟨g1, g2, g3, g4⟩ := hJ
    have c34 := pM_34 g1
    have c9 := pM_9 g1
    have e5 : B 5 i = A 5 i := g2 5 i (fun t t0 t1 ht => by unfold inS at ht; omega) (by omega)
    refine wq_ok srt_saves (fr := []) (cuts := [26]) (J := fun pc st => (pc = 26 ∧ (i < 72) ∧ st = ([(2, 0), (0, p), (0, i + 1)], [], pm_upd B (B 0 34) i (B (B 0 9) i)))) ?_ 18 26 _ ?_
    · rintro pc st (⟨rfl, h0, rfl⟩)
      rw [c34, c9]
      have b := eM_5 g1 (r := 5) (by omega) kn5 i0 (show i < 72 by omega)
      refine ih (i + 1) _ (by omega) (by omega) (by omega) ⟨uM_22 g1 kn22 b.1 b.2, fun r j hr h5 => by rw [upd_o (by omega)]; exact g2 r j hr h5, fun t t0 t1 => ?_, fun j j0 j1 => ?_⟩
      · exact (LSm_ext (upd_o (by omega)) (fun q v q0 q1 v0 v1 => ⟨upd_o (by omega), upd_o (by omega)⟩)).trans (g3 t t0 t1)
      · by_cases hj : j = i
        · rw [hj, upd_at]; exact e5
        · rw [upd_o (by omega)]; exact g4 j j0 (by omega)
    · refine ⟨fun h0 => ?_, fun h0 => ?_⟩
      · exact ⟨rfl, g1, g2, g3, fun j j0 j1 => g4 j j0 (by omega)⟩
      · refine ⟨oM_0 (by omega) km0 34 rfl, ?_⟩
        refine ⟨oM_0 (by omega) km0 9 rfl, ?_⟩
        refine ⟨aM_5 (r := B 0 9) (by rw [c9]; omega) (by rw [c9]; exact kn5) (by omega) (by omega), ?_⟩
        have e1 : B (B 0 9) i = B 5 i := by rw [c9]
        refine ⟨tM_22 (r := B 0 34) (by rw [c34]; omega) (by rw [c34]; exact kn22) (by omega) (by omega) rfl, ?_⟩
        refine ⟨⟨by omega, by omega⟩, ?_⟩
        exact ⟨rfl, h0, rfl⟩
theorem saves_2 {A : pm_A} {p : Int} (hA : gH wM A) (p0 : 6 ≤ p) (p1 : p ≤ 146) : ∀ (m : Nat) (i : Int) (B : pm_A), (6 - i).toNat < m → 0 ≤ i → i ≤ A 0 7 → savesI A B p i → Tm pmt (an_sh wM) o_X10_saves 2 ([(2, 0), (0, p), (0, i)], [], B) (saves_post A p) := by
  have p7 := fM_0_7 hA (r := 0) (by omega) km0
  intro m
  induction m with
  | zero => intro i B h; omega
  | succ m ih =>
    intro i B hm i0 i1 hI
    obtain ⟨g1, g2, g3⟩ := hI
    have e7 : B 0 7 = A 0 7 := g2 0 7 (fun t t0 t1 ht => by unfold inS at ht; omega)
    refine wq_ok srt_saves (fr := []) (cuts := [18, 26]) (J := fun pc st => (pc = 26 ∧ ((B 0 7) ≤ i) ∧ st = ([(2, 0), (0, p), (0, 0)], [], B)) ∨ (pc = 18 ∧ i < B 0 7 ∧ ∃ C, gH wM C ∧ (∀ q j, ¬ inS (p + i) q j → C q j = B q j) ∧ LSm C (p + i) = LSm B (i) ∧ st = ([(2, 0), (0, p), (0, i)], [], C))) ?_ 14 2 _ ?_
    · rintro pc st (⟨rfl, h0, rfl⟩ | ⟨rfl, h0, C, q2, q3, q4, rfl⟩)
      · exact saves_26 p0 p1 _ 0 B (Nat.lt_succ_self _) (by omega) (by omega) ⟨g1, fun r j hr _ => g2 r j hr, fun t t0 t1 => g3 t t0 (by omega), fun j j0 j1 => by omega⟩
      · rw [e7] at h0
        refine wq_ok srt_saves (fr := []) (cuts := [2]) (J := fun pc st => (pc = 2 ∧ st = ([(2, 0), (0, p), (0, i + 1)], [], C))) ?_ 7 18 _ ?_
        · rintro pc st (⟨rfl, rfl⟩)
          refine ih (i + 1) C (by omega) (by omega) (by omega) ⟨q2, fun r j hr => by rw [q3 r j (hr i i0 h0)]; exact g2 r j hr, fun t t0 t1 => ?_⟩
          by_cases ht : t = i
          · have mf := eM_1 hA (r := 1) (by omega) kn1 (j := i) (by omega) (by omega)
            rw [ht, q4]; exact LSm_same mf.2 (fun r j hr => g2 r j (fun t t0 t1 ht => by unfold inS at *; omega))
          · have mt := eM_1 g1 (r := 1) (by omega) kn1 (j := p + t) (by omega) (by omega)
            rw [LSm_same mt.2 (fun r j hr => q3 r j (by unfold inS at *; omega))]; exact g3 t t0 (by omega)
        · refine ⟨⟨by omega, by omega⟩, ?_⟩
          exact ⟨rfl, rfl⟩
    · refine ⟨oM_0 (by omega) km0 7 rfl, ?_⟩
      refine ⟨fun h0 => ?_, fun h0 => ?_⟩
      · exact Or.inl (⟨rfl, h0, rfl⟩)
      · refine ⟨⟨by omega, by omega⟩, ?_⟩
        refine ⟨rM_0 (by omega) km0, ?_⟩
        refine (copy_ex (to := p + i) (fr := i) g1 (by omega) (by omega) (by omega) (by omega) (by omega)).imp ?_
        rintro ⟨r1, C⟩ ⟨q1, q2, q3, q4⟩
        simp only at q1 q2 q3 q4
        subst q1
        exact Or.inr (⟨rfl, h0, C, q2, q3, q4, rfl⟩)
theorem saves_ex {A : pm_A} {p : Int} (hA : gH wM A) (p0 : 6 ≤ p) (p1 : p ≤ 146) : Cl pmt (an_sh wM) 181 [(2, 0), (0, p)] A (saves_post A p) := by
  have p7 := fM_0_7 hA (r := 0) (by omega) km0
  refine Cl.of (Nat.le_of_ble_eq_true rfl) ?_
  refine wq_ok (full := o_X10_saves) srt_saves (fr := []) (cuts := [2]) (J := fun pc st => (pc = 2 ∧ st = ([(2, 0), (0, p), (0, 0)], [], A))) ?_ 7 0 _ ?_
  · rintro pc st (⟨rfl, rfl⟩)
    exact saves_2 hA p0 p1 _ 0 A (Nat.lt_succ_self _) (by omega) (by omega) ⟨hA, fun _ _ _ => rfl, fun t t0 t1 => by omega⟩
  · exact ⟨rfl, rfl⟩
def restoresI (A B : pm_A) (p i : Int) : Prop := gH wM B ∧ (∀ r j, (∀ t : Int, 0 ≤ t → t < A 0 7 → ¬ inS (t) r j) → B r j = A r j) ∧ ∀ t : Int, 0 ≤ t → t < i → LSm B (t) = LSm A (p + t)
def restoresJ (A B : pm_A) (p i : Int) : Prop := gH wM B ∧ (∀ r j, (∀ t : Int, 0 ≤ t → t < A 0 7 → ¬ inS (t) r j) → r ≠ 5 → B r j = A r j) ∧ (∀ t : Int, 0 ≤ t → t < A 0 7 → LSm B (t) = LSm A (p + t)) ∧ ∀ j : Int, 0 ≤ j → j < i → B 5 j = A 22 j
def restores_post (A : pm_A) (p : Int) (r : pm_R) : Prop := r.1 = none ∧ restoresJ A r.2 p 72
theorem restores_26 {A : pm_A} {p : Int} (p0 : 6 ≤ p) (p1 : p ≤ 146) : ∀ (m : Nat) (i : Int) (B : pm_A), (72 - i).toNat < m → 0 ≤ i → i ≤ 72 → restoresJ A B p i → Tm pmt (an_sh wM) o_X10_restores 26 ([(2, 0), (0, p), (0, i)], [], B) (restores_post A p) := by
  intro m
  induction m with
  | zero => intro i B h; omega
  | succ m ih =>
    intro i B hm i0 i1 hJ
    obtain ⟨g1, g2, g3, g4⟩ := hJ
    have c9 := pM_9 g1
    have c34 := pM_34 g1
    have e22 : B 22 i = A 22 i := g2 22 i (fun t t0 t1 ht => by unfold inS at ht; omega) (by omega)
    refine wq_ok srt_restores (fr := []) (cuts := [26]) (J := fun pc st => (pc = 26 ∧ (i < 72) ∧ st = ([(2, 0), (0, p), (0, i + 1)], [], pm_upd B (B 0 9) i (B (B 0 34) i)))) ?_ 18 26 _ ?_
    · rintro pc st (⟨rfl, h0, rfl⟩)
      rw [c9, c34]
      have b := eM_22 g1 (r := 22) (by omega) kn22 i0 (show i < 72 by omega)
      refine ih (i + 1) _ (by omega) (by omega) (by omega) ⟨uM_5 g1 kn5 b.1 b.2, fun r j hr h5 => by rw [upd_o (by omega)]; exact g2 r j hr h5, fun t t0 t1 => ?_, fun j j0 j1 => ?_⟩
      · exact (LSm_ext (upd_o (by omega)) (fun q v q0 q1 v0 v1 => ⟨upd_o (by omega), upd_o (by omega)⟩)).trans (g3 t t0 t1)
      · by_cases hj : j = i
        · rw [hj, upd_at]; exact e22
        · rw [upd_o (by omega)]; exact g4 j j0 (by omega)
    · refine ⟨fun h0 => ?_, fun h0 => ?_⟩
      · exact ⟨rfl, g1, g2, g3, fun j j0 j1 => g4 j j0 (by omega)⟩
      · refine ⟨oM_0 (by omega) km0 9 rfl, ?_⟩
        refine ⟨oM_0 (by omega) km0 34 rfl, ?_⟩
        refine ⟨aM_22 (r := B 0 34) (by rw [c34]; omega) (by rw [c34]; exact kn22) (by omega) (by omega), ?_⟩
        have e1 : B (B 0 34) i = B 22 i := by rw [c34]
        refine ⟨tM_5 (r := B 0 9) (by rw [c9]; omega) (by rw [c9]; exact kn5) (by omega) (by omega) rfl, ?_⟩
        refine ⟨⟨by omega, by omega⟩, ?_⟩
        exact ⟨rfl, h0, rfl⟩
theorem restores_2 {A : pm_A} {p : Int} (hA : gH wM A) (p0 : 6 ≤ p) (p1 : p ≤ 146) : ∀ (m : Nat) (i : Int) (B : pm_A), (6 - i).toNat < m → 0 ≤ i → i ≤ A 0 7 → restoresI A B p i → Tm pmt (an_sh wM) o_X10_restores 2 ([(2, 0), (0, p), (0, i)], [], B) (restores_post A p) := by
  have p7 := fM_0_7 hA (r := 0) (by omega) km0
  intro m
  induction m with
  | zero => intro i B h; omega
  | succ m ih =>
    intro i B hm i0 i1 hI
    obtain ⟨g1, g2, g3⟩ := hI
    have e7 : B 0 7 = A 0 7 := g2 0 7 (fun t t0 t1 ht => by unfold inS at ht; omega)
    refine wq_ok srt_restores (fr := []) (cuts := [18, 26]) (J := fun pc st => (pc = 26 ∧ ((B 0 7) ≤ i) ∧ st = ([(2, 0), (0, p), (0, 0)], [], B)) ∨ (pc = 18 ∧ i < B 0 7 ∧ ∃ C, gH wM C ∧ (∀ q j, ¬ inS (i) q j → C q j = B q j) ∧ LSm C (i) = LSm B (p + i) ∧ st = ([(2, 0), (0, p), (0, i)], [], C))) ?_ 14 2 _ ?_
    · rintro pc st (⟨rfl, h0, rfl⟩ | ⟨rfl, h0, C, q2, q3, q4, rfl⟩)
      · exact restores_26 p0 p1 _ 0 B (Nat.lt_succ_self _) (by omega) (by omega) ⟨g1, fun r j hr _ => g2 r j hr, fun t t0 t1 => g3 t t0 (by omega), fun j j0 j1 => by omega⟩
      · rw [e7] at h0
        refine wq_ok srt_restores (fr := []) (cuts := [2]) (J := fun pc st => (pc = 2 ∧ st = ([(2, 0), (0, p), (0, i + 1)], [], C))) ?_ 7 18 _ ?_
        · rintro pc st (⟨rfl, rfl⟩)
          refine ih (i + 1) C (by omega) (by omega) (by omega) ⟨q2, fun r j hr => by rw [q3 r j (hr i i0 h0)]; exact g2 r j hr, fun t t0 t1 => ?_⟩
          by_cases ht : t = i
          · have mf := eM_1 hA (r := 1) (by omega) kn1 (j := p + i) (by omega) (by omega)
            rw [ht, q4]; exact LSm_same mf.2 (fun r j hr => g2 r j (fun t t0 t1 ht => by unfold inS at *; omega))
          · have mt := eM_1 g1 (r := 1) (by omega) kn1 (j := t) (by omega) (by omega)
            rw [LSm_same mt.2 (fun r j hr => q3 r j (by unfold inS at *; omega))]; exact g3 t t0 (by omega)
        · refine ⟨⟨by omega, by omega⟩, ?_⟩
          exact ⟨rfl, rfl⟩
    · refine ⟨oM_0 (by omega) km0 7 rfl, ?_⟩
      refine ⟨fun h0 => ?_, fun h0 => ?_⟩
      · exact Or.inl (⟨rfl, h0, rfl⟩)
      · refine ⟨⟨by omega, by omega⟩, ?_⟩
        refine ⟨rM_0 (by omega) km0, ?_⟩
        refine (copy_ex (to := i) (fr := p + i) g1 (by omega) (by omega) (by omega) (by omega) (by omega)).imp ?_
        rintro ⟨r1, C⟩ ⟨q1, q2, q3, q4⟩
        simp only at q1 q2 q3 q4
        subst q1
        exact Or.inr (⟨rfl, h0, C, q2, q3, q4, rfl⟩)
theorem restores_ex {A : pm_A} {p : Int} (hA : gH wM A) (p0 : 6 ≤ p) (p1 : p ≤ 146) : Cl pmt (an_sh wM) 176 [(2, 0), (0, p)] A (restores_post A p) := by
  have p7 := fM_0_7 hA (r := 0) (by omega) km0
  refine Cl.of (Nat.le_of_ble_eq_true rfl) ?_
  refine wq_ok (full := o_X10_restores) srt_restores (fr := []) (cuts := [2]) (J := fun pc st => (pc = 2 ∧ st = ([(2, 0), (0, p), (0, 0)], [], A))) ?_ 7 0 _ ?_
  · rintro pc st (⟨rfl, rfl⟩)
    exact restores_2 hA p0 p1 _ 0 A (Nat.lt_succ_self _) (by omega) (by omega) ⟨hA, fun _ _ _ => rfl, fun t t0 t1 => by omega⟩
  · exact ⟨rfl, rfl⟩
