/-! what stays true of the reference; turn, back -/
theorem Tru.same {s : cx_Sd 12} {ks : List (Fin 12)} {A B : pm_A} (h : Tru s ks A) (hB : gH wM B) (e7 : B 0 7 = A 0 7) (e8 : B 0 8 = A 0 8) (e5 : ∀ j : Int, 0 ≤ j → j < 72 → B 5 j = A 5 j) (hs : ∀ p : Int, 0 ≤ p → p < A 0 7 → ∀ r j, inS p r j → B r j = A r j) : Tru s ks B := by
  obtain ⟨hg, h1, hb, hks, h9, ha, hl⟩ := h
  have p7 := fM_0_7 hg (r := 0) (by omega) km0
  have p8 := fM_0_8 hg (r := 0) (by omega) km0
  refine ⟨hB, by omega, fun i j hj => ⟨fun hi => ?_, fun hi => ?_⟩, fun k hk => by rw [e7]; exact hks k hk, fun v k hk => h9 v k (by omega), fun i j i0 i1 j0 j1 => ?_, fun i hi => ?_⟩
  · rw [e5 _ (by omega) (by omega)]; exact (hb i j (by omega)).1 (by omega)
  · exact (hb i j (by omega)).2 (by omega)
  · rw [e5 _ (by omega) (by omega)]; exact ha i j i0 (by omega) j0 (by omega)
  · rw [e7] at hi
    have m := eM_1 hg (r := 1) (by omega) kn1 (j := i.1) (by omega) (by have := i.2; omega)
    have hs := hs i.1 (by omega) hi
    obtain ⟨l1, l2, l3⟩ := hl i hi
    exact ⟨srtd_same m.2 hs l1, cfs_same m.2 hs l2, fun x => by rw [l3 x]; exact (congrFun (VS_of (LSm_same m.2 hs)) x).symm⟩
def neigh (n a b : Int) : Prop := b = a + 1 ∨ a = b + 1 ∨ (a = 0 ∧ b = n - 1) ∨ (b = 0 ∧ a = n - 1)
def crossd (a b c d : Int) : Prop := (a < c ∧ c < b ∧ b < d) ∨ (c < a ∧ a < d ∧ d < b)
def rgS (n : Int) (F : Int → Int) : Prop := (4 ≤ n ∧ n ≤ 10) ∧ (∀ f : Int, 0 ≤ f → f < 100 → F f = 0 ∨ F f = 1) ∧ ∀ f : Int, 0 ≤ f → f < 100 → F f = 1 → (f / 10 < f % 10 ∧ f % 10 < n ∧ ¬ neigh n (f / 10) (f % 10)) ∧ ∀ g : Int, 0 ≤ g → g < 100 → F g = 1 → ¬ crossd (f / 10) (f % 10) (g / 10) (g % 10)
def RG (A : pm_A) : Prop := ∀ sl : Int, sl = 0 ∨ sl = 1 → rgS (A 31 sl) (fun f => A 32 (100 * sl + f))
def RB (A : pm_A) : Prop := (∀ j : Int, 0 ≤ j → j < 72 → -9 ≤ A 7 j ∧ A 7 j ≤ 9) ∧ ∀ d : Int, 0 ≤ d → d < A 0 10 → 0 ≤ A 6 d ∧ A 6 d < A 0 7
def RI (A : pm_A) : Prop := (∃ s ks, Tru s ks A) ∧ RB A ∧ RG A
def ri_post (r : pm_R) : Prop := (∃ z, r.1 = some (0, z)) ∧ RI r.2
theorem RG.same {A B : pm_A} (h : RG A) (e1 : ∀ j, B 31 j = A 31 j) (e2 : ∀ j, B 32 j = A 32 j) : RG B := fun sl hsl => by
  have := h sl hsl
  have e : (fun f => B 32 (100 * sl + f)) = fun f => A 32 (100 * sl + f) := funext fun f => e2 _
  rw [e, e1]
  exact this
theorem RI.g {A : pm_A} (h : RI A) : gH wM A := by obtain ⟨⟨s, ks, h⟩, _⟩ := h; exact h.1
theorem RI.tuG {A B : pm_A} (h : RI A) (g : tuG A B) : RI B := by
  obtain ⟨⟨s, ks, hT⟩, ⟨b1, b2⟩, hR⟩ := h
  have c : ∀ r j, 5 < r → r ≠ 12 → B r j = A r j := fun r j h1 h2 => g.2 r j (fun t t0 t1 ht => by unfold inS at ht; omega) (by omega) h2 (by omega)
  refine ⟨⟨s, ks, hT.keep g⟩, ⟨fun j j0 j1 => ?_, fun d d0 d1 => ?_⟩, hR.same (fun j => c 31 j (by omega) (by omega)) (fun j => c 32 j (by omega) (by omega))⟩
  · rw [c 7 j (by omega) (by omega)]; exact b1 j j0 j1
  · rw [c 6 d (by omega) (by omega), g.fld (j := 7) (by omega) (by omega)]
    rw [g.fld (j := 10) (by omega) (by omega)] at d1
    exact b2 d d0 d1
theorem RI.turned {s : cx_Sd 12} {ks : List (Fin 12)} {A C : pm_A} {k : Fin 12} (h : RI A) (hk : (k.1 : Int) < A 0 7) (hT : Tru s ks C) (hf : ∀ q j, (∀ t : Int, 42 ≤ t → t ≤ 47 → ¬ inS t q j) → ¬ inS k.1 q j → q ≠ 4 → q ≠ 5 → q ≠ 12 → ¬ (q = 0 ∧ (j = 4 ∨ j = 5)) → C q j = A q j) : RI C := by
  have c : ∀ r j, 5 < r → r ≠ 12 → C r j = A r j := fun r j h1 h2 => hf r j (fun t t0 t1 ht => by unfold inS at ht; omega) (by unfold inS; omega) (by omega) (by omega) h2 (by omega)
  have c0 : ∀ j, j ≠ 4 → j ≠ 5 → C 0 j = A 0 j := fun j h1 h2 => hf 0 j (fun t t0 t1 ht => by unfold inS at ht; omega) (by unfold inS; omega) (by omega) (by omega) (by omega) (by omega)
  obtain ⟨_, ⟨b1, b2⟩, hR⟩ := h
  refine ⟨⟨s, ks, hT⟩, ⟨fun j j0 j1 => ?_, fun d d0 d1 => ?_⟩, hR.same (fun j => c 31 j (by omega) (by omega)) (fun j => c 32 j (by omega) (by omega))⟩
  · rw [c 7 j (by omega) (by omega)]; exact b1 j j0 j1
  · rw [c 6 d (by omega) (by omega), c0 7 (by omega) (by omega)]
    rw [c0 10 (by omega) (by omega)] at d1
    exact b2 d d0 d1
theorem turns_ri {A : pm_A} (h : RI A) {k : Int} (k0 : 0 ≤ k) (k1 : k < A 0 7) : Cl pmt (an_sh wM) 200 [(2, 0), (0, k)] A (fun r => (r.1 = some (0, 0) ∨ r.1 = some (0, 1)) ∧ RI r.2 ∧ r.2 0 7 = A 0 7 ∧ r.2 0 8 = A 0 8 ∧ r.2 0 10 = A 0 10 ∧ ∀ j, r.2 6 j = A 6 j) := by
  have h0 := h
  obtain ⟨⟨s, ks, hT⟩, _⟩ := h
  have p7 := fM_0_7 hT.1 (r := 0) (by omega) km0
  have hk : k = ((⟨k.toNat, by omega⟩ : Fin 12).1 : Int) := by show k = ((k.toNat : Nat) : Int); omega
  have hk1 : ((⟨k.toNat, by omega⟩ : Fin 12).1 : Int) < A 0 7 := by rw [← hk]; exact k1
  rw [hk]
  refine (turns_ex hT hk1).imp ?_
  rintro ⟨r1, B⟩ (⟨q1, q2, q3⟩ | ⟨q1, q2, q3, q4⟩)
  · refine ⟨Or.inl q1, h0.tuG q2, q2.fld (by omega) (by omega), q2.fld (by omega) (by omega), q2.fld (by omega) (by omega), fun j => q2.2 6 j (fun t t0 t1 ht => by unfold inS at ht; omega) (by omega) (by omega) (by omega)⟩
  · have c0 : ∀ j, j ≠ 4 → j ≠ 5 → B 0 j = A 0 j := fun j h1 h2 => q4 0 j (fun t t0 t1 ht => by unfold inS at ht; omega) (by unfold inS; omega) (by omega) (by omega) (by omega) (by omega)
    refine ⟨Or.inr q1, h0.turned hk1 q2 q4, c0 7 (by omega) (by omega), c0 8 (by omega) (by omega), c0 10 (by omega) (by omega), fun j => q4 6 j (fun t t0 t1 ht => by unfold inS at ht; omega) (by unfold inS; omega) (by omega) (by omega) (by omega) (by omega)⟩
theorem srt_Mturn : pm_srt o_X10_turn = true := by decide +kernel
theorem mturn_47 {C : pm_A} {k : Int} (hR : RI C) (k0 : 0 ≤ k) (k1 : k < C 0 7) (hd : C 0 10 < 100) (hk : C 6 (C 0 10) = k) : Tm pmt (an_sh wM) o_X10_turn 47 ([(2, 0), (0, k)], [], C) ri_post := by
  have hg := hR.g
  have p7 := fM_0_7 hg (r := 0) (by omega) km0
  have p10 := fM_0_10 hg (r := 0) (by omega) km0
  have hR2 : RI (pm_upd C 0 10 (C 0 10 + 1)) := by
    obtain ⟨⟨s, ks, hT⟩, ⟨b1, b2⟩, hRG⟩ := hR
    refine ⟨⟨s, ks, hT.same (uM_0_10 hg (by omega) (by omega)) (upd_o (by omega)) (upd_o (by omega)) (fun j _ _ => upd_o (by omega)) (fun p p0 p1 r j hr => upd_o (by unfold inS at hr; omega))⟩, ⟨fun j j0 j1 => by rw [upd_o (by omega)]; exact b1 j j0 j1, fun d d0 d1 => ?_⟩, hRG.same (fun j => upd_o (by omega)) (fun j => upd_o (by omega))⟩
    rw [upd_at] at d1
    rw [upd_o (by omega), upd_o (by omega)]
    by_cases e : d = C 0 10
    · rw [e, hk]; exact ⟨k0, k1⟩
    · exact b2 d d0 (by omega)
  have c1 : pm_upd C 0 10 (C 0 10 + 1) 0 1 = 1 := by rw [upd_o (by omega)]; exact pM_1 hg
  refine wq_ok srt_Mturn (fr := []) (cuts := []) (J := fun _ _ => False) ?_ 15 47 _ ?_
  · intro pc st h; exact h.elim
  · refine ⟨oM_0 (by omega) km0 10 rfl, ?_⟩
    refine ⟨⟨by omega, by omega⟩, ?_⟩
    refine ⟨oM_0 (by omega) km0 10 rfl, ?_⟩
    refine ⟨oM_0 (by omega) km0 1 rfl, ?_⟩
    refine ⟨aM_1 (r := (pm_upd C 0 10 ((C 0 10) + 1)) 0 1) (by rw [c1]; omega) (by rw [c1]; exact kn1) (by omega) (by omega), ?_⟩
    skip
    exact ⟨rfl, ⟨_, rfl⟩, hR2⟩
theorem mturn_ct {A : pm_A} (h : RI A) (k : Int) : Cl pmt (an_sh wM) 198 [(2, 0), (0, k)] A ri_post := by
  have hg := h.g
  have p7 := fM_0_7 hg (r := 0) (by omega) km0
  have p10 := fM_0_10 hg (r := 0) (by omega) km0
  refine Cl.of (Nat.le_of_ble_eq_true rfl) ?_
  refine wq_ok (full := o_X10_turn) srt_Mturn (fr := []) (cuts := [31]) (J := fun pc st => (pc = 31 ∧ 0 ≤ k ∧ k < A 0 7 ∧ ¬ A 0 10 = 100 ∧ ∃ B z, (z = 0 ∨ z = 1) ∧ RI B ∧ B 0 7 = A 0 7 ∧ B 0 10 = A 0 10 ∧ (∀ j, B 6 j = A 6 j) ∧ st = ([(2, 0), (0, k)], [(0, z)], B))) ?_ 17 0 _ ?_
  · rintro pc st (⟨rfl, k0, k1, hd, B, z, hz, q2, q3, q5, q6, rfl⟩)
    have hB := q2.g
    have c11 := pM_11 hB
    refine wq_ok srt_Mturn (fr := []) (cuts := [47]) (J := fun pc st => (pc = 47 ∧ (¬ z = 0) ∧ st = ([(2, 0), (0, k)], [], pm_upd B (B 0 11) (B 0 10) k))) ?_ 12 31 _ ?_
    · rintro pc st (⟨rfl, h0, rfl⟩)
      rw [c11]
      have hR : RI (pm_upd B 6 (B 0 10) k) := by
        obtain ⟨⟨s, ks, hT⟩, ⟨b1, b2⟩, hRG⟩ := q2
        refine ⟨⟨s, ks, hT.same (uM_6 hB kn6 (by omega) (by omega)) (upd_o (by omega)) (upd_o (by omega)) (fun j _ _ => upd_o (by omega)) (fun p p0 p1 r j hr => upd_o (by unfold inS at hr; omega))⟩, ⟨fun j j0 j1 => by rw [upd_o (by omega)]; exact b1 j j0 j1, fun d d0 d1 => ?_⟩, hRG.same (fun j => upd_o (by omega)) (fun j => upd_o (by omega))⟩
        rw [upd_o (by omega)] at d1
        rw [upd_o (by omega), upd_o (by omega)]
        exact b2 d d0 d1
      have hk6 : pm_upd B 6 (B 0 10) k 6 (B 0 10) = k := upd_at
      have f10 : pm_upd B 6 (B 0 10) k 0 10 = B 0 10 := upd_o (by omega)
      have f7 : pm_upd B 6 (B 0 10) k 0 7 = B 0 7 := upd_o (by omega)
      revert hR hk6 f10 f7
      generalize pm_upd B 6 (B 0 10) k = C
      intro hR hk6 f10 f7
      exact mturn_47 hR k0 (by omega) (by omega) (by rw [f10]; exact hk6)
    · refine ⟨fun h0 => ?_, fun h0 => ?_⟩
      · refine ⟨oM_0 (by omega) km0 11 rfl, ?_⟩
        refine ⟨oM_0 (by omega) km0 10 rfl, ?_⟩
        refine ⟨tM_6 (r := B 0 11) (by rw [c11]; omega) (by rw [c11]; exact kn6) (by omega) (by omega) rfl, ?_⟩
        exact ⟨rfl, h0, rfl⟩
      · exact ⟨rfl, ⟨_, rfl⟩, q2⟩
  · refine ⟨fun h0 => ?_, fun h0 => ?_⟩
    · exact ⟨rfl, ⟨_, rfl⟩, h⟩
    · refine ⟨oM_0 (by omega) km0 7 rfl, ?_⟩
      refine ⟨fun h1 => ?_, fun h1 => ?_⟩
      · refine ⟨oM_0 (by omega) km0 10 rfl, ?_⟩
        refine ⟨fun h2 => ?_, fun h2 => ?_⟩
        · refine ⟨rM_0 (by omega) km0, ?_⟩
          refine (turns_ri h (by omega) (by omega)).imp ?_
          rintro ⟨r1, B⟩ ⟨q1, q2, q3, q4, q5, q6⟩
          simp only at q1 q2 q3 q4 q5 q6
          rcases q1 with q1 | q1
          · subst q1
            exact ⟨rfl, by omega, by omega, by omega, B, 0, Or.inl rfl, q2, q3, q5, q6, rfl⟩
          · subst q1
            exact ⟨rfl, by omega, by omega, by omega, B, 1, Or.inr rfl, q2, q3, q5, q6, rfl⟩
        · exact ⟨rfl, ⟨_, rfl⟩, h⟩
      · exact ⟨rfl, ⟨_, rfl⟩, h⟩
theorem srt_Mback : pm_srt o_X10_back = true := by decide +kernel
theorem mback_ct {A : pm_A} (h : RI A) : Cl pmt (an_sh wM) 128 [(2, 0)] A ri_post := by
  have hg := h.g
  have p7 := fM_0_7 hg (r := 0) (by omega) km0
  have p10 := fM_0_10 hg (r := 0) (by omega) km0
  have hR2 : A 0 10 ≠ 0 → RI (pm_upd A 0 10 (A 0 10 - 1)) := fun hne => by
    obtain ⟨⟨s, ks, hT⟩, ⟨b1, b2⟩, hRG⟩ := h
    refine ⟨⟨s, ks, hT.same (uM_0_10 hg (by omega) (by omega)) (upd_o (by omega)) (upd_o (by omega)) (fun j _ _ => upd_o (by omega)) (fun p p0 p1 r j hr => upd_o (by unfold inS at hr; omega))⟩, ⟨fun j j0 j1 => by rw [upd_o (by omega)]; exact b1 j j0 j1, fun d d0 d1 => ?_⟩, hRG.same (fun j => upd_o (by omega)) (fun j => upd_o (by omega))⟩
    rw [upd_at] at d1
    rw [upd_o (by omega), upd_o (by omega)]
    exact b2 d d0 (by omega)
  have hl : A 0 10 ≠ 0 → 0 ≤ A 6 (A 0 10 - 1) ∧ A 6 (A 0 10 - 1) < A 0 7 := fun hne => h.2.1.2 (A 0 10 - 1) (by omega) (by omega)
  have c11 : pm_upd A 0 10 (A 0 10 - 1) 0 11 = 6 := by rw [upd_o (by omega)]; exact pM_11 hg
  have f10 : pm_upd A 0 10 (A 0 10 - 1) 0 10 = A 0 10 - 1 := upd_at
  have f7 : pm_upd A 0 10 (A 0 10 - 1) 0 7 = A 0 7 := upd_o (by omega)
  have f6 : pm_upd A 0 10 (A 0 10 - 1) (pm_upd A 0 10 (A 0 10 - 1) 0 11) (pm_upd A 0 10 (A 0 10 - 1) 0 10) = A 6 (A 0 10 - 1) := by rw [c11, f10, upd_o (by omega)]
  refine Cl.of (Nat.le_of_ble_eq_true rfl) ?_
  refine wq_ok (full := o_X10_back) srt_Mback (fr := []) (cuts := [32]) (J := fun pc st => (pc = 32 ∧ ∃ B z, (z = 0 ∨ z = 1) ∧ RI B ∧ st = ([(2, 0)], [(0, z)], B))) ?_ 20 0 _ ?_
  · rintro pc st (⟨rfl, B, z, hz, q2, rfl⟩)
    refine wq_ok srt_Mback (fr := []) (cuts := []) (J := fun _ _ => False) ?_ 5 32 _ ?_
    · intro pc st h; exact h.elim
    · exact ⟨okt2 hz, ⟨_, rfl⟩, q2⟩
  · refine ⟨oM_0 (by omega) km0 10 rfl, ?_⟩
    refine ⟨fun h0 => ?_, fun h0 => ?_⟩
    · refine ⟨oM_0 (by omega) km0 10 rfl, ?_⟩
      refine ⟨⟨by omega, by omega⟩, ?_⟩
      refine ⟨oM_0 (by omega) km0 10 rfl, ?_⟩
      refine ⟨oM_0 (by omega) km0 11 rfl, ?_⟩
      refine ⟨oM_0 (by omega) km0 10 rfl, ?_⟩
      refine ⟨aM_6 (r := (pm_upd A 0 10 ((A 0 10) - 1)) 0 11) (by rw [c11]; omega) (by rw [c11]; exact kn6) (by rw [f10]; omega) (by rw [f10]; omega), ?_⟩
      skip
      refine ⟨rM_0 (by omega) km0, ?_⟩
      show Cl pmt (an_sh wM) 200 [(2, 0), (0, pm_upd A 0 10 (A 0 10 - 1) (pm_upd A 0 10 (A 0 10 - 1) 0 11) (pm_upd A 0 10 (A 0 10 - 1) 0 10))] (pm_upd A 0 10 (A 0 10 - 1)) _
      rw [f6]
      refine (turns_ri (hR2 h0) (hl h0).1 (by rw [f7]; exact (hl h0).2)).imp ?_
      rintro ⟨r1, B⟩ ⟨q1, q2, q3, q4, q5, q6⟩
      simp only at q1 q2 q3 q4 q5 q6
      rcases q1 with q1 | q1
      · subst q1
        exact ⟨rfl, B, 0, Or.inl rfl, q2, rfl⟩
      · subst q1
        exact ⟨rfl, B, 1, Or.inr rfl, q2, rfl⟩
    · exact ⟨rfl, ⟨_, rfl⟩, h⟩
