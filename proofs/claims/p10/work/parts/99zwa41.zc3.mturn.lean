/-! the reference's turn and back, exactly -/
def mtP (s : cx_Sd 12) (ks : List (Fin 12)) (A : pm_A) (k : Int) (r : pm_R) : Prop := (r = (some (0, -1), A) ∧ ¬ (0 ≤ k ∧ k < A 0 7)) ∨ (r = (some (0, -3), A) ∧ (0 ≤ k ∧ k < A 0 7) ∧ A 0 10 = 100) ∨ ∃ f_z : Fin 12, ((f_z.1 : Int) = k ∧ k < A 0 7 ∧ ¬ A 0 10 = 100) ∧ ((r.1 = some (0, -2) ∧ tuG A r.2 ∧ Tru s ks r.2 ∧ (spB s ks f_z ∨ ¬ arO A k)) ∨ (r.1 = some (0, r.2 1 k) ∧ Tru s (ks ++ [f_z]) r.2 ∧ (¬ spB s ks f_z ∧ arO A k) ∧ (r.2 0 10 = A 0 10 + 1 ∧ r.2 6 (A 0 10) = k ∧ ∀ d_z : Int, ¬ d_z = A 0 10 → r.2 6 d_z = A 6 d_z) ∧ r.2 0 7 = A 0 7 ∧ r.2 0 8 = A 0 8))
theorem tuq_fld {s : cx_Sd 12} {ks : List (Fin 12)} {A : pm_A} {k : Fin 12} {r : pm_R} (h : tuq_post s ks A k r) : (∀ j_z : Int, ¬ j_z = 4 → ¬ j_z = 5 → r.2 0 j_z = A 0 j_z) ∧ ∀ d_z : Int, r.2 6 d_z = A 6 d_z := by
  rcases h with ⟨_, q2_z, _⟩ | ⟨_, _, _, q4_z, _⟩
  · exact ⟨fun j_z h1 h2 => q2_z.2 0 j_z (fun t_z t0_z t1_z ht => by unfold inS at ht; omega) (by omega) (by omega) (by omega), fun d_z => q2_z.2 6 d_z (fun t_z t0_z t1_z ht => by unfold inS at ht; omega) (by omega) (by omega) (by omega)⟩
  · exact ⟨fun j_z h1 h2 => q4_z 0 j_z (fun t_z t0_z t1_z ht => by unfold inS at ht; omega) (by unfold inS; omega) (by omega) (by omega) (by omega) (by omega), fun d_z => q4_z 6 d_z (fun t_z t0_z t1_z ht => by unfold inS at ht; omega) (by unfold inS; omega) (by omega) (by omega) (by omega) (by omega)⟩
theorem mturn_exq {s : cx_Sd 12} {ks : List (Fin 12)} {A : pm_A} (hT : Tru s ks A) (k : Int) : Cl pmt (an_sh wM) 198 [(2, 0), (0, k)] A (mtP s ks A k) := by
  have hg := hT.1
  have p7_z := fM_0_7 hg (r := 0) (by omega) km0
  have p10 := fM_0_10 hg (r := 0) (by omega) km0
  refine Cl.of (Nat.le_of_ble_eq_true rfl) ?_
  refine wq_ok (full := o_X10_turn) srt_Mturn (fr := []) (cuts := [31]) (J := fun pc st_z => (pc = 31 ∧ 0 ≤ k ∧ k < A 0 7 ∧ ¬ A 0 10 = 100 ∧ ∃ (f_z : Fin 12) (B_z : pm_A) (z_z : Int), (f_z.1 : Int) = k ∧ tuq_post s ks A f_z (some (0, z_z), B_z) ∧ st_z = ([(2, 0), (0, k)], [(0, z_z)], B_z))) ?_ 17 0 _ ?_
  · rintro pc st_z (⟨rfl, k0_z, k1_z, hd_z, f_z, B_z, z_z, hf, hq, rfl⟩)
    obtain ⟨e0_z, e6_z⟩ := tuq_fld hq
    simp only at e0_z e6_z
    have e7_z := e0_z 7 (by omega) (by omega)
    have e8 := e0_z 8 (by omega) (by omega)
    have e10_z := e0_z 10 (by omega) (by omega)
    rcases hq with ⟨q1_z, q2_z, q3_z, q4_z⟩ | ⟨q1_z, q2_z, q3_z, q4_z, q5_z, q6_z⟩
    · have hz : z_z = 0 := by
        simp only at q1_z
        cases q1_z
        rfl
      subst hz
      refine wq_ok srt_Mturn (fr := []) (cuts := []) (J := fun _ _ => False) (fun _ _ h_z => h_z.elim) 12 31 _ ?_
      refine ⟨fun hh => absurd rfl hh, fun _ => ?_⟩
      exact ⟨rfl, Or.inr (Or.inr ⟨f_z, ⟨hf, k1_z, hd_z⟩, Or.inl ⟨rfl, q2_z, q3_z, by rw [← hf]; exact q4_z⟩⟩)⟩
    · have hz : z_z = 1 := by
        simp only at q1_z
        cases q1_z
        rfl
      subst hz
      simp only at q2_z q3_z q4_z
      have c11_z := pM_11 q3_z
      refine wq_ok srt_Mturn (fr := []) (cuts := [47]) (J := fun pc st_z => (pc = 47 ∧ st_z = ([(2, 0), (0, k)], [], pm_upd B_z (B_z 0 11) (B_z 0 10) k))) ?_ 12 31 _ ?_
      · rintro pc st_z (⟨rfl, rfl⟩)
        rw [c11_z]
        have hC : gH wM (pm_upd B_z 6 (B_z 0 10) k) := uM_6 q3_z kn6 (by omega) (by omega)
        have hCo : ∀ r_z j_z : Int, ¬ (r_z = 6 ∧ j_z = B_z 0 10) → pm_upd B_z 6 (B_z 0 10) k r_z j_z = B_z r_z j_z := fun r_z j_z h_z => upd_o h_z
        have hC6 : pm_upd B_z 6 (B_z 0 10) k 6 (B_z 0 10) = k := upd_at
        generalize pm_upd B_z 6 (B_z 0 10) k = C_z at hC hCo hC6
        have f10 : C_z 0 10 = B_z 0 10 := hCo 0 10 (by omega)
        have hE : gH wM (pm_upd C_z 0 10 (C_z 0 10 + 1)) := uM_0_10 hC (by omega) (by omega)
        have hEo : ∀ r_z j_z : Int, ¬ (r_z = 0 ∧ j_z = 10) → pm_upd C_z 0 10 (C_z 0 10 + 1) r_z j_z = C_z r_z j_z := fun r_z j_z h_z => upd_o h_z
        have hE10 : pm_upd C_z 0 10 (C_z 0 10 + 1) 0 10 = C_z 0 10 + 1 := upd_at
        have c1_z : pm_upd C_z 0 10 (C_z 0 10 + 1) 0 1 = 1 := pM_1 hE
        have hTE : Tru s (ks ++ [f_z]) (pm_upd C_z 0 10 (C_z 0 10 + 1)) := q2_z.same hE (by rw [hEo 0 7 (by omega), hCo 0 7 (by omega)]) (by rw [hEo 0 8 (by omega), hCo 0 8 (by omega)]) (fun j_z _ _ => by rw [hEo 5 j_z (by omega), hCo 5 j_z (by omega)]) (fun p_z p0_z p1_z r_z j_z hr => by rw [hEo r_z j_z (by unfold inS at hr; omega), hCo r_z j_z (by unfold inS at hr; omega)])
        refine wq_ok srt_Mturn (fr := []) (cuts := []) (J := fun _ _ => False) (fun _ _ h_z => h_z.elim) 15 47 _ ?_
        refine ⟨oM_0 (by omega) km0 10 rfl, ?_⟩
        refine ⟨⟨by omega, by omega⟩, ?_⟩
        refine ⟨oM_0 (by omega) km0 10 rfl, ?_⟩
        refine ⟨oM_0 (by omega) km0 1 rfl, ?_⟩
        refine ⟨aM_1 (r := (pm_upd C_z 0 10 ((C_z 0 10) + 1)) 0 1) (by rw [c1_z]; omega) (by rw [c1_z]; exact kn1) (by omega) (by omega), ?_⟩
        refine ⟨rfl, Or.inr (Or.inr ⟨f_z, ⟨hf, k1_z, hd_z⟩, Or.inr ⟨?_, hTE, ⟨q5_z, by rw [← hf]; exact q6_z⟩, ⟨?_, ?_, fun d_z hd2 => ?_⟩, ?_, ?_⟩⟩)⟩
        · show some (0, pm_upd C_z 0 10 (C_z 0 10 + 1) (pm_upd C_z 0 10 (C_z 0 10 + 1) 0 1) k) = some (0, pm_upd C_z 0 10 (C_z 0 10 + 1) 1 k)
          rw [c1_z]
        · show pm_upd C_z 0 10 (C_z 0 10 + 1) 0 10 = A 0 10 + 1
          rw [hE10, f10, e10_z]
        · show pm_upd C_z 0 10 (C_z 0 10 + 1) 6 (A 0 10) = k
          rw [hEo 6 _ (by omega), ← e10_z]; exact hC6
        · show pm_upd C_z 0 10 (C_z 0 10 + 1) 6 d_z = A 6 d_z
          rw [hEo 6 d_z (by omega), hCo 6 d_z (by omega)]; exact e6_z d_z
        · show pm_upd C_z 0 10 (C_z 0 10 + 1) 0 7 = A 0 7
          rw [hEo 0 7 (by omega), hCo 0 7 (by omega)]; exact e7_z
        · show pm_upd C_z 0 10 (C_z 0 10 + 1) 0 8 = A 0 8
          rw [hEo 0 8 (by omega), hCo 0 8 (by omega)]; exact e8
      · refine ⟨fun _ => ?_, fun hh => absurd hh (by decide)⟩
        refine ⟨oM_0 (by omega) km0 11 rfl, ?_⟩
        refine ⟨oM_0 (by omega) km0 10 rfl, ?_⟩
        refine ⟨tM_6 (r := B_z 0 11) (by rw [c11_z]; omega) (by rw [c11_z]; exact kn6) (by omega) (by omega) rfl, ?_⟩
        exact ⟨rfl, rfl⟩
  · refine ⟨fun h0 => ?_, fun h0 => ?_⟩
    · exact ⟨rfl, Or.inl ⟨rfl, by omega⟩⟩
    · refine ⟨oM_0 (by omega) km0 7 rfl, ?_⟩
      refine ⟨fun h1 => ?_, fun h1 => ?_⟩
      · refine ⟨oM_0 (by omega) km0 10 rfl, ?_⟩
        refine ⟨fun h2 => ?_, fun h2 => ?_⟩
        · obtain ⟨f_z, hf⟩ : ∃ f_z : Fin 12, k = (f_z.1 : Int) := ⟨⟨k.toNat, by omega⟩, by show k = ((k.toNat : Nat) : Int); omega⟩
          refine ⟨rM_0 (by omega) km0, ?_⟩
          have hc_z := turns_exq hT (k := f_z) (by omega)
          rw [← hf] at hc_z
          refine hc_z.imp ?_
          rintro ⟨r1_z, B_z⟩ hq
          have hr1 : ∃ z_z : Int, r1_z = some (0, z_z) := by
            rcases hq with ⟨q1_z, _⟩ | ⟨q1_z, _⟩
            · exact ⟨0, q1_z⟩
            · exact ⟨1, q1_z⟩
          obtain ⟨z_z, rfl⟩ := hr1
          exact ⟨rfl, by omega, by omega, by omega, f_z, B_z, z_z, hf.symm, hq, rfl⟩
        · exact ⟨rfl, Or.inr (Or.inl ⟨rfl, ⟨by omega, by omega⟩, by omega⟩)⟩
      · exact ⟨rfl, Or.inl ⟨rfl, by omega⟩⟩
def mbP (s : cx_Sd 12) (ks : List (Fin 12)) (A : pm_A) (f : Fin 12) (r : pm_R) : Prop := (r.1 = some (0, 0) ∧ (spB s ks f ∨ ¬ arO A f.1)) ∨ (r.1 = some (0, 1) ∧ Tru s (ks ++ [f]) r.2 ∧ (¬ spB s ks f ∧ arO A f.1) ∧ (r.2 0 10 = A 0 10 - 1 ∧ ∀ d_z : Int, r.2 6 d_z = A 6 d_z) ∧ r.2 0 7 = A 0 7 ∧ r.2 0 8 = A 0 8)
theorem arO_cong {A B : pm_A} {k : Int} (e7 : B 0 7 = A 0 7) (e8 : B 0 8 = A 0 8) (e5 : ∀ j_z : Int, B 5 j_z = A 5 j_z) (h : arO B k) : arO A k := fun i_z j_z i0_z i1_z j0 j1 => by
  have h1 := h i_z j_z i0_z (by rw [e7, e8]; exact i1_z) j0 (by rw [e7]; exact j1)
  unfold tv at h1 ⊢
  rw [e5, e5, e5] at h1
  exact h1
theorem mback_exq {s : cx_Sd 12} {ks : List (Fin 12)} {A : pm_A} {f : Fin 12} (hT : Tru s ks A) (h10 : 1 ≤ A 0 10) (hf : A 6 (A 0 10 - 1) = (f.1 : Int)) (hk : (f.1 : Int) < A 0 7) : Cl pmt (an_sh wM) 128 [(2, 0)] A (mbP s ks A f) := by
  have hg := hT.1
  have p7_z := fM_0_7 hg (r := 0) (by omega) km0
  have p10 := fM_0_10 hg (r := 0) (by omega) km0
  have hB_z : gH wM (pm_upd A 0 10 (A 0 10 - 1)) := uM_0_10 hg (by omega) (by omega)
  have hBo : ∀ r_z j_z : Int, ¬ (r_z = 0 ∧ j_z = 10) → pm_upd A 0 10 (A 0 10 - 1) r_z j_z = A r_z j_z := fun r_z j_z h_z => upd_o h_z
  have hTB : Tru s ks (pm_upd A 0 10 (A 0 10 - 1)) := hT.same hB_z (hBo 0 7 (by omega)) (hBo 0 8 (by omega)) (fun j_z _ _ => hBo 5 j_z (by omega)) (fun p_z p0_z p1_z r_z j_z hr => hBo r_z j_z (by unfold inS at hr; omega))
  have c11_z : pm_upd A 0 10 (A 0 10 - 1) 0 11 = 6 := pM_11 hB_z
  have f10 : pm_upd A 0 10 (A 0 10 - 1) 0 10 = A 0 10 - 1 := upd_at
  have f7_z : pm_upd A 0 10 (A 0 10 - 1) 0 7 = A 0 7 := hBo 0 7 (by omega)
  have f8_z : pm_upd A 0 10 (A 0 10 - 1) 0 8 = A 0 8 := hBo 0 8 (by omega)
  have f6_z : pm_upd A 0 10 (A 0 10 - 1) (pm_upd A 0 10 (A 0 10 - 1) 0 11) (pm_upd A 0 10 (A 0 10 - 1) 0 10) = (f.1 : Int) := by rw [c11_z, f10, hBo 6 _ (by omega)]; exact hf
  refine Cl.of (Nat.le_of_ble_eq_true rfl) ?_
  refine wq_ok (full := o_X10_back) srt_Mback (fr := []) (cuts := [32]) (J := fun pc st_z => (pc = 32 ∧ ∃ (B_z : pm_A) (z_z : Int), tuq_post s ks (pm_upd A 0 10 (A 0 10 - 1)) f (some (0, z_z), B_z) ∧ st_z = ([(2, 0)], [(0, z_z)], B_z))) ?_ 20 0 _ ?_
  · rintro pc st_z (⟨rfl, B_z, z_z, hq, rfl⟩)
    obtain ⟨e0_z, e6_z⟩ := tuq_fld hq
    simp only at e0_z e6_z
    have hz : z_z = 0 ∨ z_z = 1 := by
      rcases hq with ⟨q1_z, _⟩ | ⟨q1_z, _⟩
      · simp only at q1_z
        cases q1_z
        exact Or.inl rfl
      · simp only at q1_z
        cases q1_z
        exact Or.inr rfl
    refine wq_ok srt_Mback (fr := []) (cuts := []) (J := fun _ _ => False) (fun _ _ h_z => h_z.elim) 5 32 _ ?_
    refine ⟨okt2 hz, ?_⟩
    rcases hq with ⟨q1_z, q2_z, q3_z, q4_z⟩ | ⟨q1_z, q2_z, q3_z, q4_z, q5_z, q6_z⟩
    · refine Or.inl ⟨q1_z, ?_⟩
      rcases q4_z with q4_z | q4_z
      · exact Or.inl q4_z
      · exact Or.inr (fun h_z => q4_z (arO_cong f7_z.symm f8_z.symm (fun j_z => (hBo 5 j_z (by omega)).symm) h_z))
    · refine Or.inr ⟨q1_z, q2_z, ⟨q5_z, arO_cong f7_z f8_z (fun j_z => hBo 5 j_z (by omega)) q6_z⟩, ⟨?_, fun d_z => ?_⟩, ?_, ?_⟩
      · show B_z 0 10 = _
        rw [e0_z 10 (by omega) (by omega), f10]
      · show B_z 6 d_z = _
        rw [e6_z d_z, hBo 6 d_z (by omega)]
      · show B_z 0 7 = _
        rw [e0_z 7 (by omega) (by omega), f7_z]
      · show B_z 0 8 = _
        rw [e0_z 8 (by omega) (by omega), f8_z]
  · refine ⟨oM_0 (by omega) km0 10 rfl, ?_⟩
    refine ⟨fun h0 => ?_, fun h0 => absurd h0 (by omega)⟩
    refine ⟨oM_0 (by omega) km0 10 rfl, ?_⟩
    refine ⟨⟨by omega, by omega⟩, ?_⟩
    refine ⟨oM_0 (by omega) km0 10 rfl, ?_⟩
    refine ⟨oM_0 (by omega) km0 11 rfl, ?_⟩
    refine ⟨oM_0 (by omega) km0 10 rfl, ?_⟩
    refine ⟨aM_6 (r := (pm_upd A 0 10 ((A 0 10) - 1)) 0 11) (by rw [c11_z]; omega) (by rw [c11_z]; exact kn6) (by rw [f10]; omega) (by rw [f10]; omega), ?_⟩
    refine ⟨rM_0 (by omega) km0, ?_⟩
    show Cl pmt (an_sh wM) 200 [(2, 0), (0, pm_upd A 0 10 (A 0 10 - 1) (pm_upd A 0 10 (A 0 10 - 1) 0 11) (pm_upd A 0 10 (A 0 10 - 1) 0 10))] (pm_upd A 0 10 (A 0 10 - 1)) _
    rw [f6_z]
    refine (turns_exq hTB (k := f) (by rw [f7_z]; exact hk)).imp ?_
    rintro ⟨r1_z, B_z⟩ hq
    have hr1 : ∃ z_z : Int, r1_z = some (0, z_z) := by
      rcases hq with ⟨q1_z, _⟩ | ⟨q1_z, _⟩
      · exact ⟨0, q1_z⟩
      · exact ⟨1, q1_z⟩
    obtain ⟨z_z, rfl⟩ := hr1
    exact ⟨rfl, B_z, z_z, hq, rfl⟩
theorem mback_no {A : pm_A} (hg : gH wM A) (h10 : A 0 10 = 0) : Cl pmt (an_sh wM) 128 [(2, 0)] A (fun r_z => r_z = (some (0, 0), A)) := by
  refine Cl.of (Nat.le_of_ble_eq_true rfl) ?_
  refine wq_ok (full := o_X10_back) srt_Mback (fr := []) (cuts := []) (J := fun _ _ => False) (fun _ _ h_z => h_z.elim) 10 0 _ ?_
  refine ⟨oM_0 (by omega) km0 10 rfl, ?_⟩
  refine ⟨fun h0 => absurd h10 h0, fun h0 => ?_⟩
  exact ⟨rfl, rfl⟩
