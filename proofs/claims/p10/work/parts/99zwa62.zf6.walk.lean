/-! the class's explore: arrive's picture, the step, the loops -/
def tdF (A B : pm_A) : Prop := (B 72 13 = A 72 13 ∧ B 72 14 = A 72 14) ∧ ∀ r_z j_z : Int, 104 ≤ r_z → r_z ≤ 106 → B r_z j_z = A r_z j_z
theorem avF.xa {s : cx_Sd 12} {ks : List (Fin 12)} {A G H : pm_A} (hX : xaF s ks A G) (hH : gH wX H) (hf : ∀ q_z j_z : Int, ¬ (q_z = 72 ∧ (j_z = 7 ∨ j_z = 10 ∨ j_z = 11)) → ¬ q_z = 103 → ¬ (74 ≤ q_z ∧ q_z ≤ 78) → H q_z j_z = G q_z j_z) : xaF s ks A H := by
  refine hX.put hH (fun q_z j_z hq => hf q_z j_z (fun e_z => hq (by unfold atC; omega)) (fun e_z => hq (by unfold atC; omega)) (fun e_z => hq (by unfold atC; omega))) (fun q_z j_z q0 qk hj => hf q_z j_z (fun e_z => ?_) (knd qk kk103 (by decide)) (fun e_z => ?_)) (fun j_z j0 j1 => by rw [hf 82 j_z (by omega) (by omega) (by omega)]; exact hX.1.2.1.2.2.2.1 j_z j0 j1)
  · omega
  · have h_z : q_z = 74 ∨ q_z = 75 ∨ q_z = 76 ∨ q_z = 77 ∨ q_z = 78 := by omega
    rcases h_z with rfl | rfl | rfl | rfl | rfl <;> exact absurd qk (by decide)
theorem av_pic {s : cx_Sd 12} {ks : List (Fin 12)} {A G : pm_A} {La : List Fun12} {Rh : List (List (Fin 12))} {W P : Int} {r : Nat} {p : List (Fin 12)} {k : Fin 12} {q : pm_R} (hs : sWP s W P) (hX : xaF s ks A G) (hp : pcA s G La Rh W P) (hr : Rh[r]? = some p) (hk : (k.1 : Int) < P) (hok : okS s p W P k) (hc : cuS s G La W P (p ++ [k])) (hq : avP G (k.1 : Int) q) : xaF s ks A q.2 ∧ (∀ a_z j_z : Int, (a_z = 72 ∧ (j_z = 13 ∨ j_z = 14)) ∨ (104 ≤ a_z ∧ a_z ≤ 106) → q.2 a_z j_z = G a_z j_z) ∧ ((q.1 = some (0, 0) ∧ (¬ ∃ u_z ∈ Rh, smS s (p ++ [k]) s u_z W P) ∧ ¬ Rh.length < 150) ∨ (q.1 = some (0, 1) ∧ ∃ Rh', (((∃ u_z ∈ Rh, smS s (p ++ [k]) s u_z W P) ∧ Rh' = Rh) ∨ ((¬ ∃ u_z ∈ Rh, smS s (p ++ [k]) s u_z W P) ∧ Rh.length < 150 ∧ Rh' = Rh ++ [p ++ [k]])) ∧ pcA s q.2 La Rh' W P)) := by
  obtain ⟨p1_z, p2_z, p3_z, p4_z, p5_z⟩ := hp
  have hp0 : pcA s G La Rh W P := ⟨p1_z, p2_z, p3_z, p4_z, p5_z⟩
  have hrp := p4_z r p hr
  have hWP := hs.2.1.1
  have hpin : p ∈ Rh := List.mem_of_getElem? hr
  have hsh : ∀ l : Int, 0 ≤ l → l < G 72 1 → (G (107 + 3 * l) 2 = 108 + 3 * l ∧ G (107 + 3 * l) 3 = 109 + 3 * l) := fun l l0 l1 => by
    have h100 := p2_z.1
    have e2 := hX.1.2.1.2.1 (107 + 3 * l) (by omega) (kkLt l0 (by omega))
    have e3 := hX.1.2.2.2.1 (107 + 3 * l) (by omega) (kkLt l0 (by omega))
    omega
  rcases hq with ⟨hno, hq⟩ | ⟨r', hr', M_z, hM_z, e1, C_z, hC, hH, e2⟩
  · have hno2 : ¬ ∃ u_z ∈ Rh, smS s (p ++ [k]) s u_z W P := fun ⟨u_z, hu, hsm⟩ => by
      obtain ⟨m_z, hm_z⟩ := List.mem_iff_getElem?.mp hu
      have h1 := (List.getElem?_eq_some_iff.mp hm_z).1
      exact hno m_z (by omega) (by omega) (T_thr hs p1_z p2_z.2.2.1 hc (p4_z m_z u_z hm_z) hsm)
    rcases hq with ⟨h150, e1, hav⟩ | ⟨h150, e1, B_z, C_z, ⟨hB_z, hC⟩, D_z, hD, hH, e2⟩
    · refine ⟨avF.xa hX hav.1 (fun a_z j_z h1 h2 h3 => hav.2 a_z j_z (fun e_z => h1 (by omega)) h2), fun a_z j_z ha_z => hav.2 a_z j_z (by omega) (by omega), Or.inl ⟨e1, hno2, by omega⟩⟩
    · obtain ⟨b1, b2, b10, b11⟩ := hB_z
      have cG : ∀ a_z j_z : Int, ¬ (a_z = 72 ∧ (j_z = 10 ∨ j_z = 11)) → ¬ a_z = 103 → C_z a_z j_z = G a_z j_z := fun a_z j_z h1 h2 => (hC.2 a_z j_z h2).trans (b2 a_z j_z h1)
      have c10_z : C_z 72 10 = loM (G 102) P.toNat := by rw [hC.2 72 10 (by omega), b10, p1_z.1]
      have c11_z : C_z 72 11 = hgM (G 102) P.toNat := by rw [hC.2 72 11 (by omega), b11, p1_z.1]
      have c7_z : C_z 72 7 = G 72 7 := cG 72 7 (by omega) (by omega)
      have c79 : C_z 79 0 = P := by rw [cG 79 0 (by omega) (by omega)]; exact p1_z.1
      obtain ⟨d1_z, d2_z, d3_z, d4_z, ⟨d5_z, d6_z⟩, ⟨d7_z, d8_z, d9_z⟩, d10_z⟩ := hD
      rw [c7_z] at d3_z d4_z d5_z d6_z d7_z d8_z d9_z d10_z
      rw [c79] at d4_z
      have hG7 : G 72 7 = (Rh.length : Int) := p3_z.1
      have hh : ∀ a_z j_z : Int, ¬ (a_z = 72 ∧ (j_z = 7 ∨ j_z = 10 ∨ j_z = 11)) → ¬ a_z = 103 → ¬ (74 ≤ a_z ∧ a_z ≤ 78) → q.2 a_z j_z = G a_z j_z := fun a_z j_z h1 h2 h3 => by
        rw [e2, upd_ne (by omega), d2_z a_z j_z (by omega) h2 (by omega) (by omega) (by omega) (by omega) (by omega)]
        exact cG a_z j_z (by omega) h2
      have h74 : ∀ j_z : Int, j_z < 6 * G 72 7 → q.2 74 j_z = G 74 j_z := fun j_z hj => by
        rw [e2, upd_ne (by omega), (d3_z j_z hj).1]; exact cG 74 j_z (by omega) (by omega)
      have n74 : ∀ d_z : Int, 0 ≤ d_z → d_z < P → q.2 74 (6 * G 72 7 + d_z) = G 102 d_z := fun d_z d0_z d1_z => by
        rw [e2, upd_ne (by omega), (d4_z d_z d0_z d1_z).2.1]; exact cG 102 d_z (by omega) (by omega)
      have h76 : ∀ j_z : Int, j_z < 72 * G 72 7 → q.2 76 j_z = G 76 j_z := fun j_z hj => by
        rw [e2, upd_ne (by omega), d5_z j_z hj]; exact cG 76 j_z (by omega) (by omega)
      have n76 : ∀ j_z : Int, 0 ≤ j_z → j_z < 72 → q.2 76 (72 * G 72 7 + j_z) = G 80 j_z := fun j_z j0 j1 => by
        rw [e2, upd_ne (by omega), d6_z j_z j0 j1]; exact cG 80 j_z (by omega) (by omega)
      have h77 : ∀ j_z : Int, ¬ j_z = G 72 7 → q.2 77 j_z = G 77 j_z ∧ q.2 78 j_z = G 78 j_z := fun j_z hj => by
        rw [e2, upd_ne (by omega), upd_ne (by omega), (d7_z j_z hj).1, (d7_z j_z hj).2]; exact ⟨cG 77 j_z (by omega) (by omega), cG 78 j_z (by omega) (by omega)⟩
      have n77 : q.2 77 (G 72 7) = loM (G 102) P.toNat ∧ q.2 78 (G 72 7) = hgM (G 102) P.toNat := by
        rw [e2, upd_ne (by omega), upd_ne (by omega), d8_z, d9_z]; exact ⟨c10_z, c11_z⟩
      have h75 : ∀ j_z : Int, j_z < 6 * G 72 7 → q.2 75 j_z = G 75 j_z := fun j_z hj => by
        rw [e2, upd_n2 (by omega), (d3_z j_z hj).2]; exact cG 75 j_z (by omega) (by omega)
      have n75 : ∀ d_z : Int, 0 ≤ d_z → d_z < P → ¬ d_z = (k.1 : Int) → q.2 75 (6 * G 72 7 + d_z) = 0 := fun d_z d0_z d1_z hd_z => by
        rw [e2, upd_n2 (by omega)]; exact (d4_z d_z d0_z d1_z).2.2
      have h727 : q.2 72 7 = G 72 7 + 1 := by rw [e2, upd_ne (by omega)]; exact d10_z
      have hsp : ∀ (m_z : Nat) (u_z : List (Fin 12)), (Rh ++ [p ++ [k]])[m_z]? = some u_z → Rh[m_z]? = some u_z ∨ (m_z = Rh.length ∧ u_z = p ++ [k]) := fun m_z u_z hm_z => by
        by_cases w_z : m_z < Rh.length
        · rw [List.getElem?_append_left w_z] at hm_z; exact Or.inl hm_z
        · have h1 := (List.getElem?_eq_some_iff.mp hm_z).1
          rw [List.length_append, List.length_singleton] at h1
          have h2 : m_z = Rh.length := by omega
          rw [h2, List.getElem?_append_right (Nat.le_refl _), Nat.sub_self] at hm_z
          exact Or.inr ⟨h2, (Option.some.inj hm_z).symm⟩
      have hmk := mark (s := s) (p := p) (q := p ++ [k]) (f := fun i_z => i_z) (k := k) ⟨fun _ h_z => h_z, fun _ _ => rfl, fun _ _ _ => rfl, fun _ _ _ _ => rfl⟩ hWP hrp.1.1 (pthP_n hrp.1.1 hk) hrp.1.2.1 (zrw_n hrp.1.2.1 hk) hk hrp.1.2.2 hok.1
      refine ⟨avF.xa hX hH hh, fun a_z j_z ha_z => hh a_z j_z (by omega) (by omega) (by omega), Or.inr ⟨e1, Rh ++ [p ++ [k]], Or.inr ⟨hno2, by omega, rfl⟩, ⟨?_, ?_, ⟨?_, ?_⟩, fun m_z u_z hm_z => ?_, fun m_z u_z k' hm_z hk' hne => ?_⟩⟩⟩
      · rw [hh 79 0 (by omega) (by omega) (by omega), hh 79 1 (by omega) (by omega) (by omega)]; exact p1_z
      · refine p2_z.of (hh 72 1 (by omega) (by omega) (by omega)) (fun l l0 l1 => ?_)
        have e5 := hsh l l0 l1
        exact ⟨fun j_z => hh _ j_z (by omega) (by omega) (by omega), fun j_z => by rw [e5.1]; exact hh _ j_z (by omega) (by omega) (by omega), fun j_z => by rw [e5.2]; exact hh _ j_z (by omega) (by omega) (by omega)⟩
      · rw [h727, List.length_append, List.length_singleton]; omega
      · rw [List.length_append, List.length_singleton]; omega
      · rcases hsp m_z u_z hm_z with h1 | ⟨h1, h2⟩
        · have h3 := (List.getElem?_eq_some_iff.mp h1).1
          exact (p4_z m_z u_z h1).of (fun _ _ w_z => w_z) (fun j_z _ _ => h74 j_z (by omega)) (fun j_z _ _ => h76 j_z (by omega)) (h77 _ (by omega)) hs.1.2 hs.2.1.2
        · rw [h2, show ((m_z : Nat) : Int) = G 72 7 by omega]
          refine ⟨⟨pthP_n hrp.1.1 hk, zrw_n hrp.1.2.1 hk, it_bd.1 hok.2⟩, fun i_z hi_z => ?_, fun i_z j_z hi_z hj => ?_, ?_, ?_⟩
          · obtain ⟨l, a1_z, a2⟩ := hc.1 i_z hi_z
            exact ⟨l, by rw [n74 _ (by omega) hi_z]; exact a1_z, a2⟩
          · have h4 := hs.1
            have h5 := hs.2.1
            rw [n76 _ (by omega) (by omega)]; exact hc.2 i_z j_z hi_z hj
          · rw [n77.1]
            exact bitsV_c2 (fun f_z f0_z f1_z => (n74 f_z f0_z (by omega)).symm)
          · rw [n77.2]
            exact bitsV_c3 (fun f_z f0_z f1_z => (n74 f_z f0_z (by omega)).symm)
      · have h6 := hs.1
        rcases hsp m_z u_z hm_z with h1 | ⟨h1, h2⟩
        · have h3 := (List.getElem?_eq_some_iff.mp h1).1
          rw [h75 _ (by omega)] at hne
          obtain ⟨a1_z, v_z, hv, a2⟩ := p5_z m_z u_z k' h1 hk' hne
          exact ⟨a1_z, v_z, List.mem_append.2 (Or.inl hv), a2⟩
        · rw [show ((m_z : Nat) : Int) = G 72 7 by omega] at hne
          have e7_z : k' = k := by
            refine Fin.ext (Classical.byContradiction (fun w_z => hne (n75 _ (by omega) hk' ?_)))
            omega
          rw [e7_z, h2]
          exact ⟨hmk.1, p, List.mem_append.2 (Or.inl hpin), hmk.2⟩
  · have hr2 : r'.toNat < Rh.length := by have := p3_z.1; omega
    have hu : Rh[r'.toNat]? = some (Rh[r'.toNat]'hr2) := List.getElem?_eq_getElem hr2
    generalize Rh[r'.toNat]'hr2 = u_z at hu
    have hru := p4_z _ u_z hu
    rw [Int.toNat_of_nonneg hr'.1] at hru
    obtain ⟨hT_z, hv⟩ := thr_T hs p1_z hc hru hM_z
    have hyes : ∃ u_z ∈ Rh, smS s (p ++ [k]) s u_z W P := ⟨u_z, List.mem_of_getElem? hu, smT_S hT_z⟩
    have hmk := mark hT_z hWP hrp.1.1 hru.1.1 hrp.1.2.1 hru.1.2.1 hk hrp.1.2.2 hok.1
    have hMk := hM_z.1 (k.1 : Int) (by omega) (by rw [p1_z.1]; exact hk)
    rw [p1_z.1] at hMk
    have h6 := hs.1
    have hh : ∀ a_z j_z : Int, ¬ (a_z = 72 ∧ (j_z = 7 ∨ j_z = 10 ∨ j_z = 11)) → ¬ a_z = 103 → ¬ (74 ≤ a_z ∧ a_z ≤ 78) → q.2 a_z j_z = G a_z j_z := fun a_z j_z h1 h2 h3 => by
      rw [e2, upd_ne (by omega)]; exact hC.2 a_z j_z (by omega) h2
    have hh2 : ∀ a_z j_z : Int, 74 ≤ a_z → a_z ≤ 78 → ¬ a_z = 75 → q.2 a_z j_z = G a_z j_z := fun a_z j_z h1 h2 h3 => by
      rw [e2, upd_ne h3]; exact hC.2 a_z j_z (by omega) (by omega)
    have h7 : q.2 72 7 = G 72 7 := by rw [e2, upd_ne (by omega)]; exact hC.2 72 7 (by omega) (by omega)
    refine ⟨avF.xa hX hH hh, fun a_z j_z ha_z => hh a_z j_z (by omega) (by omega) (by omega), Or.inr ⟨e1, Rh, Or.inl ⟨hyes, rfl⟩, ⟨?_, ?_, ?_, fun m_z v_z hm_z => ?_, fun m_z v_z k' hm_z hk' hne => ?_⟩⟩⟩
    · rw [hh 79 0 (by omega) (by omega) (by omega), hh 79 1 (by omega) (by omega) (by omega)]; exact p1_z
    · refine p2_z.of (hh 72 1 (by omega) (by omega) (by omega)) (fun l l0 l1 => ?_)
      have e5 := hsh l l0 l1
      exact ⟨fun j_z => hh _ j_z (by omega) (by omega) (by omega), fun j_z => by rw [e5.1]; exact hh _ j_z (by omega) (by omega) (by omega), fun j_z => by rw [e5.2]; exact hh _ j_z (by omega) (by omega) (by omega)⟩
    · rw [h7]; exact p3_z
    · exact (p4_z m_z v_z hm_z).of (fun _ _ w_z => w_z) (fun j_z _ _ => hh2 74 j_z (by omega) (by omega) (by omega)) (fun j_z _ _ => hh2 76 j_z (by omega) (by omega) (by omega)) ⟨hh2 77 _ (by omega) (by omega) (by omega), hh2 78 _ (by omega) (by omega) (by omega)⟩ hs.1.2 hs.2.1.2
    · by_cases w_z : 6 * (m_z : Int) + (k'.1 : Int) = 6 * r' + M_z (k.1 : Int)
      · have hvk := hv k hk
        have e7_z : m_z = r'.toNat := by omega
        have e8 : k' = sgm P M_z k := Fin.ext (by omega)
        rw [e7_z, hu] at hm_z
        rw [e8, ← Option.some.inj hm_z]
        exact ⟨hmk.1, p, hpin, hmk.2⟩
      · rw [e2, upd_n2 w_z, hC.2 75 _ (by omega) (by omega)] at hne
        exact p5_z m_z v_z k' hm_z hk' hne
def exQ (s : cx_Sd 12) (ks : List (Fin 12)) (A : pm_A) (W P : Int) (Z : Option (List Fun12 × List (List (Fin 12))) → Prop) (q : pm_R) : Prop := (xaF s ks A q.2 ∧ tdF A q.2 ∧ Z none ∧ q.1 = some (0, -2)) ∨ ∃ (La_z : List Fun12) (Rh : List (List (Fin 12))) (B_z : pm_A), Z (some (La_z, Rh)) ∧ q.1 = some (0, (Rh.length : Int)) ∧ xaF s ks A B_z ∧ pcA s B_z La_z Rh W P ∧ reP B_z (none, q.2)
theorem tdF.tr {A B C : pm_A} (h : tdF A B) (e1 : C 72 13 = B 72 13 ∧ C 72 14 = B 72 14) (e2 : ∀ r_z j_z : Int, 104 ≤ r_z → r_z ≤ 106 → C r_z j_z = B r_z j_z) : tdF A C := ⟨⟨e1.1.trans h.1.1, e1.2.trans h.1.2⟩, fun r_z j_z h0 h1 => (e2 r_z j_z h0 h1).trans (h.2 r_z j_z h0 h1)⟩
theorem kk104 : wX.2 104 = 19 := by decide
theorem kk105 : wX.2 105 = 28 := by decide
theorem kk106 : wX.2 106 = 29 := by decide
theorem tdF.ex {A B C : pm_A} (h : tdF A B) (hB : gH wX B) (hF : exF B C 28) : tdF A C := by
  refine h.tr ⟨hF.ce hB kk72 (by decide) (by decide) (by decide) (by decide) 13, hF.ce hB kk72 (by decide) (by decide) (by decide) (by decide) 14⟩ (fun r_z j_z h0 h1 => ?_)
  have h2 : r_z = 104 ∨ r_z = 105 ∨ r_z = 106 := by omega
  rcases h2 with rfl | rfl | rfl
  · exact hF.ce hB kk104 (by decide) (by decide) (by decide) (by decide) j_z
  · exact hF.ce hB kk105 (by decide) (by decide) (by decide) (by decide) j_z
  · exact hF.ce hB kk106 (by decide) (by decide) (by decide) (by decide) j_z
theorem xq_130 {s : cx_Sd 12} {ks : List (Fin 12)} {A F : pm_A} {La La' : List Fun12} {Rh : List (List (Fin 12))} {W P l : Int} {r : Nat} {p : List (Fin 12)} {k : Fin 12} {Z : Option (List Fun12 × List (List (Fin 12))) → Prop} (hs : sWP s W P) (hX : xaF s ks A F) (hp : pcA s F La' Rh W P) (ht : tdF A F) (hr : Rh[r]? = some p) (hk : (k.1 : Int) < P) (hok : okS s p W P k) (hL : (gpf s (p ++ [k]) k ∈ La ∧ La' = La) ∨ (¬ gpf s (p ++ [k]) k ∈ La ∧ La.length < 100 ∧ La' = La ++ [gpf s (p ++ [k]) k])) (hl : 0 ≤ l ∧ l ≤ 99) (hln : La'[l.toNat]? = some (gpf s (p ++ [k]) k)) (h102 : ∀ i_z : Fin 12, (i_z.1 : Int) < P → ¬ i_z = k → ∃ m_z : Nat, F 102 (i_z.1 : Int) = (m_z : Int) ∧ La'[m_z]? = some (gpf s p i_z)) (h80 : ∀ i_z j_z : Fin 12, (i_z.1 : Int) < W → (j_z.1 : Int) < P → cr_bs s.b (p ++ [k]) i_z j_z = F 80 ((i_z.1 : Int) * 6 + (j_z.1 : Int))) (hin : ∀ u_z ∈ Rh, ∀ i_z : Fin 12, (i_z.1 : Int) < P → gpf s u_z i_z ∈ La) (hfail : stepA s W P La Rh p k none → Z none) (H : ∀ (Lb : List Fun12) (Rb_z : List (List (Fin 12))) (D_z : pm_A), stepA s W P La Rh p k (some (Lb, Rb_z)) → xaF s ks A D_z → pcA s D_z Lb Rb_z W P → tdF A D_z → Tm pmt (an_sh wX) o_X0_explore 154 ([(2, 72), (2, 1), (2, 28), (0, (r : Int)), (0, (k.1 : Int))], [], D_z) (exQ s ks A W P Z)) : Tm pmt (an_sh wX) o_X0_explore 130 ([(2, 72), (2, 1), (2, 28), (0, (r : Int)), (0, (k.1 : Int))], [(0, l), (0, (k.1 : Int)), (2, 102)], F) (exQ s ks A W P Z) := by
  have h6 := hs.1
  have hG : gH wX (pm_upd F 102 (k.1 : Int) l) := uX_27 hX.1.1 kk102 (by omega) hl.2
  have g1 : ∀ q_z j_z : Int, ¬ q_z = 102 → pm_upd F 102 (k.1 : Int) l q_z j_z = F q_z j_z := fun q_z j_z hq => upd_ne hq
  have g2 : pm_upd F 102 (k.1 : Int) l 102 (k.1 : Int) = l := upd_at
  have g3_z : ∀ j_z : Int, ¬ j_z = (k.1 : Int) → pm_upd F 102 (k.1 : Int) l 102 j_z = F 102 j_z := fun j_z hj => upd_n2 hj
  refine wq_ok srt_explore (fr := []) (cuts := [131]) (J := fun pc st_z => pc = 131 ∧ st_z = ([(2, 72), (2, 1), (2, 28), (0, (r : Int)), (0, (k.1 : Int))], [], pm_upd F 102 (k.1 : Int) l)) ?_ 30 130 _ ?_
  · rintro pc st_z ⟨rfl, rfl⟩
    generalize pm_upd F 102 (k.1 : Int) l = G_z at hG g1 g2 g3_z
    have hXG : xaF s ks A G_z := hX.put hG (fun q_z j_z hq => g1 q_z j_z (fun e_z => hq (by unfold atC; omega))) (fun q_z j_z q0 qk hj => g1 q_z j_z (knd qk kk102 (by decide))) (fun j_z j0 j1 => by rw [g1 82 j_z (by omega)]; exact hX.1.2.1.2.2.2.1 j_z j0 j1)
    have hsh : ∀ a_z : Int, 0 ≤ a_z → a_z < F 72 1 → sme F G_z (107 + 3 * a_z) := fun a_z a0_z a1_z => by
      have h100 := hp.2.1.1
      have e2 := hX.1.2.1.2.1 (107 + 3 * a_z) (by omega) (kkLt a0_z (by omega))
      have e3 := hX.1.2.2.2.1 (107 + 3 * a_z) (by omega) (kkLt a0_z (by omega))
      exact ⟨fun j_z => g1 _ j_z (by omega), fun j_z => by rw [e2]; exact g1 _ j_z (by omega), fun j_z => by rw [e3]; exact g1 _ j_z (by omega)⟩
    have hpG : pcA s G_z La' Rh W P := hp.of hs (g1 72 1 (by omega)) (g1 72 7 (by omega)) ⟨g1 79 0 (by omega), g1 79 1 (by omega)⟩ (fun q_z j_z q0 q1_z => g1 q_z j_z (by omega)) hsh
    have htG : tdF A G_z := ht.tr ⟨g1 72 13 (by omega), g1 72 14 (by omega)⟩ (fun q_z j_z h0 h1 => g1 q_z j_z (by omega))
    have hcu : cuS s G_z La' W P (p ++ [k]) := by
      refine ⟨fun i_z hi_z => ?_, fun i_z j_z hi_z hj => by rw [g1 80 _ (by omega)]; exact h80 i_z j_z hi_z hj⟩
      by_cases e_z : i_z = k
      · rw [e_z]
        exact ⟨l.toNat, by rw [g2]; omega, hln⟩
      · obtain ⟨m_z, a1_z, a2⟩ := h102 i_z hi_z e_z
        refine ⟨m_z, by rw [g3_z _ (fun w_z => e_z (Fin.ext (by omega)))]; exact a1_z, ?_⟩
        rw [a2]
        refine congrArg some (funext fun x_z => ?_)
        show (cr_gp s.b p x_z).1 i_z = (cr_gp s.b (p ++ [k]) x_z).1 i_z
        rw [cr_gp_snoc]
        exact (cr_step_ne _ _ e_z).symm
    have e79 : G_z 79 0 = P := hpG.1.1
    have hav : avH G_z := by
      refine ⟨hXG.2.1, by rw [e79]; exact num_dst h6.2 hpG.2.1.1.2 hcu.1, fun a_z a0_z a1_z => ?_⟩
      have hr2 : a_z.toNat < Rh.length := by have := hpG.2.2.1.1; omega
      have hu : Rh[a_z.toNat]? = some (Rh[a_z.toNat]'hr2) := List.getElem?_eq_getElem hr2
      have h9 := hpG.2.2.2.1 _ _ hu
      rw [Int.toNat_of_nonneg a0_z] at h9
      rw [e79]
      exact ⟨num_dst h6.2 hpG.2.1.1.2 h9.2.1, h9.2.2.2.1, h9.2.2.2.2⟩
    have e9_z : G_z 72 9 = 102 := hXG.2.1.1.2.2.2.2.2.2.2.1
    refine wq_ok srt_explore (fr := []) (cuts := [154]) (J := fun pc st_z => pc = 154 ∧ ∃ (Rb_z : List (List (Fin 12))) (D_z : pm_A), stepA s W P La Rh p k (some (La', Rb_z)) ∧ xaF s ks A D_z ∧ pcA s D_z La' Rb_z W P ∧ tdF A D_z ∧ st_z = ([(2, 72), (2, 1), (2, 28), (0, (r : Int)), (0, (k.1 : Int))], [], D_z)) ?_ 30 131 _ ?_
    · rintro pc st_z ⟨rfl, Rb_z, D_z, d1_z, d2_z, d3_z, d4_z, rfl⟩
      exact H La' Rb_z D_z d1_z d2_z d3_z d4_z
    · refine ⟨oX_5 z72 kk72 9 rfl, ?_⟩
      refine ⟨aX_27 (r := G_z 72 9) (by rw [e9_z]; omega) (by rw [e9_z]; exact kk102) (by omega) (by omega), ?_⟩
      refine ⟨fun q_z => ?_, fun q_z => ?_⟩
      · rw [e9_z, g2] at q_z
        omega
      · refine ⟨rX_5 z72 kk72, ?_⟩
        refine (arrive_ex hG hav (by omega) (by rw [e79]; exact hk)).imp ?_
        rintro ⟨q1_z, D_z⟩ hD
        obtain ⟨a1_z, a2, a3⟩ := av_pic hs hXG hpG hr hk hok hcu hD
        simp only at a1_z a2 a3
        have htD : tdF A D_z := htG.tr ⟨a2 72 13 (Or.inl ⟨rfl, Or.inl rfl⟩), a2 72 14 (Or.inl ⟨rfl, Or.inr rfl⟩)⟩ (fun q_z j_z h0 h1 => a2 q_z j_z (Or.inr ⟨h0, h1⟩))
        rcases a3 with ⟨rfl, b1, b2⟩ | ⟨rfl, Rb_z, b1, b2⟩
        · refine ⟨fun hh => absurd rfl hh, fun _ => ?_⟩
          exact ⟨rfl, Or.inl ⟨a1_z, htD, hfail (Or.inr (Or.inr ⟨hok, b1, Or.inl ⟨b2, rfl⟩⟩)), rfl⟩⟩
        · refine ⟨fun _ => ?_, fun hh => absurd hh (by decide)⟩
          refine ⟨rfl, Rb_z, D_z, ?_, a1_z, b2, htD, rfl⟩
          rcases b1 with ⟨c1_z, c2_z⟩ | ⟨c1_z, c2_z, c3_z⟩
          · rcases hL with ⟨d1_z, d2_z⟩ | ⟨d1_z, d2_z, d3_z⟩
            · rw [c2_z, d2_z]
              exact Or.inr (Or.inl ⟨hok, c1_z, rfl⟩)
            · obtain ⟨u_z, hu, hsm⟩ := c1_z
              obtain ⟨f_z, hf⟩ := smS_T hsm
              have h9 := hin u_z hu (f_z k) (hf.1 k hk)
              have e5 : gpf s u_z (f_z k) = gpf s (p ++ [k]) k := funext fun x_z => hf.2.2.1 k hk x_z
              rw [e5] at h9
              exact absurd h9 d1_z
          · rw [c3_z]
            rcases hL with ⟨d1_z, d2_z⟩ | ⟨d1_z, d2_z, d3_z⟩
            · rw [d2_z]
              exact Or.inr (Or.inr ⟨hok, c1_z, Or.inr (Or.inl ⟨d1_z, c2_z, rfl⟩)⟩)
            · rw [d3_z]
              exact Or.inr (Or.inr ⟨hok, c1_z, Or.inr (Or.inr (Or.inr ⟨d1_z, d2_z, c2_z, rfl⟩))⟩)
  · refine ⟨tX_27 (r := 102) (by omega) kk102 (by omega) (by omega) rfl, ?_⟩
    exact ⟨rfl, rfl⟩
