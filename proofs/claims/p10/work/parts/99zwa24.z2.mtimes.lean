/-! the reference's add and times: spent means too much -/
theorem shr_pos {A : pm_A} {s : Int} (h1 : srtd A s) (h2 : ∀ q_z : Int, 0 ≤ q_z → q_z < A 1 s → 1 ≤ A 2 (200 * s + q_z)) : cr_Shr (LSm A s) := by
  refine ⟨?_, fun y_z hy => ?_⟩
  · unfold LSm
    rw [List.pairwise_map]
    refine List.Pairwise.imp_of_mem ?_ (List.pairwise_lt_range (n := (A 1 s).toNat))
    intro i_z j_z hi_z hj hij
    exact h1 i_z j_z (by omega) (by omega) (by have := List.mem_range.1 hj; omega)
  · obtain ⟨q_z, q0, q1_z, rfl⟩ := mem_LSm hy
    have := h2 q_z q0 q1_z
    show 0 < A 2 (200 * s + q_z)
    omega
def adq_post (A : pm_A) (s : Int) (r : pm_R) : Prop := r.1 = none ∧ adF A r.2 s ∧ ((r.2 0 4 = 1 ∧ BigC (fun a_z => cr_co (LSm A s) a_z + si (A 0 5, xp A) a_z)) ∨ (r.2 0 4 = 0 ∧ srtd r.2 s ∧ cfs r.2 s ∧ ∀ a_z, cr_co (LSm r.2 s) a_z = cr_co (LSm A s) a_z + si (A 0 5, xp A) a_z))
theorem pt_none {A : pm_A} {s t : Int} (hs : srtd A s) (ht : ptI A s t) (hne : t < A 1 s → xe A s t ≠ xp A) : ∀ y_z ∈ LSm A s, y_z.2 ≠ xp A := fun y_z hy e_z => by
  obtain ⟨q_z, q0, q1_z, rfl⟩ := mem_LSm hy
  have e_z : xe A s q_z = xp A := e_z
  obtain ⟨⟨t0_z, t1_z⟩, t2_z, t3_z⟩ := ht
  by_cases a_z : q_z < t
  · have := t2_z q_z q0 a_z
    rw [e_z] at this
    exact cr_Gt.irrefl _ this
  · by_cases b_z : q_z = t
    · rw [b_z] at e_z q1_z
      exact hne q1_z e_z
    · have := hs t q_z t0_z (by omega) q1_z
      rw [e_z] at this
      exact t3_z t (by omega) (by omega) this
theorem aq_226 {A B : pm_A} {s t : Int} (hs : 0 ≤ s ∧ s ≤ 151) (t0 : 0 ≤ t) (t1 : t < B 1 s) (hF : adF A B s) (h4 : B 0 4 = 0) (h1 : srtd B s) (h2 : ∀ q_z : Int, 0 ≤ q_z → q_z < B 1 s → 1 ≤ B 2 (200 * s + q_z) ∧ (q_z ≠ t → B 2 (200 * s + q_z) ≤ 1000000000000)) (h3 : ∀ a_z, cr_co (LSm B s) a_z = cr_co (LSm A s) a_z + si (A 0 5, xp A) a_z) (v3 v4 : pm_V) : Tm pmt (an_sh wM) o_X10_add 226 ([(2, 0), (0, s), (0, t), v3, v4], [], B) (adq_post A s) := by
  have c2_z := pM_2 hF.1
  have m1_z := eM_1 hF.1 (r := 1) (by omega) kn1 hs.1 (show s < 152 by omega)
  have hgood : B 2 (200 * s + t) ≤ 1000000000000 → adq_post A s (none, B) := fun hle => ⟨rfl, hF, Or.inr ⟨h4, h1, fun q_z q0 q1_z => ⟨(h2 q_z q0 q1_z).1, by
    by_cases e_z : q_z = t
    · rw [e_z]; exact hle
    · exact (h2 q_z q0 q1_z).2 e_z⟩, h3⟩⟩
  have hbig : 1000000000000 < B 2 (200 * s + t) → BigC (fun a_z => cr_co (LSm A s) a_z + si (A 0 5, xp A) a_z) := fun hb_z => by
    refine Or.inl ⟨xe B s t, ?_⟩
    show 1000000000000 < cr_co (LSm A s) (xe B s t) + si (A 0 5, xp A) (xe B s t)
    rw [← h3, cr_Shr.at (shr_pos h1 (fun q_z q0 q1_z => (h2 q_z q0 q1_z).1)) (in_LSm t0 t1)]
    exact hb_z
  refine wq_ok srt_Madd (fr := []) (cuts := []) (J := fun _ _ => False) ?_ 19 226 _ ?_
  · intro pc st_z h_z; exact h_z.elim
  · refine ⟨oM_0 (by omega) km0 2 rfl, ?_⟩
    refine ⟨⟨by omega, by omega⟩, ?_⟩
    refine ⟨⟨by omega, by omega⟩, ?_⟩
    refine ⟨aM_2 (r := B 0 2) (by rw [c2_z]; omega) (by rw [c2_z]; exact kn2) (by omega) (by omega), ?_⟩
    have e1 : B (B 0 2) ((200 * s) + t) = B 2 ((200 * s) + t) := by rw [c2_z]
    refine ⟨fun h0 => ?_, fun h0 => ?_, fun h0 => ?_⟩
    · refine ⟨fun hh => absurd hh (by decide), fun _ => ?_⟩
      refine ⟨oM_0 (by omega) km0 4 rfl, ?_⟩
      exact ⟨rfl, ⟨uM_0_4 hF.1 (by omega) (by omega), fun r_z j_z hr h4 => (show pm_upd B 0 4 1 r_z j_z = A r_z j_z by rw [upd_o (fun e_z => h4 ⟨e_z.1, e_z.2⟩)]; exact hF.2 r_z j_z hr h4)⟩, Or.inl ⟨(show pm_upd B 0 4 1 0 4 = 1 from upd_at), hbig (by omega)⟩⟩
    · refine ⟨fun _ => ?_, fun hh => absurd hh (by decide)⟩
      exact hgood (by omega)
    · refine ⟨fun _ => ?_, fun hh => absurd hh (by decide)⟩
      exact hgood (by omega)
theorem aq_ins {A B : pm_A} {s t : Int} (hA : adH A s) (m2 : A 1 s ≤ 199) (ht : ptI A s t) (hne : t < A 1 s → xe A s t ≠ xp A) (hB : niI A B s t 12) (v3 v4 : pm_V) : Tm pmt (an_sh wM) o_X10_add 226 ([(2, 0), (0, s), (0, t), v3, v4], [], B) (adq_post A s) := by
  obtain ⟨hA1, hs, hsr, hcf, hnum, hsp⟩ := hA
  obtain ⟨⟨t0_z, t1_z⟩, ht2, ht3⟩ := ht
  obtain ⟨g1, g2, g3_z, g4, g5_z, g6, g7⟩ := hB
  have m1_z := eM_1 hA1 (r := 1) (by omega) kn1 hs.1 (show s < 152 by omega)
  have xlt : ∀ q_z : Int, 0 ≤ q_z → q_z < t → xe B s q_z = xe A s q_z := fun q_z q0 q1_z => funext fun v_z => (g4 q_z v_z.1 q0 q1_z (by omega) (by have := v_z.2; omega)).2
  have xeq : xe B s t = xp A := funext fun v_z => g7 v_z.1 (by omega) (by have := v_z.2; omega)
  have xgt : ∀ q_z : Int, t < q_z → q_z ≤ A 1 s → xe B s q_z = xe A s (q_z - 1) := fun q_z q0 q1_z => funext fun v_z => by
    have := (g5_z q_z v_z.1 q0 q1_z (by omega) (by have := v_z.2; omega)).2
    show B 3 (12 * (200 * s + q_z) + (v_z.1 : Int)) = A 3 (12 * (200 * s + (q_z - 1)) + (v_z.1 : Int))
    rw [this]
    congr 1
    omega
  have hafter : ∀ q_z : Int, t ≤ q_z → q_z < A 1 s → cr_Gt (xp A) (xe A s q_z) := fun q_z q0 q1_z => by
    have h1 : cr_Gt (xp A) (xe A s t) := by
      rcases cr_Gt.total (xp A) (xe A s t) with e_z | e_z | e_z
      · exact absurd e_z.symm (hne (by omega))
      · exact e_z
      · exact absurd e_z (ht3 t (by omega) (by omega))
    by_cases e_z : q_z = t
    · rw [e_z]; exact h1
    · exact h1.trans (hsr t q_z t0_z (by omega) q1_z)
  refine aq_226 hs t0_z (by omega) ⟨g1, fun r_z j_z hr _ => g2 r_z j_z hr⟩ (by rw [g2 0 4 (by unfold inS; omega)]; exact hsp) ?_ ?_ ?_ v3 v4
  · intro q_z q' q0 hq hq'
    by_cases a1_z : q' < t
    · rw [xlt q_z q0 (by omega), xlt q' (by omega) a1_z]; exact hsr q_z q' q0 hq (by omega)
    · by_cases a2 : q' = t
      · rw [a2, xeq, xlt q_z q0 (by omega)]; exact ht2 q_z q0 (by omega)
      · rw [xgt q' (by omega) (by omega)]
        by_cases b1 : q_z < t
        · rw [xlt q_z q0 b1]
          exact hsr q_z (q' - 1) q0 (by omega) (by omega)
        · by_cases b2 : q_z = t
          · rw [b2, xeq]; exact hafter (q' - 1) (by omega) (by omega)
          · rw [xgt q_z (by omega) (by omega)]; exact hsr (q_z - 1) (q' - 1) (by omega) (by omega) (by omega)
  · intro q_z q0 q1_z
    by_cases a1_z : q_z < t
    · rw [(g4 q_z 0 q0 a1_z (by omega) (by omega)).1]; have := hcf q_z q0 (by omega); exact ⟨this.1, fun _ => this.2⟩
    · by_cases a2 : q_z = t
      · rw [a2, g6]; exact ⟨hnum.1, fun e_z => absurd rfl e_z⟩
      · rw [(g5_z q_z 0 (by omega) (by omega) (by omega) (by omega)).1, show 200 * s + q_z - 1 = 200 * s + (q_z - 1) by omega]; have := hcf (q_z - 1) (by omega) (by omega); exact ⟨this.1, fun _ => this.2⟩
  · intro a_z
    rw [LSm_lsf, LSm_lsf, g3_z, show (A 1 s + 1).toNat = (A 1 s).toNat + 1 by omega]
    refine co_insert (t := t.toNat) ?_ (fun q_z hq => ?_) a_z _ (by omega) (fun q_z q0 q1_z => ?_)
    · refine Prod.ext ?_ ?_
      · show B 2 (200 * s + ((t.toNat : Nat) : Int)) = A 0 5
        rw [Int.toNat_of_nonneg t0_z]; exact g6
      · show xe B s ((t.toNat : Nat) : Int) = xp A
        rw [Int.toNat_of_nonneg t0_z]; exact xeq
    · exact Prod.ext (g4 q_z 0 (by omega) (by omega) (by omega) (by omega)).1 (xlt q_z (by omega) (by omega))
    · refine Prod.ext ?_ ?_
      · show B 2 (200 * s + ((q_z + 1 : Nat) : Int)) = A 2 (200 * s + (q_z : Int))
        rw [(g5_z ((q_z + 1 : Nat) : Int) 0 (by omega) (by omega) (by omega) (by omega)).1]
        congr 1
        omega
      · show xe B s ((q_z + 1 : Nat) : Int) = xe A s (q_z : Int)
        rw [xgt ((q_z + 1 : Nat) : Int) (by omega) (by omega)]
        congr 1
        omega
theorem aq_72 {A : pm_A} {s t : Int} (hA : adH A s) (m2 : A 1 s ≤ 199) (ht : ptI A s t) (hne : t < A 1 s → xe A s t ≠ xp A) : ∀ (n_z : Nat) (k_z : Int) (v4_z : pm_V) (B_z : pm_A), (k_z - t).toNat < n_z → t ≤ k_z → k_z ≤ A 1 s → shI A B_z s k_z → Tm pmt (an_sh wM) o_X10_add 72 ([(2, 0), (0, s), (0, t), (0, k_z), v4_z], [], B_z) (adq_post A s) := by
  have hA0 := hA
  have ht0 := ht
  obtain ⟨hA1, hs, hsr, hcf, hnum, hsp⟩ := hA
  obtain ⟨⟨t0_z, t1_z⟩, ht2, ht3⟩ := ht
  intro n_z
  induction n_z with
  | zero => intro k_z v4_z B_z h_z; omega
  | succ n_z ih_z =>
    intro k_z v4_z B_z hn k0_z k1_z hI
    obtain ⟨g1, g2, g3_z, g4, g5_z⟩ := hI
    have c1_z := pM_1 g1
    have c2_z := pM_2 g1
    have c2' : pm_upd B_z (B_z 0 1) s (B_z (B_z 0 1) s + 1) 0 2 = 2 := by rw [c1_z, upd_o (by omega)]; exact c2_z
    have n5_z : pm_upd B_z (B_z 0 1) s (B_z (B_z 0 1) s + 1) 0 5 = A 0 5 := by rw [c1_z, upd_o (by omega)]; exact g2 0 5 (by unfold inS; omega)
    have m1_z := eM_1 g1 (r := 1) (by omega) kn1 hs.1 (show s < 152 by omega)
    refine wq_ok srt_Madd (fr := []) (cuts := [106, 191]) (J := fun pc st_z => (pc = 191 ∧ (k_z ≤ t) ∧ st_z = ([(2, 0), (0, s), (0, t), (0, 0), v4_z], [], pm_upd (pm_upd B_z (B_z 0 1) s ((B_z (B_z 0 1) s) + 1)) ((pm_upd B_z (B_z 0 1) s ((B_z (B_z 0 1) s) + 1)) 0 2) ((200 * s) + t) ((pm_upd B_z (B_z 0 1) s ((B_z (B_z 0 1) s) + 1)) 0 5))) ∨ (pc = 106 ∧ (t < k_z) ∧ st_z = ([(2, 0), (0, s), (0, t), (0, k_z), (0, 0)], [], pm_upd B_z (B_z 0 2) ((200 * s) + k_z) (B_z (B_z 0 2) (((200 * s) + k_z) - 1))))) ?_ 28 72 _ ?_
    · rintro pc st_z (⟨rfl, h0, rfl⟩ | ⟨rfl, h0, rfl⟩)
      · rw [n5_z, c2', c1_z]
        have hk : k_z = t := by omega
        refine ad_191 hs t0_z t1_z m2 (fun C_z v3 hC => aq_ins hA0 m2 ht0 hne hC v3 v4_z) _ 0 _ (Nat.lt_succ_self _) (by omega) (by omega) ⟨uM_2 (uM_1 g1 kn1 (by omega) (by omega)) kn2 (by omega) (by omega), fun r_z j_z hr => ?_, ?_, fun q_z v_z q0 q1_z v0_z v1_z => ?_, fun q_z v_z q0 q1_z v0_z v1_z => ?_, ?_, fun v_z v0_z v1_z => by omega⟩
        · rw [upd_o (fun e_z => hr (by unfold inS; omega)), upd_o (fun e_z => hr (by unfold inS; omega))]; exact g2 r_z j_z hr
        · rw [upd_o (by omega), upd_at, g3_z]
        · rw [upd_o (by omega), upd_o (by omega), upd_o (by omega), upd_o (by omega)]; exact g4 q_z v_z q0 (by omega) (by omega) v0_z v1_z
        · rw [upd_o (by omega), upd_o (by omega), upd_o (by omega), upd_o (by omega)]; exact g5_z q_z v_z (by omega) q1_z v0_z v1_z
        · rw [upd_at]
      · rw [c2_z]
        have b2 := eM_2 g1 (r := 2) (by omega) kn2 (j := 200 * s + k_z - 1) (by omega) (by omega)
        refine ad_106 hs (by omega) k1_z (by omega) (fun C_z v4_z hC => ih_z (k_z - 1) v4_z C_z (by omega) (by omega) (by omega) hC) _ 0 _ (Nat.lt_succ_self _) (by omega) (by omega) ⟨uM_2 g1 kn2 b2.1 b2.2, fun r_z j_z hr => ?_, ?_, fun q_z v_z q0 q1_z q2_z v0_z v1_z => ?_, fun q_z v_z q0 q1_z v0_z v1_z => ?_, ?_, fun v_z v0_z v1_z => by omega⟩
        · rw [upd_o (fun e_z => hr (by unfold inS; omega))]; exact g2 r_z j_z hr
        · rw [upd_o (by omega)]; exact g3_z
        · rw [upd_o (by omega), upd_o (by omega)]; exact g4 q_z v_z q0 (by omega) q2_z v0_z v1_z
        · rw [upd_o (by omega), upd_o (by omega)]; exact g5_z q_z v_z q0 q1_z v0_z v1_z
        · rw [upd_at]; have := (g4 (k_z - 1) 0 (by omega) (by omega) (by omega) (by omega) (by omega)).1; rw [show 200 * s + (k_z - 1) = 200 * s + k_z - 1 by omega] at this; exact this
    · refine ⟨fun h0 => ?_, fun h0 => ?_⟩
      · refine ⟨oM_0 (by omega) km0 1 rfl, ?_⟩
        refine ⟨aM_1 (r := B_z 0 1) (by rw [c1_z]; omega) (by rw [c1_z]; exact kn1) (by omega) (by omega), ?_⟩
        have e1 : B_z (B_z 0 1) s = B_z 1 s := by rw [c1_z]
        refine ⟨⟨by omega, by omega⟩, ?_⟩
        refine ⟨tM_1 (r := B_z 0 1) (by rw [c1_z]; omega) (by rw [c1_z]; exact kn1) (by omega) (by omega) rfl, ?_⟩
        refine ⟨oM_0 (by omega) km0 2 rfl, ?_⟩
        refine ⟨⟨by omega, by omega⟩, ?_⟩
        refine ⟨⟨by omega, by omega⟩, ?_⟩
        refine ⟨oM_0 (by omega) km0 5 rfl, ?_⟩
        refine ⟨tM_2 (r := (pm_upd B_z (B_z 0 1) s ((B_z (B_z 0 1) s) + 1)) 0 2) (by first | rw [c2_z]; omega | rw [c2']; omega) (by first | rw [c2_z]; exact kn2 | rw [c2']; exact kn2) (by omega) (by omega) rfl, ?_⟩
        exact Or.inl (⟨rfl, h0, rfl⟩)
      · refine ⟨oM_0 (by omega) km0 2 rfl, ?_⟩
        refine ⟨⟨by omega, by omega⟩, ?_⟩
        refine ⟨⟨by omega, by omega⟩, ?_⟩
        refine ⟨oM_0 (by omega) km0 2 rfl, ?_⟩
        refine ⟨⟨by omega, by omega⟩, ?_⟩
        refine ⟨⟨by omega, by omega⟩, ?_⟩
        refine ⟨⟨by omega, by omega⟩, ?_⟩
        refine ⟨aM_2 (r := B_z 0 2) (by first | rw [c2_z]; omega | rw [c2']; omega) (by first | rw [c2_z]; exact kn2 | rw [c2']; exact kn2) (by omega) (by omega), ?_⟩
        have e2 : B_z (B_z 0 2) (((200 * s) + k_z) - 1) = B_z 2 (((200 * s) + k_z) - 1) := by rw [c2_z]
        refine ⟨tM_2 (r := B_z 0 2) (by first | rw [c2_z]; omega | rw [c2']; omega) (by first | rw [c2_z]; exact kn2 | rw [c2']; exact kn2) (by omega) (by omega) rfl, ?_⟩
        exact Or.inr (⟨rfl, h0, rfl⟩)
theorem aq_47 {A : pm_A} {s t : Int} (hA : adH A s) (ht : ptI A s t) (hne : t < A 1 s → xe A s t ≠ xp A) (v3 v4 : pm_V) : Tm pmt (an_sh wM) o_X10_add 47 ([(2, 0), (0, s), (0, t), v3, v4], [], A) (adq_post A s) := by
  have c1_z := pM_1 hA.1
  have m1_z := eM_1 hA.1 (r := 1) (by omega) kn1 hA.2.1.1 (show s < 152 by have := hA.2.1; omega)
  have hs := hA.2.1
  have ht1 := ht.1
  refine wq_ok srt_Madd (fr := []) (cuts := [72]) (J := fun pc st_z => (pc = 72 ∧ (¬ (A (A 0 1) s) = 200) ∧ st_z = ([(2, 0), (0, s), (0, t), (0, A (A 0 1) s), v4], [], A))) ?_ 16 47 _ ?_
  · rintro pc st_z (⟨rfl, h0, rfl⟩)
    rw [c1_z] at h0 ⊢
    refine aq_72 hA (by omega) ht hne _ _ _ _ (Nat.lt_succ_self _) (by omega) (by omega) ⟨hA.1, fun _ _ _ => rfl, rfl, fun q_z v_z q0 q1_z q2_z v0_z v1_z => ⟨rfl, rfl⟩, fun q_z v_z q0 q1_z v0_z v1_z => by omega⟩
  · refine ⟨oM_0 (by omega) km0 1 rfl, ?_⟩
    refine ⟨aM_1 (r := A 0 1) (by rw [c1_z]; omega) (by rw [c1_z]; exact kn1) (by omega) (by omega), ?_⟩
    have e1 : A (A 0 1) s = A 1 s := by rw [c1_z]
    refine ⟨fun h0 => ?_, fun h0 => ?_⟩
    · refine ⟨oM_0 (by omega) km0 1 rfl, ?_⟩
      refine ⟨aM_1 (r := A 0 1) (by rw [c1_z]; omega) (by rw [c1_z]; exact kn1) (by omega) (by omega), ?_⟩
      have e2 : A (A 0 1) s = A 1 s := by rw [c1_z]
      exact ⟨rfl, h0, rfl⟩
    · refine ⟨oM_0 (by omega) km0 4 rfl, ?_⟩
      exact ⟨rfl, ⟨uM_0_4 hA.1 (by omega) (by omega), fun r_z j_z hr h4 => (show pm_upd A 0 4 1 r_z j_z = A r_z j_z from upd_o (fun e_z => h4 ⟨e_z.1, e_z.2⟩))⟩, Or.inl ⟨(show pm_upd A 0 4 1 0 4 = 1 from upd_at), big_add (shr_of hA.2.2.1 hA.2.2.2.1) (by rw [LSm_len]; omega) hA.2.2.2.2.1.1 (pt_none hA.2.2.1 ht hne)⟩⟩
theorem aq_22 {A : pm_A} {s t z : Int} (hA : adH A s) (ht : ptI A s t) (htm : t < A 1 s) (hz : (z = 1 ∧ cr_Gt (xe A s t) (xp A)) ∨ (z = 0 ∧ xe A s t = xp A) ∨ (z = -1 ∧ cr_Gt (xp A) (xe A s t))) (v3 v4 : pm_V) : Tm pmt (an_sh wM) o_X10_add 22 ([(2, 0), (0, s), (0, t), v3, v4], [(0, z)], A) (adq_post A s) := by
  have hA0 := hA
  have ht0 := ht
  obtain ⟨hA1, hs, hsr, hcf, hnum, hsp⟩ := hA
  have c2_z := pM_2 hA1
  have m1_z := eM_1 hA1 (r := 1) (by omega) kn1 hs.1 (show s < 152 by omega)
  have ht1 := ht.1
  have hct := hcf t ht1.1 htm
  refine wq_ok srt_Madd (fr := []) (cuts := [47, 226]) (J := fun pc st_z => (pc = 47 ∧ (¬ z = 0) ∧ st_z = ([(2, 0), (0, s), (0, t), v3, v4], [], A)) ∨ (pc = 226 ∧ (z = 0) ∧ st_z = ([(2, 0), (0, s), (0, t), v3, v4], [], pm_upd A (A 0 2) ((200 * s) + t) ((A (A 0 2) ((200 * s) + t)) + (A 0 5))))) ?_ 20 22 _ ?_
  · rintro pc st_z (⟨rfl, h0, rfl⟩ | ⟨rfl, h0, rfl⟩)
    · exact aq_47 hA0 ht0 (fun _ e_z => by rcases hz with ⟨_, h_z⟩ | ⟨h_z, _⟩ | ⟨_, h_z⟩; exact cr_Gt.irrefl _ (e_z ▸ h_z); exact h0 h_z; exact cr_Gt.irrefl _ (e_z ▸ h_z)) v3 v4
    · rw [c2_z]
      have hxe : xe A s t = xp A := by rcases hz with ⟨e_z, _⟩ | ⟨_, e_z⟩ | ⟨e_z, _⟩; omega; exact e_z; omega
      have hx : ∀ q_z, xe (pm_upd A 2 (200 * s + t) (A 2 (200 * s + t) + A 0 5)) s q_z = xe A s q_z := fun q_z => funext fun v_z => upd_o (by omega)
      have hm_z : pm_upd A 2 (200 * s + t) (A 2 (200 * s + t) + A 0 5) 1 s = A 1 s := upd_o (by omega)
      refine aq_226 hs ht1.1 (by rw [hm_z]; exact htm) ⟨uM_2 hA1 kn2 (by omega) (by omega), fun r_z j_z hr _ => upd_o (fun e_z => hr (by unfold inS; omega))⟩ (by rw [upd_o (by omega)]; exact hsp) ?_ ?_ ?_ v3 v4
      · intro q_z q' q0 hq hq'; rw [hx, hx]; rw [hm_z] at hq'; exact hsr q_z q' q0 hq hq'
      · intro q_z q0 q1_z
        rw [hm_z] at q1_z
        have := hcf q_z q0 q1_z
        by_cases e_z : q_z = t
        · rw [e_z, upd_at]; exact ⟨by omega, fun h_z => absurd rfl h_z⟩
        · rw [upd_o (by omega)]; exact ⟨this.1, fun _ => this.2⟩
      · intro a_z
        rw [LSm_lsf, LSm_lsf, hm_z]
        refine co_merge (t := t.toNat) (fun q_z hq => ?_) ?_ ?_ a_z _ (by omega)
        · exact Prod.ext (upd_o (by omega)) (hx q_z)
        · show xe A s ((t.toNat : Nat) : Int) = xp A
          rw [Int.toNat_of_nonneg ht1.1]; exact hxe
        · refine Prod.ext ?_ ?_
          · show pm_upd A 2 (200 * s + t) (A 2 (200 * s + t) + A 0 5) 2 (200 * s + ((t.toNat : Nat) : Int)) = A 2 (200 * s + ((t.toNat : Nat) : Int)) + A 0 5
            rw [Int.toNat_of_nonneg ht1.1, upd_at]
          · exact (hx ((t.toNat : Nat) : Int)).trans (by rw [Int.toNat_of_nonneg ht1.1]; exact hxe)
  · refine ⟨fun h0 => ?_, fun h0 => ?_⟩
    · exact Or.inl (⟨rfl, h0, rfl⟩)
    · refine ⟨oM_0 (by omega) km0 2 rfl, ?_⟩
      refine ⟨⟨by omega, by omega⟩, ?_⟩
      refine ⟨⟨by omega, by omega⟩, ?_⟩
      refine ⟨aM_2 (r := A 0 2) (by rw [c2_z]; omega) (by rw [c2_z]; exact kn2) (by omega) (by omega), ?_⟩
      have e1 : A (A 0 2) ((200 * s) + t) = A 2 ((200 * s) + t) := by rw [c2_z]
      refine ⟨oM_0 (by omega) km0 5 rfl, ?_⟩
      refine ⟨⟨by omega, by omega⟩, ?_⟩
      refine ⟨tM_2 (r := A 0 2) (by rw [c2_z]; omega) (by rw [c2_z]; exact kn2) (by omega) (by omega) rfl, ?_⟩
      exact Or.inr (⟨rfl, h0, rfl⟩)
theorem add_exq {A : pm_A} {s : Int} (hA : adH A s) : Cl pmt (an_sh wM) 121 [(2, 0), (0, s)] A (adq_post A s) := by
  have hA0 := hA
  obtain ⟨hA1, hs, hsr, hcf, hnum, hsp⟩ := hA
  have c1_z := pM_1 hA1
  have m1_z := eM_1 hA1 (r := 1) (by omega) kn1 hs.1 (show s < 152 by omega)
  refine Cl.of (Nat.le_of_ble_eq_true rfl) ?_
  refine wq_ok (full := o_X10_add) srt_Madd (fr := []) (cuts := [5]) (J := fun pc st_z => (pc = 5 ∧ ∃ t_z, ptI A s t_z ∧ st_z = ([(2, 0), (0, s), (9, 0), (9, 0), (9, 0)], [(0, t_z)], A))) ?_ 7 0 _ ?_
  · rintro pc st_z (⟨rfl, t_z, ht, rfl⟩)
    have ht1 := ht.1
    refine wq_ok srt_Madd (fr := []) (cuts := [22, 47]) (J := fun pc st_z => (pc = 47 ∧ ((A (A 0 1) s) ≤ t_z) ∧ st_z = ([(2, 0), (0, s), (0, t_z), (9, 0), (9, 0)], [], A)) ∨ (pc = 22 ∧ t_z < A (A 0 1) s ∧ ∃ z_z, ((z_z = 1 ∧ cr_Gt (xe A s t_z) (xp A)) ∨ (z_z = 0 ∧ xe A s t_z = xp A) ∨ (z_z = -1 ∧ cr_Gt (xp A) (xe A s t_z))) ∧ st_z = ([(2, 0), (0, s), (0, t_z), (9, 0), (9, 0)], [(0, z_z)], A))) ?_ 15 5 _ ?_
    · rintro pc st_z (⟨rfl, h0, rfl⟩ | ⟨rfl, htm, z_z, hz, rfl⟩)
      · rw [c1_z] at h0
        exact aq_47 hA0 ht (fun h_z => by omega) _ _
      · rw [c1_z] at htm
        exact aq_22 hA0 ht htm hz _ _
    · refine ⟨oM_0 (by omega) km0 1 rfl, ?_⟩
      refine ⟨aM_1 (r := A 0 1) (by rw [c1_z]; omega) (by rw [c1_z]; exact kn1) (by omega) (by omega), ?_⟩
      have e1 : A (A 0 1) s = A 1 s := by rw [c1_z]
      refine ⟨fun h0 => ?_, fun h0 => ?_⟩
      · exact Or.inl (⟨rfl, h0, rfl⟩)
      · refine ⟨rM_0 (by omega) km0, ?_⟩
        refine (against_ex (q := t_z) hA1 hs.1 hs.2 (by omega) (by omega)).imp ?_
        rintro ⟨r1_z, C_z⟩ ⟨rfl, z_z, hz1, hz2⟩
        simp only at hz1 hz2
        subst hz1
        exact Or.inr (⟨rfl, h0, z_z, hz2, rfl⟩)
  · refine ⟨rM_0 (by omega) km0, ?_⟩
    refine (placeIn_ex hA1 hs.1 hs.2 hsr).imp ?_
    rintro ⟨r1_z, C_z⟩ ⟨rfl, t_z, ht1, ht2⟩
    simp only at ht1 ht2
    subst ht1
    exact ⟨rfl, t_z, ht2, rfl⟩
theorem lsf_le {f : Nat → Int × cr_Xp 12} (a : cr_Xp 12) (m : Nat) : ∀ k_z : Nat, (∀ q_z, q_z < m + k_z → 0 < (f q_z).1) → cr_co (lsf m f) a ≤ cr_co (lsf (m + k_z) f) a
  | 0, _ => Int.le_refl _
  | k_z + 1, h_z => by
    have ih_z := lsf_le a m k_z (fun q_z hq => h_z q_z (by omega))
    have hp := h_z (m + k_z) (by omega)
    rw [show m + (k_z + 1) = (m + k_z) + 1 by omega, lsf_succ, co_snoc]
    have := si_nn (show 0 ≤ (f (m + k_z)).1 by omega) (f (m + k_z)).2 a
    have e_z : si (f (m + k_z)) a = si ((f (m + k_z)).1, (f (m + k_z)).2) a := rfl
    omega
theorem shz_nn {y : Int × cr_Xp 12} {l : cr_Pl_ 12} (hy : 0 < y.1) (hl : ∀ z_z ∈ l, 0 < z_z.1) (c : cr_Xp 12) : 0 ≤ cr_co (cr_shz y l) c := by
  rw [cr_co_shz]
  exact Int.mul_nonneg (by omega) (cr_Shr.nonneg hl _)
theorem pmz_le {f : Nat → Int × cr_Xp 12} {L : cr_Pl_ 12} (hL : ∀ z_z ∈ L, 0 < z_z.1) (c : cr_Xp 12) (m : Nat) : ∀ k_z : Nat, (∀ q_z, q_z < m + k_z → 0 < (f q_z).1) → cr_co (cr_pmz (lsf m f) L) c ≤ cr_co (cr_pmz (lsf (m + k_z) f) L) c
  | 0, _ => Int.le_refl _
  | k_z + 1, h_z => by
    have ih_z := pmz_le hL c m k_z (fun q_z hq => h_z q_z (by omega))
    have hp := shz_nn (h_z (m + k_z) (by omega)) hL c
    rw [show m + (k_z + 1) = (m + k_z) + 1 by omega, lsf_succ, pmz_snoc, cr_co_app]
    omega
theorem tm_le {A : pm_A} {a b t u : Int} (ca : cfs A a) (cb : cfs A b) (t0 : 0 ≤ t) (t1 : t < A 1 a) (u0 : 0 ≤ u) (u1 : u < A 1 b) (c : cr_Xp 12) : cr_co (cr_pmz (lsf t.toNat (fa A a)) (LSm A b)) c + cr_co (cr_shz (fa A a t.toNat) (lsf (u + 1).toNat (fa A b))) c ≤ cr_co (cr_pmz (LSm A a) (LSm A b)) c := by
  have pa : ∀ q_z : Nat, (q_z : Int) < A 1 a → 0 < (fa A a q_z).1 := fun q_z hq => by
    have := ca q_z (by omega) hq
    show 0 < A 2 (200 * a + (q_z : Int))
    omega
  have pb : ∀ q_z : Nat, (q_z : Int) < A 1 b → 0 < (fa A b q_z).1 := fun q_z hq => by
    have := cb q_z (by omega) hq
    show 0 < A 2 (200 * b + (q_z : Int))
    omega
  have h1 := pmz_le (f := fa A a) (pos_LSm cb) c (t.toNat + 1) ((A 1 a).toNat - (t.toNat + 1)) (fun q_z hq => pa q_z (by omega))
  rw [show t.toNat + 1 + ((A 1 a).toNat - (t.toNat + 1)) = (A 1 a).toNat by omega, lsf_succ, pmz_snoc, cr_co_app, ← LSm_fa] at h1
  have h2 : cr_co (cr_shz (fa A a t.toNat) (lsf (u + 1).toNat (fa A b))) c ≤ cr_co (cr_shz (fa A a t.toNat) (LSm A b)) c := by
    rw [cr_co_shz, cr_co_shz]
    refine Int.mul_le_mul_of_nonneg_left ?_ (by have := pa t.toNat (by omega); omega)
    have h3 := lsf_le (f := fa A b) (fun i_z => c i_z - (fa A a t.toNat).2 i_z) (u + 1).toNat ((A 1 b).toNat - (u + 1).toNat) (fun q_z hq => pb q_z (by omega))
    rw [show (u + 1).toNat + ((A 1 b).toNat - (u + 1).toNat) = (A 1 b).toNat by omega, ← LSm_fa] at h3
    exact h3
  omega
theorem co_in {l : cr_Pl_ 12} {y : Int × cr_Xp 12} (hy : y ∈ l) (hl : ∀ z_z ∈ l, 0 < z_z.1) : y.1 ≤ cr_co l y.2 := by
  obtain ⟨s_z, t_z, rfl⟩ := List.append_of_mem hy
  rw [cr_co_app, cr_co_cons, if_pos rfl]
  have a_z := cr_Shr.nonneg (l := s_z) (fun z_z hz => hl z_z (List.mem_append.2 (Or.inl hz))) y.2
  have b_z := cr_Shr.nonneg (l := t_z) (fun z_z hz => hl z_z (List.mem_append.2 (Or.inr (List.Mem.tail _ hz)))) y.2
  omega
theorem big_mul {A : pm_A} {a b t u : Int} (ca : cfs A a) (cb : cfs A b) (t0 : 0 ≤ t) (t1 : t < A 1 a) (u0 : 0 ≤ u) (u1 : u < A 1 b) (h : 1000000000000 < A 2 (200 * a + t) * A 2 (200 * b + u)) : BigC (cr_co (cr_pmz (LSm A a) (LSm A b))) := by
  refine Or.inl ⟨fun i_z => xe A a t i_z + xe A b u i_z, ?_⟩
  have h1 := co_in (pmz_in (in_LSm t0 t1) (in_LSm u0 u1)) (pmz_pos (pos_LSm ca) (pos_LSm cb))
  exact Int.lt_of_lt_of_le h h1
abbrev tBg (A : pm_A) (a b : Int) : Prop := BigC (cr_co (cr_pmz (LSm A a) (LSm A b)))
def tmIq (A B : pm_A) (to a b t u : Int) : Prop := tmF A B to ∧ ((B 0 4 = 1 ∧ tBg A a b) ∨ (B 0 4 = 0 ∧ tmG A B to a b t u))
def tmq_post (A : pm_A) (to a b : Int) (r : pm_R) : Prop := r.1 = none ∧ tmF A r.2 to ∧ ((r.2 0 4 = 1 ∧ tBg A a b) ∨ (r.2 0 4 = 0 ∧ srtd r.2 to ∧ cfs r.2 to ∧ ∀ c_z, cr_co (LSm r.2 to) c_z = cr_co (cr_pmz (LSm A a) (LSm A b)) c_z))
theorem tq_111 {A : pm_A} {to a b E1 E2 t u x y : Int} (hH : tmH A to a b E1 E2) (t0 : 0 ≤ t) (t1 : t < A 1 a) (u0 : 0 ≤ u) (u1 : u < A 1 b) (hx : x = A 2 (200 * a + t)) (hy : y = A 2 (200 * b + u)) (hxy : x * y ≤ 1000000000000) {z : pm_R → Prop}
    (H : ∀ C_z w10_z, tmIq A C_z to a b t (u + 1) → Tm pmt (an_sh wM) o_X10_times 31 ([(2, 0), (0, to), (0, a), (0, b), (0, t), (0, u + 1), (1, x), (9, 0), (1, y), (9, 0), w10_z], [], C_z) z) : ∀ (n_z : Nat) (v_z : Int) (B_z : pm_A), (12 - v_z).toNat < n_z → 0 ≤ v_z → v_z ≤ 12 → tmF A B_z to → B_z 0 4 = 0 → tmG A B_z to a b t u → B_z 0 5 = x * y → (∀ i_z : Int, 0 ≤ i_z → i_z < v_z → B_z 4 i_z = A 3 (12 * (200 * a + t) + i_z) + A 3 (12 * (200 * b + u) + i_z)) → Tm pmt (an_sh wM) o_X10_times 111 ([(2, 0), (0, to), (0, a), (0, b), (0, t), (0, u), (1, x), (9, 0), (1, y), (9, 0), (0, v_z)], [], B_z) z := by
  obtain ⟨hA, hto, ha_z, hb_z, hne, cfa, cfb, xa, xbb, hE⟩ := hH
  have ma := eM_1 hA (r := 1) (by omega) kn1 ha_z.1 (show a < 152 by omega)
  have mb := eM_1 hA (r := 1) (by omega) kn1 hb_z.1 (show b < 152 by omega)
  have ca := cfa t t0 t1
  have cb := cfb u u0 u1
  intro n_z
  induction n_z with
  | zero => intro v_z B_z h_z; omega
  | succ n_z ih_z =>
    intro v_z B_z hn v0_z v1_z hF h4 hG h5 hp
    have c3_z := pM_3 hF.1
    have c6_z := pM_6 hF.1
    have xa1 : v_z < 12 → - E1 ≤ B_z 3 (12 * (200 * a + t) + v_z) ∧ B_z 3 (12 * (200 * a + t) + v_z) ≤ E1 := fun hv => by
      rw [tm_slot hF hne.1 3 _ (by unfold inS; omega)]; exact xa t v_z t0 t1 v0_z hv
    have xb1 : v_z < 12 → - E2 ≤ B_z 3 (12 * (200 * b + u) + v_z) ∧ B_z 3 (12 * (200 * b + u) + v_z) ≤ E2 := fun hv => by
      rw [tm_slot hF hne.2 3 _ (by unfold inS; omega)]; exact xbb u v_z u0 u1 v0_z hv
    have hxy1 : 1 ≤ x * y := by
      have := Int.mul_pos (show 0 < x by omega) (show 0 < y by omega)
      omega
    refine wq_ok srt_times (fr := []) (cuts := [111, 175]) (J := fun pc st_z => (pc = 175 ∧ 12 ≤ v_z ∧ ∃ C_z, adF B_z C_z to ∧ ((C_z 0 4 = 1 ∧ BigC (fun a => cr_co (LSm B_z to) a + si (B_z 0 5, xp B_z) a)) ∨ (C_z 0 4 = 0 ∧ srtd C_z to ∧ cfs C_z to ∧ ∀ c_z, cr_co (LSm C_z to) c_z = cr_co (LSm B_z to) c_z + si (B_z 0 5, xp B_z) c_z)) ∧ st_z = ([(2, 0), (0, to), (0, a), (0, b), (0, t), (0, u), (1, x), (9, 0), (1, y), (9, 0), (0, v_z)], [], C_z)) ∨ (pc = 111 ∧ (v_z < 12) ∧ st_z = ([(2, 0), (0, to), (0, a), (0, b), (0, t), (0, u), (1, x), (9, 0), (1, y), (9, 0), (0, v_z + 1)], [], pm_upd B_z (B_z 0 6) v_z ((B_z (B_z 0 3) ((12 * ((200 * a) + t)) + v_z)) + (B_z (B_z 0 3) ((12 * ((200 * b) + u)) + v_z)))))) ?_ 39 111 _ ?_
    · rintro pc st_z (⟨rfl, hv, C_z, hF2, hC, rfl⟩ | ⟨rfl, h0, rfl⟩)
      · refine tm_175 u0 (by omega) (H C_z _ ⟨⟨hF2.1, fun r_z j_z hr h4 h5 => (hF2.2 r_z j_z hr (fun e_z => h5 ⟨e_z.1, Or.inl e_z.2⟩)).trans (hF.2 r_z j_z hr h4 h5)⟩, ?_⟩)
        have e1 : (B_z 0 5, xp B_z) = ((fa A a t.toNat).1 * (fa A b u.toNat).1, fun i_z => (fa A a t.toNat).2 i_z + (fa A b u.toNat).2 i_z) := by
          refine Prod.ext ?_ (funext fun i_z => ?_)
          · show B_z 0 5 = A 2 (200 * a + ((t.toNat : Nat) : Int)) * A 2 (200 * b + ((u.toNat : Nat) : Int))
            rw [Int.toNat_of_nonneg t0, Int.toNat_of_nonneg u0, h5, hx, hy]
          · show B_z 4 (i_z.1 : Int) = A 3 (12 * (200 * a + ((t.toNat : Nat) : Int)) + (i_z.1 : Int)) + A 3 (12 * (200 * b + ((u.toNat : Nat) : Int)) + (i_z.1 : Int))
            rw [Int.toNat_of_nonneg t0, Int.toNat_of_nonneg u0]; exact hp i_z.1 (by omega) (by have := i_z.2; omega)
        have e2 : ∀ c_z, cr_co (LSm B_z to) c_z + si (B_z 0 5, xp B_z) c_z = cr_co (cr_pmz (lsf t.toNat (fa A a)) (LSm A b)) c_z + cr_co (cr_shz (fa A a t.toNat) (lsf (u + 1).toNat (fa A b))) c_z := fun c_z => by
          rw [hG.2.2 c_z, show (u + 1).toNat = u.toNat + 1 by omega, lsf_succ, shz_snoc, co_snoc, e1]; omega
        rcases hC with ⟨hC0, hCb⟩ | ⟨hC1, hC2, hC3, hC4⟩
        · exact Or.inl ⟨hC0, hCb.mono (fun c_z => by rw [e2 c_z]; exact tm_le cfa cfb t0 t1 u0 u1 c_z)⟩
        · exact Or.inr ⟨hC1, hC2, hC3, fun c_z => by rw [hC4 c_z, e2 c_z]⟩
      · rw [c3_z, c6_z]
        have r1_z := xa1 h0
        have r2 := xb1 h0
        refine ih_z (v_z + 1) _ (by omega) (by omega) (by omega) ⟨uM_4 hF.1 kn4 (by omega) (by omega), fun r_z j_z hr h4 h5 => ?_⟩ (by rw [upd_o (by omega)]; exact h4) ⟨?_, ?_, fun c_z => ?_⟩ (by rw [upd_o (by omega)]; exact h5) (fun i_z i0_z i1_z => ?_)
        · rw [upd_o (by omega)]; exact hF.2 r_z j_z hr h4 h5
        · exact hG.1
        · exact hG.2.1
        · exact hG.2.2 c_z
        · by_cases hi_z : i_z = v_z
          · rw [hi_z, upd_at, tm_slot hF hne.1 3 _ (by unfold inS; omega), tm_slot hF hne.2 3 _ (by unfold inS; omega)]
          · rw [upd_o (by omega)]; exact hp i_z i0_z (by omega)
    · refine ⟨fun h0 => ?_, fun h0 => ?_⟩
      · refine ⟨rM_0 (by omega) km0, ?_⟩
        refine (add_exq (s := to) ⟨hF.1, hto, hG.1, hG.2.1, by rw [h5]; exact ⟨hxy1, hxy⟩, h4⟩).imp ?_
        rintro ⟨r1_z, C_z⟩ ⟨hr1, hF2, hC⟩
        simp only at hr1 hF2 hC
        subst hr1
        exact Or.inl (⟨rfl, h0, C_z, hF2, hC, rfl⟩)
      · refine ⟨oM_0 (by omega) km0 6 rfl, ?_⟩
        refine ⟨oM_0 (by omega) km0 3 rfl, ?_⟩
        refine ⟨⟨by omega, by omega⟩, ?_⟩
        refine ⟨⟨by omega, by omega⟩, ?_⟩
        refine ⟨⟨by omega, by omega⟩, ?_⟩
        refine ⟨⟨by omega, by omega⟩, ?_⟩
        refine ⟨aM_3 (r := B_z 0 3) (by rw [c3_z]; omega) (by rw [c3_z]; exact kn3) (by omega) (by omega), ?_⟩
        have e1 : B_z (B_z 0 3) ((12 * ((200 * a) + t)) + v_z) = B_z 3 ((12 * ((200 * a) + t)) + v_z) := by rw [c3_z]
        refine ⟨oM_0 (by omega) km0 3 rfl, ?_⟩
        refine ⟨⟨by omega, by omega⟩, ?_⟩
        refine ⟨⟨by omega, by omega⟩, ?_⟩
        refine ⟨⟨by omega, by omega⟩, ?_⟩
        refine ⟨⟨by omega, by omega⟩, ?_⟩
        refine ⟨aM_3 (r := B_z 0 3) (by rw [c3_z]; omega) (by rw [c3_z]; exact kn3) (by omega) (by omega), ?_⟩
        have e2 : B_z (B_z 0 3) ((12 * ((200 * b) + u)) + v_z) = B_z 3 ((12 * ((200 * b) + u)) + v_z) := by rw [c3_z]
        refine ⟨⟨by omega, by omega⟩, ?_⟩
        refine ⟨tM_4 (r := B_z 0 6) (by rw [c6_z]; omega) (by rw [c6_z]; exact kn4) (by omega) (by omega) rfl, ?_⟩
        refine ⟨⟨by omega, by omega⟩, ?_⟩
        exact Or.inr (⟨rfl, h0, rfl⟩)
theorem tq_31 {A : pm_A} {to a b E1 E2 t : Int} (hH : tmH A to a b E1 E2) (t0 : 0 ≤ t) (t1 : t < A 1 a) {z : pm_R → Prop} (H : ∀ C_z v5 w6_z w7_z w8 w9 w10_z, tmF A C_z to → ((C_z 0 4 = 1 ∧ tBg A a b) ∨ (C_z 0 4 = 0 ∧ srtd C_z to ∧ cfs C_z to ∧ ∀ c_z, cr_co (LSm C_z to) c_z = cr_co (cr_pmz (lsf (t + 1).toNat (fa A a)) (LSm A b)) c_z)) → Tm pmt (an_sh wM) o_X10_times 10 ([(2, 0), (0, to), (0, a), (0, b), (0, t + 1), v5, w6_z, w7_z, w8, w9, w10_z], [], C_z) z) : ∀ (n_z : Nat) (u_z : Int) (w6_z w7_z w8 w9 w10_z : pm_V) (B_z : pm_A), (A 1 b - u_z).toNat < n_z → 0 ≤ u_z → u_z ≤ A 1 b → tmIq A B_z to a b t u_z → Tm pmt (an_sh wM) o_X10_times 31 ([(2, 0), (0, to), (0, a), (0, b), (0, t), (0, u_z), w6_z, w7_z, w8, w9, w10_z], [], B_z) z := by
  have hH0 := hH
  obtain ⟨hA, hto, ha_z, hb_z, hne, cfa, cfb, xa, xbb, hE⟩ := hH
  have ma := eM_1 hA (r := 1) (by omega) kn1 ha_z.1 (show a < 152 by omega)
  have mb := eM_1 hA (r := 1) (by omega) kn1 hb_z.1 (show b < 152 by omega)
  intro n_z
  induction n_z with
  | zero => intro u_z w6_z w7_z w8 w9 w10_z B_z h_z; omega
  | succ n_z ih_z =>
    intro u_z w6_z w7_z w8 w9 w10_z B_z hn u0 u1_z hI
    obtain ⟨hF, hI2⟩ := hI
    have c1_z := pM_1 hF.1
    have c2_z := pM_2 hF.1
    have mB : B_z 1 b = A 1 b := tm_slot hF hne.2 1 b (Or.inl ⟨rfl, rfl⟩)
    have s4_z := fM_0_4 hF.1 (r := 0) (by omega) km0
    have nx : ∀ q_z : Int, 0 ≤ q_z → q_z < 200 → B_z 2 (200 * a + q_z) = A 2 (200 * a + q_z) := fun q_z q0 q1_z => tm_slot hF hne.1 2 _ (by unfold inS; omega)
    have ny : ∀ q_z : Int, 0 ≤ q_z → q_z < 200 → B_z 2 (200 * b + q_z) = A 2 (200 * b + q_z) := fun q_z q0 q1_z => tm_slot hF hne.2 2 _ (by unfold inS; omega)
    have ca := cfa t t0 t1
    have nxt_z := nx t t0 (by omega)
    have cbu : u_z < A 1 b → (1 ≤ A 2 (200 * b + u_z) ∧ A 2 (200 * b + u_z) ≤ 1000000000000) ∧ B_z 2 (200 * b + u_z) = A 2 (200 * b + u_z) := fun h_z => ⟨cfb u_z u0 h_z, ny u_z u0 (by omega)⟩
    have hend : (B_z 0 4 ≠ 0 ∨ A 1 b ≤ u_z) → Tm pmt (an_sh wM) o_X10_times 181 ([(2, 0), (0, to), (0, a), (0, b), (0, t), (0, u_z), w6_z, w7_z, w8, w9, w10_z], [], B_z) z := fun hc_z => by
      refine wq_ok srt_times (fr := []) (cuts := [10]) (J := fun pc st_z => (pc = 10 ∧ st_z = ([(2, 0), (0, to), (0, a), (0, b), (0, t + 1), (0, u_z), w6_z, w7_z, w8, w9, w10_z], [], B_z))) ?_ 7 181 _ ?_
      · rintro pc st_z (⟨rfl, rfl⟩)
        refine H B_z _ _ _ _ _ _ hF ?_
        rcases hI2 with h_z | ⟨h1, h2, h3, h4⟩
        · exact Or.inl h_z
        · refine Or.inr ⟨h1, h2, h3, fun c_z => ?_⟩
          have hu : u_z = A 1 b := by omega
          rw [h4 c_z, show (t + 1).toNat = t.toNat + 1 by omega, lsf_succ, pmz_snoc, cr_co_app, hu, ← LSm_fa]
      · refine ⟨⟨by omega, by omega⟩, ?_⟩
        exact ⟨rfl, rfl⟩
    refine wq_ok srt_times (fr := []) (cuts := [111, 175, 181]) (J := fun pc st_z => (pc = 181 ∧ ((B_z (B_z 0 1) b) ≤ u_z) ∧ st_z = ([(2, 0), (0, to), (0, a), (0, b), (0, t), (0, u_z), w6_z, w7_z, w8, w9, w10_z], [], B_z)) ∨ (pc = 181 ∧ (u_z < (B_z (B_z 0 1) b)) ∧ (¬ (B_z 0 4) = 0) ∧ st_z = ([(2, 0), (0, to), (0, a), (0, b), (0, t), (0, u_z), w6_z, w7_z, w8, w9, w10_z], [], B_z)) ∨ (pc = 175 ∧ (u_z < (B_z (B_z 0 1) b)) ∧ ((B_z 0 4) = 0) ∧ ((Int.tdiv 1000000000000 (B_z (B_z 0 2) ((200 * b) + u_z))) < (B_z (B_z 0 2) ((200 * a) + t))) ∧ st_z = ([(2, 0), (0, to), (0, a), (0, b), (0, t), (0, u_z), (1, B_z (B_z 0 2) ((200 * a) + t)), (9, 0), (1, B_z (B_z 0 2) ((200 * b) + u_z)), (9, 0), w10_z], [], pm_upd B_z 0 4 1)) ∨ (pc = 111 ∧ (u_z < (B_z (B_z 0 1) b)) ∧ ((B_z 0 4) = 0) ∧ ((B_z (B_z 0 2) ((200 * a) + t)) = (Int.tdiv 1000000000000 (B_z (B_z 0 2) ((200 * b) + u_z)))) ∧ st_z = ([(2, 0), (0, to), (0, a), (0, b), (0, t), (0, u_z), (1, B_z (B_z 0 2) ((200 * a) + t)), (9, 0), (1, B_z (B_z 0 2) ((200 * b) + u_z)), (9, 0), (0, 0)], [], pm_upd B_z 0 5 ((B_z (B_z 0 2) ((200 * a) + t)) * (B_z (B_z 0 2) ((200 * b) + u_z))))) ∨ (pc = 111 ∧ (u_z < (B_z (B_z 0 1) b)) ∧ ((B_z 0 4) = 0) ∧ ((B_z (B_z 0 2) ((200 * a) + t)) < (Int.tdiv 1000000000000 (B_z (B_z 0 2) ((200 * b) + u_z)))) ∧ st_z = ([(2, 0), (0, to), (0, a), (0, b), (0, t), (0, u_z), (1, B_z (B_z 0 2) ((200 * a) + t)), (9, 0), (1, B_z (B_z 0 2) ((200 * b) + u_z)), (9, 0), (0, 0)], [], pm_upd B_z 0 5 ((B_z (B_z 0 2) ((200 * a) + t)) * (B_z (B_z 0 2) ((200 * b) + u_z)))))) ?_ 45 31 _ ?_
    · rintro pc st_z (⟨rfl, h0, rfl⟩ | ⟨rfl, h0, h1, rfl⟩ | ⟨rfl, h0, h1, h2, rfl⟩ | ⟨rfl, h0, h1, h2, rfl⟩ | ⟨rfl, h0, h1, h2, rfl⟩)
      · exact hend (by rw [c1_z] at h0; omega)
      · exact hend (Or.inl h1)
      · have hu : u_z < A 1 b := by rw [c1_z, mB] at h0; exact h0
        have hbg : tBg A a b := by
          rw [c2_z] at h2
          have hb1 := cbu hu
          rw [Int.tdiv_eq_ediv_of_nonneg (by omega)] at h2
          refine big_mul cfa cfb t0 t1 u0 hu ?_
          rw [← nxt_z, ← hb1.2]
          refine Classical.byContradiction (fun hn => ?_)
          have := (Int.le_ediv_iff_mul_le (show 0 < B_z 2 (200 * b + u_z) by omega)).2 (show B_z 2 (200 * a + t) * B_z 2 (200 * b + u_z) ≤ 1000000000000 by omega)
          omega
        refine tm_175 u0 (by omega) (ih_z (u_z + 1) _ _ _ _ _ _ (by omega) (by omega) (by omega) ⟨⟨uM_0_4 hF.1 (by omega) (by omega), fun r_z j_z hr h4 h5 => ?_⟩, Or.inl ⟨upd_at, hbg⟩⟩)
        rw [upd_o (fun e_z => h5 ⟨e_z.1, Or.inl e_z.2⟩)]; exact hF.2 r_z j_z hr h4 h5
      · rw [c1_z] at h0
        rw [c2_z] at h2 ⊢
        have hb1 := cbu (by omega)
        obtain ⟨hI3, hG⟩ : B_z 0 4 = 0 ∧ tmG A B_z to a b t u_z := by
          rcases hI2 with h_z | h_z
          · have := h_z.1; omega
          · exact h_z
        have hxy : B_z 2 (200 * a + t) * B_z 2 (200 * b + u_z) ≤ 1000000000000 := by
          rw [Int.tdiv_eq_ediv_of_nonneg (by omega)] at h2
          exact (Int.le_ediv_iff_mul_le (by omega)).1 (by omega)
        have hp := Int.mul_pos (show 0 < B_z 2 (200 * a + t) by omega) (show 0 < B_z 2 (200 * b + u_z) by omega)
        refine tq_111 (E1 := E1) (E2 := E2) (x := B_z 2 (200 * a + t)) (y := B_z 2 (200 * b + u_z)) hH0 t0 t1 u0 (by omega) nxt_z hb1.2 hxy (fun C_z w10_z hC => ih_z (u_z + 1) _ _ _ _ _ C_z (by omega) (by omega) (by omega) hC) _ 0 _ (Nat.lt_succ_self _) (by omega) (by omega) ⟨uM_0_5 hF.1 (by omega) (by omega), fun r_z j_z hr h4 h5 => ?_⟩ (by rw [upd_o (by omega)]; exact hI3) hG upd_at (fun i_z i0_z i1_z => by omega)
        rw [upd_o (fun e_z => h5 ⟨e_z.1, Or.inr e_z.2⟩)]; exact hF.2 r_z j_z hr h4 h5
      · rw [c1_z] at h0
        rw [c2_z] at h2 ⊢
        have hb1 := cbu (by omega)
        obtain ⟨hI3, hG⟩ : B_z 0 4 = 0 ∧ tmG A B_z to a b t u_z := by
          rcases hI2 with h_z | h_z
          · have := h_z.1; omega
          · exact h_z
        have hxy : B_z 2 (200 * a + t) * B_z 2 (200 * b + u_z) ≤ 1000000000000 := by
          rw [Int.tdiv_eq_ediv_of_nonneg (by omega)] at h2
          exact (Int.le_ediv_iff_mul_le (by omega)).1 (by omega)
        have hp := Int.mul_pos (show 0 < B_z 2 (200 * a + t) by omega) (show 0 < B_z 2 (200 * b + u_z) by omega)
        refine tq_111 (E1 := E1) (E2 := E2) (x := B_z 2 (200 * a + t)) (y := B_z 2 (200 * b + u_z)) hH0 t0 t1 u0 (by omega) nxt_z hb1.2 hxy (fun C_z w10_z hC => ih_z (u_z + 1) _ _ _ _ _ C_z (by omega) (by omega) (by omega) hC) _ 0 _ (Nat.lt_succ_self _) (by omega) (by omega) ⟨uM_0_5 hF.1 (by omega) (by omega), fun r_z j_z hr h4 h5 => ?_⟩ (by rw [upd_o (by omega)]; exact hI3) hG upd_at (fun i_z i0_z i1_z => by omega)
        rw [upd_o (fun e_z => h5 ⟨e_z.1, Or.inr e_z.2⟩)]; exact hF.2 r_z j_z hr h4 h5
    · refine ⟨oM_0 (by omega) km0 1 rfl, ?_⟩
      refine ⟨aM_1 (r := B_z 0 1) (by rw [c1_z]; omega) (by rw [c1_z]; exact kn1) (by omega) (by omega), ?_⟩
      have e1 : B_z (B_z 0 1) b = B_z 1 b := by rw [c1_z]
      refine ⟨fun h0 => ?_, fun h0 => ?_⟩
      · exact Or.inl (⟨rfl, h0, rfl⟩)
      · refine ⟨oM_0 (by omega) km0 4 rfl, ?_⟩
        refine ⟨fun h1 => ?_, fun h1 => ?_⟩
        · exact Or.inr (Or.inl (⟨rfl, h0, h1, rfl⟩))
        · refine ⟨oM_0 (by omega) km0 2 rfl, ?_⟩
          refine ⟨⟨by omega, by omega⟩, ?_⟩
          refine ⟨⟨by omega, by omega⟩, ?_⟩
          refine ⟨aM_2 (r := B_z 0 2) (by rw [c2_z]; omega) (by rw [c2_z]; exact kn2) (by omega) (by omega), ?_⟩
          have e2 : B_z (B_z 0 2) ((200 * a) + t) = B_z 2 ((200 * a) + t) := by rw [c2_z]
          refine ⟨oM_0 (by omega) km0 2 rfl, ?_⟩
          refine ⟨⟨by omega, by omega⟩, ?_⟩
          refine ⟨⟨by omega, by omega⟩, ?_⟩
          refine ⟨aM_2 (r := B_z 0 2) (by rw [c2_z]; omega) (by rw [c2_z]; exact kn2) (by omega) (by omega), ?_⟩
          have e3 : B_z (B_z 0 2) ((200 * b) + u_z) = B_z 2 ((200 * b) + u_z) := by rw [c2_z]
          refine ⟨⟨by rw [e3]; have := cbu (by omega); omega, ⟨by omega, by omega⟩, ⟨by rw [e3]; have := cbu (by omega); omega, by rw [e3]; have := cbu (by omega); omega⟩, fun hh => absurd hh (by decide)⟩, ?_⟩
          refine ⟨fun h2 => ?_, fun h2 => ?_, fun h2 => ?_⟩
          · refine ⟨fun hh => absurd hh (by decide), fun _ => ?_⟩
            refine ⟨oM_0 (by omega) km0 4 rfl, ?_⟩
            exact Or.inr (Or.inr (Or.inl (⟨rfl, h0, h1, h2, rfl⟩)))
          · refine ⟨fun _ => ?_, fun hh => absurd hh (by decide)⟩
            refine ⟨(by have h2q : B_z (B_z 0 2) ((200 * a) + t) ≤ Int.tdiv 1000000000000 (B_z (B_z 0 2) ((200 * b) + u_z)) := (by first | exact Int.le_of_eq h2 | exact Int.le_of_lt h2); rw [e2, e3]; have hb1 := cbu (by omega); rw [e2, e3] at h2q; rw [Int.tdiv_eq_ediv_of_nonneg (by omega)] at h2q; have hl := (Int.le_ediv_iff_mul_le (show 0 < B_z 2 (200 * b + u_z) by omega)).1 (show B_z 2 (200 * a + t) ≤ 1000000000000 / B_z 2 (200 * b + u_z) by omega); have hp := Int.mul_pos (show 0 < B_z 2 (200 * a + t) by omega) (show 0 < B_z 2 (200 * b + u_z) by omega); exact ⟨by omega, by omega⟩), ?_⟩
            refine ⟨oM_0 (by omega) km0 5 rfl, ?_⟩
            exact Or.inr (Or.inr (Or.inr (Or.inl (⟨rfl, h0, h1, h2, rfl⟩))))
          · refine ⟨fun _ => ?_, fun hh => absurd hh (by decide)⟩
            refine ⟨(by have h2q : B_z (B_z 0 2) ((200 * a) + t) ≤ Int.tdiv 1000000000000 (B_z (B_z 0 2) ((200 * b) + u_z)) := (by first | exact Int.le_of_eq h2 | exact Int.le_of_lt h2); rw [e2, e3]; have hb1 := cbu (by omega); rw [e2, e3] at h2q; rw [Int.tdiv_eq_ediv_of_nonneg (by omega)] at h2q; have hl := (Int.le_ediv_iff_mul_le (show 0 < B_z 2 (200 * b + u_z) by omega)).1 (show B_z 2 (200 * a + t) ≤ 1000000000000 / B_z 2 (200 * b + u_z) by omega); have hp := Int.mul_pos (show 0 < B_z 2 (200 * a + t) by omega) (show 0 < B_z 2 (200 * b + u_z) by omega); exact ⟨by omega, by omega⟩), ?_⟩
            refine ⟨oM_0 (by omega) km0 5 rfl, ?_⟩
            exact Or.inr (Or.inr (Or.inr (Or.inr (⟨rfl, h0, h1, h2, rfl⟩))))
theorem tq_10 {A : pm_A} {to a b E1 E2 : Int} (hH : tmH A to a b E1 E2) : ∀ (n_z : Nat) (t_z : Int) (v5 w6_z w7_z w8 w9 w10_z : pm_V) (B_z : pm_A), (A 1 a - t_z).toNat < n_z → 0 ≤ t_z → t_z ≤ A 1 a → tmF A B_z to → ((B_z 0 4 = 1 ∧ tBg A a b) ∨ (B_z 0 4 = 0 ∧ srtd B_z to ∧ cfs B_z to ∧ ∀ c_z, cr_co (LSm B_z to) c_z = cr_co (cr_pmz (lsf t_z.toNat (fa A a)) (LSm A b)) c_z)) → Tm pmt (an_sh wM) o_X10_times 10 ([(2, 0), (0, to), (0, a), (0, b), (0, t_z), v5, w6_z, w7_z, w8, w9, w10_z], [], B_z) (tmq_post A to a b) := by
  have hH0 := hH
  obtain ⟨hA, hto, ha_z, hb_z, hne, cfa, cfb, xa, xbb, hE⟩ := hH
  have ma := eM_1 hA (r := 1) (by omega) kn1 ha_z.1 (show a < 152 by omega)
  have mb := eM_1 hA (r := 1) (by omega) kn1 hb_z.1 (show b < 152 by omega)
  intro n_z
  induction n_z with
  | zero => intro t_z v5 w6_z w7_z w8 w9 w10_z B_z h_z; omega
  | succ n_z ih_z =>
    intro t_z v5 w6_z w7_z w8 w9 w10_z B_z hn t0_z t1_z hF hI
    have c1_z := pM_1 hF.1
    have mB : B_z 1 a = A 1 a := tm_slot hF hne.1 1 a (Or.inl ⟨rfl, rfl⟩)
    have s4_z := fM_0_4 hF.1 (r := 0) (by omega) km0
    have hend : (B_z 0 4 ≠ 0 ∨ A 1 a ≤ t_z) → tmq_post A to a b (none, B_z) := fun hc_z => ⟨rfl, hF, by
      rcases hI with h_z | ⟨h1, h2, h3, h4⟩
      · exact Or.inl h_z
      · refine Or.inr ⟨h1, h2, h3, fun c_z => ?_⟩
        have ht : t_z = A 1 a := by omega
        rw [h4 c_z, ht, ← LSm_fa]⟩
    refine wq_ok srt_times (fr := []) (cuts := [31]) (J := fun pc st_z => (pc = 31 ∧ (t_z < (B_z (B_z 0 1) a)) ∧ ((B_z 0 4) = 0) ∧ st_z = ([(2, 0), (0, to), (0, a), (0, b), (0, t_z), (0, 0), w6_z, w7_z, w8, w9, w10_z], [], B_z))) ?_ 16 10 _ ?_
    · rintro pc st_z (⟨rfl, h0, h1, rfl⟩)
      rw [c1_z, mB] at h0
      refine tq_31 hH0 t0_z (by omega) (fun C_z v5 w6_z w7_z w8 w9 w10_z hC hC2 => ih_z (t_z + 1) v5 w6_z w7_z w8 w9 w10_z C_z (by omega) (by omega) (by omega) hC hC2) _ 0 _ _ _ _ _ B_z (Nat.lt_succ_self _) (by omega) (by omega) ⟨hF, ?_⟩
      rcases hI with h_z | ⟨h1, h2, h3, h4⟩
      · exact Or.inl h_z
      · exact Or.inr ⟨h1, h2, h3, fun c_z => by rw [h4 c_z]; show _ = _ + (0 : Int); omega⟩
    · refine ⟨oM_0 (by omega) km0 1 rfl, ?_⟩
      refine ⟨aM_1 (r := B_z 0 1) (by rw [c1_z]; omega) (by rw [c1_z]; exact kn1) (by omega) (by omega), ?_⟩
      have e1 : B_z (B_z 0 1) a = B_z 1 a := by rw [c1_z]
      refine ⟨fun h0 => ?_, fun h0 => ?_⟩
      · exact hend (Or.inr (by rw [c1_z, mB] at h0; omega))
      · refine ⟨oM_0 (by omega) km0 4 rfl, ?_⟩
        refine ⟨fun h1 => ?_, fun h1 => ?_⟩
        · exact hend (Or.inl h1)
        · exact ⟨rfl, h0, h1, rfl⟩
theorem times_exq {A : pm_A} {to a b E1 E2 : Int} (hH : tmH A to a b E1 E2) (h4 : A 0 4 = 0) : Cl pmt (an_sh wM) 196 [(2, 0), (0, to), (0, a), (0, b)] A (tmq_post A to a b) := by
  have hH0 := hH
  obtain ⟨hA, hto, ha_z, hb_z, hne, cfa, cfb, xa, xbb, hE⟩ := hH
  have ma := eM_1 hA (r := 1) (by omega) kn1 ha_z.1 (show a < 152 by omega)
  have c1_z := pM_1 hA
  refine Cl.of (Nat.le_of_ble_eq_true rfl) ?_
  refine wq_ok (full := o_X10_times) srt_times (fr := []) (cuts := [10]) (J := fun pc st_z => (pc = 10 ∧ st_z = ([(2, 0), (0, to), (0, a), (0, b), (0, 0), (9, 0), (9, 0), (9, 0), (9, 0), (9, 0), (9, 0)], [], pm_upd A (A 0 1) to 0))) ?_ 12 0 _ ?_
  · rintro pc st_z (⟨rfl, rfl⟩)
    rw [c1_z]
    have hm_z : pm_upd A 1 to 0 1 to = 0 := upd_at
    refine tq_10 hH0 _ 0 _ _ _ _ _ _ _ (Nat.lt_succ_self _) (by omega) (by omega) ⟨uM_1 hA kn1 (by omega) (by omega), fun r_z j_z hr _ _ => upd_o (fun e_z => hr (by unfold inS; omega))⟩ (Or.inr ⟨by rw [upd_o (by omega)]; exact h4, fun q_z q2_z h1 h2 h3 => by rw [hm_z] at h3; omega, fun q_z h1 h2 => by rw [hm_z] at h2; omega, fun c_z => ?_⟩)
    unfold LSm
    rw [hm_z]
    rfl
  · refine ⟨oM_0 (by omega) km0 1 rfl, ?_⟩
    refine ⟨tM_1 (r := A 0 1) (by rw [c1_z]; omega) (by rw [c1_z]; exact kn1) (by omega) (by omega) rfl, ?_⟩
    exact ⟨rfl, rfl⟩
