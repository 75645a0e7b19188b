/-! the reference: areAlike and isBegun exactly -/
def mao (A : pm_A) (a b : Int) (r : pm_R) : Prop := r.2 = A ∧ ((r.1 = some (0, 0) ∧ ¬ LSm A a = LSm A b) ∨ (r.1 = some (0, 1) ∧ LSm A a = LSm A b))
theorem LSm_at {A B : pm_A} {a b : Int} (h : LSm A a = LSm B b) (a0 : 0 ≤ A 1 a) (b0 : 0 ≤ B 1 b) : A 1 a = B 1 b ∧ ∀ t_z : Int, 0 ≤ t_z → t_z < A 1 a → A 2 (200 * a + t_z) = B 2 (200 * b + t_z) ∧ ∀ v_z : Int, 0 ≤ v_z → v_z < 12 → A 3 (12 * (200 * a + t_z) + v_z) = B 3 (12 * (200 * b + t_z) + v_z) := by
  have hlen : A 1 a = B 1 b := by
    have h1 := congrArg List.length h
    rw [LSm_len, LSm_len] at h1
    omega
  refine ⟨hlen, fun t_z t0_z t1_z => ?_⟩
  have h2 : (LSm A a)[t_z.toNat]? = (LSm B b)[t_z.toNat]? := by rw [h]
  unfold LSm at h2
  rw [List.getElem?_map, List.getElem?_map, List.getElem?_range (by omega), List.getElem?_range (by omega)] at h2
  have h3 : (A 2 (200 * a + ((t_z.toNat : Nat) : Int)), xe A a ((t_z.toNat : Nat) : Int)) = (B 2 (200 * b + ((t_z.toNat : Nat) : Int)), xe B b ((t_z.toNat : Nat) : Int)) := Option.some.inj h2
  rw [Int.toNat_of_nonneg t0_z] at h3
  refine ⟨congrArg Prod.fst h3, fun v_z v0_z v1_z => ?_⟩
  have h4 := congrFun (congrArg Prod.snd h3) ⟨v_z.toNat, by omega⟩
  have h5 : A 3 (12 * (200 * a + t_z) + ((v_z.toNat : Nat) : Int)) = B 3 (12 * (200 * b + t_z) + ((v_z.toNat : Nat) : Int)) := h4
  rw [Int.toNat_of_nonneg v0_z] at h5
  exact h5
theorem alb_v {A : pm_A} {a b t : Int} (hA : gH wM A) (ha : 0 ≤ a ∧ a ≤ 151) (hb : 0 ≤ b ∧ b ≤ 151) (ht : 0 ≤ t ∧ t ≤ 199) {z : pm_R → Prop} (H0 : (∃ v_z : Int, (0 ≤ v_z ∧ v_z < 12) ∧ ¬ A 3 (12 * (200 * a + t) + v_z) = A 3 (12 * (200 * b + t) + v_z)) → z (some (0, 0), A)) (H : (∀ v_z : Int, 0 ≤ v_z → v_z < 12 → A 3 (12 * (200 * a + t) + v_z) = A 3 (12 * (200 * b + t) + v_z)) → ∀ w4_z, Tm pmt (an_sh wM) o_X10_areAlike 19 ([(2, 0), (0, a), (0, b), (0, t + 1), w4_z], [], A) z) : ∀ (m_z : Nat) (v_z : Int), (12 - v_z).toNat < m_z → 0 ≤ v_z → v_z ≤ 12 → (∀ i_z : Int, 0 ≤ i_z → i_z < v_z → A 3 (12 * (200 * a + t) + i_z) = A 3 (12 * (200 * b + t) + i_z)) → Tm pmt (an_sh wM) o_X10_areAlike 62 ([(2, 0), (0, a), (0, b), (0, t), (0, v_z)], [], A) z := by
  have c3_z := pM_3 hA
  intro m_z
  induction m_z with
  | zero => intro v_z h_z; omega
  | succ m_z ih_z =>
    intro v_z hm_z v0_z v1_z hv
    refine wq_ok srt_areAlike (fr := []) (cuts := [19, 62]) (J := fun pc st_z => (pc = 19 ∧ (12 ≤ v_z) ∧ st_z = ([(2, 0), (0, a), (0, b), (0, t + 1), (0, v_z)], [], A)) ∨ (pc = 62 ∧ (v_z < 12) ∧ ((A (A 0 3) ((12 * ((200 * a) + t)) + v_z)) = (A (A 0 3) ((12 * ((200 * b) + t)) + v_z))) ∧ st_z = ([(2, 0), (0, a), (0, b), (0, t), (0, v_z + 1)], [], A))) ?_ 35 62 _ ?_
    · rintro pc st_z (⟨rfl, h0, rfl⟩ | ⟨rfl, h0, h1, rfl⟩)
      · exact H (fun i_z i0_z i1_z => hv i_z i0_z (by omega)) _
      · rw [c3_z] at h1
        refine ih_z (v_z + 1) (by omega) (by omega) (by omega) (fun i_z i0_z i1_z => ?_)
        by_cases e_z : i_z = v_z
        · rw [e_z]; exact h1
        · exact hv i_z i0_z (by omega)
    · refine ⟨fun h0 => ?_, fun h0 => ?_⟩
      · refine ⟨⟨by omega, by omega⟩, ?_⟩
        exact Or.inl (⟨rfl, h0, rfl⟩)
      · refine ⟨oM_0 (by omega) km0 3 rfl, ?_⟩
        refine ⟨⟨by omega, by omega⟩, ?_⟩
        refine ⟨⟨by omega, by omega⟩, ?_⟩
        refine ⟨⟨by omega, by omega⟩, ?_⟩
        refine ⟨⟨by omega, by omega⟩, ?_⟩
        refine ⟨aM_3 (r := A 0 3) (by rw [c3_z]; omega) (by rw [c3_z]; exact kn3) (by omega) (by omega), ?_⟩
        have e1 : A (A 0 3) ((12 * ((200 * a) + t)) + v_z) = A 3 ((12 * ((200 * a) + t)) + v_z) := by rw [c3_z]
        refine ⟨oM_0 (by omega) km0 3 rfl, ?_⟩
        refine ⟨⟨by omega, by omega⟩, ?_⟩
        refine ⟨⟨by omega, by omega⟩, ?_⟩
        refine ⟨⟨by omega, by omega⟩, ?_⟩
        refine ⟨⟨by omega, by omega⟩, ?_⟩
        refine ⟨aM_3 (r := A 0 3) (by rw [c3_z]; omega) (by rw [c3_z]; exact kn3) (by omega) (by omega), ?_⟩
        have e2 : A (A 0 3) ((12 * ((200 * b) + t)) + v_z) = A 3 ((12 * ((200 * b) + t)) + v_z) := by rw [c3_z]
        refine ⟨fun h1 => ?_, fun h1 => ?_⟩
        · refine ⟨⟨by omega, by omega⟩, ?_⟩
          exact Or.inr (⟨rfl, h0, h1, rfl⟩)
        · exact ⟨rfl, H0 ⟨v_z, ⟨v0_z, h0⟩, by rw [c3_z] at h1; exact h1⟩⟩
theorem alb_19 {A : pm_A} {a b : Int} (hA : gH wM A) (ha : 0 ≤ a ∧ a ≤ 151) (hb : 0 ≤ b ∧ b ≤ 151) (hm0 : A 1 a = A 1 b) : ∀ (m_z : Nat) (t_z : Int) (w4_z : pm_V), (A 1 a - t_z).toNat < m_z → 0 ≤ t_z → t_z ≤ A 1 a → (∀ q_z v_z : Int, 0 ≤ q_z → q_z < t_z → 0 ≤ v_z → v_z < 12 → A 2 (200 * a + q_z) = A 2 (200 * b + q_z) ∧ A 3 (12 * (200 * a + q_z) + v_z) = A 3 (12 * (200 * b + q_z) + v_z)) → Tm pmt (an_sh wM) o_X10_areAlike 19 ([(2, 0), (0, a), (0, b), (0, t_z), w4_z], [], A) (mao A a b) := by
  have c1_z := pM_1 hA
  have c2_z := pM_2 hA
  have ma := eM_1 hA (r := 1) (by omega) kn1 ha.1 (show a < 152 by omega)
  intro m_z
  induction m_z with
  | zero => intro t_z w4_z h_z; omega
  | succ m_z ih_z =>
    intro t_z w4_z hm_z t0_z t1_z hq
    refine wq_ok srt_areAlike (fr := []) (cuts := [62]) (J := fun pc st_z => (pc = 62 ∧ (t_z < (A (A 0 1) a)) ∧ ((A (A 0 2) ((200 * a) + t_z)) = (A (A 0 2) ((200 * b) + t_z))) ∧ st_z = ([(2, 0), (0, a), (0, b), (0, t_z), (0, 0)], [], A))) ?_ 31 19 _ ?_
    · rintro pc st_z (⟨rfl, h0, h1, rfl⟩)
      rw [c1_z] at h0
      rw [c2_z] at h1
      refine alb_v hA ha hb ⟨t0_z, by omega⟩ (fun ⟨v_z, hv, hne⟩ => ⟨rfl, Or.inl ⟨rfl, fun q_z => hne ((LSm_at q_z ma.1 (eM_1 hA (r := 1) (by omega) kn1 hb.1 (show b < 152 by omega)).1).2 t_z t0_z h0 |>.2 v_z hv.1 hv.2)⟩⟩) (fun hv w4_z => ih_z (t_z + 1) w4_z (by omega) (by omega) (by omega) (fun q_z v_z q0 q1_z v0_z v1_z => ?_)) _ 0 (Nat.lt_succ_self _) (by omega) (by omega) (fun i_z i0_z i1_z => by omega)
      by_cases e_z : q_z = t_z
      · rw [e_z]; exact ⟨h1, hv v_z v0_z v1_z⟩
      · exact hq q_z v_z q0 (by omega) v0_z v1_z
    · refine ⟨oM_0 (by omega) km0 1 rfl, ?_⟩
      refine ⟨aM_1 (r := A 0 1) (by rw [c1_z]; omega) (by rw [c1_z]; exact kn1) (by omega) (by omega), ?_⟩
      have e1 : A (A 0 1) a = A 1 a := by rw [c1_z]
      refine ⟨fun h0 => ?_, fun h0 => ?_⟩
      · exact ⟨rfl, rfl, Or.inr ⟨rfl, LSm_ext hm0 (fun q_z v_z q0 q1_z v0_z v1_z => hq q_z v_z q0 (by rw [c1_z] at h0; omega) v0_z v1_z)⟩⟩
      · refine ⟨oM_0 (by omega) km0 2 rfl, ?_⟩
        refine ⟨⟨by omega, by omega⟩, ?_⟩
        refine ⟨⟨by omega, by omega⟩, ?_⟩
        refine ⟨aM_2 (r := A 0 2) (by rw [c2_z]; omega) (by rw [c2_z]; exact kn2) (by omega) (by omega), ?_⟩
        have e2 : A (A 0 2) ((200 * a) + t_z) = A 2 ((200 * a) + t_z) := by rw [c2_z]
        refine ⟨oM_0 (by omega) km0 2 rfl, ?_⟩
        refine ⟨⟨by omega, by omega⟩, ?_⟩
        refine ⟨⟨by omega, by omega⟩, ?_⟩
        refine ⟨aM_2 (r := A 0 2) (by rw [c2_z]; omega) (by rw [c2_z]; exact kn2) (by omega) (by omega), ?_⟩
        have e3 : A (A 0 2) ((200 * b) + t_z) = A 2 ((200 * b) + t_z) := by rw [c2_z]
        refine ⟨fun h1 => ?_, fun h1 => ?_, fun h1 => ?_⟩
        · refine ⟨fun hh => absurd hh (by decide), fun _ => ?_⟩
          exact ⟨rfl, rfl, Or.inl ⟨rfl, fun q_z => by
            have h5 := ((LSm_at q_z ma.1 (eM_1 hA (r := 1) (by omega) kn1 hb.1 (show b < 152 by omega)).1).2 t_z t0_z (by rw [c1_z] at h0; exact h0)).1
            rw [c2_z] at h1
            omega⟩⟩
        · refine ⟨fun _ => ?_, fun hh => absurd hh (by decide)⟩
          exact ⟨rfl, h0, h1, rfl⟩
        · refine ⟨fun hh => absurd hh (by decide), fun _ => ?_⟩
          exact ⟨rfl, rfl, Or.inl ⟨rfl, fun q_z => by
            have h5 := ((LSm_at q_z ma.1 (eM_1 hA (r := 1) (by omega) kn1 hb.1 (show b < 152 by omega)).1).2 t_z t0_z (by rw [c1_z] at h0; exact h0)).1
            rw [c2_z] at h1
            omega⟩⟩
theorem areAlike_exq {A : pm_A} {a b : Int} (hA : gH wM A) (ha : 0 ≤ a ∧ a ≤ 151) (hb : 0 ≤ b ∧ b ≤ 151) : Cl pmt (an_sh wM) 124 [(2, 0), (0, a), (0, b)] A (mao A a b) := by
  have c1_z := pM_1 hA
  have ma := eM_1 hA (r := 1) (by omega) kn1 ha.1 (show a < 152 by omega)
  refine Cl.of (Nat.le_of_ble_eq_true rfl) ?_
  refine wq_ok (full := o_X10_areAlike) srt_areAlike (fr := []) (cuts := [19]) (J := fun pc st_z => (pc = 19 ∧ ((A (A 0 1) a) = (A (A 0 1) b)) ∧ st_z = ([(2, 0), (0, a), (0, b), (0, 0), (9, 0)], [], A))) ?_ 16 0 _ ?_
  · rintro pc st_z (⟨rfl, h0, rfl⟩)
    rw [c1_z] at h0
    exact alb_19 hA ha hb h0 _ 0 _ (Nat.lt_succ_self _) (by omega) (by omega) (fun q_z v_z q0 q1_z v0_z v1_z => by omega)
  · refine ⟨oM_0 (by omega) km0 1 rfl, ?_⟩
    refine ⟨aM_1 (r := A 0 1) (by rw [c1_z]; omega) (by rw [c1_z]; exact kn1) (by omega) (by omega), ?_⟩
    have e1 : A (A 0 1) a = A 1 a := by rw [c1_z]
    refine ⟨oM_0 (by omega) km0 1 rfl, ?_⟩
    refine ⟨aM_1 (r := A 0 1) (by rw [c1_z]; omega) (by rw [c1_z]; exact kn1) (by omega) (by omega), ?_⟩
    have e2 : A (A 0 1) b = A 1 b := by rw [c1_z]
    refine ⟨fun h0 => ?_, fun h0 => ?_⟩
    · exact ⟨rfl, h0, rfl⟩
    · exact ⟨rfl, rfl, Or.inl ⟨rfl, fun q_z => h0 (by rw [c1_z]; exact (LSm_at q_z ma.1 (eM_1 hA (r := 1) (by omega) kn1 hb.1 (show b < 152 by omega)).1).1)⟩⟩
def boF (A B : pm_A) : Prop := gH wM B ∧ ∀ r_z j_z : Int, ¬ r_z = 16 → B r_z j_z = A r_z j_z
theorem boF.ls {A B : pm_A} (h : boF A B) (p : Int) : LSm B p = LSm A p := by
  have e1 : B 1 = A 1 := funext fun j_z => h.2 1 j_z (by omega)
  have e2 : B 2 = A 2 := funext fun j_z => h.2 2 j_z (by omega)
  have e3 : B 3 = A 3 := funext fun j_z => h.2 3 j_z (by omega)
  unfold LSm xe
  rw [e1, e2, e3]
theorem boF.put {A B : pm_A} {k x : Int} (h : boF A B) (x0 : -1 ≤ x) (x1 : x ≤ 5) : boF A (pm_upd B 16 k x) := ⟨uM_16 h.1 km16 x0 x1, fun r_z j_z hr => by rw [upd_ne hr]; exact h.2 r_z j_z hr⟩
/-- z is the last of the first l slots from K on that is alike with slot i -/
def lstM (A : pm_A) (K i l z : Int) : Prop := (z = -1 ∧ ∀ d_z : Int, 0 ≤ d_z → d_z < l → ¬ LSm A i = LSm A (K + d_z)) ∨ ((0 ≤ z ∧ z < l) ∧ LSm A i = LSm A (K + z) ∧ ∀ d_z : Int, z < d_z → d_z < l → ¬ LSm A i = LSm A (K + d_z))
theorem lstM_u {A : pm_A} {K i l y z : Int} (h1 : lstM A K i l y) (h2 : lstM A K i l z) : y = z := by
  rcases h1 with ⟨a1_z, a2⟩ | ⟨a1_z, a2, a3⟩
  · rcases h2 with ⟨b1, b2⟩ | ⟨b1, b2, b3⟩
    · omega
    · exact absurd b2 (a2 z b1.1 b1.2)
  · rcases h2 with ⟨b1, b2⟩ | ⟨b1, b2, b3⟩
    · exact absurd a2 (b2 y a1_z.1 a1_z.2)
    · rcases Int.lt_trichotomy y z with e_z | e_z | e_z
      · exact absurd b2 (a3 z e_z b1.2)
      · exact e_z
      · exact absurd a2 (b3 y e_z a1_z.2)
def mtc (T U S : Int → Int) (W P : Int) : Prop := ∀ i_z j_z : Int, 0 ≤ i_z → i_z < W → 0 ≤ j_z → j_z < P → T (6 * i_z + j_z) = U (6 * rwS P S i_z + S j_z)
theorem mtc_cong {T U S S' : Int → Int} {W P : Int} (e : ∀ i_z : Int, 0 ≤ i_z → i_z < P → S i_z = S' i_z) (h : mtc T U S W P) : mtc T U S' W P := by
  intro i_z j_z i0_z i1_z j0 j1
  have h1 := h i_z j_z i0_z i1_z j0 j1
  rw [e j_z j0 j1] at h1
  have e2 : rwS P S i_z = rwS P S' i_z := by
    unfold rwS
    by_cases q_z : i_z < P
    · rw [if_pos q_z, if_pos q_z, e i_z i0_z q_z]
    · rw [if_neg q_z, if_neg q_z]
  rw [e2] at h1
  exact h1
def mdM (A : pm_A) (K : Int) (U : Int → Int) : Prop := ∃ S_z : Int → Int, (∀ i_z : Int, 0 ≤ i_z → i_z < A 0 7 → ¬ S_z i_z = -1 ∧ lstM A K i_z (A 0 7) (S_z i_z)) ∧ mtc (A 5) U S_z (A 0 7 + A 0 8) (A 0 7)
def ibP (A : pm_A) (r : pm_R) : Prop := boF A r.2 ∧ ((r.1 = some (0, 1) ∧ mdM A 36 (A 22)) ∨ (r.1 = some (0, 0) ∧ ¬ mdM A 36 (A 22)))
theorem ic_106 {A B : pm_A} {i : Int} (hA : gH wM A) (hB : boF A B) (ho : ∀ d_z : Int, 0 ≤ d_z → d_z < A 0 7 → ¬ B 16 d_z = -1 ∧ lstM A 36 d_z (A 0 7) (B 16 d_z)) (i0 : 0 ≤ i) (i1 : i < A 0 7 + A 0 8) (H : (∀ j_z : Int, 0 ≤ j_z → j_z < A 0 7 → A 5 (6 * i + j_z) = A 22 (6 * rwS (A 0 7) (B 16) i + B 16 j_z)) → ∀ v3, Tm pmt (an_sh wM) o_X10_isBegun 152 ([(2, 0), (0, i), (0, rwS (A 0 7) (B 16) i), v3], [], B) (ibP A)) : ∀ (n_z : Nat) (j_z : Int), (6 - j_z).toNat < n_z → 0 ≤ j_z → j_z ≤ A 0 7 → (∀ d_z : Int, 0 ≤ d_z → d_z < j_z → A 5 (6 * i + d_z) = A 22 (6 * rwS (A 0 7) (B 16) i + B 16 d_z)) → Tm pmt (an_sh wM) o_X10_isBegun 106 ([(2, 0), (0, i), (0, rwS (A 0 7) (B 16) i), (0, j_z)], [], B) (ibP A) := by
  have p6_z := fM_0_7 hA (r := 0) (by omega) km0
  have p8 := fM_0_8 hA (r := 0) (by omega) km0
  have c9_z := pM_9 hB.1
  have c34_z := pM_34 hB.1
  have c23_z := pM_23 hB.1
  have e7_z : B 0 7 = A 0 7 := hB.2 0 7 (by omega)
  have hS_z : ∀ d_z : Int, 0 ≤ d_z → d_z < A 0 7 → 0 ≤ B 16 d_z ∧ B 16 d_z < A 0 7 := fun d_z d0_z d1_z => by
    rcases ho d_z d0_z d1_z with ⟨h1, ⟨h2, _⟩ | ⟨h2, _⟩⟩
    · exact absurd h2 h1
    · exact h2
  have hr : 0 ≤ rwS (A 0 7) (B 16) i ∧ rwS (A 0 7) (B 16) i ≤ 11 := by
    unfold rwS
    by_cases q_z : i < A 0 7
    · rw [if_pos q_z]; have := hS_z i i0 q_z; omega
    · rw [if_neg q_z]; omega
  have hno : ∀ j_z : Int, 0 ≤ j_z → j_z < A 0 7 → ¬ A 5 (6 * i + j_z) = A 22 (6 * rwS (A 0 7) (B 16) i + B 16 j_z) → ¬ mdM A 36 (A 22) := fun j_z j0 j1 hne ⟨S_z, hS1, hS2⟩ => hne (mtc_cong (fun d_z d0_z d1_z => lstM_u (hS1 d_z d0_z d1_z).2 (ho d_z d0_z d1_z).2) hS2 i j_z i0 i1 j0 j1)
  generalize rwS (A 0 7) (B 16) i = r_z at H hr hno
  intro n_z
  induction n_z with
  | zero => intro j_z h_z; omega
  | succ n_z ih_z =>
    intro j_z hn j0 j1 hd_z
    refine wq_ok srt_isBegun (fr := []) (cuts := [106, 152]) (J := fun pc st_z => (pc = 152 ∧ j_z = A 0 7 ∧ st_z = ([(2, 0), (0, i), (0, r_z), (0, j_z)], [], B)) ∨ (pc = 106 ∧ (j_z < A 0 7 ∧ A 5 (6 * i + j_z) = A 22 (6 * r_z + B 16 j_z)) ∧ st_z = ([(2, 0), (0, i), (0, r_z), (0, j_z + 1)], [], B))) ?_ 60 106 _ ?_
    · rintro pc st_z (⟨rfl, hj, rfl⟩ | ⟨rfl, hj, rfl⟩)
      · exact H (fun d_z d0_z d1_z => hd_z d_z d0_z (by omega)) _
      · refine ih_z (j_z + 1) (by omega) (by omega) (by omega) (fun d_z d0_z d1_z => ?_)
        by_cases e_z : d_z = j_z
        · rw [e_z]; exact hj.2
        · exact hd_z d_z d0_z (by omega)
    · refine ⟨oM_0 (by omega) km0 7 rfl, ?_⟩
      refine ⟨fun h_z => Or.inl ⟨rfl, by omega, rfl⟩, fun h_z => ?_⟩
      have hj : j_z < A 0 7 := by omega
      have oj := hS_z j_z j0 hj
      have e23_z : B (B 0 23) j_z = B 16 j_z := by rw [c23_z]
      refine ⟨oM_0 (by omega) km0 9 rfl, ?_⟩
      refine ⟨⟨by omega, by omega⟩, ?_⟩
      refine ⟨⟨by omega, by omega⟩, ?_⟩
      refine ⟨aM_5 (r := B 0 9) (by rw [c9_z]; omega) (by rw [c9_z]; exact km5) (by omega) (by omega), ?_⟩
      refine ⟨oM_0 (by omega) km0 34 rfl, ?_⟩
      refine ⟨⟨by omega, by omega⟩, ?_⟩
      refine ⟨oM_0 (by omega) km0 23 rfl, ?_⟩
      refine ⟨aM_16 (r := B 0 23) (by rw [c23_z]; omega) (by rw [c23_z]; exact km16) j0 (by omega), ?_⟩
      refine ⟨by show r32 (6 * r_z + B (B 0 23) j_z); rw [e23_z]; exact ⟨by omega, by omega⟩, ?_⟩
      refine ⟨aM_22 (r := B 0 34) (by rw [c34_z]; omega) (by rw [c34_z]; exact km22) (by show 0 ≤ 6 * r_z + B (B 0 23) j_z; rw [e23_z]; omega) (by show 6 * r_z + B (B 0 23) j_z < 72; rw [e23_z]; omega), ?_⟩
      have ea : B (B 0 9) (6 * i + j_z) = A 5 (6 * i + j_z) := by rw [c9_z]; exact hB.2 5 _ (by omega)
      have eb : B (B 0 34) (6 * r_z + B (B 0 23) j_z) = A 22 (6 * r_z + B 16 j_z) := by rw [c34_z, e23_z]; exact hB.2 22 _ (by omega)
      refine ⟨fun h2 => ?_, fun h2 => ?_⟩
      · rw [ea, eb] at h2
        refine ⟨⟨by omega, by omega⟩, ?_⟩
        exact Or.inr ⟨rfl, ⟨hj, h2⟩, rfl⟩
      · rw [ea, eb] at h2
        exact ⟨rfl, hB, Or.inr ⟨rfl, hno j_z j0 hj h2⟩⟩
theorem ic_72 {A B : pm_A} (hA : gH wM A) (hB : boF A B) (ho : ∀ d_z : Int, 0 ≤ d_z → d_z < A 0 7 → ¬ B 16 d_z = -1 ∧ lstM A 36 d_z (A 0 7) (B 16 d_z)) : ∀ (n_z : Nat) (i_z : Int) (v2 v3 : pm_V), (12 - i_z).toNat < n_z → 0 ≤ i_z → i_z ≤ A 0 7 + A 0 8 → (∀ a_z j_z : Int, 0 ≤ a_z → a_z < i_z → 0 ≤ j_z → j_z < A 0 7 → A 5 (6 * a_z + j_z) = A 22 (6 * rwS (A 0 7) (B 16) a_z + B 16 j_z)) → Tm pmt (an_sh wM) o_X10_isBegun 72 ([(2, 0), (0, i_z), v2, v3], [], B) (ibP A) := by
  have p6_z := fM_0_7 hA (r := 0) (by omega) km0
  have h6 := fM_0_8 hA (r := 0) (by omega) km0
  have c23_z := pM_23 hB.1
  have e7_z : B 0 7 = A 0 7 := hB.2 0 7 (by omega)
  have e8 : B 0 8 = A 0 8 := hB.2 0 8 (by omega)
  intro n_z
  induction n_z with
  | zero => intro i_z v2 v3 h_z; omega
  | succ n_z ih_z =>
    intro i_z v2 v3 hn i0_z i1_z hd_z
    refine wq_ok srt_isBegun (fr := []) (cuts := [106]) (J := fun pc st_z => pc = 106 ∧ i_z < A 0 7 + A 0 8 ∧ st_z = ([(2, 0), (0, i_z), (0, rwS (A 0 7) (B 16) i_z), (0, 0)], [], B)) ?_ 40 72 _ ?_
    · rintro pc st_z ⟨rfl, hi_z, rfl⟩
      refine ic_106 hA hB ho i0_z hi_z (fun hrow v3 => ?_) _ 0 (Nat.lt_succ_self _) (by omega) p6_z.1 (fun d_z d0_z d1_z => by omega)
      refine wq_ok srt_isBegun (fr := []) (cuts := [72]) (J := fun pc st_z => pc = 72 ∧ st_z = ([(2, 0), (0, i_z + 1), (0, rwS (A 0 7) (B 16) i_z), v3], [], B)) ?_ 20 152 _ ?_
      · rintro pc st_z ⟨rfl, rfl⟩
        refine ih_z (i_z + 1) _ _ (by omega) (by omega) (by omega) (fun a_z j_z a0_z a1_z j0 j1 => ?_)
        by_cases e_z : a_z = i_z
        · rw [e_z]; exact hrow j_z j0 j1
        · exact hd_z a_z j_z a0_z (by omega) j0 j1
      · refine ⟨⟨by omega, by omega⟩, ?_⟩
        exact ⟨rfl, rfl⟩
    · refine ⟨oM_0 (by omega) km0 7 rfl, ?_⟩
      refine ⟨oM_0 (by omega) km0 8 rfl, ?_⟩
      refine ⟨⟨by omega, by omega⟩, ?_⟩
      refine ⟨fun h_z => ?_, fun h_z => ?_⟩
      · exact ⟨rfl, hB, Or.inl ⟨rfl, B 16, ho, fun a_z j_z a0_z a1_z j0 j1 => hd_z a_z j_z a0_z (by omega) j0 j1⟩⟩
      · have hi_z : i_z < A 0 7 + A 0 8 := by omega
        refine ⟨oM_0 (by omega) km0 7 rfl, ?_⟩
        refine ⟨fun h2 => ?_, fun h2 => ?_⟩
        · refine ⟨rfl, hi_z, ?_⟩
          rw [show rwS (A 0 7) (B 16) i_z = i_z from if_neg (by omega)]
          rfl
        · refine ⟨oM_0 (by omega) km0 23 rfl, ?_⟩
          refine ⟨aM_16 (r := B 0 23) (by rw [c23_z]; omega) (by rw [c23_z]; exact km16) i0_z (by omega), ?_⟩
          refine ⟨rfl, hi_z, ?_⟩
          rw [show rwS (A 0 7) (B 16) i_z = B (B 0 23) i_z by rw [c23_z]; exact if_pos (by omega)]
          rfl
theorem ic_19 {A : pm_A} {i : Int} {v3 : pm_V} (hA : gH wM A) (i0 : 0 ≤ i) (i1 : i < A 0 7) (H : ∀ B_z v2, boF A B_z → (∀ d_z : Int, 0 ≤ d_z → d_z < i → ¬ B_z 16 d_z = -1 ∧ lstM A 36 d_z (A 0 7) (B_z 16 d_z)) → lstM A 36 i (A 0 7) (B_z 16 i) → Tm pmt (an_sh wM) o_X10_isBegun 52 ([(2, 0), (0, i), v2, v3], [], B_z) (ibP A)) : ∀ (n_z : Nat) (l : Int) (B_z : pm_A), (6 - l).toNat < n_z → 0 ≤ l → l ≤ A 0 7 → boF A B_z → (∀ d_z : Int, 0 ≤ d_z → d_z < i → ¬ B_z 16 d_z = -1 ∧ lstM A 36 d_z (A 0 7) (B_z 16 d_z)) → lstM A 36 i l (B_z 16 i) → Tm pmt (an_sh wM) o_X10_isBegun 19 ([(2, 0), (0, i), (0, l), v3], [], B_z) (ibP A) := by
  have p6_z := fM_0_7 hA (r := 0) (by omega) km0
  intro n_z
  induction n_z with
  | zero => intro l B_z h_z; omega
  | succ n_z ih_z =>
    intro l B_z hn l0 l1 hB_z ho hl
    have e7_z : B_z 0 7 = A 0 7 := hB_z.2 0 7 (by omega)
    have c23_z := pM_23 hB_z.1
    refine wq_ok srt_isBegun (fr := []) (cuts := [19, 52]) (J := fun pc st_z => (pc = 52 ∧ l = A 0 7 ∧ st_z = ([(2, 0), (0, i), (0, l), v3], [], B_z)) ∨ (pc = 19 ∧ (l < A 0 7 ∧ ¬ LSm A i = LSm A (36 + l)) ∧ st_z = ([(2, 0), (0, i), (0, l + 1), v3], [], B_z)) ∨ (pc = 19 ∧ (l < A 0 7 ∧ LSm A i = LSm A (36 + l)) ∧ st_z = ([(2, 0), (0, i), (0, l + 1), v3], [], pm_upd B_z (B_z 0 23) i l))) ?_ 40 19 _ ?_
    · rintro pc st_z (⟨rfl, h1, rfl⟩ | ⟨rfl, h1, rfl⟩ | ⟨rfl, h1, rfl⟩)
      · rw [h1] at hl
        exact H B_z _ hB_z ho hl
      · refine ih_z (l + 1) B_z (by omega) (by omega) (by omega) hB_z ho ?_
        rcases hl with ⟨a1_z, a2⟩ | ⟨a1_z, a2, a3⟩
        · refine Or.inl ⟨a1_z, fun d_z d0_z d1_z => ?_⟩
          by_cases e_z : d_z = l
          · rw [e_z]; exact h1.2
          · exact a2 d_z d0_z (by omega)
        · refine Or.inr ⟨⟨a1_z.1, by omega⟩, a2, fun d_z d0_z d1_z => ?_⟩
          by_cases e_z : d_z = l
          · rw [e_z]; exact h1.2
          · exact a3 d_z d0_z (by omega)
      · rw [c23_z]
        refine ih_z (l + 1) _ (by omega) (by omega) (by omega) (hB_z.put (by omega) (by omega)) (fun d_z d0_z d1_z => ?_) ?_
        · rw [upd_n2 (by omega)]; exact ho d_z d0_z d1_z
        · rw [upd_at]
          exact Or.inr ⟨⟨l0, by omega⟩, h1.2, fun d_z d0_z d1_z => by omega⟩
    · refine ⟨oM_0 (by omega) km0 7 rfl, ?_⟩
      refine ⟨fun h_z => Or.inl ⟨rfl, by omega, rfl⟩, fun h_z => ?_⟩
      refine ⟨⟨by omega, by omega⟩, ?_⟩
      refine ⟨rM_0 (by omega) km0, ?_⟩
      refine (areAlike_exq (A := B_z) (a := i) (b := 36 + l) hB_z.1 ⟨i0, by omega⟩ ⟨by omega, by omega⟩).imp ?_
      rintro ⟨r1_z, C_z⟩ ⟨hC, hr⟩
      simp only at hC hr
      subst hC
      rw [hB_z.ls, hB_z.ls] at hr
      rcases hr with ⟨rfl, hne⟩ | ⟨rfl, heq⟩
      · refine ⟨fun _ => ?_, fun hh => absurd rfl hh⟩
        refine ⟨⟨by omega, by omega⟩, ?_⟩
        exact Or.inr (Or.inl ⟨rfl, ⟨by omega, hne⟩, rfl⟩)
      · refine ⟨fun hh => absurd hh (by decide), fun _ => ?_⟩
        refine ⟨oM_0 (by omega) km0 23 rfl, ?_⟩
        refine ⟨tM_16 (r := C_z 0 23) (by rw [c23_z]; omega) (by rw [c23_z]; exact km16) i0 (by omega) rfl, ?_⟩
        refine ⟨⟨by omega, by omega⟩, ?_⟩
        exact Or.inr (Or.inr ⟨rfl, ⟨by omega, heq⟩, rfl⟩)
theorem ic_2 {A : pm_A} (hA : gH wM A) : ∀ (n_z : Nat) (i_z : Int) (v2 v3 : pm_V) (B_z : pm_A), (6 - i_z).toNat < n_z → 0 ≤ i_z → i_z ≤ A 0 7 → boF A B_z → (∀ d_z : Int, 0 ≤ d_z → d_z < i_z → ¬ B_z 16 d_z = -1 ∧ lstM A 36 d_z (A 0 7) (B_z 16 d_z)) → Tm pmt (an_sh wM) o_X10_isBegun 2 ([(2, 0), (0, i_z), v2, v3], [], B_z) (ibP A) := by
  have p6_z := fM_0_7 hA (r := 0) (by omega) km0
  have h8 := fM_0_8 hA (r := 0) (by omega) km0
  intro n_z
  induction n_z with
  | zero => intro i_z v2 v3 B_z h_z; omega
  | succ n_z ih_z =>
    intro i_z v2 v3 B_z hn i0_z i1_z hB_z ho
    have e7_z : B_z 0 7 = A 0 7 := hB_z.2 0 7 (by omega)
    have c23_z := pM_23 hB_z.1
    refine wq_ok srt_isBegun (fr := []) (cuts := [19, 72]) (J := fun pc st_z => (pc = 72 ∧ i_z = A 0 7 ∧ st_z = ([(2, 0), (0, 0), v2, v3], [], B_z)) ∨ (pc = 19 ∧ i_z < A 0 7 ∧ st_z = ([(2, 0), (0, i_z), (0, 0), v3], [], pm_upd B_z (B_z 0 23) i_z (-1)))) ?_ 40 2 _ ?_
    · rintro pc st_z (⟨rfl, hi_z, rfl⟩ | ⟨rfl, hi_z, rfl⟩)
      · rw [hi_z] at ho
        exact ic_72 hA hB_z ho _ 0 v2 v3 (Nat.lt_succ_self _) (by omega) (by omega) (fun a_z j_z a0_z a1_z => by omega)
      · rw [c23_z]
        refine ic_19 hA i0_z hi_z (fun C_z w2_z hC hC2 hl => ?_) _ 0 _ (Nat.lt_succ_self _) (by omega) p6_z.1 (hB_z.put (by omega) (by omega)) (fun d_z d0_z d1_z => by rw [upd_n2 (by omega)]; exact ho d_z d0_z d1_z) (Or.inl ⟨upd_at, fun d_z d0_z d1_z => by omega⟩)
        have d23_z := pM_23 hC.1
        refine wq_ok srt_isBegun (fr := []) (cuts := [2]) (J := fun pc st_z => pc = 2 ∧ ¬ C_z (C_z 0 23) i_z = -1 ∧ st_z = ([(2, 0), (0, i_z + 1), w2_z, v3], [], C_z)) ?_ 30 52 _ ?_
        · rintro pc st_z ⟨rfl, h3, rfl⟩
          rw [d23_z] at h3
          refine ih_z (i_z + 1) w2_z v3 C_z (by omega) (by omega) (by omega) hC (fun j_z j0 j1 => ?_)
          by_cases w_z : j_z = i_z
          · rw [w_z]; exact ⟨h3, hl⟩
          · exact hC2 j_z j0 (by omega)
        · refine ⟨oM_0 (by omega) km0 23 rfl, ?_⟩
          refine ⟨aM_16 (r := C_z 0 23) (by rw [d23_z]; omega) (by rw [d23_z]; exact km16) i0_z (by omega), ?_⟩
          refine ⟨fun q_z => ?_, fun q_z => ?_⟩
          · refine ⟨⟨by omega, by omega⟩, ?_⟩
            exact ⟨rfl, q_z, rfl⟩
          · rw [d23_z] at q_z
            refine ⟨rfl, hC, Or.inr ⟨rfl, fun ⟨S_z, hS_z, _⟩ => (hS_z i_z i0_z hi_z).1 ?_⟩⟩
            exact (lstM_u (hS_z i_z i0_z hi_z).2 hl).trans q_z
    · refine ⟨oM_0 (by omega) km0 7 rfl, ?_⟩
      refine ⟨fun h_z => Or.inl ⟨rfl, by omega, rfl⟩, fun h_z => ?_⟩
      refine ⟨oM_0 (by omega) km0 23 rfl, ?_⟩
      refine ⟨tM_16 (r := B_z 0 23) (by rw [c23_z]; omega) (by rw [c23_z]; exact km16) i0_z (by omega) rfl, ?_⟩
      exact Or.inr ⟨rfl, by omega, rfl⟩
theorem isBegun_ex {A : pm_A} (hA : gH wM A) : Cl pmt (an_sh wM) 153 [(2, 0)] A (ibP A) := by
  have p6_z := fM_0_7 hA (r := 0) (by omega) km0
  refine Cl.of (Nat.le_of_ble_eq_true rfl) ?_
  refine wq_ok (full := o_X10_isBegun) srt_isBegun (fr := []) (cuts := [2]) (J := fun pc st_z => pc = 2 ∧ ∃ v2 v3, st_z = ([(2, 0), (0, 0), v2, v3], [], A)) ?_ 30 0 _ ?_
  · rintro pc st_z ⟨rfl, v2, v3, rfl⟩
    exact ic_2 hA _ 0 v2 v3 A (Nat.lt_succ_self _) (by omega) p6_z.1 ⟨hA, fun _ _ _ => rfl⟩ (fun j_z j0 j1 => by omega)
  · exact ⟨rfl, _, _, rfl⟩
/-- slots from K on, and a table, hold a true seed -/
def TrK (s : cx_Sd 12) (ks : List (Fin 12)) (A : pm_A) (K : Int) (U : Int → Int) (W P : Int) : Prop := (∀ i_z : Fin 12, (i_z.1 : Int) < P → cr_Shr (LSm A (K + i_z.1)) ∧ ∀ x_z : cr_Pv 12, (cr_gp s.b ks x_z).1 i_z = cr_vl x_z.1 (LSm A (K + i_z.1))) ∧ ∀ i_z j_z : Fin 12, (i_z.1 : Int) < W → (j_z.1 : Int) < P → cr_bs s.b ks i_z j_z = U (6 * (i_z.1 : Int) + (j_z.1 : Int))
theorem Tru.likeK {s s' : cx_Sd 12} {ks ls : List (Fin 12)} {A : pm_A} {K W : Int} {U : Int → Int} (hg : Tru s ls A) (hh : TrK s' ks A K U W (A 0 7)) {i f : Fin 12} (hi : (i.1 : Int) < A 0 7) (hf : (f.1 : Int) < A 0 7) : LSm A i.1 = LSm A (K + f.1) ↔ ∀ x_z, (cr_gp s'.b ks x_z).1 f = (cr_gp s.b ls x_z).1 i := by
  obtain ⟨a1_z, a2, a3⟩ := hg.2.2.2.2.2.2 i hi
  obtain ⟨b1, b2⟩ := hh.1 f hf
  constructor
  · intro hl x_z
    rw [b2 x_z, ← hl, a3 x_z]
    rfl
  · intro hx
    refine cr_Shr.eq (shr_of a1_z a2) b1 (cr_vl_unique (fun x_z => ?_))
    have h1 := a3 x_z
    unfold VS at h1
    rw [← h1, ← b2 x_z]
    exact (hx x_z).symm
theorem md_iff {s s' : cx_Sd 12} {ks ls : List (Fin 12)} {A : pm_A} {K : Int} {U : Int → Int} (hg : Tru s ls A) (hh : TrK s' ks A K U (A 0 7 + A 0 8) (A 0 7)) : mdM A K U ↔ smS s ls s' ks (A 0 7 + A 0 8) (A 0 7) := by
  have pg := fM_0_7 hg.1 (r := 0) (by omega) km0
  have qg := fM_0_8 hg.1 (r := 0) (by omega) km0
  constructor
  · rintro ⟨S_z, hS_z, hT_z⟩
    have hb_z : ∀ i_z : Int, 0 ≤ i_z → i_z < A 0 7 → (0 ≤ S_z i_z ∧ S_z i_z < A 0 7) ∧ LSm A i_z = LSm A (K + S_z i_z) := fun i_z i0_z i1_z => by
      rcases hS_z i_z i0_z i1_z with ⟨h1, ⟨h2, _⟩ | ⟨h2, h3, _⟩⟩
      · exact absurd h2 h1
      · exact ⟨h2, h3⟩
    refine ⟨S_z, fun i_z hi_z => ?_, fun i_z j_z f_z q_z hi_z hj hf hq => ?_⟩
    · obtain ⟨h1, h2⟩ := hb_z i_z.1 (by omega) hi_z
      have hf : ((⟨(S_z i_z.1).toNat, by omega⟩ : Fin 12).1 : Int) = S_z i_z.1 := by show (((S_z i_z.1).toNat : Nat) : Int) = S_z i_z.1; omega
      refine ⟨⟨(S_z i_z.1).toNat, by omega⟩, ⟨hf, by rw [hf]; omega⟩, ?_⟩
      exact (hg.likeK hh hi_z (by rw [hf]; omega)).1 (by rw [hf]; exact h2)
    · have h1 := hT_z i_z.1 j_z.1 (by omega) hi_z (by omega) hj
      rw [(hg.2.2.1 i_z j_z hj).1 hi_z, hh.2 f_z q_z ?_ ?_, h1, hf, hq]
      · rw [hf]
        unfold rwS
        by_cases q2_z : (i_z.1 : Int) < A 0 7
        · rw [if_pos q2_z]
          have := (hb_z i_z.1 (by omega) q2_z).1
          omega
        · rw [if_neg q2_z]; exact hi_z
      · rw [hq]
        have := (hb_z j_z.1 (by omega) hj).1
        omega
  · rintro ⟨S_z, hS_z, hT_z⟩
    have hS2 : ∀ i_z : Int, 0 ≤ i_z → i_z < A 0 7 → (0 ≤ S_z i_z ∧ S_z i_z < A 0 7) ∧ lstM A K i_z (A 0 7) (S_z i_z) := fun i_z i0_z i1_z => by
      obtain ⟨w_z, hw⟩ : ∃ w_z : Fin 12, i_z = (w_z.1 : Int) := ⟨⟨i_z.toNat, by omega⟩, by show i_z = ((i_z.toNat : Nat) : Int); omega⟩
      rw [hw] at i1_z ⊢
      obtain ⟨f_z, ⟨hf, hfP⟩, hx⟩ := hS_z w_z i1_z
      rw [← hf]
      refine ⟨⟨by omega, hfP⟩, Or.inr ⟨⟨by omega, hfP⟩, (hg.likeK hh i1_z hfP).2 hx, fun d_z d0_z d1_z hl => ?_⟩⟩
      obtain ⟨u_z, hu⟩ : ∃ u_z : Fin 12, d_z = (u_z.1 : Int) := ⟨⟨d_z.toNat, by omega⟩, by show d_z = ((d_z.toNat : Nat) : Int); omega⟩
      rw [hu] at hl d0_z d1_z
      have hx2 := (hg.likeK hh i1_z d1_z).1 hl
      exact gp_ne s' ks (i := u_z) (j := f_z) (fun q_z => by rw [q_z] at d0_z; omega) (fun x_z => (hx2 x_z).trans (hx x_z).symm)
    refine ⟨S_z, fun i_z i0_z i1_z => ⟨by have := (hS2 i_z i0_z i1_z).1; omega, (hS2 i_z i0_z i1_z).2⟩, fun i_z j_z i0_z i1_z j0 j1 => ?_⟩
    obtain ⟨w_z, hw⟩ : ∃ w_z : Fin 12, i_z = (w_z.1 : Int) := ⟨⟨i_z.toNat, by omega⟩, by show i_z = ((i_z.toNat : Nat) : Int); omega⟩
    obtain ⟨u_z, hu⟩ : ∃ u_z : Fin 12, j_z = (u_z.1 : Int) := ⟨⟨j_z.toNat, by omega⟩, by show j_z = ((j_z.toNat : Nat) : Int); omega⟩
    have hr : 0 ≤ rwS (A 0 7) S_z i_z ∧ rwS (A 0 7) S_z i_z < A 0 7 + A 0 8 := by
      unfold rwS
      by_cases q2_z : i_z < A 0 7
      · rw [if_pos q2_z]
        have := (hS2 i_z i0_z q2_z).1
        omega
      · rw [if_neg q2_z]; exact ⟨i0_z, i1_z⟩
    have hs := (hS2 j_z j0 j1).1
    obtain ⟨f_z, hf⟩ : ∃ f_z : Fin 12, rwS (A 0 7) S_z i_z = (f_z.1 : Int) := ⟨⟨(rwS (A 0 7) S_z i_z).toNat, by omega⟩, by show rwS (A 0 7) S_z i_z = (((rwS (A 0 7) S_z i_z).toNat : Nat) : Int); omega⟩
    obtain ⟨q_z, hq⟩ : ∃ q_z : Fin 12, S_z j_z = (q_z.1 : Int) := ⟨⟨(S_z j_z).toNat, by omega⟩, by show S_z j_z = (((S_z j_z).toNat : Nat) : Int); omega⟩
    have h1 := hT_z w_z u_z f_z q_z (by rw [← hw]; exact i1_z) (by rw [← hu]; exact j1) (by rw [← hw, hf]) (by rw [← hu, hq])
    rw [(hg.2.2.1 w_z u_z (by rw [← hu]; exact j1)).1 (by rw [← hw]; exact i1_z), hh.2 f_z q_z (by rw [← hf]; exact hr.2) (by rw [← hq]; omega)] at h1
    rw [hf, hq, hw, hu]
    exact h1
