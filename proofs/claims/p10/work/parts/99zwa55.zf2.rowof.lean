/-! the atlas's masks, seatsMap, rowOf exactly -/
theorem pig {P : Int} {M : Int → Int} (hM : ∀ i_z : Int, 0 ≤ i_z → i_z < P → 0 ≤ M i_z ∧ M i_z < P) (inj : ∀ i_z j_z : Int, 0 ≤ i_z → i_z < P → 0 ≤ j_z → j_z < P → M i_z = M j_z → i_z = j_z) : ∀ j_z : Int, 0 ≤ j_z → j_z < P → ∃ i_z : Int, (0 ≤ i_z ∧ i_z < P) ∧ M i_z = j_z := by
  intro j_z j0 j1
  refine Classical.byContradiction (fun hn => ?_)
  have hl := cr_len ((List.range P.toNat).map (fun i_z : Nat => (M (i_z : Int)).toNat)) ((List.range P.toNat).erase j_z.toNat) (by
    rw [List.nodup_iff_pairwise_ne, List.pairwise_map]
    refine (List.nodup_iff_pairwise_ne.1 List.nodup_range).imp_of_mem (fun {a_z b_z} ha_z hb_z hne e_z => ?_)
    have ha_z := List.mem_range.1 ha_z
    have hb_z := List.mem_range.1 hb_z
    have h1 := hM a_z (by omega) (by omega)
    have h2 := hM b_z (by omega) (by omega)
    have h3 := inj a_z b_z (by omega) (by omega) (by omega) (by omega) (by omega)
    omega) (fun x_z hx => by
    obtain ⟨i_z, hi_z, rfl⟩ := List.mem_map.1 hx
    have hi_z := List.mem_range.1 hi_z
    have h1 := hM i_z (by omega) (by omega)
    exact (List.mem_erase_of_ne (fun e_z => hn ⟨i_z, ⟨by omega, by omega⟩, by omega⟩)).2 (List.mem_range.2 (by omega)))
  rw [List.length_map, List.length_range, List.length_erase_of_mem (List.mem_range.2 (by omega)), List.length_range] at hl
  omega
theorem shl1_e : ∀ b_z : Fin 64, ∀ j_z : Fin 64, (Int64.ofInt (shl1 (b_z.1 : Int))).toBitVec.getLsbD j_z.1 = decide (j_z.1 = b_z.1) := by decide +kernel
theorem shl1_bt {b : Int} (b0 : 0 ≤ b) (b1 : b ≤ 63) {j : Nat} (hj : j < 64) : lbit (shl1 b) j = decide (j = b.toNat) := by
  have h_z := shl1_e ⟨b.toNat, by omega⟩ ⟨j, hj⟩
  have e_z : (((⟨b.toNat, by omega⟩ : Fin 64).1 : Nat) : Int) = b := by show ((b.toNat : Nat) : Int) = b; omega
  rw [e_z] at h_z
  exact h_z
theorem bitsV_bt {bm F : Int → Int} {j : Nat} (hj : j < 64) : ∀ m_z : Nat, (∀ f_z : Int, 0 ≤ f_z → f_z < m_z → ¬ F f_z = 0 → 0 ≤ bm f_z ∧ bm f_z ≤ 63) → (lbit (bitsV bm F m_z) j = true ↔ ∃ f_z : Int, 0 ≤ f_z ∧ f_z < m_z ∧ ¬ F f_z = 0 ∧ bm f_z = j)
  | 0, _ => by
    refine ⟨fun h_z => ?_, fun ⟨f_z, f0_z, f1_z, _⟩ => by omega⟩
    have : lbit 0 j = false := by
      show ((0 : BitVec 64)).getLsbD j = false
      simp
    rw [bitsV, this] at h_z
    cases h_z
  | m_z + 1, hb_z => by
    have ih_z := bitsV_bt hj m_z (fun f_z f0_z f1_z => hb_z f_z f0_z (by omega))
    rw [bitsV]
    by_cases z_z : F m_z = 0
    · rw [if_pos z_z, ih_z]
      refine ⟨fun ⟨f_z, f0_z, f1_z, f2_z, f3_z⟩ => ⟨f_z, f0_z, by omega, f2_z, f3_z⟩, fun ⟨f_z, f0_z, f1_z, f2_z, f3_z⟩ => ⟨f_z, f0_z, ?_, f2_z, f3_z⟩⟩
      by_cases e_z : f_z = m_z
      · rw [e_z] at f2_z; exact absurd z_z f2_z
      · omega
    · have b_z := hb_z m_z (by omega) (by omega) z_z
      rw [if_neg z_z, lbit_or, shl1_bt b_z.1 b_z.2 hj, Bool.or_eq_true, decide_eq_true_eq, ih_z]
      refine ⟨?_, fun ⟨f_z, f0_z, f1_z, f2_z, f3_z⟩ => ?_⟩
      · rintro (⟨f_z, f0_z, f1_z, f2_z, f3_z⟩ | e_z)
        · exact ⟨f_z, f0_z, by omega, f2_z, f3_z⟩
        · exact ⟨m_z, by omega, by omega, z_z, by omega⟩
      · by_cases e_z : f_z = m_z
        · subst e_z; exact Or.inr (by omega)
        · exact Or.inl ⟨f_z, f0_z, by omega, f2_z, f3_z⟩
def lwF (S : Int → Int) : Int → Int := fun f_z => if S f_z < 64 then 1 else 0
def hgF (S : Int → Int) : Int → Int := fun f_z => if S f_z < 64 then 0 else 1
def loM (S : Int → Int) (n : Nat) : Int := bitsV S (lwF S) n
def hgM (S : Int → Int) (n : Nat) : Int := bitsV (fun f_z => S f_z - 64) (hgF S) n
theorem lw_iff {S : Int → Int} {n : Nat} (hS : ∀ f_z : Int, 0 ≤ f_z → f_z < n → 0 ≤ S f_z ∧ S f_z ≤ 99) {j : Nat} (hj : j < 64) : lbit (loM S n) j = true ↔ ∃ f_z : Int, (0 ≤ f_z ∧ f_z < n) ∧ S f_z = j := by
  unfold loM
  rw [bitsV_bt hj n (fun f_z f0_z f1_z hz => by
    have := hS f_z f0_z f1_z
    unfold lwF at hz
    by_cases e_z : S f_z < 64
    · omega
    · rw [if_neg e_z] at hz; exact absurd rfl hz)]
  refine ⟨fun ⟨f_z, f0_z, f1_z, _, f3_z⟩ => ⟨f_z, ⟨f0_z, f1_z⟩, f3_z⟩, fun ⟨f_z, ⟨f0_z, f1_z⟩, f3_z⟩ => ⟨f_z, f0_z, f1_z, ?_, f3_z⟩⟩
  unfold lwF
  rw [if_pos (by omega)]
  decide
theorem hg_iff {S : Int → Int} {n : Nat} (hS : ∀ f_z : Int, 0 ≤ f_z → f_z < n → 0 ≤ S f_z ∧ S f_z ≤ 99) {j : Nat} (hj : j < 64) : lbit (hgM S n) j = true ↔ ∃ f_z : Int, (0 ≤ f_z ∧ f_z < n) ∧ S f_z = 64 + (j : Int) := by
  unfold hgM
  rw [bitsV_bt hj n (fun f_z f0_z f1_z hz => by
    have := hS f_z f0_z f1_z
    unfold hgF at hz
    by_cases e_z : S f_z < 64
    · rw [if_pos e_z] at hz; exact absurd rfl hz
    · show 0 ≤ S f_z - 64 ∧ S f_z - 64 ≤ 63
      omega)]
  refine ⟨fun ⟨f_z, f0_z, f1_z, _, f3_z⟩ => ⟨f_z, ⟨f0_z, f1_z⟩, ?_⟩, fun ⟨f_z, ⟨f0_z, f1_z⟩, f3_z⟩ => ⟨f_z, f0_z, f1_z, ?_, ?_⟩⟩
  · have f4_z : S f_z - 64 = (j : Int) := f3_z
    omega
  · unfold hgF
    rw [if_neg (by omega)]
    decide
  · show S f_z - 64 = (j : Int)
    omega
theorem mask_eq {S R : Int → Int} {n : Nat} (hS : ∀ f_z : Int, 0 ≤ f_z → f_z < n → 0 ≤ S f_z ∧ S f_z ≤ 99) (hR : ∀ f_z : Int, 0 ≤ f_z → f_z < n → 0 ≤ R f_z ∧ R f_z ≤ 99) : (loM S n = loM R n ∧ hgM S n = hgM R n) ↔ ∀ v_z : Int, (∃ f_z : Int, (0 ≤ f_z ∧ f_z < n) ∧ S f_z = v_z) ↔ ∃ f_z : Int, (0 ≤ f_z ∧ f_z < n) ∧ R f_z = v_z := by
  constructor
  · rintro ⟨e1, e2⟩ v_z
    by_cases hv : 0 ≤ v_z ∧ v_z ≤ 99
    · by_cases h6 : v_z < 64
      · have h1 := lw_iff hS (j := v_z.toNat) (by omega)
        have h2 := lw_iff hR (j := v_z.toNat) (by omega)
        rw [e1, h2] at h1
        rw [Int.toNat_of_nonneg hv.1] at h1
        exact h1.symm
      · have h1 := hg_iff hS (j := (v_z - 64).toNat) (by omega)
        have h2 := hg_iff hR (j := (v_z - 64).toNat) (by omega)
        rw [e2, h2] at h1
        rw [show 64 + (((v_z - 64).toNat : Nat) : Int) = v_z by omega] at h1
        exact h1.symm
    · refine ⟨fun ⟨f_z, ⟨f0_z, f1_z⟩, f3_z⟩ => ?_, fun ⟨f_z, ⟨f0_z, f1_z⟩, f3_z⟩ => ?_⟩
      · have := hS f_z f0_z f1_z; omega
      · have := hR f_z f0_z f1_z; omega
  · intro h_z
    constructor
    · refine lbit_ext (bitsV_i64 _ _ _) (bitsV_i64 _ _ _) (fun j_z hj => ?_)
      have h1 := lw_iff hS hj
      have h2 := lw_iff hR hj
      have h3 := h_z (j_z : Int)
      rw [← h1, ← h2] at h3
      exact Bool.eq_iff_iff.2 h3
    · refine lbit_ext (bitsV_i64 _ _ _) (bitsV_i64 _ _ _) (fun j_z hj => ?_)
      have h1 := hg_iff hS hj
      have h2 := hg_iff hR hj
      have h3 := h_z (64 + (j_z : Int))
      rw [← h1, ← h2] at h3
      exact Bool.eq_iff_iff.2 h3
theorem i64_bd {v : Int} (h : i64 v) : -9223372036854775808 ≤ v ∧ v ≤ 9223372036854775807 := by
  have h1 := i64_rng (Int64.ofInt v)
  have h2 : (Int64.ofInt v).toInt = v := h
  rw [h2] at h1
  exact h1
theorem srt_gather : pm_srt o_X0_gatherLetters = true := by decide +kernel
def gaF (A B : pm_A) (n : Nat) : Prop := gH wX B ∧ (∀ q_z j_z : Int, ¬ (q_z = 72 ∧ (j_z = 10 ∨ j_z = 11)) → B q_z j_z = A q_z j_z) ∧ B 72 10 = loM (A 102) n ∧ B 72 11 = hgM (A 102) n
def gaP (A : pm_A) (r : pm_R) : Prop := r.1 = none ∧ gaF A r.2 (A 79 0).toNat
theorem ga_12 {A : pm_A} (hA : gH wX A) (hT : AT A) : ∀ (m_z n_z : Nat) (B_z : pm_A), 6 - n_z < m_z → (n_z : Int) ≤ A 79 0 → gaF A B_z n_z → Tm pmt (an_sh wX) o_X0_gatherLetters 12 ([(2, 72), (0, (n_z : Int))], [], B_z) (gaP A) := by
  have p6_z := fX_1_0 hA z79 kk79
  intro m_z
  induction m_z with
  | zero => intro n_z B_z h_z; omega
  | succ m_z ih_z =>
    intro n_z B_z hm_z n1_z hI
    have hI0 := hI
    obtain ⟨hB_z, hf, h10, h11⟩ := hI
    have a8 : B_z 72 8 = 79 := by rw [hf 72 8 (by omega)]; exact hT.1.2.2.2.2.2.2.1
    have a9 : B_z 72 9 = 102 := by rw [hf 72 9 (by omega)]; exact hT.1.2.2.2.2.2.2.2.1
    have b79 : B_z 79 0 = A 79 0 := hf 79 0 (by omega)
    have b102_z : ∀ j_z : Int, B_z 102 j_z = A 102 j_z := fun j_z => hf 102 j_z (by omega)
    have sl_z : loM (A 102) (n_z + 1) = if lwF (A 102) n_z = 0 then loM (A 102) n_z else pp_lb 4 (loM (A 102) n_z) (shl1 (A 102 n_z)) := rfl
    have sh_z : hgM (A 102) (n_z + 1) = if hgF (A 102) n_z = 0 then hgM (A 102) n_z else pp_lb 4 (hgM (A 102) n_z) (shl1 (A 102 n_z - 64)) := rfl
    refine wq_ok srt_gather (fr := []) (cuts := [12]) (J := fun pc st_z => (pc = 12 ∧ ((n_z : Int) < A 79 0 ∧ A 102 n_z < 64) ∧ st_z = ([(2, 72), (0, (n_z : Int) + 1)], [], pm_upd B_z 72 10 (pp_lb 4 (B_z 72 10) (shl1 (B_z (B_z 72 9) (n_z : Int)))))) ∨ (pc = 12 ∧ ((n_z : Int) < A 79 0 ∧ ¬ A 102 n_z < 64) ∧ st_z = ([(2, 72), (0, (n_z : Int) + 1)], [], pm_upd B_z 72 11 (pp_lb 4 (B_z 72 11) (shl1 (B_z (B_z 72 9) (n_z : Int) - 64)))))) ?_ 40 12 _ ?_
    · rintro pc st_z (⟨rfl, h1, rfl⟩ | ⟨rfl, h1, rfl⟩)
      · rw [a9, b102_z, h10, show (n_z : Int) + 1 = ((n_z + 1 : Nat) : Int) by omega]
        have e1 : lwF (A 102) n_z = 1 := if_pos h1.2
        have e2 : hgF (A 102) n_z = 0 := if_pos h1.2
        rw [e1, if_neg (by decide)] at sl_z
        rw [e2, if_pos rfl] at sh_z
        rw [← sl_z]
        have hb_z := i64_bd (bitsV_i64 (A 102) (lwF (A 102)) (n_z + 1))
        refine ih_z (n_z + 1) _ (by omega) (by omega) ⟨(g5_10 hB_z hb_z.1 hb_z.2).1, fun q_z j_z hq => ?_, upd_at, ?_⟩
        · by_cases e_z : q_z = 72
          · rw [e_z, upd_n2 (by omega)]; rw [e_z] at hq; exact hf 72 j_z hq
          · rw [upd_ne e_z]; exact hf q_z j_z hq
        · rw [upd_n2 (by omega), sh_z]; exact h11
      · rw [a9, b102_z, h11, show (n_z : Int) + 1 = ((n_z + 1 : Nat) : Int) by omega]
        have e1 : lwF (A 102) n_z = 0 := if_neg h1.2
        have e2 : hgF (A 102) n_z = 1 := if_neg h1.2
        rw [e1, if_pos rfl] at sl_z
        rw [e2, if_neg (by decide)] at sh_z
        rw [← sh_z]
        have hb_z := i64_bd (bitsV_i64 (fun f_z => A 102 f_z - 64) (hgF (A 102)) (n_z + 1))
        refine ih_z (n_z + 1) _ (by omega) (by omega) ⟨(g5_10 hB_z hb_z.1 hb_z.2).2, fun q_z j_z hq => ?_, ?_, upd_at⟩
        · by_cases e_z : q_z = 72
          · rw [e_z, upd_n2 (by omega)]; rw [e_z] at hq; exact hf 72 j_z hq
          · rw [upd_ne e_z]; exact hf q_z j_z hq
        · rw [upd_n2 (by omega), sl_z]; exact h10
    · refine ⟨oX_5 z72 kk72 8 rfl, ?_⟩
      refine ⟨oX_1 (r := B_z 72 8) (by rw [a8]; omega) (by rw [a8]; exact kk79) 0 rfl, ?_⟩
      refine ⟨fun h_z => ?_, fun h_z => ?_⟩
      · rw [a8, b79] at h_z
        have e_z : n_z = (A 79 0).toNat := by omega
        rw [e_z] at hI0
        exact ⟨rfl, hI0⟩
      · rw [a8, b79] at h_z
        have v0_z := eX_27 hA (r := 102) (by omega) kk102 (j := (n_z : Int)) (by omega) (by omega)
        have ev_z : B_z (B_z 72 9) (n_z : Int) = A 102 n_z := by rw [a9]; exact b102_z _
        refine ⟨oX_5 z72 kk72 9 rfl, ?_⟩
        refine ⟨aX_27 (r := B_z 72 9) (by rw [a9]; omega) (by rw [a9]; exact kk102) (by omega) (by omega), ?_⟩
        refine ⟨fun h2 => ?_, fun h2 => ?_⟩
        · rw [ev_z] at h2
          refine ⟨oX_5 z72 kk72 11 rfl, ?_⟩
          refine ⟨oX_5 z72 kk72 9 rfl, ?_⟩
          refine ⟨aX_27 (r := B_z 72 9) (by rw [a9]; omega) (by rw [a9]; exact kk102) (by omega) (by omega), ?_⟩
          refine ⟨⟨by rw [ev_z]; omega, by rw [ev_z]; omega⟩, ?_⟩
          refine ⟨oX_5 z72 kk72 11 rfl, ?_⟩
          refine ⟨⟨by omega, by omega⟩, ?_⟩
          exact Or.inr ⟨rfl, ⟨h_z, by omega⟩, rfl⟩
        · rw [ev_z] at h2
          refine ⟨oX_5 z72 kk72 10 rfl, ?_⟩
          refine ⟨oX_5 z72 kk72 9 rfl, ?_⟩
          refine ⟨aX_27 (r := B_z 72 9) (by rw [a9]; omega) (by rw [a9]; exact kk102) (by omega) (by omega), ?_⟩
          refine ⟨oX_5 z72 kk72 10 rfl, ?_⟩
          refine ⟨⟨by omega, by omega⟩, ?_⟩
          exact Or.inl ⟨rfl, ⟨h_z, by omega⟩, rfl⟩
theorem gather_ex {A : pm_A} (hA : gH wX A) (hT : AT A) : Cl pmt (an_sh wX) 8 [(2, 72)] A (gaP A) := by
  have p6_z := fX_1_0 hA z79 kk79
  have g1 := (g5_10 hA (t := 0) (by omega) (by omega)).1
  have g2 := (g5_10 g1 (t := 0) (by omega) (by omega)).2
  refine Cl.of (Nat.le_of_ble_eq_true rfl) ?_
  refine wq_ok (full := o_X0_gatherLetters) srt_gather (fr := []) (cuts := [12]) (J := fun pc st_z => pc = 12 ∧ st_z = ([(2, 72), (0, 0)], [], pm_upd (pm_upd A 72 10 0) 72 11 0)) ?_ 20 0 _ ?_
  · rintro pc st_z ⟨rfl, rfl⟩
    refine ga_12 hA hT _ 0 _ (Nat.lt_succ_self _) (by omega) ⟨g2, fun q_z j_z hq => ?_, ?_, ?_⟩
    · by_cases e_z : q_z = 72
      · rw [e_z] at hq ⊢
        rw [upd_n2 (by omega), upd_n2 (by omega)]
      · rw [upd_ne e_z, upd_ne e_z]
    · rw [upd_n2 (by omega), upd_at]; rfl
    · rw [upd_at]; rfl
  · refine ⟨oX_5 z72 kk72 10 rfl, ?_⟩
    refine ⟨oX_5 z72 kk72 11 rfl, ?_⟩
    exact ⟨rfl, rfl⟩
theorem srt_seatsMap : pm_srt o_X0_seatsMap = true := by decide +kernel
def smO (A B : pm_A) : Prop := gH wX B ∧ ∀ q_z j_z : Int, ¬ q_z = 103 → B q_z j_z = A q_z j_z
def smU (A : pm_A) (r i j : Int) : Prop := (0 ≤ j ∧ j < A 79 0) ∧ A 74 (6 * r + j) = A 102 i ∧ ∀ d_z : Int, 0 ≤ d_z → d_z < A 79 0 → A 74 (6 * r + d_z) = A 102 i → d_z = j
def smQ (A : pm_A) (r : Int) (q : pm_R) : Prop := q.1 = none ∧ smO A q.2 ∧ ∀ i_z j_z : Int, 0 ≤ i_z → i_z < A 79 0 → smU A r i_z j_z → q.2 103 i_z = j_z
theorem mp_15 {A : pm_A} {r i : Int} (hA : gH wX A) (hT : AT A) (r0 : 0 ≤ r) (r1 : r ≤ 149) (i0 : 0 ≤ i) (i1 : i < A 79 0) (H : ∀ (C_z : pm_A) (v_z : pm_V), smO A C_z → (∀ d_z j_z : Int, 0 ≤ d_z → d_z < i + 1 → smU A r d_z j_z → C_z 103 d_z = j_z) → Tm pmt (an_sh wX) o_X0_seatsMap 59 ([(2, 72), (0, r), (0, i), v_z], [], C_z) (smQ A r)) : ∀ (m_z : Nat) (j_z : Int) (B_z : pm_A), (6 - j_z).toNat < m_z → 0 ≤ j_z → j_z ≤ A 79 0 → smO A B_z → (∀ d_z e_z : Int, 0 ≤ d_z → d_z < i → smU A r d_z e_z → B_z 103 d_z = e_z) → (∀ e_z : Int, e_z < j_z → smU A r i e_z → B_z 103 i = e_z) → Tm pmt (an_sh wX) o_X0_seatsMap 15 ([(2, 72), (0, r), (0, i), (0, j_z)], [], B_z) (smQ A r) := by
  have p6_z := fX_1_0 hA z79 kk79
  intro m_z
  induction m_z with
  | zero => intro j_z B_z h_z; omega
  | succ m_z ih_z =>
    intro j_z B_z hm_z j0 j1 hO hd_z he
    have b72 : ∀ k_z : Int, B_z 72 k_z = A 72 k_z := fun k_z => hO.2 72 k_z (by omega)
    have a8 : B_z 72 8 = 79 := by rw [b72]; exact hT.1.2.2.2.2.2.2.1
    have a9 : B_z 72 9 = 102 := by rw [b72]; exact hT.1.2.2.2.2.2.2.2.1
    have a2 : B_z 72 2 = 74 := by rw [b72]; exact hT.1.2.1
    have a12 : B_z 72 12 = 103 := by rw [b72]; exact hT.1.2.2.2.2.2.2.2.2
    have b79 : B_z 79 0 = A 79 0 := hO.2 79 0 (by omega)
    have b74 : ∀ k_z : Int, B_z 74 k_z = A 74 k_z := fun k_z => hO.2 74 k_z (by omega)
    have b102_z : ∀ k_z : Int, B_z 102 k_z = A 102 k_z := fun k_z => hO.2 102 k_z (by omega)
    have go_z : ∀ C_z : pm_A, j_z < A 79 0 → smO A C_z → (∀ d_z e_z : Int, 0 ≤ d_z → d_z < i → smU A r d_z e_z → C_z 103 d_z = e_z) → (∀ e_z : Int, e_z < j_z + 1 → smU A r i e_z → C_z 103 i = e_z) → Tm pmt (an_sh wX) o_X0_seatsMap 53 ([(2, 72), (0, r), (0, i), (0, j_z)], [], C_z) (smQ A r) := fun C_z hj c1_z c2_z c3_z => by
      refine wq_ok srt_seatsMap (fr := []) (cuts := [15]) (J := fun pc st_z => pc = 15 ∧ st_z = ([(2, 72), (0, r), (0, i), (0, j_z + 1)], [], C_z)) ?_ 20 53 _ ?_
      · rintro pc st_z ⟨rfl, rfl⟩
        exact ih_z (j_z + 1) C_z (by omega) (by omega) (by omega) c1_z c2_z c3_z
      · refine ⟨⟨by omega, by omega⟩, ?_⟩
        exact ⟨rfl, rfl⟩
    refine wq_ok srt_seatsMap (fr := []) (cuts := [53, 59]) (J := fun pc st_z => (pc = 59 ∧ j_z = A 79 0 ∧ st_z = ([(2, 72), (0, r), (0, i), (0, j_z)], [], B_z)) ∨ (pc = 53 ∧ (j_z < A 79 0 ∧ A 74 (6 * r + j_z) = A 102 i) ∧ st_z = ([(2, 72), (0, r), (0, i), (0, j_z)], [], pm_upd B_z (B_z 72 12) i j_z)) ∨ (pc = 53 ∧ (j_z < A 79 0 ∧ ¬ A 74 (6 * r + j_z) = A 102 i) ∧ st_z = ([(2, 72), (0, r), (0, i), (0, j_z)], [], B_z))) ?_ 40 15 _ ?_
    · rintro pc st_z (⟨rfl, h1, rfl⟩ | ⟨rfl, h1, rfl⟩ | ⟨rfl, h1, rfl⟩)
      · refine H B_z _ hO (fun d_z e_z d0_z d1_z hu => ?_)
        by_cases q_z : d_z = i
        · rw [q_z] at hu ⊢; exact he e_z (by have := hu.1; omega) hu
        · exact hd_z d_z e_z d0_z (by omega) hu
      · rw [a12]
        refine go_z _ h1.1 ⟨uX_17 hO.1 kk103 (by omega) (by omega), fun q_z k_z hq => by rw [upd_ne hq]; exact hO.2 q_z k_z hq⟩ (fun d_z e_z d0_z d1_z hu => ?_) (fun e_z e1 hu => ?_)
        · rw [upd_n2 (by omega)]; exact hd_z d_z e_z d0_z d1_z hu
        · rw [upd_at]; exact hu.2.2 j_z j0 h1.1 h1.2
      · refine go_z B_z h1.1 hO hd_z (fun e_z e1 hu => ?_)
        by_cases q_z : e_z = j_z
        · rw [q_z] at hu; exact absurd hu.2.1 h1.2
        · exact he e_z (by omega) hu
    · refine ⟨oX_5 z72 kk72 8 rfl, ?_⟩
      refine ⟨oX_1 (r := B_z 72 8) (by rw [a8]; omega) (by rw [a8]; exact kk79) 0 rfl, ?_⟩
      refine ⟨fun h_z => ?_, fun h_z => ?_⟩
      · rw [a8, b79] at h_z
        exact Or.inl ⟨rfl, by omega, rfl⟩
      · rw [a8, b79] at h_z
        have ev_z : B_z (B_z 72 2) (r * 6 + j_z) = A 74 (6 * r + j_z) := by rw [a2, b74, show r * 6 + j_z = 6 * r + j_z by omega]
        have ew : B_z (B_z 72 9) i = A 102 i := by rw [a9]; exact b102_z i
        refine ⟨oX_5 z72 kk72 2 rfl, ?_⟩
        refine ⟨⟨by omega, by omega⟩, ?_⟩
        refine ⟨⟨by omega, by omega⟩, ?_⟩
        refine ⟨aX_23 (r := B_z 72 2) (by rw [a2]; omega) (by rw [a2]; exact kk74) (by omega) (by omega), ?_⟩
        refine ⟨oX_5 z72 kk72 9 rfl, ?_⟩
        refine ⟨aX_27 (r := B_z 72 9) (by rw [a9]; omega) (by rw [a9]; exact kk102) i0 (by omega), ?_⟩
        refine ⟨fun h2 => ?_, fun h2 => ?_⟩
        · rw [ev_z, ew] at h2
          exact Or.inr (Or.inr ⟨rfl, ⟨h_z, h2⟩, rfl⟩)
        · rw [ev_z, ew] at h2
          refine ⟨oX_5 z72 kk72 12 rfl, ?_⟩
          refine ⟨tX_17 (r := B_z 72 12) (by rw [a12]; omega) (by rw [a12]; exact kk103) i0 (by omega) rfl, ?_⟩
          exact Or.inr (Or.inl ⟨rfl, ⟨h_z, h2⟩, rfl⟩)
theorem mp_2 {A : pm_A} {r : Int} (hA : gH wX A) (hT : AT A) (r0 : 0 ≤ r) (r1 : r ≤ 149) : ∀ (m_z : Nat) (i_z : Int) (v_z : pm_V) (B_z : pm_A), (6 - i_z).toNat < m_z → 0 ≤ i_z → i_z ≤ A 79 0 → smO A B_z → (∀ d_z j_z : Int, 0 ≤ d_z → d_z < i_z → smU A r d_z j_z → B_z 103 d_z = j_z) → Tm pmt (an_sh wX) o_X0_seatsMap 2 ([(2, 72), (0, r), (0, i_z), v_z], [], B_z) (smQ A r) := by
  have p6_z := fX_1_0 hA z79 kk79
  intro m_z
  induction m_z with
  | zero => intro i_z v_z B_z h_z; omega
  | succ m_z ih_z =>
    intro i_z v_z B_z hm_z i0_z i1_z hO hd_z
    have b72 : ∀ k_z : Int, B_z 72 k_z = A 72 k_z := fun k_z => hO.2 72 k_z (by omega)
    have a8 : B_z 72 8 = 79 := by rw [b72]; exact hT.1.2.2.2.2.2.2.1
    have b79 : B_z 79 0 = A 79 0 := hO.2 79 0 (by omega)
    refine wq_ok srt_seatsMap (fr := []) (cuts := [15]) (J := fun pc st_z => pc = 15 ∧ i_z < A 79 0 ∧ st_z = ([(2, 72), (0, r), (0, i_z), (0, 0)], [], B_z)) ?_ 40 2 _ ?_
    · rintro pc st_z ⟨rfl, h1, rfl⟩
      refine mp_15 hA hT r0 r1 i0_z h1 (fun C_z v_z hC hc_z => ?_) _ 0 B_z (Nat.lt_succ_self _) (by omega) p6_z.1 hO hd_z (fun e_z e1 hu => by have := hu.1; omega)
      refine wq_ok srt_seatsMap (fr := []) (cuts := [2]) (J := fun pc st_z => pc = 2 ∧ st_z = ([(2, 72), (0, r), (0, i_z + 1), v_z], [], C_z)) ?_ 40 59 _ ?_
      · rintro pc st_z ⟨rfl, rfl⟩
        exact ih_z (i_z + 1) v_z C_z (by omega) (by omega) (by omega) hC hc_z
      · refine ⟨⟨by omega, by omega⟩, ?_⟩
        exact ⟨rfl, rfl⟩
    · refine ⟨oX_5 z72 kk72 8 rfl, ?_⟩
      refine ⟨oX_1 (r := B_z 72 8) (by rw [a8]; omega) (by rw [a8]; exact kk79) 0 rfl, ?_⟩
      refine ⟨fun h_z => ?_, fun h_z => ?_⟩
      · rw [a8, b79] at h_z
        exact ⟨rfl, hO, fun d_z j_z d0_z d1_z hu => hd_z d_z j_z d0_z (by omega) hu⟩
      · rw [a8, b79] at h_z
        exact ⟨rfl, h_z, rfl⟩
theorem seatsMap_ex {A : pm_A} {r : Int} (hA : gH wX A) (hT : AT A) (r0 : 0 ≤ r) (r1 : r ≤ 149) : Cl pmt (an_sh wX) 14 [(2, 72), (0, r)] A (smQ A r) := by
  have p6_z := fX_1_0 hA z79 kk79
  refine Cl.of (Nat.le_of_ble_eq_true rfl) ?_
  refine wq_ok (full := o_X0_seatsMap) srt_seatsMap (fr := []) (cuts := [2]) (J := fun pc st_z => pc = 2 ∧ ∃ v_z, st_z = ([(2, 72), (0, r), (0, 0), v_z], [], A)) ?_ 20 0 _ ?_
  · rintro pc st_z ⟨rfl, v_z, rfl⟩
    exact mp_2 hA hT r0 r1 _ 0 v_z A (Nat.lt_succ_self _) (by omega) p6_z.1 ⟨hA, fun _ _ _ => rfl⟩ (fun d_z j_z d0_z d1_z => by omega)
  · exact ⟨rfl, _, rfl⟩
def htd (F : Int) (T U : Int → Int) (S : Int → Int) (W P : Int) : Prop := ∀ i_z j_z : Int, 0 ≤ i_z → i_z < W → 0 ≤ j_z → j_z < P → T (i_z * 6 + j_z) = U (F + rwS P S i_z * 6 + S j_z)
def htY (A : pm_A) (g o S F : Int) : Prop := gH wX A ∧ (0 ≤ g ∧ wX.2 g = 1) ∧ (0 ≤ o ∧ wX.2 o = 25) ∧ (0 ≤ S ∧ wX.2 S = 17) ∧ (∀ i_z : Int, 0 ≤ i_z → i_z < A g 0 → 0 ≤ A S i_z ∧ A S i_z ≤ 5) ∧ 0 ≤ F ∧ F ≤ 10728
theorem hty_40 {A : pm_A} {g o S F i : Int} (hH : htY A g o S F) (i0 : 0 ≤ i) (i1 : i < bgW A g) (H : ∀ v6 : pm_V, (∀ j_z : Int, 0 ≤ j_z → j_z < A g 0 → A (A g 2) (i * 6 + j_z) = A o (F + rwS (A g 0) (A S) i * 6 + A S j_z)) → Tm pmt (an_sh wX) o_X7_hasTable 87 ([(2, g), (2, o), (0, F), (2, S), (0, i), (0, rwS (A g 0) (A S) i), v6], [], A) (abP A (htd F (A (A g 2)) (A o) (A S) (bgW A g) (A g 0)))) : ∀ (m_z : Nat) (j_z : Int), (6 - j_z).toNat < m_z → 0 ≤ j_z → j_z ≤ A g 0 → (∀ d_z : Int, 0 ≤ d_z → d_z < j_z → A (A g 2) (i * 6 + d_z) = A o (F + rwS (A g 0) (A S) i * 6 + A S d_z)) → Tm pmt (an_sh wX) o_X7_hasTable 40 ([(2, g), (2, o), (0, F), (2, S), (0, i), (0, rwS (A g 0) (A S) i), (0, j_z)], [], A) (abP A (htd F (A (A g 2)) (A o) (A S) (bgW A g) (A g 0))) := by
  obtain ⟨hA, hg, ho, hS_z, hs, hF⟩ := hH
  have p6_z := fX_1_0 hA hg.1 hg.2
  have h6 := fX_1_1 hA hg.1 hg.2
  have t2_z := fX_1_2 hA hg.1 hg.2
  have hw : bgW A g = A g 0 + A g 1 := rfl
  have hrw : 0 ≤ rwS (A g 0) (A S) i ∧ rwS (A g 0) (A S) i ≤ 11 := by
    by_cases e_z : i < A g 0
    · rw [show rwS (A g 0) (A S) i = A S i from if_pos e_z]
      have := hs i i0 e_z
      omega
    · rw [show rwS (A g 0) (A S) i = i from if_neg e_z]
      omega
  generalize hR : rwS (A g 0) (A S) i = R_z at H hrw ⊢
  intro m_z
  induction m_z with
  | zero => intro j_z h_z; omega
  | succ m_z ih_z =>
    intro j_z hm_z j0 j1 hc_z
    refine wq_ok srt_hasTable (fr := []) (cuts := [40, 87]) (J := fun pc st_z => (pc = 87 ∧ j_z = A g 0 ∧ st_z = ([(2, g), (2, o), (0, F), (2, S), (0, i), (0, R_z), (0, j_z)], [], A)) ∨ (pc = 40 ∧ j_z < A g 0 ∧ A (A g 2) (i * 6 + j_z) = A o (F + R_z * 6 + A S j_z) ∧ st_z = ([(2, g), (2, o), (0, F), (2, S), (0, i), (0, R_z), (0, j_z + 1)], [], A))) ?_ 40 40 _ ?_
    · rintro pc st_z (⟨rfl, hj, rfl⟩ | ⟨rfl, hj, he, rfl⟩)
      · exact H _ (fun d_z d0_z d1_z => hc_z d_z d0_z (by omega))
      · refine ih_z (j_z + 1) (by omega) (by omega) (by omega) (fun d_z d0_z d1_z => ?_)
        by_cases e_z : d_z = j_z
        · rw [e_z]; exact he
        · exact hc_z d_z d0_z (by omega)
    · refine ⟨oX_1 hg.1 hg.2 0 rfl, ?_⟩
      refine ⟨fun h_z => Or.inl ⟨rfl, by omega, rfl⟩, fun h_z => ?_⟩
      have hsj := hs j_z j0 h_z
      refine ⟨oX_1 hg.1 hg.2 2 rfl, ?_⟩
      refine ⟨⟨by omega, by omega⟩, ?_⟩
      refine ⟨⟨by omega, by omega⟩, ?_⟩
      refine ⟨aX_10 t2_z.1 t2_z.2 (by omega) (by omega), ?_⟩
      refine ⟨⟨by omega, by omega⟩, ?_⟩
      refine ⟨⟨by omega, by omega⟩, ?_⟩
      refine ⟨aX_17 hS_z.1 hS_z.2 j0 (by omega), ?_⟩
      refine ⟨⟨by omega, by omega⟩, ?_⟩
      refine ⟨aX_25 ho.1 ho.2 (by omega) (by omega), ?_⟩
      refine ⟨fun h3 => ?_, fun h3 => ?_⟩
      · refine ⟨⟨by omega, by omega⟩, ?_⟩
        exact Or.inr ⟨rfl, h_z, h3, rfl⟩
      · refine ⟨rfl, rfl, Or.inr ⟨rfl, fun q_z => h3 ?_⟩⟩
        have h4 := q_z i j_z i0 i1 j0 h_z
        rw [hR] at h4
        exact h4
theorem hty_3 {A : pm_A} {g o S F : Int} (hH : htY A g o S F) : ∀ (m_z : Nat) (i_z : Int) (v5 v6 : pm_V), (12 - i_z).toNat < m_z → 0 ≤ i_z → i_z ≤ bgW A g → (∀ a_z j_z : Int, 0 ≤ a_z → a_z < i_z → 0 ≤ j_z → j_z < A g 0 → A (A g 2) (a_z * 6 + j_z) = A o (F + rwS (A g 0) (A S) a_z * 6 + A S j_z)) → Tm pmt (an_sh wX) o_X7_hasTable 3 ([(2, g), (2, o), (0, F), (2, S), (0, i_z), v5, v6], [], A) (abP A (htd F (A (A g 2)) (A o) (A S) (bgW A g) (A g 0))) := by
  have hH0 := hH
  obtain ⟨hA, hg, ho, hS_z, hs, hF⟩ := hH
  have p6_z := fX_1_0 hA hg.1 hg.2
  have h6 := fX_1_1 hA hg.1 hg.2
  have hw : bgW A g = A g 0 + A g 1 := rfl
  intro m_z
  induction m_z with
  | zero => intro i_z v5 v6 h_z; omega
  | succ m_z ih_z =>
    intro i_z v5 v6 hm_z i0_z i1_z hc_z
    refine wq_ok srt_hasTable (fr := []) (cuts := [40]) (J := fun pc st_z => pc = 40 ∧ i_z < bgW A g ∧ st_z = ([(2, g), (2, o), (0, F), (2, S), (0, i_z), (0, rwS (A g 0) (A S) i_z), (0, 0)], [], A)) ?_ 40 3 _ ?_
    · rintro pc st_z ⟨rfl, hi_z, rfl⟩
      refine hty_40 hH0 i0_z hi_z (fun v6 hrow => ?_) _ 0 (Nat.lt_succ_self _) (by omega) p6_z.1 (fun d_z d0_z d1_z => by omega)
      refine wq_ok srt_hasTable (fr := []) (cuts := [3]) (J := fun pc st_z => pc = 3 ∧ st_z = ([(2, g), (2, o), (0, F), (2, S), (0, i_z + 1), (0, rwS (A g 0) (A S) i_z), v6], [], A)) ?_ 40 87 _ ?_
      · rintro pc st_z ⟨rfl, rfl⟩
        refine ih_z (i_z + 1) _ v6 (by omega) (by omega) (by omega) (fun a_z j_z a0_z a1_z j0 j1 => ?_)
        by_cases e_z : a_z = i_z
        · rw [e_z]; exact hrow j_z j0 j1
        · exact hc_z a_z j_z a0_z (by omega) j0 j1
      · refine ⟨⟨by omega, by omega⟩, ?_⟩
        exact ⟨rfl, rfl⟩
    · refine ⟨oX_1 hg.1 hg.2 0 rfl, ?_⟩
      refine ⟨oX_1 hg.1 hg.2 1 rfl, ?_⟩
      refine ⟨⟨by omega, by omega⟩, ?_⟩
      refine ⟨fun h_z => ?_, fun h_z => ?_⟩
      · exact ⟨rfl, rfl, Or.inl ⟨rfl, fun a_z j_z a0_z a1_z j0 j1 => hc_z a_z j_z a0_z (by omega) j0 j1⟩⟩
      · refine ⟨oX_1 hg.1 hg.2 0 rfl, ?_⟩
        refine ⟨fun h2 => ?_, fun h2 => ?_⟩
        · refine ⟨rfl, h_z, ?_⟩
          rw [show rwS (A g 0) (A S) i_z = i_z from if_neg (by omega)]
          rfl
        · refine ⟨aX_17 hS_z.1 hS_z.2 i0_z (by omega), ?_⟩
          refine ⟨rfl, h_z, ?_⟩
          rw [show rwS (A g 0) (A S) i_z = A S i_z from if_pos h2]
          rfl
theorem hasTable_ey {A : pm_A} {g o S F : Int} (hH : htY A g o S F) : Cl pmt (an_sh wX) 68 [(2, g), (2, o), (0, F), (2, S)] A (abP A (htd F (A (A g 2)) (A o) (A S) (bgW A g) (A g 0))) := by
  have p6_z := fX_1_0 hH.1 hH.2.1.1 hH.2.1.2
  have h6 := fX_1_1 hH.1 hH.2.1.1 hH.2.1.2
  refine Cl.of (Nat.le_of_ble_eq_true rfl) ?_
  refine wq_ok (full := o_X7_hasTable) srt_hasTable (fr := []) (cuts := [3]) (J := fun pc st_z => pc = 3 ∧ ∃ v5 v6, st_z = ([(2, g), (2, o), (0, F), (2, S), (0, 0), v5, v6], [], A)) ?_ 20 0 _ ?_
  · rintro pc st_z ⟨rfl, v5, v6, rfl⟩
    exact hty_3 hH _ 0 v5 v6 (Nat.lt_succ_self _) (by omega) (by unfold bgW; omega) (fun a_z j_z a0_z a1_z => by omega)
  · exact ⟨rfl, _, _, rfl⟩
theorem htd_cong {F : Int} {T U S S' : Int → Int} {W P : Int} (e : ∀ i_z : Int, 0 ≤ i_z → i_z < P → S i_z = S' i_z) (h : htd F T U S W P) : htd F T U S' W P := by
  intro i_z j_z i0_z i1_z j0 j1
  have h1 := h i_z j_z i0_z i1_z j0 j1
  rw [e j_z j0 j1] at h1
  have e2 : rwS P S i_z = rwS P S' i_z := by
    unfold rwS
    by_cases q_z : i_z < P
    · rw [if_pos q_z, if_pos q_z, e i_z i0_z q_z]
    · rw [if_neg q_z, if_neg q_z]
  rw [e2] at h1
  exact h1
theorem srt_rowOf : pm_srt o_X0_rowOf = true := by decide +kernel
/-- the row r of the atlas is the seed at hand, its places standing at M -/
def thr (A : pm_A) (r : Int) (M : Int → Int) : Prop := (∀ i_z : Int, 0 ≤ i_z → i_z < A 79 0 → (0 ≤ M i_z ∧ M i_z < A 79 0) ∧ A 74 (6 * r + M i_z) = A 102 i_z) ∧ htd (72 * r) (A 80) (A 76) M (bgW A 79) (A 79 0)
def dst (S : Int → Int) (P : Int) : Prop := (∀ i_z : Int, 0 ≤ i_z → i_z < P → 0 ≤ S i_z ∧ S i_z ≤ 99) ∧ ∀ i_z j_z : Int, 0 ≤ i_z → i_z < P → 0 ≤ j_z → j_z < P → S i_z = S j_z → i_z = j_z
def roH (A : pm_A) : Prop := AT A ∧ dst (A 102) (A 79 0) ∧ (A 72 10 = loM (A 102) (A 79 0).toNat ∧ A 72 11 = hgM (A 102) (A 79 0).toNat) ∧ ∀ r_z : Int, 0 ≤ r_z → r_z < A 72 7 → dst (fun j_z => A 74 (6 * r_z + j_z)) (A 79 0) ∧ A 77 r_z = loM (fun j_z => A 74 (6 * r_z + j_z)) (A 79 0).toNat ∧ A 78 r_z = hgM (fun j_z => A 74 (6 * r_z + j_z)) (A 79 0).toNat
def roP (A : pm_A) (q : pm_R) : Prop := smO A q.2 ∧ ((q.1 = some (0, -1) ∧ ∀ r_z : Int, 0 ≤ r_z → r_z < A 72 7 → ¬ ∃ M_z, thr A r_z M_z) ∨ ∃ r_z : Int, (0 ≤ r_z ∧ r_z < A 72 7) ∧ q.1 = some (0, r_z) ∧ thr A r_z (q.2 103))
theorem thr_mask {A : pm_A} {r : Int} {M : Int → Int} (h1 : dst (A 102) (A 79 0)) (h2 : dst (fun j_z => A 74 (6 * r + j_z)) (A 79 0)) (p0 : 0 ≤ A 79 0) (h : thr A r M) : loM (A 102) (A 79 0).toNat = loM (fun j_z => A 74 (6 * r + j_z)) (A 79 0).toNat ∧ hgM (A 102) (A 79 0).toNat = hgM (fun j_z => A 74 (6 * r + j_z)) (A 79 0).toNat := by
  refine (mask_eq (fun f_z f0_z f1_z => h1.1 f_z f0_z (by omega)) (fun f_z f0_z f1_z => h2.1 f_z f0_z (by omega))).2 (fun v_z => ?_)
  refine ⟨fun ⟨f_z, ⟨f0_z, f1_z⟩, f3_z⟩ => ?_, fun ⟨f_z, ⟨f0_z, f1_z⟩, f3_z⟩ => ?_⟩
  · have h5 := h.1 f_z f0_z (by omega)
    exact ⟨M f_z, ⟨h5.1.1, by omega⟩, by rw [← f3_z]; exact h5.2⟩
  · obtain ⟨i_z, ⟨i0_z, i1_z⟩, hi_z⟩ := pig (M := M) (fun i_z i0_z i1_z => (h.1 i_z i0_z i1_z).1) (fun i_z j_z i0_z i1_z j0 j1 e_z => h1.2 i_z j_z i0_z i1_z j0 j1 (by rw [← (h.1 i_z i0_z i1_z).2, ← (h.1 j_z j0 j1).2, e_z])) f_z f0_z (by omega)
    refine ⟨i_z, ⟨i0_z, by omega⟩, ?_⟩
    rw [← (h.1 i_z i0_z i1_z).2, hi_z]
    exact f3_z
theorem thr_u {A : pm_A} {r : Int} {M N : Int → Int} (h2 : dst (fun j_z => A 74 (6 * r + j_z)) (A 79 0)) (h : thr A r M) (hN : ∀ i : Int, 0 ≤ i → i < A 79 0 → (0 ≤ N i ∧ N i < A 79 0) ∧ A 74 (6 * r + N i) = A 102 i) {i : Int} (i0 : 0 ≤ i) (i1 : i < A 79 0) : M i = N i := by
  have a_z := h.1 i i0 i1
  have b_z := hN i i0 i1
  exact h2.2 (M i) (N i) a_z.1.1 a_z.1.2 b_z.1.1 b_z.1.2 (by show A 74 (6 * r + M i) = A 74 (6 * r + N i); rw [a_z.2, b_z.2])
theorem rz_2 {A : pm_A} (hA : gH wX A) (hH : roH A) : ∀ (m_z : Nat) (r_z : Int) (B_z : pm_A), (150 - r_z).toNat < m_z → 0 ≤ r_z → r_z ≤ A 72 7 → smO A B_z → (∀ d_z : Int, 0 ≤ d_z → d_z < r_z → ¬ ∃ M_z, thr A d_z M_z) → Tm pmt (an_sh wX) o_X0_rowOf 2 ([(2, 72), (0, r_z)], [], B_z) (roP A) := by
  have p6_z := fX_1_0 hA z79 kk79
  have q6_z := fX_1_1 hA z79 kk79
  have f7_z := fX_5_7 hA z72 kk72
  obtain ⟨hT_z, hdS, hm_z, hrow⟩ := hH
  intro m_z
  induction m_z with
  | zero => intro r_z B_z h_z; omega
  | succ m_z ih_z =>
    intro r_z B_z hmm r0 r1_z hO hd_z
    have b72 : ∀ k_z : Int, B_z 72 k_z = A 72 k_z := fun k_z => hO.2 72 k_z (by omega)
    have a8 : B_z 72 8 = 79 := by rw [b72]; exact hT_z.1.2.2.2.2.2.2.1
    have a5 : B_z 72 5 = 77 := by rw [b72]; exact hT_z.1.2.2.2.2.1
    have a6 : B_z 72 6 = 78 := by rw [b72]; exact hT_z.1.2.2.2.2.2.1
    have b77 : ∀ k_z : Int, B_z 77 k_z = A 77 k_z := fun k_z => hO.2 77 k_z (by omega)
    have b78 : ∀ k_z : Int, B_z 78 k_z = A 78 k_z := fun k_z => hO.2 78 k_z (by omega)
    have nx : ∀ C_z : pm_A, r_z < A 72 7 → smO A C_z → (¬ ∃ M_z, thr A r_z M_z) → Tm pmt (an_sh wX) o_X0_rowOf 67 ([(2, 72), (0, r_z)], [], C_z) (roP A) := fun C_z hr hC hno => by
      refine wq_ok srt_rowOf (fr := []) (cuts := [2]) (J := fun pc st_z => pc = 2 ∧ st_z = ([(2, 72), (0, r_z + 1)], [], C_z)) ?_ 20 67 _ ?_
      · rintro pc st_z ⟨rfl, rfl⟩
        refine ih_z (r_z + 1) C_z (by omega) (by omega) (by omega) hC (fun d_z d0_z d1_z => ?_)
        by_cases e_z : d_z = r_z
        · rw [e_z]; exact hno
        · exact hd_z d_z d0_z (by omega)
      · refine ⟨⟨by omega, by omega⟩, ?_⟩
        exact ⟨rfl, rfl⟩
    refine wq_ok srt_rowOf (fr := []) (cuts := [43, 67]) (J := fun pc st_z => (pc = 67 ∧ (r_z < A 72 7 ∧ ¬ (A 77 r_z = A 72 10 ∧ A 78 r_z = A 72 11)) ∧ st_z = ([(2, 72), (0, r_z)], [], B_z)) ∨ (pc = 43 ∧ (r_z < A 72 7 ∧ A 77 r_z = A 72 10 ∧ A 78 r_z = A 72 11) ∧ ∃ C_z, smQ B_z r_z (none, C_z) ∧ st_z = ([(2, 72), (0, r_z)], [], C_z))) ?_ 40 2 _ ?_
    · rintro pc st_z (⟨rfl, h1, rfl⟩ | ⟨rfl, h1, C_z, hC, rfl⟩)
      · have hw := hrow r_z r0 h1.1
        refine nx B_z h1.1 hO (fun ⟨M_z, hM_z⟩ => h1.2 ?_)
        have h3 := thr_mask hdS hw.1 p6_z.1 hM_z
        rw [hw.2.1, hw.2.2, hm_z.1, hm_z.2]
        exact ⟨h3.1.symm, h3.2.symm⟩
      · have hw := hrow r_z r0 h1.1
        obtain ⟨_, ⟨c1_z, c2_z⟩, c3_z⟩ := hC
        simp only at c1_z c2_z c3_z
        have hOC : smO A C_z := ⟨c1_z, fun q_z k_z hq => (c2_z q_z k_z hq).trans (hO.2 q_z k_z hq)⟩
        have hset := (mask_eq (n := (A 79 0).toNat) (fun f_z f0_z f1_z => hdS.1 f_z f0_z (by omega)) (fun f_z f0_z f1_z => hw.1.1 f_z f0_z (by omega))).1 (by
          rw [← hm_z.1, ← hm_z.2, ← hw.2.1, ← hw.2.2]
          exact ⟨h1.2.1.symm, h1.2.2.symm⟩)
        have bsm : ∀ i_z j_z : Int, smU A r_z i_z j_z → smU B_z r_z i_z j_z := fun i_z j_z hu => by
          unfold smU at hu ⊢
          rw [hO.2 79 0 (by omega), hO.2 74 _ (by omega), hO.2 102 _ (by omega)]
          exact ⟨hu.1, hu.2.1, fun d_z d0_z d1_z hd2 => hu.2.2 d_z d0_z d1_z (by rw [hO.2 74 _ (by omega)] at hd2; exact hd2)⟩
        have hM_z : ∀ i_z : Int, 0 ≤ i_z → i_z < A 79 0 → (0 ≤ C_z 103 i_z ∧ C_z 103 i_z < A 79 0) ∧ A 74 (6 * r_z + C_z 103 i_z) = A 102 i_z := fun i_z i0_z i1_z => by
          obtain ⟨f_z, ⟨f0_z, f1_z⟩, f3_z⟩ := (hset (A 102 i_z)).1 ⟨i_z, ⟨i0_z, by omega⟩, rfl⟩
          have hu : smU A r_z i_z f_z := ⟨⟨f0_z, by omega⟩, f3_z, fun d_z d0_z d1_z hd2 => hw.1.2 d_z f_z d0_z d1_z f0_z (by omega) (by show A 74 (6 * r_z + d_z) = A 74 (6 * r_z + f_z); rw [hd2]; exact f3_z.symm)⟩
          have e_z := c3_z i_z f_z i0_z (by rw [hO.2 79 0 (by omega)]; exact i1_z) (bsm i_z f_z hu)
          rw [e_z]
          exact ⟨hu.1, f3_z⟩
        have cc : ∀ q_z k_z : Int, ¬ q_z = 103 → C_z q_z k_z = A q_z k_z := hOC.2
        have e8 : C_z 72 8 = 79 := by rw [cc 72 8 (by omega)]; exact hT_z.1.2.2.2.2.2.2.1
        have e4_z : C_z 72 4 = 76 := by rw [cc 72 4 (by omega)]; exact hT_z.1.2.2.2.1
        have e12_z : C_z 72 12 = 103 := by rw [cc 72 12 (by omega)]; exact hT_z.1.2.2.2.2.2.2.2.2
        have c80 : C_z (C_z 79 2) = A 80 := by rw [cc 79 2 (by omega), hT_z.2.2.1.1]; exact funext fun k_z => cc 80 k_z (by omega)
        have c76 : C_z 76 = A 76 := funext fun k_z => cc 76 k_z (by omega)
        have cW : bgW C_z 79 = bgW A 79 := by unfold bgW; rw [cc 79 0 (by omega), cc 79 1 (by omega)]
        refine wq_ok srt_rowOf (fr := []) (cuts := [67]) (J := fun pc st_z => pc = 67 ∧ (¬ ∃ M_z, thr A r_z M_z) ∧ st_z = ([(2, 72), (0, r_z)], [], C_z)) ?_ 40 43 _ ?_
        · rintro pc st_z ⟨rfl, hno, rfl⟩
          exact nx C_z h1.1 hOC hno
        · refine ⟨oX_5 z72 kk72 8 rfl, ?_⟩
          refine ⟨oX_5 z72 kk72 4 rfl, ?_⟩
          refine ⟨⟨by omega, by omega⟩, ?_⟩
          refine ⟨oX_5 z72 kk72 12 rfl, ?_⟩
          refine ⟨rX_1 (r := C_z 72 8) (by rw [e8]; omega) (by rw [e8]; exact kk79), ?_⟩
          show Cl pmt (an_sh wX) 68 [(2, C_z 72 8), (2, C_z 72 4), (0, r_z * 72), (2, C_z 72 12)] C_z _
          rw [e8, e4_z, e12_z, show r_z * 72 = 72 * r_z by omega]
          refine (hasTable_ey (A := C_z) (g := 79) (o := 76) (S := 103) (F := 72 * r_z) ⟨c1_z, ⟨by omega, kk79⟩, ⟨by omega, kk76⟩, ⟨by omega, kk103⟩, fun i_z i0_z i1_z => ?_, by omega, by omega⟩).imp ?_
          · rw [cc 79 0 (by omega)] at i1_z
            have := hM_z i_z i0_z i1_z
            omega
          · rw [c80, c76, cW, cc 79 0 (by omega)]
            rintro ⟨q1_z, D_z⟩ ⟨hD, hr⟩
            simp only at hD hr
            subst hD
            rcases hr with ⟨rfl, hy⟩ | ⟨rfl, hy⟩
            · refine ⟨fun hh => absurd hh (by decide), fun _ => ?_⟩
              exact ⟨rfl, hOC, Or.inr ⟨r_z, ⟨r0, h1.1⟩, rfl, hM_z, hy⟩⟩
            · refine ⟨fun _ => ?_, fun hh => absurd rfl hh⟩
              exact ⟨rfl, fun ⟨M_z, hMM⟩ => hy (htd_cong (fun i_z i0_z i1_z => thr_u hw.1 hMM hM_z i0_z i1_z) hMM.2), rfl⟩
    · refine ⟨oX_5 z72 kk72 7 rfl, ?_⟩
      refine ⟨fun h_z => ?_, fun h_z => ?_⟩
      · rw [b72] at h_z
        exact ⟨rfl, hO, Or.inl ⟨rfl, fun d_z d0_z d1_z => hd_z d_z d0_z (by omega)⟩⟩
      · rw [b72] at h_z
        have ea : B_z (B_z 72 5) r_z = A 77 r_z := by rw [a5]; exact b77 r_z
        have eb : B_z (B_z 72 6) r_z = A 78 r_z := by rw [a6]; exact b78 r_z
        refine ⟨oX_5 z72 kk72 5 rfl, ?_⟩
        refine ⟨aX_26 (r := B_z 72 5) (by rw [a5]; omega) (by rw [a5]; exact kk77) r0 (by omega), ?_⟩
        refine ⟨oX_5 z72 kk72 10 rfl, ?_⟩
        refine ⟨fun h1 => ?_, fun h1 => ?_, fun h1 => ?_⟩
        · rw [ea, b72] at h1
          refine ⟨fun _ => ?_, fun hh => absurd hh (by decide)⟩
          exact Or.inl ⟨rfl, ⟨h_z, fun q_z => by omega⟩, rfl⟩
        · rw [ea, b72] at h1
          refine ⟨fun hh => absurd hh (by decide), fun _ => ?_⟩
          refine ⟨oX_5 z72 kk72 6 rfl, ?_⟩
          refine ⟨aX_26 (r := B_z 72 6) (by rw [a6]; omega) (by rw [a6]; exact kk78) r0 (by omega), ?_⟩
          refine ⟨oX_5 z72 kk72 11 rfl, ?_⟩
          refine ⟨fun h2 => ?_, fun h2 => ?_, fun h2 => ?_⟩
          · rw [eb, b72] at h2
            refine ⟨fun _ => ?_, fun hh => absurd hh (by decide)⟩
            exact Or.inl ⟨rfl, ⟨h_z, fun q_z => by omega⟩, rfl⟩
          · rw [eb, b72] at h2
            refine ⟨fun hh => absurd hh (by decide), fun _ => ?_⟩
            refine ⟨rX_5 z72 kk72, ?_⟩
            have hTB : AT B_z := hT_z.of (fun j_z _ _ _ _ _ _ _ => b72 j_z) ⟨hO.2 79 2 (by omega), hO.2 79 4 (by omega)⟩ (fun j_z _ => hO.2 73 j_z (by omega))
            refine (seatsMap_ex hO.1 hTB r0 (by omega)).imp ?_
            rintro ⟨q1_z, C_z⟩ hC
            have hr1 : q1_z = none := hC.1
            subst hr1
            exact Or.inr ⟨rfl, ⟨h_z, h1, h2⟩, C_z, hC, rfl⟩
          · rw [eb, b72] at h2
            refine ⟨fun _ => ?_, fun hh => absurd hh (by decide)⟩
            exact Or.inl ⟨rfl, ⟨h_z, fun q_z => by omega⟩, rfl⟩
        · rw [ea, b72] at h1
          refine ⟨fun _ => ?_, fun hh => absurd hh (by decide)⟩
          exact Or.inl ⟨rfl, ⟨h_z, fun q_z => by omega⟩, rfl⟩
theorem rowOf_ex {A : pm_A} (hA : gH wX A) (hH : roH A) : Cl pmt (an_sh wX) 13 [(2, 72)] A (roP A) := by
  have f7_z := fX_5_7 hA z72 kk72
  refine Cl.of (Nat.le_of_ble_eq_true rfl) ?_
  refine wq_ok (full := o_X0_rowOf) srt_rowOf (fr := []) (cuts := [2]) (J := fun pc st_z => pc = 2 ∧ st_z = ([(2, 72), (0, 0)], [], A)) ?_ 20 0 _ ?_
  · rintro pc st_z ⟨rfl, rfl⟩
    exact rz_2 hA hH _ 0 A (Nat.lt_succ_self _) (by omega) f7_z.1 ⟨hA, fun _ _ _ => rfl⟩ (fun d_z d0_z d1_z => by omega)
  · exact ⟨rfl, rfl⟩
