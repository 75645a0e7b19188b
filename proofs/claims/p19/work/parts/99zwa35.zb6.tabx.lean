/-! the class's tables, exactly: turnedEntry, isTableTurnable, turnTable -/
abbrev alg (T : Int → Int) (i j k : Int) : Prop := (0 < T (i * 6 + k) ∧ 0 < T (k * 6 + j)) ∨ (T (i * 6 + k) < 0 ∧ T (k * 6 + j) < 0)
def teX (T : Int → Int) (i j k : Int) : Int := T (i * 6 + j) + (if alg T i j k then ((T (i * 6 + k)).natAbs : Int) * T (k * 6 + j) else 0)
def tvT (T : Int → Int) (k i j : Int) : Int := if i = k ∨ j = k then - T (i * 6 + j) else teX T i j k
def tbB (T : Int → Int) (R P : Int) : Prop := ∀ i_z j_z : Int, 0 ≤ i_z → i_z < R → 0 ≤ j_z → j_z < P → -9999 ≤ T (i_z * 6 + j_z) ∧ T (i_z * 6 + j_z) ≤ 9999
theorem te_bd {T : Int → Int} {i j k : Int} (h1 : -9999 ≤ T (i * 6 + k) ∧ T (i * 6 + k) ≤ 9999) (h2 : -9999 ≤ T (k * 6 + j) ∧ T (k * 6 + j) ≤ 9999) (h3 : -9999 ≤ T (i * 6 + j) ∧ T (i * 6 + j) ≤ 9999) : (-99980001 ≤ ((T (i * 6 + k)).natAbs : Int) * T (k * 6 + j) ∧ ((T (i * 6 + k)).natAbs : Int) * T (k * 6 + j) ≤ 99980001) ∧ -99990000 ≤ teX T i j k ∧ teX T i j k ≤ 99990000 := by
  have h4 := mul_bd (x := ((T (i * 6 + k)).natAbs : Int)) (y := T (k * 6 + j)) ⟨by omega, by omega⟩ h2
  refine ⟨h4, ?_⟩
  unfold teX
  by_cases e_z : alg T i j k
  · rw [if_pos e_z]; omega
  · rw [if_neg e_z]; omega
theorem srt_turnedEntry : pm_srt o_X9_turnedEntry = true := by decide +kernel
theorem turnedEntry_ex {A : pm_A} {t i j k : Int} (ht : 0 ≤ t ∧ wX.2 t = 10) (i0 : 0 ≤ i) (i1 : i < 12) (j0 : 0 ≤ j) (j1 : j < 6) (k0 : 0 ≤ k) (k1 : k < 6) (b1 : -9999 ≤ A t (i * 6 + k) ∧ A t (i * 6 + k) ≤ 9999) (b2 : -9999 ≤ A t (k * 6 + j) ∧ A t (k * 6 + j) ≤ 9999) (b3 : -9999 ≤ A t (i * 6 + j) ∧ A t (i * 6 + j) ≤ 9999) : Cl pmt (an_sh wX) 117 [(2, t), (0, i), (0, j), (0, k)] A (fun r_z => r_z = (some (0, teX (A t) i j k), A)) := by
  obtain ⟨m1_z, m2_z, m3_z⟩ := te_bd b1 b2 b3
  refine Cl.of (Nat.le_of_ble_eq_true rfl) ?_
  show Tm pmt (an_sh wX) o_X9_turnedEntry 0 ([(2, t), (0, i), (0, j), (0, k), (9, 0), (9, 0), (9, 0)], [], A) _
  refine wq_ok (full := o_X9_turnedEntry) srt_turnedEntry (fr := []) (cuts := [45]) (J := fun pc st_z => pc = 45 ∧ ∃ (c_z : Int) (v6 : pm_V), ((c_z = 1 ∧ alg (A t) i j k) ∨ (c_z = 0 ∧ ¬ alg (A t) i j k)) ∧ st_z = ([(2, t), (0, i), (0, j), (0, k), (0, A t (i * 6 + k)), (0, A t (k * 6 + j)), v6], [(0, c_z)], A)) ?_ 40 0 _ ?_
  · rintro pc st_z ⟨rfl, c_z, v6, hc_z, rfl⟩
    refine wq_ok srt_turnedEntry (fr := []) (cuts := []) (J := fun _ _ => False) (fun _ _ h_z => h_z.elim) 40 45 _ ?_
    refine ⟨⟨by omega, by omega⟩, ?_⟩
    refine ⟨⟨by omega, by omega⟩, ?_⟩
    refine ⟨aX_10 ht.1 ht.2 (by omega) (by omega), ?_⟩
    refine ⟨fun h1 => ?_, fun h1 => ?_⟩
    · have ha_z : ¬ alg (A t) i j k := by
        rcases hc_z with hc_z | hc_z
        · omega
        · exact hc_z.2
      refine ⟨⟨by omega, by omega⟩, ?_⟩
      refine ⟨rfl, ?_⟩
      unfold teX
      rw [if_neg ha_z]
    · have ha_z : alg (A t) i j k := by
        rcases hc_z with hc_z | hc_z
        · exact hc_z.2
        · omega
      have m4_z : teX (A t) i j k = A t (i * 6 + j) + ((A t (i * 6 + k)).natAbs : Int) * A t (k * 6 + j) := by
        unfold teX
        rw [if_pos ha_z]
      refine ⟨⟨by omega, by omega⟩, ?_⟩
      refine ⟨⟨by omega, by omega⟩, ?_⟩
      refine ⟨⟨by omega, by omega⟩, ?_⟩
      refine ⟨rfl, ?_⟩
      rw [m4_z]
  · refine ⟨⟨by omega, by omega⟩, ?_⟩
    refine ⟨⟨by omega, by omega⟩, ?_⟩
    refine ⟨aX_10 ht.1 ht.2 (by omega) (by omega), ?_⟩
    refine ⟨⟨by omega, by omega⟩, ?_⟩
    refine ⟨⟨by omega, by omega⟩, ?_⟩
    refine ⟨aX_10 ht.1 ht.2 (by omega) (by omega), ?_⟩
    refine ⟨fun h1 => ?_, fun h1 => ?_⟩
    · refine ⟨fun h2 => ?_, fun h2 => ?_⟩
      · exact ⟨rfl, 0, _, Or.inr ⟨rfl, fun q_z => by rcases q_z with q_z | q_z <;> omega⟩, rfl⟩
      · refine ⟨fun h3 => ?_, fun h3 => ?_⟩
        · exact ⟨rfl, 0, _, Or.inr ⟨rfl, fun q_z => by rcases q_z with q_z | q_z <;> omega⟩, rfl⟩
        · exact ⟨rfl, 1, _, Or.inl ⟨rfl, Or.inr ⟨h2, h3⟩⟩, rfl⟩
    · refine ⟨fun h2 => ?_, fun h2 => ?_⟩
      · exact ⟨rfl, 1, _, Or.inl ⟨rfl, Or.inl ⟨h1, h2⟩⟩, rfl⟩
      · refine ⟨fun h3 => ?_, fun h3 => absurd h1 (by omega)⟩
        exact ⟨rfl, 0, _, Or.inr ⟨rfl, fun q_z => by rcases q_z with q_z | q_z <;> omega⟩, rfl⟩
def itB (T : Int → Int) (R P k : Int) : Prop := ∀ i_z j_z : Int, 0 ≤ i_z → i_z < R → 0 ≤ j_z → j_z < P → ¬ i_z = k → ¬ j_z = k → -9999 ≤ teX T i_z j_z k ∧ teX T i_z j_z k ≤ 9999
def itP (A : pm_A) (t R P k : Int) (r : pm_R) : Prop := r.2 = A ∧ ((r.1 = some (0, 0) ∧ ¬ itB (A t) R P k) ∨ (r.1 = some (0, 1) ∧ itB (A t) R P k))
theorem srt_isTableTurnable : pm_srt o_X9_isTableTurnable = true := by decide +kernel
def tbH (A : pm_A) (t R P k : Int) : Prop := (0 ≤ t ∧ wX.2 t = 10) ∧ tbB (A t) R P ∧ (0 ≤ k ∧ k < P) ∧ P ≤ R ∧ R ≤ 12 ∧ P ≤ 6
theorem it_12 {A : pm_A} {t R P k i : Int} (hH : tbH A t R P k) (i0 : 0 ≤ i) (i1 : i < R) (H : ∀ v5 : pm_V, (∀ j_z : Int, 0 ≤ j_z → j_z < P → ¬ i = k → ¬ j_z = k → -9999 ≤ teX (A t) i j_z k ∧ teX (A t) i j_z k ≤ 9999) → Tm pmt (an_sh wX) o_X9_isTableTurnable 56 ([(2, t), (0, R), (0, P), (0, k), (0, i), v5], [], A) (itP A t R P k)) : ∀ (m_z : Nat) (j_z : Int), (6 - j_z).toNat < m_z → 0 ≤ j_z → j_z ≤ P → (∀ j' : Int, 0 ≤ j' → j' < j_z → ¬ i = k → ¬ j' = k → -9999 ≤ teX (A t) i j' k ∧ teX (A t) i j' k ≤ 9999) → Tm pmt (an_sh wX) o_X9_isTableTurnable 12 ([(2, t), (0, R), (0, P), (0, k), (0, i), (0, j_z)], [], A) (itP A t R P k) := by
  obtain ⟨ht, hb_z, hk, hPR, hR, hP⟩ := hH
  intro m_z
  induction m_z with
  | zero => intro j_z h_z; omega
  | succ m_z ih_z =>
    intro j_z hm_z j0 j1 hok
    refine wq_ok srt_isTableTurnable (fr := []) (cuts := [12, 56]) (J := fun pc st_z => (pc = 56 ∧ j_z = P ∧ st_z = ([(2, t), (0, R), (0, P), (0, k), (0, i), (0, j_z)], [], A)) ∨ (pc = 12 ∧ j_z < P ∧ (¬ i = k → ¬ j_z = k → -9999 ≤ teX (A t) i j_z k ∧ teX (A t) i j_z k ≤ 9999) ∧ st_z = ([(2, t), (0, R), (0, P), (0, k), (0, i), (0, j_z + 1)], [], A))) ?_ 40 12 _ ?_
    · rintro pc st_z (⟨rfl, hj, rfl⟩ | ⟨rfl, hj, hj2, rfl⟩)
      · exact H _ (fun j' a_z b_z c_z d_z => hok j' a_z (by omega) c_z d_z)
      · refine ih_z (j_z + 1) (by omega) (by omega) (by omega) (fun j' a_z b_z c_z d_z => ?_)
        by_cases e_z : j' = j_z
        · rw [e_z]; rw [e_z] at d_z; exact hj2 c_z d_z
        · exact hok j' a_z (by omega) c_z d_z
    · refine ⟨fun h_z => Or.inl ⟨rfl, by omega, rfl⟩, fun h_z => ?_⟩
      refine ⟨fun h1 => ?_, fun h1 => ?_⟩
      · refine ⟨⟨by omega, by omega⟩, ?_⟩
        exact Or.inr ⟨rfl, h_z, fun c_z => absurd h1 c_z, rfl⟩
      · refine ⟨fun h2 => ?_, fun h2 => ?_⟩
        · refine ⟨⟨by omega, by omega⟩, ?_⟩
          exact Or.inr ⟨rfl, h_z, fun _ c_z => absurd h2 c_z, rfl⟩
        · have b1 := hb_z i k i0 i1 hk.1 hk.2
          have b2 := hb_z k j_z hk.1 (by omega) j0 h_z
          have b3 := hb_z i j_z i0 i1 j0 h_z
          obtain ⟨m1_z, m2_z, m3_z⟩ := te_bd b1 b2 b3
          refine ⟨rfl, ?_⟩
          refine (turnedEntry_ex ht i0 (by omega) j0 (by omega) hk.1 (by omega) b1 b2 b3).imp ?_
          rintro r_z rfl
          refine ⟨⟨by omega, by omega⟩, ?_⟩
          refine ⟨fun h3 => ?_, fun h3 => ?_⟩
          · refine ⟨⟨by omega, by omega⟩, ?_⟩
            exact Or.inr ⟨rfl, h_z, fun _ _ => ⟨by omega, by omega⟩, rfl⟩
          · refine ⟨rfl, rfl, Or.inl ⟨rfl, fun q_z => ?_⟩⟩
            have h4 := q_z i j_z i0 i1 j0 h_z h1 h2
            omega
theorem it_3 {A : pm_A} {t R P k : Int} (hH : tbH A t R P k) : ∀ (m_z : Nat) (i_z : Int) (v5 : pm_V), (12 - i_z).toNat < m_z → 0 ≤ i_z → i_z ≤ R → (∀ i' j_z : Int, 0 ≤ i' → i' < i_z → 0 ≤ j_z → j_z < P → ¬ i' = k → ¬ j_z = k → -9999 ≤ teX (A t) i' j_z k ∧ teX (A t) i' j_z k ≤ 9999) → Tm pmt (an_sh wX) o_X9_isTableTurnable 3 ([(2, t), (0, R), (0, P), (0, k), (0, i_z), v5], [], A) (itP A t R P k) := by
  have hH0 := hH
  obtain ⟨ht, hb_z, hk, hPR, hR, hP⟩ := hH
  intro m_z
  induction m_z with
  | zero => intro i_z v5 h_z; omega
  | succ m_z ih_z =>
    intro i_z v5 hm_z i0_z i1_z hok
    refine wq_ok srt_isTableTurnable (fr := []) (cuts := [12]) (J := fun pc st_z => pc = 12 ∧ i_z < R ∧ st_z = ([(2, t), (0, R), (0, P), (0, k), (0, i_z), (0, 0)], [], A)) ?_ 40 3 _ ?_
    · rintro pc st_z ⟨rfl, hi_z, rfl⟩
      refine it_12 hH0 i0_z hi_z (fun v5 hrow => ?_) _ 0 (Nat.lt_succ_self _) (by omega) (by omega) (fun j' a_z b_z => by omega)
      refine wq_ok srt_isTableTurnable (fr := []) (cuts := [3]) (J := fun pc st_z => pc = 3 ∧ st_z = ([(2, t), (0, R), (0, P), (0, k), (0, i_z + 1), v5], [], A)) ?_ 40 56 _ ?_
      · rintro pc st_z ⟨rfl, rfl⟩
        refine ih_z (i_z + 1) v5 (by omega) (by omega) (by omega) (fun i' j_z a_z b_z c_z d_z e_z f_z => ?_)
        by_cases g_z : i' = i_z
        · rw [g_z]; rw [g_z] at e_z; exact hrow j_z c_z d_z e_z f_z
        · exact hok i' j_z a_z (by omega) c_z d_z e_z f_z
      · refine ⟨⟨by omega, by omega⟩, ?_⟩
        exact ⟨rfl, rfl⟩
    · refine ⟨fun h_z => ?_, fun h_z => ?_⟩
      · exact ⟨rfl, rfl, Or.inr ⟨rfl, fun i' j_z a_z b_z c_z d_z e_z f_z => hok i' j_z a_z (by omega) c_z d_z e_z f_z⟩⟩
      · exact ⟨rfl, h_z, rfl⟩
theorem isTableTurnable_ex {A : pm_A} {t R P k : Int} (hH : tbH A t R P k) : Cl pmt (an_sh wX) 98 [(2, t), (0, R), (0, P), (0, k)] A (itP A t R P k) := by
  refine Cl.of (Nat.le_of_ble_eq_true rfl) ?_
  show Tm pmt (an_sh wX) o_X9_isTableTurnable 0 ([(2, t), (0, R), (0, P), (0, k), (9, 0), (9, 0)], [], A) _
  refine wq_ok (full := o_X9_isTableTurnable) srt_isTableTurnable (fr := []) (cuts := [3]) (J := fun pc st_z => pc = 3 ∧ ∃ v5, st_z = ([(2, t), (0, R), (0, P), (0, k), (0, 0), v5], [], A)) ?_ 20 0 _ ?_
  · rintro pc st_z ⟨rfl, v5, rfl⟩
    exact it_3 hH _ 0 v5 (Nat.lt_succ_self _) (by omega) (by have := hH.2.2.2.1; have := hH.2.2.1; omega) (fun i' j_z a_z b_z => by omega)
  · exact ⟨rfl, _, rfl⟩
theorem srt_turnTable : pm_srt o_X9_turnTable = true := by decide +kernel
def ttF (A B : pm_A) (t : Int) : Prop := gH wX B ∧ ∀ r_z j_z : Int, ¬ r_z = t → B r_z j_z = A r_z j_z
def tt1 (A B : pm_A) (t R P k i j : Int) : Prop := ttF A B t ∧ ∀ a_z b_z : Int, 0 ≤ a_z → a_z < R → 0 ≤ b_z → b_z < P → B t (a_z * 6 + b_z) = if (a_z < i ∨ (a_z = i ∧ b_z < j)) ∧ ¬ a_z = k ∧ ¬ b_z = k then teX (A t) a_z b_z k else A t (a_z * 6 + b_z)
def tt2 (A B : pm_A) (t R P k i : Int) : Prop := ttF A B t ∧ ∀ a_z b_z : Int, 0 ≤ a_z → a_z < R → 0 ≤ b_z → b_z < P → B t (a_z * 6 + b_z) = if ¬ a_z = k ∧ ¬ b_z = k then teX (A t) a_z b_z k else if b_z = k ∧ a_z < i then - A t (a_z * 6 + b_z) else A t (a_z * 6 + b_z)
def tt3 (A B : pm_A) (t R P k j : Int) : Prop := ttF A B t ∧ ∀ a_z b_z : Int, 0 ≤ a_z → a_z < R → 0 ≤ b_z → b_z < P → B t (a_z * 6 + b_z) = if ¬ a_z = k ∧ ¬ b_z = k then teX (A t) a_z b_z k else if b_z = k ∨ b_z < j then - A t (a_z * 6 + b_z) else A t (a_z * 6 + b_z)
def ttP (A : pm_A) (t R P k : Int) (r : pm_R) : Prop := r.1 = none ∧ ttF A r.2 t ∧ ∀ a_z b_z : Int, 0 ≤ a_z → a_z < R → 0 ≤ b_z → b_z < P → r.2 t (a_z * 6 + b_z) = tvT (A t) k a_z b_z
theorem te_same {T T' : Int → Int} {i j k : Int} (h1 : T (i * 6 + k) = T' (i * 6 + k)) (h2 : T (k * 6 + j) = T' (k * 6 + j)) (h3 : T (i * 6 + j) = T' (i * 6 + j)) : teX T i j k = teX T' i j k := by
  unfold teX alg
  rw [h1, h2, h3]
theorem tt_12 {A : pm_A} {t R P k i : Int} (hH : tbH A t R P k) (i0 : 0 ≤ i) (i1 : i < R) {z : pm_R → Prop} (H : ∀ (C_z : pm_A) (v5 : pm_V), tt1 A C_z t R P k (i + 1) 0 → Tm pmt (an_sh wX) o_X9_turnTable 55 ([(2, t), (0, R), (0, P), (0, k), (0, i), v5], [], C_z) z) : ∀ (m_z : Nat) (j_z : Int) (B_z : pm_A), (6 - j_z).toNat < m_z → 0 ≤ j_z → j_z ≤ P → tt1 A B_z t R P k i j_z → Tm pmt (an_sh wX) o_X9_turnTable 12 ([(2, t), (0, R), (0, P), (0, k), (0, i), (0, j_z)], [], B_z) z := by
  obtain ⟨ht, hb_z, hk, hPR, hR, hP⟩ := hH
  intro m_z
  induction m_z with
  | zero => intro j_z B_z h_z; omega
  | succ m_z ih_z =>
    intro j_z B_z hm_z j0 j1 hI
    obtain ⟨hF, hc_z⟩ := hI
    have c1_z : B_z t (i * 6 + k) = A t (i * 6 + k) := by rw [hc_z i k i0 i1 hk.1 hk.2, if_neg (fun q_z => q_z.2.2 rfl)]
    have c2_z : j_z < P → B_z t (k * 6 + j_z) = A t (k * 6 + j_z) := fun h3 => by rw [hc_z k j_z hk.1 (by omega) j0 h3, if_neg (fun q_z => q_z.2.1 rfl)]
    have c3_z : j_z < P → B_z t (i * 6 + j_z) = A t (i * 6 + j_z) := fun h3 => by rw [hc_z i j_z i0 i1 j0 h3, if_neg (fun q_z => by omega)]
    have hte : j_z < P → teX (B_z t) i j_z k = teX (A t) i j_z k := fun h3 => te_same c1_z (c2_z h3) (c3_z h3)
    refine wq_ok srt_turnTable (fr := []) (cuts := [12, 30, 55]) (J := fun pc st_z => (pc = 55 ∧ j_z = P ∧ st_z = ([(2, t), (0, R), (0, P), (0, k), (0, i), (0, j_z)], [], B_z)) ∨ (pc = 12 ∧ j_z < P ∧ (i = k ∨ j_z = k) ∧ st_z = ([(2, t), (0, R), (0, P), (0, k), (0, i), (0, j_z + 1)], [], B_z)) ∨ (pc = 30 ∧ j_z < P ∧ (¬ i = k) ∧ (¬ j_z = k) ∧ st_z = ([(2, t), (0, R), (0, P), (0, k), (0, i), (0, j_z)], [], B_z))) ?_ 40 12 _ ?_
    · rintro pc st_z (⟨rfl, hj, rfl⟩ | ⟨rfl, hj, hk2, rfl⟩ | ⟨rfl, hj, h1, h2, rfl⟩)
      · refine H B_z _ ⟨hF, fun a_z b_z a0_z a1_z b0 b1 => ?_⟩
        rw [hc_z a_z b_z a0_z a1_z b0 b1]
        by_cases e_z : (a_z < i ∨ (a_z = i ∧ b_z < j_z)) ∧ ¬ a_z = k ∧ ¬ b_z = k
        · rw [if_pos e_z, if_pos (by omega)]
        · rw [if_neg e_z, if_neg (by omega)]
      · refine ih_z (j_z + 1) B_z (by omega) (by omega) (by omega) ⟨hF, fun a_z b_z a0_z a1_z b0 b1 => ?_⟩
        rw [hc_z a_z b_z a0_z a1_z b0 b1]
        by_cases e_z : (a_z < i ∨ (a_z = i ∧ b_z < j_z)) ∧ ¬ a_z = k ∧ ¬ b_z = k
        · rw [if_pos e_z, if_pos (by omega)]
        · rw [if_neg e_z, if_neg (by omega)]
      · refine wq_ok srt_turnTable (fr := []) (cuts := [12]) (J := fun pc st_z => pc = 12 ∧ st_z = ([(2, t), (0, R), (0, P), (0, k), (0, i), (0, j_z + 1)], [], pm_upd B_z t (i * 6 + j_z) (teX (B_z t) i j_z k))) ?_ 40 30 _ ?_
        · rintro pc st_z ⟨rfl, rfl⟩
          rw [hte hj]
          obtain ⟨m1_z, m2_z, m3_z⟩ := te_bd (hb_z i k i0 i1 hk.1 hk.2) (hb_z k j_z hk.1 (by omega) j0 hj) (hb_z i j_z i0 i1 j0 hj)
          refine ih_z (j_z + 1) _ (by omega) (by omega) (by omega) ⟨⟨uX_10 hF.1 ht.2 (by omega) (by omega), fun r_z c_z hr => by rw [upd_ne hr]; exact hF.2 r_z c_z hr⟩, fun a_z b_z a0_z a1_z b0 b1 => ?_⟩
          by_cases e_z : a_z = i ∧ b_z = j_z
          · obtain ⟨rfl, rfl⟩ := e_z
            rw [upd_at, if_pos (by omega)]
          · rw [upd_n2 (by omega), hc_z a_z b_z a0_z a1_z b0 b1]
            by_cases e2 : (a_z < i ∨ (a_z = i ∧ b_z < j_z)) ∧ ¬ a_z = k ∧ ¬ b_z = k
            · rw [if_pos e2, if_pos (by omega)]
            · rw [if_neg e2, if_neg (by omega)]
        · refine ⟨⟨by omega, by omega⟩, ?_⟩
          refine ⟨⟨by omega, by omega⟩, ?_⟩
          refine ⟨rfl, ?_⟩
          have hcall := turnedEntry_ex (A := B_z) ht i0 (by omega) j0 (by omega) hk.1 (by omega) (by rw [c1_z]; exact hb_z i k i0 i1 hk.1 hk.2) (by rw [c2_z hj]; exact hb_z k j_z hk.1 (by omega) j0 hj) (by rw [c3_z hj]; exact hb_z i j_z i0 i1 j0 hj)
          refine hcall.imp ?_
          rintro r_z rfl
          refine ⟨tX_10 ht.1 ht.2 (by omega) (by omega) rfl, ?_⟩
          refine ⟨⟨by omega, by omega⟩, ?_⟩
          exact ⟨rfl, rfl⟩
    · refine ⟨fun h_z => Or.inl ⟨rfl, by omega, rfl⟩, fun h_z => ?_⟩
      refine ⟨fun h1 => ?_, fun h1 => ?_⟩
      · refine ⟨⟨by omega, by omega⟩, ?_⟩
        exact Or.inr (Or.inl ⟨rfl, h_z, Or.inl h1, rfl⟩)
      · refine ⟨fun h2 => ?_, fun h2 => ?_⟩
        · refine ⟨⟨by omega, by omega⟩, ?_⟩
          exact Or.inr (Or.inl ⟨rfl, h_z, Or.inr h2, rfl⟩)
        · exact Or.inr (Or.inr ⟨rfl, h_z, h1, h2, rfl⟩)
theorem tt_64 {A : pm_A} {t R P k : Int} (hH : tbH A t R P k) {z : pm_R → Prop} (H : ∀ (C_z : pm_A) (v5 : pm_V), tt2 A C_z t R P k R → Tm pmt (an_sh wX) o_X9_turnTable 95 ([(2, t), (0, R), (0, P), (0, k), (0, R), v5], [], C_z) z) : ∀ (m_z : Nat) (i_z : Int) (v5 : pm_V) (B_z : pm_A), (12 - i_z).toNat < m_z → 0 ≤ i_z → i_z ≤ R → tt2 A B_z t R P k i_z → Tm pmt (an_sh wX) o_X9_turnTable 64 ([(2, t), (0, R), (0, P), (0, k), (0, i_z), v5], [], B_z) z := by
  obtain ⟨ht, hb_z, hk, hPR, hR, hP⟩ := hH
  intro m_z
  induction m_z with
  | zero => intro i_z v5 B_z h_z; omega
  | succ m_z ih_z =>
    intro i_z v5 B_z hm_z i0_z i1_z hI
    obtain ⟨hF, hc_z⟩ := hI
    have hcell : i_z < R → B_z t (i_z * 6 + k) = A t (i_z * 6 + k) := fun h_z => by
      rw [hc_z i_z k i0_z h_z hk.1 hk.2, if_neg (fun q_z => q_z.2 rfl), if_neg (by omega)]
    refine wq_ok srt_turnTable (fr := []) (cuts := [64, 95]) (J := fun pc st_z => (pc = 95 ∧ i_z = R ∧ st_z = ([(2, t), (0, R), (0, P), (0, k), (0, i_z), v5], [], B_z)) ∨ (pc = 64 ∧ i_z < R ∧ st_z = ([(2, t), (0, R), (0, P), (0, k), (0, i_z + 1), v5], [], pm_upd B_z t (i_z * 6 + k) (-(B_z t (i_z * 6 + k)))))) ?_ 40 64 _ ?_
    · rintro pc st_z (⟨rfl, hi_z, rfl⟩ | ⟨rfl, hi_z, rfl⟩)
      · subst hi_z
        exact H B_z _ ⟨hF, hc_z⟩
      · rw [hcell hi_z]
        have h1 := hb_z i_z k i0_z hi_z hk.1 hk.2
        refine ih_z (i_z + 1) _ _ (by omega) (by omega) (by omega) ⟨⟨uX_10 hF.1 ht.2 (by omega) (by omega), fun r_z c_z hr => by rw [upd_ne hr]; exact hF.2 r_z c_z hr⟩, fun a_z b_z a0_z a1_z b0 b1 => ?_⟩
        by_cases e_z : a_z = i_z ∧ b_z = k
        · obtain ⟨rfl, rfl⟩ := e_z
          rw [upd_at, if_neg (fun q_z => q_z.2 rfl), if_pos (by omega)]
        · rw [upd_n2 (by omega), hc_z a_z b_z a0_z a1_z b0 b1]
          by_cases e1 : ¬ a_z = k ∧ ¬ b_z = k
          · rw [if_pos e1, if_pos e1]
          · rw [if_neg e1, if_neg e1]
            by_cases e2 : b_z = k ∧ a_z < i_z
            · rw [if_pos e2, if_pos (by omega)]
            · rw [if_neg e2, if_neg (by omega)]
    · refine ⟨fun h_z => Or.inl ⟨rfl, by omega, rfl⟩, fun h_z => ?_⟩
      have h1 := hb_z i_z k i0_z h_z hk.1 hk.2
      have h2 := hcell h_z
      refine ⟨⟨by omega, by omega⟩, ?_⟩
      refine ⟨⟨by omega, by omega⟩, ?_⟩
      refine ⟨⟨by omega, by omega⟩, ?_⟩
      refine ⟨⟨by omega, by omega⟩, ?_⟩
      refine ⟨aX_10 ht.1 ht.2 (by omega) (by omega), ?_⟩
      refine ⟨⟨by omega, by omega⟩, ?_⟩
      refine ⟨tX_10 ht.1 ht.2 (by omega) (by omega) rfl, ?_⟩
      refine ⟨⟨by omega, by omega⟩, ?_⟩
      exact Or.inr ⟨rfl, h_z, rfl⟩
theorem tt_98 {A : pm_A} {t R P k : Int} (hH : tbH A t R P k) : ∀ (m_z : Nat) (j_z : Int) (v5 : pm_V) (B_z : pm_A), (6 - j_z).toNat < m_z → 0 ≤ j_z → j_z ≤ P → tt3 A B_z t R P k j_z → Tm pmt (an_sh wX) o_X9_turnTable 98 ([(2, t), (0, R), (0, P), (0, k), (0, j_z), v5], [], B_z) (ttP A t R P k) := by
  obtain ⟨ht, hb_z, hk, hPR, hR, hP⟩ := hH
  intro m_z
  induction m_z with
  | zero => intro j_z v5 B_z h_z; omega
  | succ m_z ih_z =>
    intro j_z v5 B_z hm_z j0 j1 hI
    obtain ⟨hF, hc_z⟩ := hI
    have hcell : j_z < P → ¬ j_z = k → B_z t (k * 6 + j_z) = A t (k * 6 + j_z) := fun h_z h2 => by
      rw [hc_z k j_z hk.1 (by omega) j0 h_z, if_neg (fun q_z => q_z.1 rfl), if_neg (by omega)]
    refine wq_ok srt_turnTable (fr := []) (cuts := [98]) (J := fun pc st_z => (pc = 98 ∧ j_z < P ∧ j_z = k ∧ st_z = ([(2, t), (0, R), (0, P), (0, k), (0, j_z + 1), v5], [], B_z)) ∨ (pc = 98 ∧ j_z < P ∧ (¬ j_z = k) ∧ st_z = ([(2, t), (0, R), (0, P), (0, k), (0, j_z + 1), v5], [], pm_upd B_z t (k * 6 + j_z) (-(B_z t (k * 6 + j_z)))))) ?_ 40 98 _ ?_
    · rintro pc st_z (⟨rfl, hj, hjk, rfl⟩ | ⟨rfl, hj, hjk, rfl⟩)
      · refine ih_z (j_z + 1) _ B_z (by omega) (by omega) (by omega) ⟨hF, fun a_z b_z a0_z a1_z b0 b1 => ?_⟩
        rw [hc_z a_z b_z a0_z a1_z b0 b1]
        by_cases e1 : ¬ a_z = k ∧ ¬ b_z = k
        · rw [if_pos e1, if_pos e1]
        · rw [if_neg e1, if_neg e1]
          by_cases e2 : b_z = k ∨ b_z < j_z
          · rw [if_pos e2, if_pos (by omega)]
          · rw [if_neg e2, if_neg (by omega)]
      · rw [hcell hj hjk]
        have h1 := hb_z k j_z hk.1 (by omega) j0 hj
        refine ih_z (j_z + 1) _ _ (by omega) (by omega) (by omega) ⟨⟨uX_10 hF.1 ht.2 (by omega) (by omega), fun r_z c_z hr => by rw [upd_ne hr]; exact hF.2 r_z c_z hr⟩, fun a_z b_z a0_z a1_z b0 b1 => ?_⟩
        by_cases e_z : a_z = k ∧ b_z = j_z
        · obtain ⟨rfl, rfl⟩ := e_z
          rw [upd_at, if_neg (fun q_z => q_z.1 rfl), if_pos (by omega)]
        · rw [upd_n2 (by omega), hc_z a_z b_z a0_z a1_z b0 b1]
          by_cases e1 : ¬ a_z = k ∧ ¬ b_z = k
          · rw [if_pos e1, if_pos e1]
          · rw [if_neg e1, if_neg e1]
            by_cases e2 : b_z = k ∨ b_z < j_z
            · rw [if_pos e2, if_pos (by omega)]
            · rw [if_neg e2, if_neg (by omega)]
    · refine ⟨fun h_z => ?_, fun h_z => ?_⟩
      · refine ⟨rfl, hF, fun a_z b_z a0_z a1_z b0 b1 => ?_⟩
        show B_z t (a_z * 6 + b_z) = tvT (A t) k a_z b_z
        rw [hc_z a_z b_z a0_z a1_z b0 b1]
        unfold tvT
        by_cases e1 : ¬ a_z = k ∧ ¬ b_z = k
        · rw [if_pos e1, if_neg (by omega)]
        · rw [if_neg e1, if_pos (by omega), if_pos (by omega)]
      · refine ⟨fun h2 => ?_, fun h2 => ?_⟩
        · refine ⟨⟨by omega, by omega⟩, ?_⟩
          exact Or.inl ⟨rfl, h_z, h2, rfl⟩
        · have h1 := hb_z k j_z hk.1 (by omega) j0 h_z
          have h3 := hcell h_z h2
          refine ⟨⟨by omega, by omega⟩, ?_⟩
          refine ⟨⟨by omega, by omega⟩, ?_⟩
          refine ⟨⟨by omega, by omega⟩, ?_⟩
          refine ⟨⟨by omega, by omega⟩, ?_⟩
          refine ⟨aX_10 ht.1 ht.2 (by omega) (by omega), ?_⟩
          refine ⟨⟨by omega, by omega⟩, ?_⟩
          refine ⟨tX_10 ht.1 ht.2 (by omega) (by omega) rfl, ?_⟩
          refine ⟨⟨by omega, by omega⟩, ?_⟩
          exact Or.inr ⟨rfl, h_z, h2, rfl⟩
theorem tt_3 {A : pm_A} {t R P k : Int} (hH : tbH A t R P k) : ∀ (m_z : Nat) (i_z : Int) (v5 : pm_V) (B_z : pm_A), (12 - i_z).toNat < m_z → 0 ≤ i_z → i_z ≤ R → tt1 A B_z t R P k i_z 0 → Tm pmt (an_sh wX) o_X9_turnTable 3 ([(2, t), (0, R), (0, P), (0, k), (0, i_z), v5], [], B_z) (ttP A t R P k) := by
  have hH0 := hH
  obtain ⟨ht, hb_z, hk, hPR, hR, hP⟩ := hH
  intro m_z
  induction m_z with
  | zero => intro i_z v5 B_z h_z; omega
  | succ m_z ih_z =>
    intro i_z v5 B_z hm_z i0_z i1_z hI
    have hI0 := hI
    obtain ⟨hF, hc_z⟩ := hI
    refine wq_ok srt_turnTable (fr := []) (cuts := [12, 64]) (J := fun pc st_z => (pc = 64 ∧ i_z = R ∧ st_z = ([(2, t), (0, R), (0, P), (0, k), (0, 0), v5], [], B_z)) ∨ (pc = 12 ∧ i_z < R ∧ st_z = ([(2, t), (0, R), (0, P), (0, k), (0, i_z), (0, 0)], [], B_z))) ?_ 40 3 _ ?_
    · rintro pc st_z (⟨rfl, hi_z, rfl⟩ | ⟨rfl, hi_z, rfl⟩)
      · refine tt_64 hH0 (fun C_z v5 hC => ?_) _ 0 v5 B_z (Nat.lt_succ_self _) (by omega) (by omega) ⟨hF, fun a_z b_z a0_z a1_z b0 b1 => ?_⟩
        · refine wq_ok srt_turnTable (fr := []) (cuts := [98]) (J := fun pc st_z => pc = 98 ∧ st_z = ([(2, t), (0, R), (0, P), (0, k), (0, 0), v5], [], C_z)) ?_ 40 95 _ ?_
          · rintro pc st_z ⟨rfl, rfl⟩
            refine tt_98 hH0 _ 0 v5 C_z (Nat.lt_succ_self _) (by omega) (by omega) ⟨hC.1, fun a_z b_z a0_z a1_z b0 b1 => ?_⟩
            rw [hC.2 a_z b_z a0_z a1_z b0 b1]
            by_cases e1 : ¬ a_z = k ∧ ¬ b_z = k
            · rw [if_pos e1, if_pos e1]
            · rw [if_neg e1, if_neg e1]
              by_cases e2 : b_z = k ∧ a_z < R
              · rw [if_pos e2, if_pos (by omega)]
              · rw [if_neg e2, if_neg (by omega)]
          · exact ⟨rfl, rfl⟩
        · rw [hc_z a_z b_z a0_z a1_z b0 b1]
          by_cases e1 : ¬ a_z = k ∧ ¬ b_z = k
          · rw [if_pos e1, if_pos (by omega)]
          · rw [if_neg e1, if_neg (by omega), if_neg (by omega)]
      · refine tt_12 hH0 i0_z hi_z (fun C_z v5 hC => ?_) _ 0 B_z (Nat.lt_succ_self _) (by omega) (by omega) hI0
        refine wq_ok srt_turnTable (fr := []) (cuts := [3]) (J := fun pc st_z => pc = 3 ∧ st_z = ([(2, t), (0, R), (0, P), (0, k), (0, i_z + 1), v5], [], C_z)) ?_ 40 55 _ ?_
        · rintro pc st_z ⟨rfl, rfl⟩
          exact ih_z (i_z + 1) v5 C_z (by omega) (by omega) (by omega) hC
        · refine ⟨⟨by omega, by omega⟩, ?_⟩
          exact ⟨rfl, rfl⟩
    · refine ⟨fun h_z => Or.inl ⟨rfl, by omega, rfl⟩, fun h_z => Or.inr ⟨rfl, h_z, rfl⟩⟩
theorem turnTable_ex {A : pm_A} {t R P k : Int} (hA : gH wX A) (hH : tbH A t R P k) : Cl pmt (an_sh wX) 116 [(2, t), (0, R), (0, P), (0, k)] A (ttP A t R P k) := by
  refine Cl.of (Nat.le_of_ble_eq_true rfl) ?_
  show Tm pmt (an_sh wX) o_X9_turnTable 0 ([(2, t), (0, R), (0, P), (0, k), (9, 0), (9, 0)], [], A) _
  refine wq_ok (full := o_X9_turnTable) srt_turnTable (fr := []) (cuts := [3]) (J := fun pc st_z => pc = 3 ∧ ∃ v5, st_z = ([(2, t), (0, R), (0, P), (0, k), (0, 0), v5], [], A)) ?_ 20 0 _ ?_
  · rintro pc st_z ⟨rfl, v5, rfl⟩
    refine tt_3 hH _ 0 v5 A (Nat.lt_succ_self _) (by omega) (by have := hH.2.2.2.1; have := hH.2.2.1; omega) ⟨⟨hA, fun _ _ _ => rfl⟩, fun a_z b_z a0_z a1_z b0 b1 => ?_⟩
    rw [if_neg (by omega)]
  · exact ⟨rfl, _, rfl⟩
