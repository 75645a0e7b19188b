/-! the class's Book, exactly: clear, find, enter -/
theorem and_8191 (y : Int) : pp_bi 3 y 8191 = y % 8192 := by
  show ((Int32.ofInt y).toBitVec &&& (Int32.ofInt 8191).toBitVec).toInt = _
  have e_z : ((Int32.ofInt y).toBitVec &&& (Int32.ofInt 8191).toBitVec).toNat = (y % 8192).toNat := by
    rw [BitVec.toNat_and]
    show (BitVec.ofInt 32 y).toNat &&& (2 ^ 13 - 1) = _
    rw [Nat.and_two_pow_sub_one_eq_mod, BitVec.toNat_ofInt]
    omega
  rw [BitVec.toInt_eq_toNat_of_lt (by rw [e_z]; omega), e_z]
  omega
theorem sq_slotOf : pm_srt o_X1_slotOf = true := by decide +kernel
theorem sq_Bfind : pm_srt o_X1_find = true := by decide +kernel
theorem sq_Benter : pm_srt o_X1_enter = true := by decide +kernel
theorem sq_Bclear : pm_srt o_X1_clear = true := by decide +kernel
/-- where a pair of longs is looked for first -/
def hsM (a c : Int) : Int := pp_lb 0 (pp_lb 2 a (-7046029254386353131)) (pp_lb 2 c (-4417276706812531889))
def hsL (a c : Int) : Int := (o_ls 2 (Int64.ofInt (pp_lb 5 (hsM a c) (o_ls 2 (Int64.ofInt (hsM a c)) (Int32.ofInt 29)).toInt)) (Int32.ofInt 17)).toInt
def hsh (a c : Int) : Int := w32 (hsL a c) % 8192
/-- the book's cells -/
def BK (A : pm_A) : Prop := (A 407 0 = 408 ∧ A 407 1 = 409 ∧ A 407 2 = 410 ∧ A 407 3 = 411 ∧ A 407 4 = 412) ∧ (A 0 11 = 407 ∧ A 0 12 = 413 ∧ A 413 2 = 414 ∧ A 413 3 = 415)
theorem k407 : wX.2 407 = 6 := by decide
theorem k408 : wX.2 408 = 30 := by decide
theorem k409 : wX.2 409 = 30 := by decide
theorem k410 : wX.2 410 = 31 := by decide
theorem k411 : wX.2 411 = 32 := by decide
theorem k412 : wX.2 412 = 33 := by decide
theorem k413 : wX.2 413 = 7 := by decide
theorem k414 : wX.2 414 = 32 := by decide
theorem k415 : wX.2 415 = 10 := by decide
theorem bk_first : BK (wA WX) := by
  refine ⟨⟨?_, ?_, ?_, ?_, ?_⟩, ?_, ?_, ?_, ?_⟩ <;> decide +kernel
def bkC : List Nat := [11, 12, 600, 601, 602, 603, 604, 702, 703]
theorem BK.k {A B : pm_A} {ms : List Nat} (h : BK A) (hF : gFk wY ms A B) (hm : avoid bkC ms = true) : BK B := by
  have f6_z : ∀ j_z : Int, 0 ≤ j_z → j_z < 5 → B 407 j_z = A 407 j_z := fun j_z j0 j1 => hF 407 j_z (by omega) j0 (by
    rw [kc_o (a := 0) k407 (by decide) (shX_6 k407)]
    exact avoid_n hm (codz (l := 6) (n := 5) (by decide) j0 (by omega)))
  have f7_z : ∀ j_z : Int, j_z = 2 ∨ j_z = 3 → B 413 j_z = A 413 j_z := fun j_z hj => hF 413 j_z (by omega) (by omega) (by
    rw [kc_o (a := 0) k413 (by decide) (shX_7 k413)]
    refine avoid_n hm ?_
    rcases hj with rfl | rfl <;> decide)
  have f0_z : ∀ j_z : Int, j_z = 11 ∨ j_z = 12 → B 0 j_z = A 0 j_z := fun j_z hj => hF 0 j_z (by omega) (by omega) (by
    rw [kc_o (a := 0) kk0 (by decide) (shX_0 kk0)]
    refine avoid_n hm ?_
    rcases hj with rfl | rfl <;> decide)
  obtain ⟨⟨a1_z, a2, a3, a4, a5⟩, b1, b2, b3, b4_z⟩ := h
  exact ⟨⟨by rw [f6_z 0 (by omega) (by omega)]; exact a1_z, by rw [f6_z 1 (by omega) (by omega)]; exact a2, by rw [f6_z 2 (by omega) (by omega)]; exact a3, by rw [f6_z 3 (by omega) (by omega)]; exact a4, by rw [f6_z 4 (by omega) (by omega)]; exact a5⟩, by rw [f0_z 11 (by omega)]; exact b1, by rw [f0_z 12 (by omega)]; exact b2, by rw [f7_z 2 (by omega)]; exact b3, by rw [f7_z 3 (by omega)]; exact b4_z⟩
/-- how many slots are taken -/
def czB (S : Int → Int) : Nat → Nat
  | 0 => 0
  | p_z + 1 => czB S p_z + if S (p_z : Int) = 0 then 0 else 1
theorem czB_all {S : Int → Int} : ∀ n_z : Nat, (∀ p_z : Int, 0 ≤ p_z → p_z < n_z → ¬ S p_z = 0) → czB S n_z = n_z
  | 0, _ => rfl
  | n_z + 1, h_z => by
    show czB S n_z + (if S (n_z : Int) = 0 then 0 else 1) = n_z + 1
    rw [czB_all n_z (fun p_z p0_z p1_z => h_z p_z p0_z (by omega)), if_neg (h_z n_z (by omega) (by omega))]
theorem czB_c {S S' : Int → Int} : ∀ n_z : Nat, (∀ p_z : Int, 0 ≤ p_z → p_z < n_z → S' p_z = S p_z) → czB S' n_z = czB S n_z
  | 0, _ => rfl
  | n_z + 1, h_z => by
    show czB S' n_z + (if S' (n_z : Int) = 0 then 0 else 1) = czB S n_z + (if S (n_z : Int) = 0 then 0 else 1)
    rw [czB_c n_z (fun p_z p0_z p1_z => h_z p_z p0_z (by omega)), h_z n_z (by omega) (by omega)]
theorem czB_put {S S' : Int → Int} {p : Int} (hp : S p = 0) (hp' : ¬ S' p = 0) (h : ∀ q_z : Int, ¬ q_z = p → S' q_z = S q_z) (p0 : 0 ≤ p) : ∀ n_z : Nat, p < n_z → czB S' n_z = czB S n_z + 1
  | 0, h_z => by omega
  | n_z + 1, h_z => by
    show czB S' n_z + (if S' (n_z : Int) = 0 then 0 else 1) = czB S n_z + (if S (n_z : Int) = 0 then 0 else 1) + 1
    by_cases e_z : p = (n_z : Int)
    · rw [← e_z, if_neg hp', if_pos hp, czB_c n_z (fun q_z q0_z q1_z => h q_z (by omega))]
    · rw [czB_put hp hp' h p0 n_z (by omega), h (n_z : Int) (by omega)]
      omega
theorem czB_zero {S : Int → Int} : ∀ n_z : Nat, (∀ p_z : Int, 0 ≤ p_z → p_z < n_z → S p_z = 0) → czB S n_z = 0
  | 0, _ => rfl
  | n_z + 1, h_z => by
    show czB S n_z + (if S (n_z : Int) = 0 then 0 else 1) = 0
    rw [czB_zero n_z (fun p_z p0_z p1_z => h_z p_z p0_z (by omega)), if_pos (h_z n_z (by omega) (by omega))]
/-- entry i is the pair a, c -/
def ety (A : pm_A) (i a c : Int) : Prop := A 408 i = a ∧ A 409 i = c
def slI (A : pm_A) (a c d : Int) : Prop := ∀ e_z : Int, 0 ≤ e_z → e_z < d → ¬ A 412 ((hsh a c + e_z) % 8192) = 0 ∧ ¬ ety A (A 412 ((hsh a c + e_z) % 8192) - 1) a c
def soP (A : pm_A) (a c : Int) (r : pm_R) : Prop := ∃ d_z : Int, (0 ≤ d_z ∧ d_z < 8192) ∧ r = (some (0, (hsh a c + d_z) % 8192), A) ∧ slI A a c d_z ∧ (A 412 ((hsh a c + d_z) % 8192) = 0 ∨ ety A (A 412 ((hsh a c + d_z) % 8192) - 1) a c)
theorem so_34 {A : pm_A} {a c : Int} (hA : gH wX A) (hK : BK A) (hz : czB (A 412) 8192 ≤ 3000) {v5 : pm_V} : ∀ (m_z : Nat) (t_z : Int) (w9 : pm_V), (8192 - t_z).toNat < m_z → 0 ≤ t_z → t_z ≤ 8192 → slI A a c t_z → Tm pmt (an_sh wX) o_X1_slotOf 34 ([(2, 407), (1, a), (9, 0), (1, c), (9, 0), v5, (9, 0), (0, (hsh a c + t_z) % 8192), (0, t_z), w9], [], A) (soP A a c) := by
  have h0_z : 0 ≤ hsh a c ∧ hsh a c < 8192 := by unfold hsh; omega
  obtain ⟨⟨b1, b2, _, _, b5⟩, _⟩ := hK
  intro m_z
  induction m_z with
  | zero => intro t_z w9 h_z; omega
  | succ m_z ih_z =>
    intro t_z w9 hm_z t0_z t1_z hI
    have sl0 : ∀ p_z : Int, 0 ≤ p_z → p_z < 8192 → 0 ≤ A 412 p_z ∧ A 412 p_z ≤ 3000 := fun p_z p0_z p1_z => eX_33 hA (r := 412) (by omega) k412 p0_z p1_z
    have hs_z := sl0 ((hsh a c + t_z) % 8192) (by omega) (by omega)
    have hnx : pp_bi 3 ((hsh a c + t_z) % 8192 + 1) 8191 = (hsh a c + (t_z + 1)) % 8192 := by rw [and_8191]; omega
    refine wq_ok sq_slotOf (fr := []) (cuts := [34]) (J := fun pc st_z => pc = 34 ∧ t_z < 8192 ∧ (¬ A 412 ((hsh a c + t_z) % 8192) = 0 ∧ ¬ ety A (A 412 ((hsh a c + t_z) % 8192) - 1) a c) ∧ ∃ w_z, st_z = ([(2, 407), (1, a), (9, 0), (1, c), (9, 0), v5, (9, 0), (0, pp_bi 3 ((hsh a c + t_z) % 8192 + 1) 8191), (0, t_z + 1), w_z], [], A)) ?_ 60 34 _ ?_
    · rintro pc st_z ⟨rfl, h1, h2, w_z, rfl⟩
      rw [hnx]
      refine ih_z (t_z + 1) _ (by omega) (by omega) (by omega) (fun e_z e0_z e1_z => ?_)
      by_cases ee : e_z = t_z
      · rw [ee]; exact h2
      · exact hI e_z e0_z (by omega)
    · refine ⟨fun h_z => ?_, fun h_z => ?_⟩
      · exfalso
        have e_z : t_z = 8192 := by omega
        subst e_z
        have h1 : czB (A 412) 8192 = 8192 := czB_all 8192 (fun p_z p0_z p1_z => by
          have h2 := hI ((p_z - hsh a c) % 8192) (by omega) (by omega)
          have h3 : (hsh a c + (p_z - hsh a c) % 8192) % 8192 = p_z := by omega
          rw [h3] at h2
          exact h2.1)
        omega
      · refine ⟨oX_6 (by omega) k407 4 rfl, ?_⟩
        refine ⟨aX_33 (by rw [b5]; omega) (by rw [b5]; exact k412) (by omega) (by omega), ?_⟩
        rw [b5]
        refine ⟨⟨by omega, by omega⟩, ?_⟩
        have go_z : ∀ (w_z : pm_V), ¬ A 412 ((hsh a c + t_z) % 8192) = 0 → ¬ ety A (A 412 ((hsh a c + t_z) % 8192) - 1) a c → (r32 ((hsh a c + t_z) % 8192 + 1)) ∧ (r32 (t_z + 1)) := fun _ _ _ => ⟨⟨by omega, by omega⟩, ⟨by omega, by omega⟩⟩
        refine ⟨fun h1 => ?_, fun h1 => ?_⟩
        · exact ⟨rfl, t_z, ⟨t0_z, h_z⟩, rfl, hI, Or.inl (by omega)⟩
        · refine ⟨oX_6 (by omega) k407 0 rfl, ?_⟩
          refine ⟨aX_30 (by rw [b1]; omega) (by rw [b1]; exact k408) (by omega) (by omega), ?_⟩
          rw [b1]
          have no1 : ¬ A 408 (A 412 ((hsh a c + t_z) % 8192) - 1) = a → ¬ ety A (A 412 ((hsh a c + t_z) % 8192) - 1) a c := fun q_z hq => q_z hq.1
          have no2 : ¬ A 409 (A 412 ((hsh a c + t_z) % 8192) - 1) = c → ¬ ety A (A 412 ((hsh a c + t_z) % 8192) - 1) a c := fun q_z hq => q_z hq.2
          have nz : ¬ A 412 ((hsh a c + t_z) % 8192) = 0 := by omega
          refine ⟨fun h2 => ?_, fun h2 => ?_, fun h2 => ?_⟩
          · refine ⟨fun _ => ?_, fun hh => absurd hh (by decide)⟩
            refine ⟨⟨by omega, by omega⟩, ?_⟩
            refine ⟨⟨by omega, by omega⟩, ?_⟩
            exact ⟨rfl, h_z, ⟨nz, no1 (by omega)⟩, _, rfl⟩
          · refine ⟨fun hh => absurd rfl hh, fun _ => ?_⟩
            refine ⟨oX_6 (by omega) k407 1 rfl, ?_⟩
            refine ⟨aX_30 (by rw [b2]; omega) (by rw [b2]; exact k409) (by omega) (by omega), ?_⟩
            rw [b2]
            refine ⟨fun h3 => ?_, fun h3 => ?_, fun h3 => ?_⟩
            · refine ⟨fun _ => ?_, fun hh => absurd hh (by decide)⟩
              refine ⟨⟨by omega, by omega⟩, ?_⟩
              refine ⟨⟨by omega, by omega⟩, ?_⟩
              exact ⟨rfl, h_z, ⟨nz, no2 (by omega)⟩, _, rfl⟩
            · refine ⟨fun hh => absurd rfl hh, fun _ => ?_⟩
              exact ⟨rfl, t_z, ⟨t0_z, h_z⟩, rfl, hI, Or.inr ⟨h2, h3⟩⟩
            · refine ⟨fun _ => ?_, fun hh => absurd hh (by decide)⟩
              refine ⟨⟨by omega, by omega⟩, ?_⟩
              refine ⟨⟨by omega, by omega⟩, ?_⟩
              exact ⟨rfl, h_z, ⟨nz, no2 (by omega)⟩, _, rfl⟩
          · refine ⟨fun _ => ?_, fun hh => absurd hh (by decide)⟩
            refine ⟨⟨by omega, by omega⟩, ?_⟩
            refine ⟨⟨by omega, by omega⟩, ?_⟩
            exact ⟨rfl, h_z, ⟨nz, no1 (by omega)⟩, _, rfl⟩
theorem slotOf_ex {A : pm_A} {a c : Int} (hA : gH wX A) (hK : BK A) (hz : czB (A 412) 8192 ≤ 3000) : Cl pmt (an_sh wX) 20 [(2, 407), (1, a), (1, c)] A (soP A a c) := by
  have h0_z : 0 ≤ hsh a c ∧ hsh a c < 8192 := by unfold hsh; omega
  refine Cl.of (Nat.le_of_ble_eq_true rfl) ?_
  refine wq_ok (full := o_X1_slotOf) sq_slotOf (fr := [4, 9, 10]) (cuts := [24]) (J := fun pc st_z => pc = 24 ∧ st_z = ([(2, 407), (1, a), (9, 0), (1, c), (9, 0), (1, hsM a c), (9, 0), (9, 0), (9, 0), (9, 0)], [(1, hsL a c)], A)) ?_ 30 0 _ ?_
  · rintro pc st_z ⟨rfl, rfl⟩
    refine Tm.step sq_slotOf (q := (24, 25, 11, 3, 0, 0, 0, [])) rfl (n0 := 0) (pc' := 25) (s' := ([(2, 407), (1, a), (9, 0), (1, c), (9, 0), (1, hsM a c), (9, 0), (9, 0), (9, 0), (9, 0)], [(0, w32 (hsL a c))], A)) rfl ?_
    refine wq_ok sq_slotOf (fr := []) (cuts := [34]) (J := fun pc st_z => pc = 34 ∧ st_z = ([(2, 407), (1, a), (9, 0), (1, c), (9, 0), (1, hsM a c), (9, 0), (0, pp_bi 3 (w32 (hsL a c)) 8191), (0, 0), (9, 0)], [], A)) ?_ 10 25 _ ?_
    · rintro pc st_z ⟨rfl, rfl⟩
      have e_z : pp_bi 3 (w32 (hsL a c)) 8191 = (hsh a c + 0) % 8192 := by rw [and_8191]; unfold hsh; omega
      rw [e_z]
      exact so_34 hA hK hz _ 0 _ (Nat.lt_succ_self _) (by omega) (by omega) (fun e_z e0_z e1_z => by omega)
    · exact ⟨rfl, rfl⟩
  · exact ⟨rfl, rfl⟩
/-- the book holds n entries, each found -/
def bkS (A : pm_A) (n : Int) : Prop := (0 ≤ n ∧ n ≤ 3000) ∧ (czB (A 412) 8192 : Int) = n ∧ (∀ p_z : Int, 0 ≤ p_z → p_z < 8192 → A 412 p_z ≤ n) ∧ ∀ i_z : Int, 0 ≤ i_z → i_z < n → ∃ d_z : Int, (0 ≤ d_z ∧ d_z < 8192) ∧ A 412 ((hsh (A 408 i_z) (A 409 i_z) + d_z) % 8192) = i_z + 1 ∧ ∀ e_z : Int, 0 ≤ e_z → e_z < d_z → ¬ A 412 ((hsh (A 408 i_z) (A 409 i_z) + e_z) % 8192) = 0
def bfP (A : pm_A) (a c : Int) (r : pm_R) : Prop := ∃ i_z : Int, r = (some (0, i_z), A) ∧ ((i_z = -1 ∧ ∀ j_z : Int, 0 ≤ j_z → j_z < A 407 5 → ¬ ety A j_z a c) ∨ ((0 ≤ i_z ∧ i_z < A 407 5) ∧ ety A i_z a c))
theorem so_no {A : pm_A} {a c d n : Int} (hS : bkS A n) (hd : 0 ≤ d ∧ d < 8192) (hI : slI A a c d) (h0 : A 412 ((hsh a c + d) % 8192) = 0) : ∀ j_z : Int, 0 ≤ j_z → j_z < n → ¬ ety A j_z a c := fun j_z j0 j1 he => by
  obtain ⟨e_z, he_z, h1, h2⟩ := hS.2.2.2 j_z j0 j1
  rw [he.1, he.2] at h1 h2
  rcases Int.lt_trichotomy e_z d with h3 | h3 | h3
  · have h4 := hI e_z he_z.1 h3
    rw [h1] at h4
    refine h4.2 ?_
    rw [show j_z + 1 - 1 = j_z by omega]
    exact he
  · rw [h3] at h1
    omega
  · exact h2 d hd.1 h3 h0
theorem bfind_ex {A : pm_A} {a c : Int} (hA : gH wX A) (hK : BK A) (hS : bkS A (A 407 5)) : Cl pmt (an_sh wX) 18 [(2, 407), (1, a), (1, c)] A (bfP A a c) := by
  have b5 := hK.1.2.2.2.2
  have hn := hS.1
  refine Cl.of (Nat.le_of_ble_eq_true rfl) ?_
  refine wq_ok (full := o_X1_find) sq_Bfind (fr := []) (cuts := [10]) (J := fun pc st_z => pc = 10 ∧ ∃ p_z, soP A a c (some (0, p_z), A) ∧ st_z = ([(2, 407), (1, a), (9, 0), (1, c), (9, 0)], [(0, p_z), (2, A 407 4)], A)) ?_ 20 0 _ ?_
  · rintro pc st_z ⟨rfl, p_z, ⟨d_z, hd_z, e_z, hI, h1⟩, rfl⟩
    have ep : p_z = (hsh a c + d_z) % 8192 := by
      injection e_z with e1 _
      injection e1 with e1
      injection e1
    have sl0 := eX_33 hA (r := 412) (by omega) k412 (j := p_z) (by omega) (by omega)
    refine wq_ok sq_Bfind (fr := []) (cuts := []) (J := fun _ _ => False) (fun _ _ h_z => h_z.elim) 10 10 _ ?_
    refine ⟨aX_33 (by rw [b5]; omega) (by rw [b5]; exact k412) (by omega) (by omega), ?_⟩
    rw [b5]
    refine ⟨⟨by omega, by omega⟩, ?_⟩
    refine ⟨rfl, A 412 p_z - 1, rfl, ?_⟩
    rw [← ep] at h1
    by_cases hz : A 412 p_z = 0
    · refine Or.inl ⟨by omega, ?_⟩
      rw [ep] at hz
      exact so_no hS hd_z hI hz
    · have hp := hS.2.2.1 p_z (by omega) (by omega)
      rcases h1 with h1 | h1
      · exact absurd h1 hz
      · exact Or.inr ⟨⟨by omega, by omega⟩, h1⟩
  · refine ⟨oX_6 (by omega) k407 4 rfl, ?_⟩
    refine ⟨rX_6 (by omega) k407, ?_⟩
    refine (slotOf_ex (a := a) (c := c) hA hK (by have := hS.2.1; omega)).imp ?_
    rintro ⟨r1_z, C_z⟩ hC
    have hC0 := hC
    obtain ⟨d_z, _, e_z, _⟩ := hC0
    have e1 : r1_z = some (0, (hsh a c + d_z) % 8192) := congrArg Prod.fst e_z
    have e2 : C_z = A := congrArg Prod.snd e_z
    subst e1
    subst e2
    exact ⟨rfl, _, hC, rfl⟩
def beF (A B : pm_A) (a c f s : Int) : Prop := gH wX B ∧ (B 407 5 = A 407 5 + 1) ∧ (∀ r_z j_z : Int, ¬ r_z = 412 → ¬ (r_z = 407 ∧ j_z = 5) → ¬ ((r_z = 408 ∨ r_z = 409 ∨ r_z = 410 ∨ r_z = 411) ∧ j_z = A 407 5) → B r_z j_z = A r_z j_z) ∧ (B 408 (A 407 5) = a ∧ B 409 (A 407 5) = c ∧ B 410 (A 407 5) = f ∧ B 411 (A 407 5) = s)
def beP (A : pm_A) (a c f s : Int) (r : pm_R) : Prop := (A 407 5 = 3000 ∧ r = (some (0, 0), A)) ∨ (A 407 5 < 3000 ∧ r.1 = some (0, 1) ∧ beF A r.2 a c f s ∧ BK r.2 ∧ bkS r.2 (A 407 5 + 1))
theorem u6_5 {B : pm_A} {x : Int} (hB : gH wX B) (x0 : 0 ≤ x) (x1 : x ≤ 3000) : gH wX (pm_upd B 407 5 x) := by
  refine gH_upd hB (k := (0, 1, 6, [(2, 30, 0), (2, 30, 0), (2, 31, 0), (2, 32, 0), (2, 33, 0), (0, 0, 3000)])) (by rw [k407]; rfl) (fun _ j_z a_z hj ej => ?_) (fun q_z => by cases q_z)
  have : j_z = 5 := by omega
  subst this
  cases hj
  exact ⟨rfl, x0, x1⟩
theorem BK.upd {A : pm_A} {r j x : Int} (h : BK A) (h1 : ¬ r = 0) (h2 : ¬ (r = 407 ∧ j < 5)) (h3 : ¬ (r = 413 ∧ (j = 2 ∨ j = 3))) : BK (pm_upd A r j x) := by
  obtain ⟨⟨a1_z, a2, a3, a4, a5⟩, b1, b2, b3, b4_z⟩ := h
  refine ⟨⟨?_, ?_, ?_, ?_, ?_⟩, ?_, ?_, ?_, ?_⟩
  all_goals (rw [upd_o (by omega)]; assumption)
theorem benter_ex {A : pm_A} {a c f s : Int} (hA : gH wX A) (hK : BK A) (hS : bkS A (A 407 5)) (ra : r64 a) (rc : r64 c) (rf : -1 ≤ f ∧ f ≤ 2999) (rs : r32 s) (hno : ∀ j_z : Int, 0 ≤ j_z → j_z < A 407 5 → ¬ ety A j_z a c) : Cl pmt (an_sh wX) 17 [(2, 407), (1, a), (1, c), (0, f), (0, s)] A (beP A a c f s) := by
  have hn := hS.1
  obtain ⟨⟨b1, b2, b3, b4_z, b5⟩, b6_z⟩ := hK
  have hK : BK A := ⟨⟨b1, b2, b3, b4_z, b5⟩, b6_z⟩
  refine Cl.of (Nat.le_of_ble_eq_true rfl) ?_
  refine wq_ok (full := o_X1_enter) sq_Benter (fr := []) (cuts := [12]) (J := fun pc st_z => pc = 12 ∧ A 407 5 < 3000 ∧ st_z = ([(2, 407), (1, a), (9, 0), (1, c), (9, 0), (0, f), (0, s)], [], A)) ?_ 20 0 _ ?_
  · rintro pc st_z ⟨rfl, hlt, rfl⟩
    generalize hg1 : A 407 5 = n_z at hlt hn hS hno
    have g1 : gH wX (pm_upd A 408 n_z a) := uX_30 hA k408 ra.1 ra.2
    have g2 : gH wX (pm_upd (pm_upd A 408 n_z a) 409 n_z c) := uX_30 g1 k409 rc.1 rc.2
    have g3_z : gH wX (pm_upd (pm_upd (pm_upd A 408 n_z a) 409 n_z c) 410 n_z f) := uX_31 g2 k410 rf.1 rf.2
    have g4 : gH wX (pm_upd (pm_upd (pm_upd (pm_upd A 408 n_z a) 409 n_z c) 410 n_z f) 411 n_z s) := uX_32 g3_z k411 rs.1 rs.2
    have g5_z : gH wX (pm_upd (pm_upd (pm_upd (pm_upd (pm_upd A 408 n_z a) 409 n_z c) 410 n_z f) 411 n_z s) 407 5 (n_z + 1)) := u6_5 g4 (by omega) (by omega)
    have fr5 : ∀ r_z j_z : Int, ¬ (r_z = 407 ∧ j_z = 5) → ¬ ((r_z = 408 ∨ r_z = 409 ∨ r_z = 410 ∨ r_z = 411) ∧ j_z = n_z) → pm_upd (pm_upd (pm_upd (pm_upd (pm_upd A 408 n_z a) 409 n_z c) 410 n_z f) 411 n_z s) 407 5 (n_z + 1) r_z j_z = A r_z j_z := fun r_z j_z h1 h2 => by
      rw [upd_o (by omega), upd_o (by omega), upd_o (by omega), upd_o (by omega), upd_o (by omega)]
    have v1_z : pm_upd (pm_upd (pm_upd (pm_upd (pm_upd A 408 n_z a) 409 n_z c) 410 n_z f) 411 n_z s) 407 5 (n_z + 1) 407 5 = n_z + 1 := upd_at
    have v2 : pm_upd (pm_upd (pm_upd (pm_upd (pm_upd A 408 n_z a) 409 n_z c) 410 n_z f) 411 n_z s) 407 5 (n_z + 1) 408 n_z = a := by
      rw [upd_o (by omega), upd_o (by omega), upd_o (by omega), upd_o (by omega), upd_at]
    have v3 : pm_upd (pm_upd (pm_upd (pm_upd (pm_upd A 408 n_z a) 409 n_z c) 410 n_z f) 411 n_z s) 407 5 (n_z + 1) 409 n_z = c := by
      rw [upd_o (by omega), upd_o (by omega), upd_o (by omega), upd_at]
    have v4_z : pm_upd (pm_upd (pm_upd (pm_upd (pm_upd A 408 n_z a) 409 n_z c) 410 n_z f) 411 n_z s) 407 5 (n_z + 1) 410 n_z = f := by
      rw [upd_o (by omega), upd_o (by omega), upd_at]
    have v5 : pm_upd (pm_upd (pm_upd (pm_upd (pm_upd A 408 n_z a) 409 n_z c) 410 n_z f) 411 n_z s) 407 5 (n_z + 1) 411 n_z = s := by
      rw [upd_o (by omega), upd_at]
    have hKE : BK (pm_upd (pm_upd (pm_upd (pm_upd (pm_upd A 408 n_z a) 409 n_z c) 410 n_z f) 411 n_z s) 407 5 (n_z + 1)) := ((((hK.upd (by omega) (by omega) (by omega)).upd (by omega) (by omega) (by omega)).upd (by omega) (by omega) (by omega)).upd (by omega) (by omega) (by omega)).upd (by omega) (by omega) (by omega)
    have e2_y : pm_upd A 408 n_z a 407 1 = 409 := by rw [upd_o (by omega)]; exact b2
    have u1_z : pm_upd A 408 n_z a 407 5 = n_z := by rw [upd_o (by omega)]; exact hg1
    have u2_z : pm_upd (pm_upd A 408 n_z a) 409 n_z c 407 2 = 410 := by rw [upd_o (by omega), upd_o (by omega)]; exact b3
    have u3_z : pm_upd (pm_upd A 408 n_z a) 409 n_z c 407 5 = n_z := by rw [upd_o (by omega)]; exact u1_z
    have u4_z : pm_upd (pm_upd (pm_upd A 408 n_z a) 409 n_z c) 410 n_z f 407 3 = 411 := by rw [upd_o (by omega), upd_o (by omega), upd_o (by omega)]; exact b4_z
    have u5 : pm_upd (pm_upd (pm_upd A 408 n_z a) 409 n_z c) 410 n_z f 407 5 = n_z := by rw [upd_o (by omega)]; exact u3_z
    have u6 : pm_upd (pm_upd (pm_upd (pm_upd A 408 n_z a) 409 n_z c) 410 n_z f) 411 n_z s 407 5 = n_z := by rw [upd_o (by omega)]; exact u5
    refine wq_ok sq_Benter (fr := []) (cuts := [64]) (J := fun pc st_z => pc = 64 ∧ st_z = ([(2, 407), (1, a), (9, 0), (1, c), (9, 0), (0, f), (0, s)], [], pm_upd (pm_upd (pm_upd (pm_upd (pm_upd A 408 n_z a) 409 n_z c) 410 n_z f) 411 n_z s) 407 5 (n_z + 1))) ?_ 60 12 _ ?_
    · rintro pc st_z ⟨rfl, rfl⟩
      generalize hE : pm_upd (pm_upd (pm_upd (pm_upd (pm_upd A 408 n_z a) 409 n_z c) 410 n_z f) 411 n_z s) 407 5 (n_z + 1) = E_z at g5_z fr5 v1_z v2 v3 v4_z v5 hKE
      have e412 : ∀ p_z : Int, E_z 412 p_z = A 412 p_z := fun p_z => fr5 412 p_z (by omega) (by omega)
      have ecz : czB (E_z 412) 8192 = czB (A 412) 8192 := czB_c 8192 (fun p_z _ _ => e412 p_z)
      have b5E := hKE.1.2.2.2.2
      have hcz := hS.2.1
      refine wq_ok sq_Benter (fr := []) (cuts := [74]) (J := fun pc st_z => pc = 74 ∧ ∃ p_z, soP E_z a c (some (0, p_z), E_z) ∧ st_z = ([(2, 407), (1, a), (9, 0), (1, c), (9, 0), (0, f), (0, s)], [(0, p_z), (2, E_z 407 4)], E_z)) ?_ 20 64 _ ?_
      · rintro pc st_z ⟨rfl, p_z, ⟨d_z, hd_z, e_z, hI, h1⟩, rfl⟩
        have ep : p_z = (hsh a c + d_z) % 8192 := by
          injection e_z with e1 _
          injection e1 with e1
          injection e1
        have hp0 : 0 ≤ p_z ∧ p_z < 8192 := by omega
        have hz : E_z 412 p_z = 0 := by
          rw [← ep] at h1
          rcases h1 with h1 | h1
          · exact h1
          · by_cases hz : E_z 412 p_z = 0
            · exact hz
            · exfalso
              have s1_z := eX_33 g5_z (r := 412) (by omega) k412 (j := p_z) hp0.1 hp0.2
              have s2_z := hS.2.2.1 p_z hp0.1 hp0.2
              rw [e412 p_z] at h1 s1_z hz
              refine hno (A 412 p_z - 1) (by omega) (by omega) ⟨?_, ?_⟩
              · rw [← fr5 408 _ (by omega) (by omega)]; exact h1.1
              · rw [← fr5 409 _ (by omega) (by omega)]; exact h1.2
        refine wq_ok sq_Benter (fr := []) (cuts := []) (J := fun _ _ => False) (fun _ _ h_z => h_z.elim) 10 74 _ ?_
        refine ⟨oX_6 (by omega) k407 5 rfl, ?_⟩
        refine ⟨tX_33 (by rw [b5E]; omega) (by rw [b5E]; exact k412) hp0.1 hp0.2 rfl, ?_⟩
        rw [b5E, v1_z]
        refine ⟨rfl, Or.inr ⟨by rw [hg1]; exact hlt, rfl, ?_, hKE.upd (by omega) (by omega) (by omega), ?_⟩⟩
        · rw [← hg1] at v1_z v2 v3 v4_z v5 fr5
          show beF A (pm_upd E_z 412 p_z (n_z + 1)) a c f s
          refine ⟨uX_33 g5_z k412 (by omega) (by omega), by rw [upd_o (by omega)]; exact v1_z, fun r_z j_z h2 h3 h4 => by rw [upd_o (by omega)]; exact fr5 r_z j_z h3 h4, ?_⟩
          refine ⟨by rw [upd_o (by omega)]; exact v2, by rw [upd_o (by omega)]; exact v3, by rw [upd_o (by omega)]; exact v4_z, by rw [upd_o (by omega)]; exact v5⟩
        · rw [hg1]
          have o408 : ∀ i_z : Int, ¬ i_z = n_z → E_z 408 i_z = A 408 i_z := fun i_z hi_z => fr5 408 i_z (by omega) (by omega)
          have o409 : ∀ i_z : Int, ¬ i_z = n_z → E_z 409 i_z = A 409 i_z := fun i_z hi_z => fr5 409 i_z (by omega) (by omega)
          show bkS (pm_upd E_z 412 p_z (n_z + 1)) (n_z + 1)
          refine ⟨⟨by omega, by omega⟩, ?_, fun q_z q0_z q1_z => ?_, fun i_z i0_z i1_z => ?_⟩
          · have h2 := czB_put (S := E_z 412) (S' := pm_upd E_z 412 p_z (n_z + 1) 412) (p := p_z) hz (by rw [upd_at]; omega) (fun q_z hq => upd_o (by omega)) hp0.1 8192 (by omega)
            rw [h2, ecz]
            omega
          · by_cases eq_z : q_z = p_z
            · rw [eq_z, upd_at]; omega
            · rw [upd_o (by omega), e412 q_z]
              have := hS.2.2.1 q_z q0_z q1_z
              omega
          · have f1_z : pm_upd E_z 412 p_z (n_z + 1) 408 i_z = E_z 408 i_z := upd_o (by omega)
            have f2_z : pm_upd E_z 412 p_z (n_z + 1) 409 i_z = E_z 409 i_z := upd_o (by omega)
            rw [f1_z, f2_z]
            by_cases ei : i_z = n_z
            · rw [ei, v2, v3]
              refine ⟨d_z, hd_z, by rw [← ep, upd_at], fun e_z e0_z e1_z => ?_⟩
              have h3 := (hI e_z e0_z e1_z).1
              rw [upd_o (fun hq => h3 (by rw [hq.2]; exact hz))]
              exact h3
            · rw [o408 i_z ei, o409 i_z ei]
              obtain ⟨d2_z, hd2, h3, h4⟩ := hS.2.2.2 i_z i0_z (by omega)
              have n1_z : ∀ q_z : Int, ¬ A 412 q_z = 0 → pm_upd E_z 412 p_z (n_z + 1) 412 q_z = A 412 q_z := fun q_z hq => by
                rw [upd_o (fun hh => hq (by rw [hh.2, ← e412 p_z]; exact hz)), e412]
              refine ⟨d2_z, hd2, ?_, fun e_z e0_z e1_z => ?_⟩
              · rw [n1_z _ (by omega)]; exact h3
              · rw [n1_z _ (h4 e_z e0_z e1_z)]; exact h4 e_z e0_z e1_z
      · refine ⟨oX_6 (by omega) k407 4 rfl, ?_⟩
        refine ⟨rX_6 (by omega) k407, ?_⟩
        refine (slotOf_ex (a := a) (c := c) g5_z hKE (by rw [ecz]; omega)).imp ?_
        rintro ⟨r1_z, C_z⟩ hC
        have hC0 := hC
        obtain ⟨d_z, _, e_z, _⟩ := hC0
        have e1 : r1_z = some (0, (hsh a c + d_z) % 8192) := congrArg Prod.fst e_z
        have e2 : C_z = E_z := congrArg Prod.snd e_z
        subst e1
        subst e2
        exact ⟨rfl, _, hC, rfl⟩
    · refine ⟨oX_6 (by omega) k407 0 rfl, ?_⟩
      refine ⟨oX_6 (by omega) k407 5 rfl, ?_⟩
      refine ⟨tX_30 (by rw [b1]; omega) (by rw [b1]; exact k408) (by omega) (by omega) rfl, ?_⟩
      rw [b1, hg1]
      refine ⟨oX_6 (by omega) k407 1 rfl, ?_⟩
      refine ⟨oX_6 (by omega) k407 5 rfl, ?_⟩
      refine ⟨tX_30 (by rw [e2_y]; omega) (by rw [e2_y]; exact k409) (by rw [u1_z]; omega) (by rw [u1_z]; exact hlt) rfl, ?_⟩
      rw [e2_y, u1_z]
      refine ⟨oX_6 (by omega) k407 2 rfl, ?_⟩
      refine ⟨oX_6 (by omega) k407 5 rfl, ?_⟩
      refine ⟨tX_31 (by rw [u2_z]; omega) (by rw [u2_z]; exact k410) (by rw [u3_z]; omega) (by rw [u3_z]; exact hlt) rfl, ?_⟩
      rw [u2_z, u3_z]
      refine ⟨oX_6 (by omega) k407 3 rfl, ?_⟩
      refine ⟨oX_6 (by omega) k407 5 rfl, ?_⟩
      refine ⟨tX_32 (by rw [u4_z]; omega) (by rw [u4_z]; exact k411) (by rw [u5]; omega) (by rw [u5]; exact hlt) rfl, ?_⟩
      rw [u4_z, u5]
      refine ⟨oX_6 (by omega) k407 5 rfl, ?_⟩
      refine ⟨by rw [u6]; exact ⟨by omega, by omega⟩, ?_⟩
      rw [u6]
      refine ⟨oX_6 (by omega) k407 5 rfl, ?_⟩
      exact ⟨rfl, rfl⟩
  · refine ⟨oX_6 (by omega) k407 5 rfl, ?_⟩
    refine ⟨fun h_z => ?_, fun h_z => ?_⟩
    · exact ⟨rfl, h_z, rfl⟩
    · exact ⟨rfl, Or.inl ⟨by omega, rfl⟩⟩
theorem fill33_5 {A : pm_A} {r : Int} (hr0 : 0 ≤ r) (hrk : wX.2 r = 33) : ∀ (m_z : Nat) (i_z : Int) (B_z : pm_A), (8192 - i_z).toNat < m_z → 0 ≤ i_z → i_z ≤ 8192 → gH wX B_z → (∀ c_z j_z : Int, ¬ c_z = r → B_z c_z j_z = A c_z j_z) → (∀ j_z : Int, 0 ≤ j_z → j_z < i_z → B_z r j_z = 0) → Tm pmt (an_sh wX) o_J7_fill_53178 5 ([(2, r), (0, 0), (0, i_z), (0, 8192)], [], B_z) (fun q_z => q_z.1 = none ∧ gH wX q_z.2 ∧ (∀ c_z j_z : Int, ¬ c_z = r → q_z.2 c_z j_z = A c_z j_z) ∧ ∀ j_z : Int, 0 ≤ j_z → j_z < 8192 → q_z.2 r j_z = 0) := by
  intro m_z
  induction m_z with
  | zero => intro i_z B_z h_z; omega
  | succ m_z ih_z =>
    intro i_z B_z hm_z hi0_z hi1 hB_z hF hz
    refine wq_ok srt_fill (fr := []) (cuts := [5]) (J := fun pc st_z => pc = 5 ∧ i_z < 8192 ∧ st_z = ([(2, r), (0, 0), (0, i_z + 1), (0, 8192)], [], pm_upd B_z r i_z 0)) ?_ 20 5 _ ?_
    · rintro pc st_z ⟨rfl, hi_z, rfl⟩
      refine ih_z (i_z + 1) _ (by omega) (by omega) (by omega) (uX_33 hB_z hrk (by omega) (by omega)) (fun c_z j_z hc_z => by rw [upd_ne hc_z]; exact hF c_z j_z hc_z) (fun j_z j0 j1 => ?_)
      by_cases e_z : j_z = i_z
      · rw [e_z, upd_at]
      · rw [upd_n2 e_z]; exact hz j_z j0 (by omega)
    · refine ⟨fun h_z => ⟨rfl, hB_z, hF, fun j_z j0 j1 => hz j_z j0 (by omega)⟩, fun h_z => ?_⟩
      refine ⟨tX_33 hr0 hrk hi0_z (by omega) rfl, ?_⟩
      refine ⟨⟨by omega, by omega⟩, ?_⟩
      exact ⟨rfl, h_z, rfl⟩
theorem fill33_ex {A : pm_A} {r : Int} (hA : gH wX A) (hr0 : 0 ≤ r) (hrk : wX.2 r = 33) : Cl pmt (an_sh wX) 1 [(2, r), (0, 0)] A (fun q_z => q_z.1 = none ∧ gH wX q_z.2 ∧ (∀ c_z j_z : Int, ¬ c_z = r → q_z.2 c_z j_z = A c_z j_z) ∧ ∀ j_z : Int, 0 ≤ j_z → j_z < 8192 → q_z.2 r j_z = 0) := by
  refine Cl.of (Nat.le_of_ble_eq_true rfl) ?_
  have e_z := shX_33 hrk
  have st0 : pm_step (an_sh wX) (pm_call pmt (an_sh wX) 0) (4, 22, 0, 0, 0, 0, []) ([(2, r), (0, 0), (0, 0), (9, 0)], [(2, r)], A) = some (.inl (4, ([(2, r), (0, 0), (0, 0), (9, 0)], [(0, 8192)], A))) := by
    simp only [pm_step, k_r]
    rw [k_if_t ⟨hr0, by rw [e_z], by rw [e_z], by rw [e_z]; simp only; omega⟩, e_z]
  refine wq_ok (full := o_J7_fill_53178) srt_fill (fr := []) (cuts := [3]) (J := fun pc st_z => pc = 3 ∧ st_z = ([(2, r), (0, 0), (0, 0), (9, 0)], [(2, r)], A)) ?_ 10 0 _ ?_
  · rintro pc st_z ⟨rfl, rfl⟩
    refine Tm.step srt_fill (q := (3, 4, 22, 0, 0, 0, 0, [])) rfl st0 ?_
    refine wq_ok srt_fill (fr := []) (cuts := [5]) (J := fun pc st_z => pc = 5 ∧ st_z = ([(2, r), (0, 0), (0, 0), (0, 8192)], [], A)) ?_ 10 4 _ ?_
    · rintro pc st_z ⟨rfl, rfl⟩
      exact fill33_5 hr0 hrk _ 0 A (Nat.lt_succ_self _) (by omega) (by omega) hA (fun _ _ _ => rfl) (fun j_z j0 j1 => by omega)
    · exact ⟨rfl, rfl⟩
  · exact ⟨rfl, rfl⟩
def bcP (A : pm_A) (r : pm_R) : Prop := r.1 = none ∧ gH wX r.2 ∧ BK r.2 ∧ r.2 407 5 = 0 ∧ bkS r.2 0 ∧ ∀ r_z j_z : Int, ¬ r_z = 412 → ¬ (r_z = 407 ∧ j_z = 5) → r.2 r_z j_z = A r_z j_z
theorem bclear_ex {A : pm_A} (hA : gH wX A) (hK : BK A) : Cl pmt (an_sh wX) 16 [(2, 407)] A (bcP A) := by
  have g1 : gH wX (pm_upd A 407 5 0) := u6_5 hA (by omega) (by omega)
  have hK1 : BK (pm_upd A 407 5 0) := hK.upd (by omega) (by omega) (by omega)
  have b5 := hK1.1.2.2.2.2
  have v1_z : pm_upd A 407 5 0 407 5 = 0 := upd_at
  have fr1 : ∀ r_z j_z : Int, ¬ (r_z = 407 ∧ j_z = 5) → pm_upd A 407 5 0 r_z j_z = A r_z j_z := fun r_z j_z h1 => upd_o h1
  refine Cl.of (Nat.le_of_ble_eq_true rfl) ?_
  refine wq_ok (full := o_X1_clear) sq_Bclear (fr := []) (cuts := [5]) (J := fun pc st_z => pc = 5 ∧ st_z = ([(2, 407)], [], pm_upd A 407 5 0)) ?_ 20 0 _ ?_
  · rintro pc st_z ⟨rfl, rfl⟩
    generalize pm_upd A 407 5 0 = E_z at g1 hK1 b5 v1_z fr1
    refine wq_ok sq_Bclear (fr := []) (cuts := []) (J := fun _ _ => False) (fun _ _ h_z => h_z.elim) 10 5 _ ?_
    refine ⟨oX_6 (by omega) k407 4 rfl, ?_⟩
    refine ⟨rfl, ?_⟩
    rw [b5]
    refine (fill33_ex g1 (r := 412) (by omega) k412).imp ?_
    rintro ⟨r1_z, C_z⟩ ⟨q1_z, q2_z, q3_z, q4_z⟩
    simp only at q1_z q2_z q3_z q4_z
    subst q1_z
    have e_z : ∀ r_z j_z : Int, ¬ r_z = 412 → C_z r_z j_z = E_z r_z j_z := fun r_z j_z h1 => q3_z r_z j_z h1
    obtain ⟨⟨a1_z, a2, a3, a4, a5⟩, c1_z, c2_z, c3_z, c4_z⟩ := hK1
    have hfin : gH wX C_z ∧ BK C_z ∧ C_z 407 5 = 0 ∧ bkS C_z 0 ∧ ∀ r_z j_z : Int, ¬ r_z = 412 → ¬ (r_z = 407 ∧ j_z = 5) → C_z r_z j_z = A r_z j_z := by
      refine ⟨q2_z, ⟨⟨by rw [e_z _ _ (by omega)]; exact a1_z, by rw [e_z _ _ (by omega)]; exact a2, by rw [e_z _ _ (by omega)]; exact a3, by rw [e_z _ _ (by omega)]; exact a4, by rw [e_z _ _ (by omega)]; exact a5⟩, by rw [e_z _ _ (by omega)]; exact c1_z, by rw [e_z _ _ (by omega)]; exact c2_z, by rw [e_z _ _ (by omega)]; exact c3_z, by rw [e_z _ _ (by omega)]; exact c4_z⟩, by rw [e_z _ _ (by omega)]; exact v1_z, ⟨⟨by omega, by omega⟩, ?_, fun p_z p0_z p1_z => by rw [q4_z p_z p0_z p1_z]; omega, fun i_z i0_z i1_z => by omega⟩, fun r_z j_z h1 h2 => by rw [e_z r_z j_z h1]; exact fr1 r_z j_z h2⟩
      rw [czB_zero 8192 (fun p_z p0_z p1_z => q4_z p_z p0_z (by omega))]
      rfl
    exact ⟨rfl, hfin⟩
  · refine ⟨oX_6 (by omega) k407 5 rfl, ?_⟩
    exact ⟨rfl, rfl⟩
