/-! the class's products: beginProduct -/
def VX (A : pm_A) (s : Int) (x : cr_Pv 12) : Rat := cr_vl x.1 (LSx A s)
theorem VX_of {A B : pm_A} {s : Int} (h : sme A B s) (x : cr_Pv 12) : VX B s x = VX A s x := by unfold VX; rw [h.ls]
theorem VX_pos {A : pm_A} {s : Int} (h : cfX A s) (hm : 1 ≤ A s 1) (x : cr_Pv 12) : 0 < VX A s x := cr_vl_pos x.2 (posX h) (neX hm)
theorem rpX {A : pm_A} {s : Int} (h : cfX A s) (hm : 1 ≤ A s 1) : RpV (VX A s) := ⟨LSx A s, posX h, neX hm, fun x_z => rfl⟩
theorem VX_one {A : pm_A} {s : Int} (h : A s 1 = 1) (x : cr_Pv 12) : VX A s x = (A (A s 2) 0 : Rat) * cr_mo x.1 (xeX A s 0) := by
  unfold VX LSx
  rw [h]
  show cr_vl x.1 [fX A s 0] = _
  rw [cr_vl_cons, cr_vl_nil, Rat.add_zero]
  rfl
theorem cst_pos {c : Int} (hc : 1 ≤ c) : (0 : Rat) < (c : Rat) := by
  have h_z := rat_le hc
  rw [show ((1 : Int) : Rat) = 1 from rfl] at h_z
  grind
theorem cst_pow {c : Int} (hc : 1 ≤ c) : ∀ m_z : Nat, ((c ^ m_z : Int) : Rat) = (c : Rat) ^ (m_z : Int)
  | 0 => by rw [Int.pow_zero, show ((0 : Nat) : Int) = 0 from rfl, Rat.zpow_zero]; rfl
  | m_z + 1 => by
    rw [Int.pow_succ, Rat.intCast_mul, cst_pow hc m_z, show ((m_z + 1 : Nat) : Int) = (m_z : Int) + 1 by omega, cr_zp_add (cst_pos hc), Rat.zpow_one]
theorem pow_ge1 {c : Int} (hc : 1 ≤ c) : ∀ m_z : Nat, 1 ≤ c ^ m_z
  | 0 => by rw [Int.pow_zero]; omega
  | m_z + 1 => by
    have h1 := pow_ge1 hc m_z
    have h2 := Int.mul_le_mul h1 hc (show (0 : Int) ≤ 1 by omega) (show 0 ≤ c ^ m_z by omega)
    rw [Int.pow_succ]
    omega
def yX (A : pm_A) (g : Int) (x : cr_Pv 12) (i : Nat) : Rat := if (i : Int) < A g 0 then VX A (A (A g 4) (i : Int)) x else if h_z : i < 12 then x.1 ⟨i, h_z⟩ else 1
def tyX (A : pm_A) (g k sg : Int) (i : Nat) : Int := (cx_pos (sg * A (A g 2) ((i : Int) * 6 + k)) : Int)
abbrev sglX (A : pm_A) (g i : Int) : Prop := A g 0 ≤ i ∨ A (A (A g 4) i) 1 = 1
def bfX (A : pm_A) (g k sg : Int) (x : cr_Pv 12) (i : Nat) : Rat := if sglX A g (i : Int) then yX A g x i ^ tyX A g k sg i else 1
def mfX (A : pm_A) (g k sg : Int) (x : cr_Pv 12) (i : Nat) : Rat := if sglX A g (i : Int) then 1 else yX A g x i ^ tyX A g k sg i
def bpX (A : pm_A) (g k sg : Int) (x : cr_Pv 12) : Nat → Rat
  | 0 => 1
  | m_z + 1 => bpX A g k sg x m_z * bfX A g k sg x m_z
def mpX (A : pm_A) (g k sg : Int) (x : cr_Pv 12) : Nat → Rat
  | 0 => 1
  | m_z + 1 => mpX A g k sg x m_z * mfX A g k sg x m_z
abbrev bgW (A : pm_A) (g : Int) : Int := A g 0 + A g 1
def ltX (A : pm_A) (g : Int) : Prop := gH wX A ∧ (0 ≤ g ∧ wX.2 g = 1) ∧ (∀ i_z : Int, 0 ≤ i_z → i_z < A g 0 → srX A (A (A g 4) i_z) ∧ cfX A (A (A g 4) i_z) ∧ 1 ≤ A (A (A g 4) i_z) 1 ∧ A (A (A g 4) i_z) 0 = bgW A g ∧ xbX A (A (A g 4) i_z) 1810) ∧ ∀ i_z j_z : Int, 0 ≤ i_z → i_z < bgW A g → 0 ≤ j_z → j_z < A g 0 → -9999 ≤ A (A g 2) (i_z * 6 + j_z) ∧ A (A g 2) (i_z * 6 + j_z) ≤ 9999
theorem yX_rp {A : pm_A} {g : Int} (h : ltX A g) (i : Nat) : RpV (fun x_z => yX A g x_z i) := by
  by_cases e_z : (i : Int) < A g 0
  · obtain ⟨_, d2_z, d3_z, _⟩ := h.2.2.1 i (by omega) e_z
    exact (rpX d2_z d3_z).eq (fun x_z => by unfold yX; rw [if_pos e_z])
  · by_cases e2 : i < 12
    · exact (RpV.var ⟨i, e2⟩).eq (fun x_z => by unfold yX; rw [if_neg e_z, dif_pos e2])
    · exact RpV.one.eq (fun x_z => by unfold yX; rw [if_neg e_z, dif_neg e2])
theorem ty_nn (A : pm_A) (g k sg : Int) (i : Nat) : 0 ≤ tyX A g k sg i := by unfold tyX; omega
theorem bf_rp {A : pm_A} {g : Int} (h : ltX A g) (k sg : Int) (i : Nat) : RpV (fun x_z => bfX A g k sg x_z i) := by
  by_cases e_z : sglX A g (i : Int)
  · exact ((yX_rp h i).pow (ty_nn A g k sg i)).eq (fun x_z => by unfold bfX; rw [if_pos e_z])
  · exact RpV.one.eq (fun x_z => by unfold bfX; rw [if_neg e_z])
theorem mf_rp {A : pm_A} {g : Int} (h : ltX A g) (k sg : Int) (i : Nat) : RpV (fun x_z => mfX A g k sg x_z i) := by
  by_cases e_z : sglX A g (i : Int)
  · exact RpV.one.eq (fun x_z => by unfold mfX; rw [if_pos e_z])
  · exact ((yX_rp h i).pow (ty_nn A g k sg i)).eq (fun x_z => by unfold mfX; rw [if_neg e_z])
theorem mp_rp {A : pm_A} {g : Int} (h : ltX A g) (k sg : Int) : ∀ m_z : Nat, RpV (fun x_z => mpX A g k sg x_z m_z)
  | 0 => RpV.one
  | m_z + 1 => (mp_rp h k sg m_z).mul (mf_rp h k sg m_z)
theorem bp_ext {A : pm_A} {g : Int} (hA : ltX A g) {k sg : Int} (i : Nat) (h : BigV (fun x_z => bpX A g k sg x_z i)) : ∀ m_z : Nat, BigV (fun x_z => bpX A g k sg x_z (i + m_z))
  | 0 => h
  | m_z + 1 => (bp_ext hA i h m_z).mul (bf_rp hA k sg (i + m_z))
theorem bp_skip {A : pm_A} {g k sg : Int} {i : Nat} (h : sg * A (A g 2) ((i : Int) * 6 + k) ≤ 0 ∨ ¬ sglX A g (i : Int)) (x : cr_Pv 12) : bpX A g k sg x (i + 1) = bpX A g k sg x i := by
  show bpX A g k sg x i * bfX A g k sg x i = _
  have e_z : bfX A g k sg x i = 1 := by
    unfold bfX
    by_cases e_z : sglX A g (i : Int)
    · rw [if_pos e_z]
      have h1 : tyX A g k sg i = 0 := by
        unfold tyX cx_pos
        rcases h with h | h
        · omega
        · exact absurd e_z h
      rw [h1, Rat.zpow_zero]
    · rw [if_neg e_z]
  rw [e_z, Rat.mul_one]
theorem bp_step {A : pm_A} {g k sg T : Int} {i : Nat} (hT : T = sg * A (A g 2) ((i : Int) * 6 + k)) (h0 : 0 < T) (hs : sglX A g (i : Int)) (x : cr_Pv 12) : bpX A g k sg x (i + 1) = bpX A g k sg x i * yX A g x i ^ T := by
  show bpX A g k sg x i * bfX A g k sg x i = _
  unfold bfX
  rw [if_pos hs]
  have h1 : tyX A g k sg i = T := by unfold tyX cx_pos; rw [← hT]; omega
  rw [h1]
def bgF (A B : pm_A) (q : Int) : Prop := gH wX B ∧ ∀ r_z j_z : Int, ¬ r_z = A q 5 → B r_z j_z = A r_z j_z
abbrev bgN (A B : pm_A) (q g k sg i n : Int) : Prop := (n = -1 ∧ BigV (fun x_z => bpX A g k sg x_z (bgW A g).toNat)) ∨ ((1 ≤ n ∧ n ≤ 1000000000000) ∧ ∀ x_z : cr_Pv 12, (n : Rat) * cr_mo x_z.1 (xkX B (bgW A g) (A q 5)) = bpX A g k sg x_z i.toNat)
def bgI (A B : pm_A) (q g k sg i n : Int) : Prop := bgF A B q ∧ (∀ v_z : Int, 0 ≤ v_z → v_z < bgW A g → -(i * 18098190) ≤ B (A q 5) v_z ∧ B (A q 5) v_z ≤ i * 18098190) ∧ bgN A B q g k sg i n
def bgS (A : pm_A) (q g k sg p : Int) : Prop := ltX A g ∧ (0 ≤ q ∧ wX.2 q = 4) ∧ (0 ≤ k ∧ k < A g 0) ∧ (sg = 1 ∨ sg = -1) ∧ (0 ≤ p ∧ wX.2 p = 2)
theorem ne_key {A : pm_A} {q r : Int} {l : Nat} (hA : gH wX A) (hq : 0 ≤ q ∧ wX.2 q = 4) (hr : wX.2 r = l) (hl : ¬ l = 18) : ¬ r = A q 5 := fun e_z => by
  have := (fX_4_5 hA hq.1 hq.2).2
  rw [← e_z, hr] at this
  exact hl this
theorem big_mono {A : pm_A} {g k sg M : Int} {i : Nat} {E : cr_Xp 12} (hA : ltX A g) (hi : (i : Int) + 1 ≤ bgW A g) (hM : 1000000000000 < M) (hv : ∀ x_z : cr_Pv 12, (M : Rat) * cr_mo x_z.1 E = bpX A g k sg x_z (i + 1)) : BigV (fun x_z => bpX A g k sg x_z (bgW A g).toNat) := by
  have h1 : BigV (fun x_z => bpX A g k sg x_z (i + 1)) := by
    refine ⟨[(M, E)], fun y_z hy => ?_, fun x_z => ?_, Or.inl ⟨E, ?_⟩⟩
    · rcases List.mem_cons.1 hy with e_z | e_z
      · rw [e_z]; show 0 < M; omega
      · cases e_z
    · rw [cr_vl_cons, cr_vl_nil, Rat.add_zero]; exact hv x_z
    · rw [cr_co_cons, if_pos rfl, cr_co_nil]; show 1000000000000 < M + 0; omega
  have h2 := bp_ext hA (i + 1) h1 ((bgW A g).toNat - (i + 1))
  rw [show i + 1 + ((bgW A g).toNat - (i + 1)) = (bgW A g).toNat by omega] at h2
  exact h2
theorem srt_beginProduct : pm_srt o_X5_beginProduct = true := by decide +kernel
theorem bg_145 {A B : pm_A} {q g k sg p i T L : Int} (hS : bgS A q g k sg p) (i0 : 0 ≤ i) (i1 : i < bgW A g) (hL : 0 ≤ L ∧ wX.2 L = 2) (hB : bgF A B q) (hc : 1 ≤ A (A L 2) 0 ∧ A (A L 2) 0 ≤ 1000000000000) (T0 : 0 ≤ T) (T1 : T ≤ 9999) {z : pm_R → Prop} (H : ∀ (n_z : Int) (v11 : pm_V), bgN A B q g k sg (i + 1) n_z → Tm pmt (an_sh wX) o_X5_beginProduct 191 ([(2, q), (2, g), (0, k), (0, sg), (2, p), (0, bgW A g), (1, n_z), (9, 0), (0, i), (0, T), (2, L), v11], [], B) z) : ∀ (m_z : Nat) (d_z n_z : Int), (T - d_z).toNat < m_z → 0 ≤ d_z → d_z ≤ T → ((n_z = -1 ∧ BigV (fun x_z => bpX A g k sg x_z (bgW A g).toNat)) ∨ ((1 ≤ n_z ∧ n_z ≤ 1000000000000) ∧ ∀ x_z : cr_Pv 12, ((n_z * A (A L 2) 0 ^ (T - d_z).toNat : Int) : Rat) * cr_mo x_z.1 (xkX B (bgW A g) (A q 5)) = bpX A g k sg x_z (i + 1).toNat)) → Tm pmt (an_sh wX) o_X5_beginProduct 145 ([(2, q), (2, g), (0, k), (0, sg), (2, p), (0, bgW A g), (1, n_z), (9, 0), (0, i), (0, T), (2, L), (0, d_z)], [], B) z := by
  obtain ⟨hA, hq, hk, hsg, hp⟩ := hS
  have nL := fX_2_2 hA.1 hL.1 hL.2
  have e2 : B L 2 = A L 2 := hB.2 L 2 (ne_key hA.1 hq hL.2 (by decide))
  have e3 : B (A L 2) 0 = A (A L 2) 0 := hB.2 _ 0 (ne_key hA.1 hq nL.2 (by decide))
  have e4_z : B (B L 2) 0 = A (A L 2) 0 := by rw [e2, e3]
  intro m_z
  induction m_z with
  | zero => intro d_z n_z h_z; omega
  | succ m_z ih_z =>
    intro d_z n_z hm_z d0_z d1_z hN_z
    refine wq_ok srt_beginProduct (fr := []) (cuts := [145, 191]) (J := fun pc st_z => (pc = 191 ∧ (d_z = T ∨ A (A L 2) 0 = 1 ∨ n_z = -1) ∧ st_z = ([(2, q), (2, g), (0, k), (0, sg), (2, p), (0, bgW A g), (1, n_z), (9, 0), (0, i), (0, T), (2, L), (0, d_z)], [], B)) ∨ (pc = 145 ∧ d_z < T ∧ 1 ≤ n_z ∧ ∃ z2 : Int, ((z2 = -1 ∧ 1000000000000 < n_z * A (A L 2) 0) ∨ (z2 = n_z * A (A L 2) 0 ∧ 1 ≤ z2 ∧ z2 ≤ 1000000000000)) ∧ st_z = ([(2, q), (2, g), (0, k), (0, sg), (2, p), (0, bgW A g), (1, z2), (9, 0), (0, i), (0, T), (2, L), (0, d_z + 1)], [], B))) ?_ 40 145 _ ?_
    · rintro pc st_z (⟨rfl, hd_z, rfl⟩ | ⟨rfl, hd_z, hn1, z2, hz, rfl⟩)
      · refine H n_z _ ?_
        rcases hN_z with h_z | ⟨h1, h2⟩
        · exact Or.inl h_z
        · refine Or.inr ⟨h1, fun x_z => ?_⟩
          have h3 := h2 x_z
          have h4 : n_z * A (A L 2) 0 ^ (T - d_z).toNat = n_z := by
            rcases hd_z with h_z | h_z | h_z
            · rw [show (T - d_z).toNat = 0 by omega, Int.pow_zero, Int.mul_one]
            · rw [h_z, Int.one_pow, Int.mul_one]
            · omega
          rw [h4] at h3
          exact h3
      · have h5 : (T - d_z).toNat = (T - (d_z + 1)).toNat + 1 := by omega
        rcases hN_z with h_z | ⟨h1, h2⟩
        · omega
        · have h6 : n_z * A (A L 2) 0 ^ (T - d_z).toNat = n_z * A (A L 2) 0 * A (A L 2) 0 ^ (T - (d_z + 1)).toNat := by
            rw [h5, Int.pow_succ, Int.mul_comm (A (A L 2) 0 ^ (T - (d_z + 1)).toNat), Int.mul_assoc]
          refine ih_z (d_z + 1) z2 (by omega) (by omega) (by omega) ?_
          rcases hz with ⟨rfl, hz2⟩ | ⟨hz1, hz2⟩
          · refine Or.inl ⟨rfl, ?_⟩
            have h7 := pow_ge1 hc.1 (T - (d_z + 1)).toNat
            have h8 := Int.mul_le_mul_of_nonneg_left h7 (show 0 ≤ n_z * A (A L 2) 0 by omega)
            rw [Int.mul_one, ← h6] at h8
            refine big_mono hA (i := i.toNat) (M := n_z * A (A L 2) 0 ^ (T - d_z).toNat) (E := xkX B (bgW A g) (A q 5)) (by omega) (by omega) (fun x_z => ?_)
            rw [show i.toNat + 1 = (i + 1).toNat by omega]
            exact h2 x_z
          · refine Or.inr ⟨hz2, fun x_z => ?_⟩
            rw [hz1, ← h6]
            exact h2 x_z
    · refine ⟨fun h_z => ?_, fun h_z => ?_⟩
      · exact Or.inl ⟨rfl, Or.inl (by omega), rfl⟩
      · refine ⟨oX_2 hL.1 hL.2 2 rfl, ?_⟩
        refine ⟨aX_14 (by rw [e2]; exact nL.1) (by rw [e2]; exact nL.2) (by omega) (by omega), ?_⟩
        refine ⟨fun h1 => ?_, fun h1 => ?_, fun h1 => ?_⟩
        · refine ⟨fun hh => absurd hh (by decide), fun _ => ?_⟩
          refine ⟨fun h2 => ?_, fun h2 => ?_, fun h2 => ?_⟩
          · refine ⟨fun hh => absurd hh (by decide), fun _ => ?_⟩
            refine ⟨oX_2 hL.1 hL.2 2 rfl, ?_⟩
            refine ⟨aX_14 (by rw [e2]; exact nL.1) (by rw [e2]; exact nL.2) (by omega) (by omega), ?_⟩
            refine ⟨rfl, ?_⟩
            have hn : 1 ≤ n_z ∧ n_z ≤ 1000000000000 := by
              rcases hN_z with h3 | h3
              · omega
              · exact h3.1
            refine (mult_ex hn (show 1 ≤ B (B L 2) 0 ∧ B (B L 2) 0 ≤ 1000000000000 by rw [e4_z]; exact hc)).imp ?_
            rintro ⟨r1_z, C_z⟩ ⟨g1, z2, g2, g3_z⟩
            simp only at g1 g2 g3_z
            rw [e4_z] at g3_z
            subst g1
            subst g2
            refine ⟨⟨by omega, by omega⟩, ?_⟩
            exact Or.inr ⟨rfl, h_z, hn.1, z2, g3_z, rfl⟩
          · refine ⟨fun _ => ?_, fun hh => absurd hh (by decide)⟩
            exact Or.inl ⟨rfl, Or.inr (Or.inr (by omega)), rfl⟩
          · refine ⟨fun _ => ?_, fun hh => absurd hh (by decide)⟩
            exact Or.inl ⟨rfl, Or.inr (Or.inr (by omega)), rfl⟩
        · refine ⟨fun _ => ?_, fun hh => absurd hh (by decide)⟩
          rw [e4_z] at h1
          exact Or.inl ⟨rfl, Or.inr (Or.inl h1), rfl⟩
        · rw [e4_z] at h1
          exact absurd h1 (by omega)
theorem xk_add {A B C : pm_A} {q g T L : Int} (hL0 : A L 0 = bgW A g) (h : ∀ u_z : Int, 0 ≤ u_z → u_z < bgW A g → C (A q 5) u_z = B (A q 5) u_z + T * A (A L 3) u_z) : xkX C (bgW A g) (A q 5) = fun j_z => xkX B (bgW A g) (A q 5) j_z + xeX A L 0 j_z * T := funext fun j_z => by
  show (if (j_z.1 : Int) < bgW A g then C (A q 5) (j_z.1 : Int) else 0) = (if (j_z.1 : Int) < bgW A g then B (A q 5) (j_z.1 : Int) else 0) + (if (j_z.1 : Int) < A L 0 then A (A L 3) (0 * A L 0 + (j_z.1 : Int)) else 0) * T
  rw [hL0]
  by_cases e_z : (j_z.1 : Int) < bgW A g
  · rw [if_pos e_z, if_pos e_z, if_pos e_z, h j_z.1 (by omega) e_z, Int.zero_mul, Int.zero_add, Int.mul_comm T]
  · rw [if_neg e_z, if_neg e_z, if_neg e_z, Int.zero_mul]; rfl
theorem bg_108 {A B0 : pm_A} {q g k sg p i T L n : Int} (hS : bgS A q g k sg p) (i0 : 0 ≤ i) (i1 : i < bgW A g) (hL : 0 ≤ L ∧ wX.2 L = 2) (hL0 : A L 0 = bgW A g) (hL1 : 1 ≤ A L 1) (hLx : xbX A L 1810) (T0 : 0 < T) (T1 : T ≤ 9999) (hI : bgF A B0 q) (hb : ∀ v_z : Int, 0 ≤ v_z → v_z < bgW A g → -(i * 18098190) ≤ B0 (A q 5) v_z ∧ B0 (A q 5) v_z ≤ i * 18098190) {z : pm_R → Prop} (H : ∀ (C_z : pm_A), bgF A C_z q → (∀ u_z : Int, 0 ≤ u_z → u_z < bgW A g → C_z (A q 5) u_z = B0 (A q 5) u_z + T * A (A L 3) u_z) → (∀ v_z : Int, 0 ≤ v_z → v_z < bgW A g → -((i + 1) * 18098190) ≤ C_z (A q 5) v_z ∧ C_z (A q 5) v_z ≤ (i + 1) * 18098190) → Tm pmt (an_sh wX) o_X5_beginProduct 145 ([(2, q), (2, g), (0, k), (0, sg), (2, p), (0, bgW A g), (1, n), (9, 0), (0, i), (0, T), (2, L), (0, 0)], [], C_z) z) : ∀ (m_z : Nat) (v_z : Int) (B_z : pm_A), (12 - v_z).toNat < m_z → 0 ≤ v_z → v_z ≤ bgW A g → bgF A B_z q → (∀ u_z : Int, 0 ≤ u_z → u_z < v_z → B_z (A q 5) u_z = B0 (A q 5) u_z + T * A (A L 3) u_z) → (∀ u_z : Int, v_z ≤ u_z → u_z < bgW A g → B_z (A q 5) u_z = B0 (A q 5) u_z) → Tm pmt (an_sh wX) o_X5_beginProduct 108 ([(2, q), (2, g), (0, k), (0, sg), (2, p), (0, bgW A g), (1, n), (9, 0), (0, i), (0, T), (2, L), (0, v_z)], [], B_z) z := by
  obtain ⟨hA, hq, hk, hsg, hp⟩ := hS
  have kA_z := fX_4_5 hA.1 hq.1 hq.2
  have pL := fX_2_3 hA.1 hL.1 hL.2
  have p6_z := fX_1_0 hA.1 hA.2.1.1 hA.2.1.2
  have h6 := fX_1_1 hA.1 hA.2.1.1 hA.2.1.2
  have hw12 : bgW A g ≤ 12 := by unfold bgW; omega
  have hx : ∀ u_z : Int, 0 ≤ u_z → u_z < bgW A g → -18098190 ≤ T * A (A L 3) u_z ∧ T * A (A L 3) u_z ≤ 18098190 := fun u_z u0 u1_z => by
    have h1 := hLx 0 u_z (by omega) (by omega) u0 (by omega)
    rw [Int.zero_mul, Int.zero_add] at h1
    have h2 := to_mul (show 0 ≤ T by omega) h1
    omega
  intro m_z
  induction m_z with
  | zero => intro v_z B_z h_z; omega
  | succ m_z ih_z =>
    intro v_z B_z hm_z v0_z v1_z hB_z hlo hhi
    have eq5 : B_z q 5 = A q 5 := hB_z.2 q 5 (ne_key hA.1 hq hq.2 (by decide))
    have eL3 : B_z L 3 = A L 3 := hB_z.2 L 3 (ne_key hA.1 hq hL.2 (by decide))
    have ep : B_z (A L 3) v_z = A (A L 3) v_z := hB_z.2 _ v_z (ne_key hA.1 hq pL.2 (by decide))
    have e1 : B_z (B_z q 5) v_z = B_z (A q 5) v_z := by rw [eq5]
    have e2 : B_z (B_z L 3) v_z = A (A L 3) v_z := by rw [eL3, ep]
    refine wq_ok srt_beginProduct (fr := []) (cuts := [108, 145]) (J := fun pc st_z => (pc = 145 ∧ v_z = bgW A g ∧ st_z = ([(2, q), (2, g), (0, k), (0, sg), (2, p), (0, bgW A g), (1, n), (9, 0), (0, i), (0, T), (2, L), (0, 0)], [], B_z)) ∨ (pc = 108 ∧ v_z < bgW A g ∧ st_z = ([(2, q), (2, g), (0, k), (0, sg), (2, p), (0, bgW A g), (1, n), (9, 0), (0, i), (0, T), (2, L), (0, v_z + 1)], [], pm_upd B_z (B_z q 5) v_z (B_z (B_z q 5) v_z + T * B_z (B_z L 3) v_z)))) ?_ 40 108 _ ?_
    · rintro pc st_z (⟨rfl, hv, rfl⟩ | ⟨rfl, hv, rfl⟩)
      · refine H B_z hB_z (fun u_z u0 u1_z => hlo u_z u0 (by omega)) (fun u_z u0 u1_z => ?_)
        have h1 := hx u_z u0 u1_z
        have h2 := hb u_z u0 u1_z
        rw [hlo u_z u0 (by omega)]
        omega
      · rw [e1, e2, eq5]
        have h1 := hx v_z v0_z hv
        have h2 := hb v_z v0_z hv
        have h3 := hhi v_z (by omega) hv
        have h4 : i ≤ 11 := by omega
        refine ih_z (v_z + 1) _ (by omega) (by omega) (by omega) ⟨uX_18 hB_z.1 kA_z.2 (by omega) (by omega), fun r_z j_z hr => by rw [upd_ne hr]; exact hB_z.2 r_z j_z hr⟩ (fun u_z u0 u1_z => ?_) (fun u_z u0 u1_z => ?_)
        · by_cases e_z : u_z = v_z
          · rw [e_z, upd_at, h3]
          · rw [upd_n2 e_z]; exact hlo u_z u0 (by omega)
        · rw [upd_n2 (by omega)]; exact hhi u_z (by omega) u1_z
    · refine ⟨fun h_z => ?_, fun h_z => ?_⟩
      · exact Or.inl ⟨rfl, by omega, rfl⟩
      · have h1 := hx v_z v0_z h_z
        have h2 := hb v_z v0_z h_z
        have h3 := hhi v_z (by omega) h_z
        have h4 : i ≤ 11 := by omega
        refine ⟨oX_4 hq.1 hq.2 5 rfl, ?_⟩
        refine ⟨aX_18 (by rw [eq5]; exact kA_z.1) (by rw [eq5]; exact kA_z.2) v0_z (by omega), ?_⟩
        refine ⟨oX_2 hL.1 hL.2 3 rfl, ?_⟩
        refine ⟨aX_15 (by rw [eL3]; exact pL.1) (by rw [eL3]; exact pL.2) v0_z (by omega), ?_⟩
        refine ⟨(show r32 (T * B_z (B_z L 3) v_z) by rw [e2]; exact ⟨by omega, by omega⟩), ?_⟩
        refine ⟨(show r32 (B_z (B_z q 5) v_z + T * B_z (B_z L 3) v_z) by rw [e1, e2, h3]; exact ⟨by omega, by omega⟩), ?_⟩
        refine ⟨tX_18 (by rw [eq5]; exact kA_z.1) (by rw [eq5]; exact kA_z.2) v0_z (by omega) rfl, ?_⟩
        refine ⟨⟨by omega, by omega⟩, ?_⟩
        exact Or.inr ⟨rfl, h_z, rfl⟩
theorem bg_191 {C : pm_A} {q g k sg p i n W : Int} {v9 v10 v11 : pm_V} (i0 : 0 ≤ i) (i1 : i ≤ 12) {z : pm_R → Prop} (H : Tm pmt (an_sh wX) o_X5_beginProduct 25 ([(2, q), (2, g), (0, k), (0, sg), (2, p), (0, W), (1, n), (9, 0), (0, i + 1), v9, v10, v11], [], C) z) : Tm pmt (an_sh wX) o_X5_beginProduct 191 ([(2, q), (2, g), (0, k), (0, sg), (2, p), (0, W), (1, n), (9, 0), (0, i), v9, v10, v11], [], C) z := by
  refine wq_ok srt_beginProduct (fr := []) (cuts := [25]) (J := fun pc st_z => pc = 25 ∧ st_z = ([(2, q), (2, g), (0, k), (0, sg), (2, p), (0, W), (1, n), (9, 0), (0, i + 1), v9, v10, v11], [], C)) ?_ 10 191 _ ?_
  · rintro pc st_z ⟨rfl, rfl⟩
    exact H
  · refine ⟨⟨by omega, by omega⟩, ?_⟩
    exact ⟨rfl, rfl⟩
theorem yX_one {A : pm_A} {g : Int} {i : Nat} (hi : (i : Int) < A g 0) (h1 : A (A (A g 4) (i : Int)) 1 = 1) (x : cr_Pv 12) : yX A g x i = (A (A (A (A g 4) (i : Int)) 2) 0 : Rat) * cr_mo x.1 (xeX A (A (A g 4) (i : Int)) 0) := by
  unfold yX
  rw [if_pos hi, VX_one h1]
theorem bg_one {A B C : pm_A} {q g k sg p i T n : Int} (hS : bgS A q g k sg p) (i0 : 0 ≤ i) (i1 : i < A g 0) (hT : T = sg * A (A g 2) (i * 6 + k)) (T0 : 0 < T) (h1 : A (A (A g 4) i) 1 = 1) (hN : ∀ x : cr_Pv 12, (n : Rat) * cr_mo x.1 (xkX B (bgW A g) (A q 5)) = bpX A g k sg x i.toNat) (hC : ∀ u_z : Int, 0 ≤ u_z → u_z < bgW A g → C (A q 5) u_z = B (A q 5) u_z + T * A (A (A (A g 4) i) 3) u_z) (x : cr_Pv 12) : ((n * A (A (A (A g 4) i) 2) 0 ^ (T - 0).toNat : Int) : Rat) * cr_mo x.1 (xkX C (bgW A g) (A q 5)) = bpX A g k sg x (i + 1).toNat := by
  obtain ⟨hA, hq, hk, hsg, hp⟩ := hS
  obtain ⟨d1_z, d2_z, d3_z, d4_z, d5_z⟩ := hA.2.2.1 i i0 i1
  have hc_z := (d2_z 0 (by omega) (by omega)).1
  have ei : ((i.toNat : Nat) : Int) = i := Int.toNat_of_nonneg i0
  have hs := bp_step (A := A) (g := g) (k := k) (sg := sg) (T := T) (i := i.toNat) (by rw [ei]; exact hT) T0 (Or.inr (by rw [ei]; exact h1)) x
  rw [show (i + 1).toNat = i.toNat + 1 by omega, hs, ← hN x, yX_one (by rw [ei]; exact i1) (by rw [ei]; exact h1) x, ei, xk_add d4_z hC, cr_mo_add x.2, cr_mo_pow x.2, Int.sub_zero, Rat.intCast_mul, cst_pow hc_z]
  have e1 : ((T.toNat : Nat) : Int) = T := by omega
  rw [e1, cr_mul_zp (cst_pos hc_z) (cr_mo_pos x.2 _)]
  grind
theorem xk_up {A B C : pm_A} {q g T : Int} {i : Fin 12} (hi : (i.1 : Int) < bgW A g) (h : ∀ u_z : Int, 0 ≤ u_z → u_z < bgW A g → C (A q 5) u_z = if u_z = (i.1 : Int) then B (A q 5) u_z + T else B (A q 5) u_z) : xkX C (bgW A g) (A q 5) = fun j_z => xkX B (bgW A g) (A q 5) j_z + cr_up (fun _ => 0) i T j_z := funext fun j_z => by
  show (if (j_z.1 : Int) < bgW A g then C (A q 5) (j_z.1 : Int) else 0) = (if (j_z.1 : Int) < bgW A g then B (A q 5) (j_z.1 : Int) else 0) + (if j_z = i then T else 0)
  by_cases e_z : (j_z.1 : Int) < bgW A g
  · rw [if_pos e_z, if_pos e_z, h j_z.1 (by omega) e_z]
    by_cases e2 : j_z = i
    · rw [if_pos e2, if_pos (by rw [e2])]
    · rw [if_neg e2, if_neg (fun q => e2 (Fin.ext (by omega))), Int.add_zero]
  · rw [if_neg e_z, if_neg e_z, if_neg (fun q => e_z (by rw [q]; exact hi))]; rfl
theorem bg_53 {A B : pm_A} {q g k sg p i T n : Int} {v10 v11 : pm_V} (hS : bgS A q g k sg p) (i0 : 0 ≤ i) (i1 : i < bgW A g) (hT : T = sg * A (A g 2) (i * 6 + k)) (T0 : 0 < T) (T1 : T ≤ 9999) (hI : bgI A B q g k sg i n) {z : pm_R → Prop} (H : ∀ (C_z : pm_A) (n2_z : Int) (v9 v10 v11 : pm_V), bgI A C_z q g k sg (i + 1) n2_z → Tm pmt (an_sh wX) o_X5_beginProduct 191 ([(2, q), (2, g), (0, k), (0, sg), (2, p), (0, bgW A g), (1, n2_z), (9, 0), (0, i), v9, v10, v11], [], C_z) z) : Tm pmt (an_sh wX) o_X5_beginProduct 53 ([(2, q), (2, g), (0, k), (0, sg), (2, p), (0, bgW A g), (1, n), (9, 0), (0, i), (0, T), v10, v11], [], B) z := by
  have hS0 := hS
  obtain ⟨hA, hq, hk, hsg, hp⟩ := hS
  obtain ⟨hB_z, hb_z, hN_z⟩ := hI
  have hg := hA.2.1
  have kA_z := fX_4_5 hA.1 hq.1 hq.2
  have p6_z := fX_1_0 hA.1 hg.1 hg.2
  have h6 := fX_1_1 hA.1 hg.1 hg.2
  have l4 := fX_1_4 hA.1 hg.1 hg.2
  have hw12 : bgW A g ≤ 12 := by unfold bgW; omega
  have eq5 : B q 5 = A q 5 := hB_z.2 q 5 (ne_key hA.1 hq hq.2 (by decide))
  have eg : ∀ j_z : Int, B g j_z = A g j_z := fun j_z => hB_z.2 g j_z (ne_key hA.1 hq hg.2 (by decide))
  have eg4 : B (A g 4) i = A (A g 4) i := hB_z.2 _ i (ne_key hA.1 hq l4.2 (by decide))
  have ei : ((i.toNat : Nat) : Int) = i := Int.toNat_of_nonneg i0
  refine wq_ok srt_beginProduct (fr := []) (cuts := [82, 191]) (J := fun pc st_z => (pc = 191 ∧ A g 0 ≤ i ∧ st_z = ([(2, q), (2, g), (0, k), (0, sg), (2, p), (0, bgW A g), (1, n), (9, 0), (0, i), (0, T), v10, v11], [], pm_upd B (B q 5) i (B (B q 5) i + T))) ∨ (pc = 82 ∧ i < A g 0 ∧ st_z = ([(2, q), (2, g), (0, k), (0, sg), (2, p), (0, bgW A g), (1, n), (9, 0), (0, i), (0, T), v10, v11], [], B))) ?_ 40 53 _ ?_
  · rintro pc st_z (⟨rfl, hi_z, rfl⟩ | ⟨rfl, hi_z, rfl⟩)
    · rw [eq5]
      have h2 := hb_z i i0 i1
      refine H _ n _ _ _ ⟨⟨uX_18 hB_z.1 kA_z.2 (by omega) (by omega), fun r_z j_z hr => by rw [upd_ne hr]; exact hB_z.2 r_z j_z hr⟩, fun v_z v0_z v1_z => ?_, ?_⟩
      · have h3 := hb_z v_z v0_z v1_z
        by_cases e_z : v_z = i
        · rw [e_z, upd_at]; omega
        · rw [upd_n2 e_z]; omega
      · rcases hN_z with h_z | ⟨h1, h4⟩
        · exact Or.inl h_z
        · refine Or.inr ⟨h1, fun x_z => ?_⟩
          have hup := xk_up (A := A) (B := B) (C := pm_upd B (A q 5) i (B (A q 5) i + T)) (q := q) (g := g) (T := T) (i := ⟨i.toNat, by omega⟩) (by show ((i.toNat : Nat) : Int) < bgW A g; omega) (fun u_z u0 u1_z => by
            show _ = if u_z = ((i.toNat : Nat) : Int) then _ else _
            rw [ei]
            by_cases e_z : u_z = i
            · rw [if_pos e_z, e_z, upd_at]
            · rw [if_neg e_z, upd_n2 e_z])
          have hs := bp_step (A := A) (g := g) (k := k) (sg := sg) (T := T) (i := i.toNat) (by rw [ei]; exact hT) T0 (Or.inl (by rw [ei]; exact hi_z)) x_z
          have hy : yX A g x_z i.toNat = x_z.1 ⟨i.toNat, by omega⟩ := by
            unfold yX
            rw [if_neg (by omega), dif_pos (by omega)]
          rw [show (i + 1).toNat = i.toNat + 1 by omega, hs, ← h4 x_z, hup, cr_mo_add x_z.2, cr_mo_e, hy, Rat.mul_assoc]
    · have e0_z := eX_12 hA.1 l4.1 l4.2 i0 (show i < 6 by omega)
      obtain ⟨d1_z, d2_z, d3_z, d4_z, d5_z⟩ := hA.2.2.1 i i0 hi_z
      have el : ∀ j_z : Int, B (A (A g 4) i) j_z = A (A (A g 4) i) j_z := fun j_z => hB_z.2 _ j_z (ne_key hA.1 hq e0_z.2 (by decide))
      refine wq_ok srt_beginProduct (fr := []) (cuts := [108, 191]) (J := fun pc st_z => (pc = 191 ∧ (¬ B (B (B g 4) i) 1 = 1) ∧ st_z = ([(2, q), (2, g), (0, k), (0, sg), (2, p), (0, bgW A g), (1, n), (9, 0), (0, i), (0, T), v10, v11], [], B)) ∨ (pc = 108 ∧ B (B (B g 4) i) 1 = 1 ∧ st_z = ([(2, q), (2, g), (0, k), (0, sg), (2, p), (0, bgW A g), (1, n), (9, 0), (0, i), (0, T), (2, B (B g 4) i), (0, 0)], [], B))) ?_ 40 82 _ ?_
      · rintro pc st_z (⟨rfl, h1, rfl⟩ | ⟨rfl, h1, rfl⟩)
        · rw [eg 4, eg4, el 1] at h1
          refine H B n _ _ _ ⟨hB_z, fun v_z v0_z v1_z => ?_, ?_⟩
          · have h3 := hb_z v_z v0_z v1_z
            omega
          · rcases hN_z with h_z | ⟨h2, h4⟩
            · exact Or.inl h_z
            · refine Or.inr ⟨h2, fun x_z => ?_⟩
              rw [show (i + 1).toNat = i.toNat + 1 by omega, bp_skip (Or.inr (by rw [ei]; intro hs; rcases hs with hs | hs; omega; exact h1 hs)) x_z]
              exact h4 x_z
        · rw [eg 4, eg4, el 1] at h1
          rw [eg 4, eg4]
          refine bg_108 hS0 i0 i1 e0_z d4_z d3_z d5_z T0 T1 hB_z hb_z (fun C_z c1_z c2_z c3_z => ?_) _ 0 B (Nat.lt_succ_self _) (by omega) (by omega) hB_z (fun u_z u0 u1_z => by omega) (fun u_z u0 u1_z => rfl)
          refine bg_145 hS0 i0 i1 e0_z c1_z (d2_z 0 (by omega) (by omega)) (by omega) T1 (fun n2_z v11 hn2 => H C_z n2_z _ _ _ ⟨c1_z, c3_z, hn2⟩) _ 0 n (Nat.lt_succ_self _) (by omega) (by omega) ?_
          rcases hN_z with h_z | ⟨h2, h4⟩
          · exact Or.inl h_z
          · exact Or.inr ⟨h2, fun x_z => bg_one hS0 i0 hi_z hT T0 h1 h4 c2_z x_z⟩
      · refine ⟨oX_1 hg.1 hg.2 4 rfl, ?_⟩
        refine ⟨aX_12 (by rw [eg 4]; exact l4.1) (by rw [eg 4]; exact l4.2) i0 (by omega), ?_⟩
        refine ⟨oX_2 (by rw [eg 4, eg4]; exact e0_z.1) (by rw [eg 4, eg4]; exact e0_z.2) 1 rfl, ?_⟩
        refine ⟨fun h_z => ?_, fun h_z => ?_⟩
        · exact Or.inl ⟨rfl, h_z, rfl⟩
        · refine ⟨oX_1 hg.1 hg.2 4 rfl, ?_⟩
          refine ⟨aX_12 (by rw [eg 4]; exact l4.1) (by rw [eg 4]; exact l4.2) i0 (by omega), ?_⟩
          exact Or.inr ⟨rfl, h_z, rfl⟩
  · refine ⟨oX_1 hg.1 hg.2 0 rfl, ?_⟩
    refine ⟨fun h_z => ?_, fun h_z => ?_⟩
    · rw [eg 0] at h_z
      refine ⟨fun h2 => absurd h2 (by omega), fun h2 => ?_⟩
      exact Or.inr ⟨rfl, h_z, rfl⟩
    · rw [eg 0] at h_z
      have h2 := hb_z i i0 i1
      refine ⟨oX_4 hq.1 hq.2 5 rfl, ?_⟩
      refine ⟨aX_18 (by rw [eq5]; exact kA_z.1) (by rw [eq5]; exact kA_z.2) i0 (by omega), ?_⟩
      refine ⟨(show r32 (B (B q 5) i + T) by rw [eq5]; exact ⟨by omega, by omega⟩), ?_⟩
      refine ⟨tX_18 (by rw [eq5]; exact kA_z.1) (by rw [eq5]; exact kA_z.2) i0 (by omega) rfl, ?_⟩
      exact Or.inl ⟨rfl, h_z, rfl⟩
theorem bg_25 {A : pm_A} {q g k sg p : Int} (hS : bgS A q g k sg p) {z : pm_R → Prop} (H : ∀ (C_z : pm_A) (n_z : Int) (v9 v10 v11 : pm_V), bgI A C_z q g k sg (bgW A g) n_z → Tm pmt (an_sh wX) o_X5_beginProduct 197 ([(2, q), (2, g), (0, k), (0, sg), (2, p), (0, bgW A g), (1, n_z), (9, 0), (0, bgW A g), v9, v10, v11], [], C_z) z) : ∀ (m_z : Nat) (i_z n_z : Int) (v9 v10 v11 : pm_V) (B_z : pm_A), (12 - i_z).toNat < m_z → 0 ≤ i_z → i_z ≤ bgW A g → bgI A B_z q g k sg i_z n_z → Tm pmt (an_sh wX) o_X5_beginProduct 25 ([(2, q), (2, g), (0, k), (0, sg), (2, p), (0, bgW A g), (1, n_z), (9, 0), (0, i_z), v9, v10, v11], [], B_z) z := by
  have hS0 := hS
  obtain ⟨hA, hq, hk, hsg, hp⟩ := hS
  have hg := hA.2.1
  have p6_z := fX_1_0 hA.1 hg.1 hg.2
  have h6 := fX_1_1 hA.1 hg.1 hg.2
  have t2_z := fX_1_2 hA.1 hg.1 hg.2
  have hw12 : bgW A g ≤ 12 := by unfold bgW; omega
  intro m_z
  induction m_z with
  | zero => intro i_z n_z v9 v10 v11 B_z h_z; omega
  | succ m_z ih_z =>
    intro i_z n_z v9 v10 v11 B_z hm_z i0_z i1_z hI
    have hI0 := hI
    obtain ⟨hB_z, hb_z, hN_z⟩ := hI
    have eg : ∀ j_z : Int, B_z g j_z = A g j_z := fun j_z => hB_z.2 g j_z (ne_key hA.1 hq hg.2 (by decide))
    have et : B_z (B_z g 2) (i_z * 6 + k) = A (A g 2) (i_z * 6 + k) := by rw [eg 2]; exact hB_z.2 _ _ (ne_key hA.1 hq t2_z.2 (by decide))
    have ei : ((i_z.toNat : Nat) : Int) = i_z := Int.toNat_of_nonneg i0_z
    have htb : i_z < bgW A g → -9999 ≤ sg * A (A g 2) (i_z * 6 + k) ∧ sg * A (A g 2) (i_z * 6 + k) ≤ 9999 := fun h_z => by
      have h1 := hA.2.2.2 i_z k i0_z h_z hk.1 hk.2
      rcases hsg with e_z | e_z
      · rw [e_z, Int.one_mul]; exact h1
      · rw [e_z, Int.neg_mul, Int.one_mul]; omega
    refine wq_ok srt_beginProduct (fr := []) (cuts := [53, 191, 197]) (J := fun pc st_z => (pc = 197 ∧ i_z = bgW A g ∧ st_z = ([(2, q), (2, g), (0, k), (0, sg), (2, p), (0, bgW A g), (1, n_z), (9, 0), (0, i_z), v9, v10, v11], [], B_z)) ∨ (pc = 191 ∧ i_z < bgW A g ∧ sg * B_z (B_z g 2) (i_z * 6 + k) ≤ 0 ∧ st_z = ([(2, q), (2, g), (0, k), (0, sg), (2, p), (0, bgW A g), (1, n_z), (9, 0), (0, i_z), (0, sg * B_z (B_z g 2) (i_z * 6 + k)), v10, v11], [], B_z)) ∨ (pc = 53 ∧ i_z < bgW A g ∧ 0 < sg * B_z (B_z g 2) (i_z * 6 + k) ∧ st_z = ([(2, q), (2, g), (0, k), (0, sg), (2, p), (0, bgW A g), (1, n_z), (9, 0), (0, i_z), (0, sg * B_z (B_z g 2) (i_z * 6 + k)), v10, v11], [], B_z))) ?_ 40 25 _ ?_
    · rintro pc st_z (⟨rfl, hi_z, rfl⟩ | ⟨rfl, hi_z, hT_z, rfl⟩ | ⟨rfl, hi_z, hT_z, rfl⟩)
      · rw [hi_z] at hI0 ⊢
        exact H B_z n_z _ _ _ hI0
      · rw [et] at hT_z ⊢
        refine bg_191 i0_z (by omega) (ih_z (i_z + 1) n_z _ _ _ B_z (by omega) (by omega) (by omega) ⟨hB_z, fun v_z v0_z v1_z => ?_, ?_⟩)
        · have h3 := hb_z v_z v0_z v1_z
          omega
        · rcases hN_z with h_z | ⟨h2, h4⟩
          · exact Or.inl h_z
          · refine Or.inr ⟨h2, fun x_z => ?_⟩
            rw [show (i_z + 1).toNat = i_z.toNat + 1 by omega, bp_skip (Or.inl (by rw [ei]; exact hT_z)) x_z]
            exact h4 x_z
      · rw [et] at hT_z ⊢
        refine bg_53 hS0 i0_z hi_z rfl hT_z (htb hi_z).2 hI0 (fun C_z n2_z v9 v10 v11 hC => ?_)
        exact bg_191 i0_z (by omega) (ih_z (i_z + 1) n2_z _ _ _ C_z (by omega) (by omega) (by omega) hC)
    · refine ⟨fun h_z => ?_, fun h_z => ?_⟩
      · exact Or.inl ⟨rfl, by omega, rfl⟩
      · have h1 := htb h_z
        refine ⟨oX_1 hg.1 hg.2 2 rfl, ?_⟩
        refine ⟨⟨by omega, by omega⟩, ?_⟩
        refine ⟨⟨by omega, by omega⟩, ?_⟩
        refine ⟨aX_10 (by rw [eg 2]; exact t2_z.1) (by rw [eg 2]; exact t2_z.2) (by omega) (by omega), ?_⟩
        refine ⟨(show r32 (sg * B_z (B_z g 2) (i_z * 6 + k)) by rw [et]; exact ⟨by omega, by omega⟩), ?_⟩
        refine ⟨fun h2 => ?_, fun h2 => ?_⟩
        · refine ⟨fun h3 => ?_, fun h3 => absurd h2 (by omega)⟩
          exact Or.inr (Or.inl ⟨rfl, h_z, h2, rfl⟩)
        · exact Or.inr (Or.inr ⟨rfl, h_z, h2, rfl⟩)
def bgP (A : pm_A) (q g k sg p : Int) (r : pm_R) : Prop := mxF A r.2 q p ∧ ((r.1 = some (0, 0) ∧ BigV (fun x_z => bpX A g k sg x_z (bgW A g).toNat)) ∨ (r.1 = some (0, 1) ∧ r.2 p 0 = bgW A g ∧ srX r.2 p ∧ cfX r.2 p ∧ 1 ≤ r.2 p 1 ∧ xbX r.2 p (bgW A g * 18098190) ∧ ∀ x_z, VX r.2 p x_z = bpX A g k sg x_z (bgW A g).toNat))
theorem co_one (n : Int) (E a : cr_Xp 12) : cr_co [(n, E)] a = si (n, E) a := by
  rw [cr_co_cons, cr_co_nil, Int.add_zero]
  rfl
theorem si_ne {n : Int} {E a : cr_Xp 12} (h : ¬ si (n, E) a = 0) : E = a := by
  refine Classical.byContradiction (fun e_z => h ?_)
  unfold si
  rw [if_neg e_z]
theorem bg_197 {A B : pm_A} {q g k sg p n : Int} {v8 v9 v10 v11 : pm_V} (hS : bgS A q g k sg p) (hI : bgI A B q g k sg (bgW A g) n) : Tm pmt (an_sh wX) o_X5_beginProduct 197 ([(2, q), (2, g), (0, k), (0, sg), (2, p), (0, bgW A g), (1, n), (9, 0), v8, v9, v10, v11], [], B) (bgP A q g k sg p) := by
  obtain ⟨hA, hq, hk, hsg, hp⟩ := hS
  obtain ⟨hB_z, hb_z, hN_z⟩ := hI
  have hg := hA.2.1
  have kA_z := fX_4_5 hA.1 hq.1 hq.2
  have p6_z := fX_1_0 hA.1 hg.1 hg.2
  have h6 := fX_1_1 hA.1 hg.1 hg.2
  have hw0 : 0 ≤ bgW A g := by unfold bgW; omega
  have hw12 : bgW A g ≤ 12 := by unfold bgW; omega
  have npk : ¬ p = A q 5 := ne_key hA.1 hq hp.2 (by decide)
  have eq5 : B q 5 = A q 5 := hB_z.2 q 5 (ne_key hA.1 hq hq.2 (by decide))
  have ep : ∀ j_z : Int, B p j_z = A p j_z := fun j_z => hB_z.2 p j_z npk
  have nqp : ¬ q = p := fun e_z => by rw [e_z, hp.2] at hq; exact absurd hq.2 (by decide)
  have c0_z : pm_upd (pm_upd B p 0 (bgW A g)) p 1 0 p 0 = bgW A g := by rw [upd_n2 (by omega), upd_at]
  have c1_z : pm_upd (pm_upd B p 0 (bgW A g)) p 1 0 p 1 = 0 := upd_at
  have c2_z : pm_upd (pm_upd B p 0 (bgW A g)) p 1 0 p 2 = A p 2 := by rw [upd_n2 (by omega), upd_n2 (by omega)]; exact ep 2
  have c3_z : pm_upd (pm_upd B p 0 (bgW A g)) p 1 0 p 3 = A p 3 := by rw [upd_n2 (by omega), upd_n2 (by omega)]; exact ep 3
  have co : ∀ r_z j_z : Int, ¬ r_z = p → pm_upd (pm_upd B p 0 (bgW A g)) p 1 0 r_z j_z = B r_z j_z := fun r_z j_z hr => by rw [upd_ne hr, upd_ne hr]
  have cg : gH wX (pm_upd (pm_upd B p 0 (bgW A g)) p 1 0) := clr_gH hB_z.1 hp.2 hw0 hw12
  refine wq_ok srt_beginProduct (fr := []) (cuts := [204]) (J := fun pc st_z => pc = 204 ∧ st_z = ([(2, q), (2, g), (0, k), (0, sg), (2, p), (0, bgW A g), (1, n), (9, 0), v8, v9, v10, v11], [], pm_upd (pm_upd B p 0 (bgW A g)) p 1 0)) ?_ 20 197 _ ?_
  · rintro pc st_z ⟨rfl, rfl⟩
    generalize pm_upd (pm_upd B p 0 (bgW A g)) p 1 0 = C_z at c0_z c1_z c2_z c3_z co cg ⊢
    have hF : mxF A C_z q p := ⟨cg, fun r_z j_z a1_z a2 a3 a4 => by rw [co r_z j_z a1_z]; exact hB_z.2 r_z j_z a4, c2_z, c3_z⟩
    have hxk : xkX C_z (bgW A g) (A q 5) = xkX B (bgW A g) (A q 5) := funext fun j_z => by
      show (if (j_z.1 : Int) < bgW A g then C_z (A q 5) (j_z.1 : Int) else 0) = (if (j_z.1 : Int) < bgW A g then B (A q 5) (j_z.1 : Int) else 0)
      rw [co _ _ (fun e_z => npk e_z.symm)]
    have hLS : LSx C_z p = [] := by unfold LSx; rw [c1_z]; rfl
    have eC5 : C_z q 5 = A q 5 := by rw [co q 5 nqp]; exact eq5
    refine wq_ok srt_beginProduct (fr := []) (cuts := []) (J := fun _ _ => False) (fun _ _ h_z => h_z.elim) 40 204 _ ?_
    rcases hN_z with ⟨h1, h2⟩ | ⟨h1, h2⟩
    · have hfail : bgP A q g k sg p (some (0, 0), C_z) := ⟨hF, Or.inl ⟨rfl, h2⟩⟩
      refine ⟨fun h3 => absurd h3 (by omega), fun h3 => absurd h3 (by omega), fun h3 => ?_⟩
      refine ⟨fun _ => ?_, fun hh => absurd hh (by decide)⟩
      exact ⟨rfl, hfail⟩
    · refine ⟨fun h3 => ?_, fun h3 => absurd h3 (by omega), fun h3 => absurd h3 (by omega)⟩
      refine ⟨fun hh => absurd hh (by decide), fun _ => ?_⟩
      refine ⟨oX_4 hq.1 hq.2 5 rfl, ?_⟩
      refine ⟨rX_2 hp.1 hp.2, ?_⟩
      refine (add_exX (A := C_z) (s := p) (k := C_z q 5) (n := n) (f := 0) cg ⟨hp, by rw [eC5]; exact kA_z⟩ (fun a_z b_z a0_z ab b1 => by rw [c1_z] at b1; omega) (fun a_z a0_z a1_z => by rw [c1_z] at a1_z; omega) h1 (by omega) (by omega) (fun a_z a0_z a1_z => by omega)).imp ?_
      rintro ⟨r1_z, D_z⟩ ⟨⟨f1_z, ⟨f2_z, f3_z, f4_z⟩, f5_z⟩, f6_z⟩
      simp only at f1_z f2_z f3_z f4_z f5_z f6_z
      rw [eC5, c0_z, hxk] at f6_z
      have hFD : mxF A D_z q p := ⟨f1_z, fun r_z j_z a1_z a2 a3 a4 => by rw [f5_z r_z j_z a1_z (by rw [c2_z]; exact a2) (by rw [c3_z]; exact a3), co r_z j_z a1_z]; exact hB_z.2 r_z j_z a4, by rw [f3_z]; exact c2_z, by rw [f4_z]; exact c3_z⟩
      have hval : ∀ x_z : cr_Pv 12, cr_vl x_z.1 [(n, xkX B (bgW A g) (A q 5))] = bpX A g k sg x_z (bgW A g).toNat := fun x_z => by
        rw [cr_vl_cons, cr_vl_nil, Rat.add_zero]; exact h2 x_z
      rcases f6_z with ⟨rfl, f7_z⟩ | ⟨z_z, rfl, ⟨z0, z1, z2⟩, z3, z4, z5⟩
      · have hbig : BigV (fun x_z => bpX A g k sg x_z (bgW A g).toNat) := by
          refine ⟨[(n, xkX B (bgW A g) (A q 5))], fun y_z hy => ?_, hval, f7_z.mono (fun a_z => ?_)⟩
          · rcases List.mem_cons.1 hy with e_z | e_z
            · rw [e_z]; show 0 < n; omega
            · cases e_z
          · rw [hLS, cr_co_nil, co_one]; show 0 + _ ≤ _; omega
        refine ⟨fun _ => ?_, fun hh => absurd rfl hh⟩
        exact ⟨rfl, hFD, Or.inl ⟨rfl, hbig⟩⟩
      · refine ⟨fun hh => absurd hh (by omega), fun _ => ?_⟩
        have hco : ∀ a_z, cr_co (LSx D_z p) a_z = cr_co [(n, xkX B (bgW A g) (A q 5))] a_z := fun a_z => by
          rw [z5 a_z, hLS, cr_co_nil, co_one]; omega
        refine ⟨rfl, hFD, Or.inr ⟨rfl, by show D_z p 0 = bgW A g; rw [f2_z]; exact c0_z, z3, z4, by show 1 ≤ D_z p 1; omega, fun i_z v_z i0_z i1_z v0_z v1_z => ?_, fun x_z => ?_⟩⟩
        · have hm_z := inX (A := D_z) (s := p) i0_z i1_z
          have hpo := cr_co_pos (posX z4) hm_z
          rw [hco, co_one] at hpo
          have he := si_ne (n := n) (E := xkX B (bgW A g) (A q 5)) (a := xeX D_z p i_z) (by
            have h9 : 0 < si (n, xkX B (bgW A g) (A q 5)) (xeX D_z p i_z) := hpo
            omega)
          have v2_z : v_z < D_z p 0 := v1_z
          have v1' : v_z < bgW A g := by rw [f2_z, c0_z] at v2_z; exact v2_z
          have h10 := congrFun he ⟨v_z.toNat, by omega⟩
          have h11 : (if ((v_z.toNat : Nat) : Int) < bgW A g then B (A q 5) ((v_z.toNat : Nat) : Int) else 0) = if ((v_z.toNat : Nat) : Int) < D_z p 0 then D_z (D_z p 3) (i_z * D_z p 0 + ((v_z.toNat : Nat) : Int)) else 0 := h10
          rw [Int.toNat_of_nonneg v0_z, if_pos v1', if_pos v1_z] at h11
          show -(bgW A g * 18098190) ≤ D_z (D_z p 3) (i_z * D_z p 0 + v_z) ∧ D_z (D_z p 3) (i_z * D_z p 0 + v_z) ≤ bgW A g * 18098190
          rw [← h11]
          exact hb_z v_z v0_z v1'
        · show VX D_z p x_z = _
          unfold VX
          rw [cr_vl_co x_z.1 hco]
          exact hval x_z
  · refine ⟨rX_2 hp.1 hp.2, ?_⟩
    refine (clear_exX hB_z.1 hp.1 hp.2 hw0 hw12).imp ?_
    rintro r_z rfl
    exact ⟨rfl, rfl⟩
theorem fill18_5 {A : pm_A} {r : Int} (hr0 : 0 ≤ r) (hrk : wX.2 r = 18) : ∀ (m_z : Nat) (i_z : Int) (B_z : pm_A), (12 - i_z).toNat < m_z → 0 ≤ i_z → i_z ≤ 12 → gH wX B_z → (∀ c_z j_z : Int, ¬ c_z = r → B_z c_z j_z = A c_z j_z) → (∀ j_z : Int, 0 ≤ j_z → j_z < i_z → B_z r j_z = 0) → Tm pmt (an_sh wX) o_J7_fill_53178 5 ([(2, r), (0, 0), (0, i_z), (0, 12)], [], B_z) (fun q_z => q_z.1 = none ∧ gH wX q_z.2 ∧ (∀ c_z j_z : Int, ¬ c_z = r → q_z.2 c_z j_z = A c_z j_z) ∧ ∀ j_z : Int, 0 ≤ j_z → j_z < 12 → q_z.2 r j_z = 0) := by
  intro m_z
  induction m_z with
  | zero => intro i_z B_z h_z; omega
  | succ m_z ih_z =>
    intro i_z B_z hm_z hi0_z hi1 hB_z hF hz
    refine wq_ok srt_fill (fr := []) (cuts := [5]) (J := fun pc st_z => pc = 5 ∧ i_z < 12 ∧ st_z = ([(2, r), (0, 0), (0, i_z + 1), (0, 12)], [], pm_upd B_z r i_z 0)) ?_ 20 5 _ ?_
    · rintro pc st_z ⟨rfl, hi_z, rfl⟩
      refine ih_z (i_z + 1) _ (by omega) (by omega) (by omega) (uX_18 hB_z hrk (by omega) (by omega)) (fun c_z j_z hc_z => by rw [upd_ne hc_z]; exact hF c_z j_z hc_z) (fun j_z j0 j1 => ?_)
      by_cases e_z : j_z = i_z
      · rw [e_z, upd_at]
      · rw [upd_n2 e_z]; exact hz j_z j0 (by omega)
    · refine ⟨fun h_z => ⟨rfl, hB_z, hF, fun j_z j0 j1 => hz j_z j0 (by omega)⟩, fun h_z => ?_⟩
      refine ⟨tX_18 hr0 hrk hi0_z (by omega) rfl, ?_⟩
      refine ⟨⟨by omega, by omega⟩, ?_⟩
      exact ⟨rfl, h_z, rfl⟩
theorem fill18_ex {A : pm_A} {r : Int} (hA : gH wX A) (hr0 : 0 ≤ r) (hrk : wX.2 r = 18) : Cl pmt (an_sh wX) 1 [(2, r), (0, 0)] A (fun q_z => q_z.1 = none ∧ gH wX q_z.2 ∧ (∀ c_z j_z : Int, ¬ c_z = r → q_z.2 c_z j_z = A c_z j_z) ∧ ∀ j_z : Int, 0 ≤ j_z → j_z < 12 → q_z.2 r j_z = 0) := by
  refine Cl.of (Nat.le_of_ble_eq_true rfl) ?_
  have e_z := shX_18 hrk
  have st0 : pm_step (an_sh wX) (pm_call pmt (an_sh wX) 0) (4, 22, 0, 0, 0, 0, []) ([(2, r), (0, 0), (0, 0), (9, 0)], [(2, r)], A) = some (.inl (4, ([(2, r), (0, 0), (0, 0), (9, 0)], [(0, 12)], A))) := by
    simp only [pm_step, k_r]
    rw [k_if_t ⟨hr0, by rw [e_z], by rw [e_z], by rw [e_z]; simp only; omega⟩, e_z]
  refine wq_ok (full := o_J7_fill_53178) srt_fill (fr := []) (cuts := [3]) (J := fun pc st_z => pc = 3 ∧ st_z = ([(2, r), (0, 0), (0, 0), (9, 0)], [(2, r)], A)) ?_ 10 0 _ ?_
  · rintro pc st_z ⟨rfl, rfl⟩
    refine Tm.step srt_fill (q := (3, 4, 22, 0, 0, 0, 0, [])) rfl st0 ?_
    refine wq_ok srt_fill (fr := []) (cuts := [5]) (J := fun pc st_z => pc = 5 ∧ st_z = ([(2, r), (0, 0), (0, 0), (0, 12)], [], A)) ?_ 10 4 _ ?_
    · rintro pc st_z ⟨rfl, rfl⟩
      exact fill18_5 hr0 hrk _ 0 A (Nat.lt_succ_self _) (by omega) (by omega) hA (fun _ _ _ => rfl) (fun j_z j0 j1 => by omega)
    · exact ⟨rfl, rfl⟩
  · exact ⟨rfl, rfl⟩
theorem xk_zero {B : pm_A} {w K : Int} (h : ∀ j_z : Int, 0 ≤ j_z → j_z < 12 → B K j_z = 0) : xkX B w K = fun _ => 0 := funext fun j_z => by
  show (if (j_z.1 : Int) < w then B K (j_z.1 : Int) else 0) = 0
  by_cases e_z : (j_z.1 : Int) < w
  · rw [if_pos e_z]; exact h j_z.1 (by omega) (by have := j_z.2; omega)
  · rw [if_neg e_z]
theorem beginProduct_exX {A : pm_A} {q g k sg p : Int} (hS : bgS A q g k sg p) : Cl pmt (an_sh wX) 40 [(2, q), (2, g), (0, k), (0, sg), (2, p)] A (bgP A q g k sg p) := by
  have hS0 := hS
  obtain ⟨hA, hq, hk, hsg, hp⟩ := hS
  have hg := hA.2.1
  have kA_z := fX_4_5 hA.1 hq.1 hq.2
  have p6_z := fX_1_0 hA.1 hg.1 hg.2
  have h6 := fX_1_1 hA.1 hg.1 hg.2
  refine Cl.of (Nat.le_of_ble_eq_true rfl) ?_
  show Tm pmt (an_sh wX) o_X5_beginProduct 0 ([(2, q), (2, g), (0, k), (0, sg), (2, p), (9, 0), (9, 0), (9, 0), (9, 0), (9, 0), (9, 0), (9, 0)], [], A) _
  refine wq_ok (full := o_X5_beginProduct) srt_beginProduct (fr := []) (cuts := [25]) (J := fun pc st_z => pc = 25 ∧ ∃ (C_z : pm_A) (v9 v10 v11 : pm_V), gH wX C_z ∧ (∀ c_z j_z : Int, ¬ c_z = A q 5 → C_z c_z j_z = A c_z j_z) ∧ (∀ j_z : Int, 0 ≤ j_z → j_z < 12 → C_z (A q 5) j_z = 0) ∧ st_z = ([(2, q), (2, g), (0, k), (0, sg), (2, p), (0, A g 0 + A g 1), (1, 1), (9, 0), (0, 0), v9, v10, v11], [], C_z)) ?_ 30 0 _ ?_
  · rintro pc st_z ⟨rfl, C_z, v9, v10, v11, c1_z, c2_z, c3_z, rfl⟩
    refine bg_25 hS0 (fun D_z n_z v9 v10 v11 hD => bg_197 hS0 hD) _ 0 1 v9 v10 v11 C_z (Nat.lt_succ_self _) (by omega) (by unfold bgW; omega) ⟨⟨c1_z, c2_z⟩, fun v_z v0_z v1_z => ?_, Or.inr ⟨⟨by omega, by omega⟩, fun x_z => ?_⟩⟩
    · rw [c3_z v_z v0_z (by unfold bgW at v1_z; omega)]; omega
    · rw [xk_zero c3_z, cr_mo_zero]
      show (1 : Rat) * 1 = 1
      rw [Rat.mul_one]
  · refine ⟨oX_1 hg.1 hg.2 0 rfl, ?_⟩
    refine ⟨oX_1 hg.1 hg.2 1 rfl, ?_⟩
    refine ⟨⟨by omega, by omega⟩, ?_⟩
    refine ⟨oX_4 hq.1 hq.2 5 rfl, ?_⟩
    refine ⟨rfl, ?_⟩
    refine (fill18_ex hA.1 kA_z.1 kA_z.2).imp ?_
    rintro ⟨r1_z, C_z⟩ ⟨g1, g2, g3_z, g4⟩
    simp only at g1 g2 g3_z g4
    subst g1
    exact ⟨rfl, C_z, _, _, _, g2, g3_z, g4, rfl⟩
