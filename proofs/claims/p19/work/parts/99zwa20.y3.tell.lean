section
/-! the arrows of a cutting, exactly: pure, and the class -/
def ldc (p q k : Int) : Int := if p = -1 ∨ q = -1 then 0 else (if k = 6 * p + q then 1 else 0) - (if k = 6 * q + p then 1 else 0)
def pvF (F : Int → Int) (f : Int) : Int := if F f = 1 then cntF F f.toNat else -1
def sdT (n : Int) (F : Int → Int) (a b c : Int) : Prop := side n F a b ∧ side n F b c ∧ side n F a c
def ct3 (F : Int → Int) (a b c k : Int) : Int := ldc (pvF F (10 * a + b)) (pvF F (10 * b + c)) k + ldc (pvF F (10 * b + c)) (pvF F (10 * a + c)) k + ldc (pvF F (10 * a + c)) (pvF F (10 * a + b)) k
def trc (n : Int) (F : Int → Int) (t : Nat) (a b c : Int) : Prop := 0 ≤ a ∧ a < b ∧ b < c ∧ c < n ∧ (t : Int) = 100 * a + 10 * b + c ∧ sdT n F a b c
noncomputable def ctr (n : Int) (F : Int → Int) (t : Nat) (k : Int) : Int := @ite Int (∃ a_z b_z c_z : Int, trc n F t a_z b_z c_z) (Classical.propDecidable _) (ct3 F ((t / 100 : Nat) : Int) ((t / 10 % 10 : Nat) : Int) ((t % 10 : Nat) : Int) k) 0
noncomputable def tsum (w : Nat → Int → Int) : Nat → Int → Int
  | 0, _ => 0
  | t_z + 1, k_z => tsum w t_z k_z + w t_z k_z
theorem ctr_y {n a b c k : Int} {F : Int → Int} (n1 : n ≤ 10) (a0 : 0 ≤ a) (ab : a < b) (bc : b < c) (cn : c < n) (h : sdT n F a b c) : ctr n F (100 * a + 10 * b + c).toNat k = ct3 F a b c k := by
  unfold ctr
  have e_z : ∃ x_z y_z z_z : Int, trc n F (100 * a + 10 * b + c).toNat x_z y_z z_z := ⟨a, b, c, a0, ab, bc, cn, by omega, h⟩
  rw [if_pos e_z, show (((100 * a + 10 * b + c).toNat / 100 : Nat) : Int) = a by omega, show (((100 * a + 10 * b + c).toNat / 10 % 10 : Nat) : Int) = b by omega, show (((100 * a + 10 * b + c).toNat % 10 : Nat) : Int) = c by omega]
theorem ctr_n {n a b c k : Int} {F : Int → Int} (n1 : n ≤ 10) (a0 : 0 ≤ a) (ab : a < b) (bc : b < c) (cn : c < n) (h : ¬ sdT n F a b c) : ctr n F (100 * a + 10 * b + c).toNat k = 0 := by
  unfold ctr
  refine if_neg (fun ⟨x_z, y_z, z_z, x0_z, xy_z, yz, zn, e_z, hs⟩ => h ?_)
  have h1 : 100 * a + 10 * b + c = 100 * x_z + 10 * y_z + z_z := by omega
  have hx : x_z = a := by rcases Int.lt_trichotomy x_z a with q_z | q_z | q_z <;> omega
  have hy : y_z = b := by rcases Int.lt_trichotomy y_z b with q_z | q_z | q_z <;> omega
  have hz : z_z = c := by omega
  rw [hx, hy, hz] at hs
  exact hs
theorem ctr_0 {n k v : Int} {F : Int → Int} (v0 : 0 ≤ v) (h : ∀ a_z b_z c_z : Int, 0 ≤ a_z → a_z < b_z → b_z < c_z → c_z < n → ¬ v = 100 * a_z + 10 * b_z + c_z) : ctr n F v.toNat k = 0 := by
  unfold ctr
  exact if_neg (fun ⟨x_z, y_z, z_z, x0_z, xy_z, yz, zn, e_z, hs⟩ => h x_z y_z z_z x0_z xy_z yz zn (by omega))
theorem ts_s {w : Nat → Int → Int} {t : Int} (t0 : 0 ≤ t) (k : Int) : tsum w (t + 1).toNat k = tsum w t.toNat k + w t.toNat k := by
  rw [show (t + 1).toNat = t.toNat + 1 by omega]; rfl
theorem ts_skip {n : Int} {F : Int → Int} {t : Int} (t0 : 0 ≤ t) (k : Int) : ∀ m_z : Nat, (∀ v_z : Int, t ≤ v_z → v_z < t + m_z → ∀ a_z b_z c_z : Int, 0 ≤ a_z → a_z < b_z → b_z < c_z → c_z < n → ¬ v_z = 100 * a_z + 10 * b_z + c_z) → tsum (ctr n F) (t + m_z).toNat k = tsum (ctr n F) t.toNat k
  | 0, _ => by rw [show t + ((0 : Nat) : Int) = t by omega]
  | m_z + 1, h_z => by
    have ih_z := ts_skip (F := F) t0 k m_z (fun v_z v0_z v1_z => h_z v_z v0_z (by omega))
    rw [show t + ((m_z + 1 : Nat) : Int) = (t + (m_z : Int)) + 1 by omega, ts_s (by omega), ih_z, ctr_0 (by omega) (h_z (t + m_z) (by omega) (by omega))]
    omega
theorem ts_to {n : Int} {F : Int → Int} {t u : Int} (t0 : 0 ≤ t) (tu : t ≤ u) (h : ∀ v_z : Int, t ≤ v_z → v_z < u → ∀ a_z b_z c_z : Int, 0 ≤ a_z → a_z < b_z → b_z < c_z → c_z < n → ¬ v_z = 100 * a_z + 10 * b_z + c_z) (k : Int) : tsum (ctr n F) u.toNat k = tsum (ctr n F) t.toNat k := by
  have := ts_skip (n := n) (F := F) t0 k (u - t).toNat (fun v_z v0_z v1_z => h v_z v0_z (by omega))
  rw [show t + ((u - t).toNat : Int) = u by omega] at this
  exact this
theorem cntF_100 (F : Int → Int) {f : Int} (f0 : 0 ≤ f) (f1 : f < 100) : cntF F f.toNat ≤ cntF F 100 := cntF_mono F (by omega)
theorem pvF_b {F : Int → Int} {f : Int} (hc : cntF F 100 ≤ 6) (f0 : 0 ≤ f) (f1 : f < 100) : -1 ≤ pvF F f ∧ pvF F f ≤ 5 := by
  unfold pvF
  by_cases e_z : F f = 1
  · rw [if_pos e_z]
    have a_z := cntF_b F f.toNat
    have b_z := cntF_lt F (n := f.toNat) (m := 100) (by omega) (by rw [show ((f.toNat : Nat) : Int) = f by omega]; omega)
    omega
  · rw [if_neg e_z]; omega
theorem popS_mod (V k : Nat) : ∀ j_z : Nat, j_z ≤ k → popS (V % 2 ^ k) j_z = popS V j_z
  | 0, _ => rfl
  | j_z + 1, h_z => by
    unfold popS
    rw [popS_mod V k j_z (by omega), Nat.testBit_mod_two_pow]
    rw [show decide (j_z < k) = true from decide_eq_true (by omega), Bool.true_and]
theorem popS_hi (V k : Nat) : ∀ j_z : Nat, popS (V % 2 ^ k) (k + j_z) = popS (V % 2 ^ k) k
  | 0 => rfl
  | j_z + 1 => by
    rw [show k + (j_z + 1) = (k + j_z) + 1 by omega]
    have e_z : popS (V % 2 ^ k) (k + j_z + 1) = popS (V % 2 ^ k) (k + j_z) + (if Nat.testBit (V % 2 ^ k) (k + j_z) = true then 1 else 0) := rfl
    rw [e_z, Nat.testBit_mod_two_pow, show decide (k + j_z < k) = false from decide_eq_false (by omega), Bool.false_and]
    rw [if_neg (by decide), Nat.add_zero]
    exact popS_hi V k j_z
theorem srt_Xplace : pm_srt o_X6_placeOf = true := by decide +kernel
theorem xplace_ex {A : pm_A} {r n a b : Int} {F : Int → Int} (r0 : 0 ≤ r) (rk : wX.2 r = 9) (h : rgX A r n F) (hS : rgS n F) (a0 : 0 ≤ a) (ab : a < b) (b9 : b ≤ 9) : Cl pmt (an_sh wX) 61 [(2, r), (0, a), (0, b)] A (fun q_z => q_z = (some (0, pvF F (10 * a + b)), A)) := by
  obtain ⟨V, e1, hV⟩ := h.2
  have e2 : fcd a b = 10 * a + b := by unfold fcd; omega
  have e3 : min a b = a := by omega
  have e4_z : max a b = b := by omega
  have hb_z := bI_b a0 ab b9
  have es := shl1_nat hb_z.1 hb_z.2
  have p2_z : 1 ≤ 2 ^ (bI a b).toNat ∧ 2 ^ (bI a b).toNat ≤ 2 ^ 44 := ⟨Nat.one_le_two_pow, Nat.pow_le_pow_right (by omega) (by omega)⟩
  have p44 : (2 : Nat) ^ 44 = 17592186044416 := by decide
  rw [p44] at p2_z
  have em : shl1 (bI a b) - 1 = ((2 ^ (bI a b).toNat - 1 : Nat) : Int) := by rw [es]; omega
  have ea : pp_lb 3 (A r 1) (shl1 (bI a b) - 1) = ((V % 2 ^ (bI a b).toNat : Nat) : Int) := by
    have v1_z := hV.1
    rw [em, e1, nl_and (by omega) (by omega), Nat.and_two_pow_sub_one_eq_mod]
  have hl : V % 2 ^ (bI a b).toNat < 35184372088832 := Nat.lt_of_le_of_lt (Nat.mod_le _ _) hV.1
  have hp : popS (V % 2 ^ (bI a b).toNat) 64 = popS V (bI a b).toNat := by
    rw [show 64 = (bI a b).toNat + (64 - (bI a b).toNat) by omega, popS_hi, popS_mod _ _ _ (Nat.le_refl _)]
  have hc_z : cntF F (10 * a + b).toNat = (popS V (bI a b).toNat : Int) := by
    have pb := pre_b ⟨(10 * a + b).toNat, by omega⟩ (by show (10 * a + b).toNat / 10 < (10 * a + b).toNat % 10; omega)
    simp only at pb
    rw [show (((10 * a + b).toNat / 10 : Nat) : Int) = a by omega, show (((10 * a + b).toNat % 10 : Nat) : Int) = b by omega] at pb
    rw [cnt_pop hV hS (10 * a + b).toNat (by omega), pb, Int.toNat_natCast]
  refine Cl.of (Nat.le_of_ble_eq_true rfl) ?_
  refine wq_ok (full := o_X6_placeOf) srt_Xplace (fr := []) (cuts := [6]) (J := fun pc st_z => (pc = 6 ∧ ∃ x_z : Int, ((x_z = 1 ∧ hsP F a b) ∨ (x_z = 0 ∧ ¬ hsP F a b)) ∧ st_z = ([(2, r), (0, a), (0, b)], [(0, x_z)], A))) ?_ 6 0 _ ?_
  · rintro pc st_z (⟨rfl, x_z, hx, rfl⟩)
    refine wq_ok srt_Xplace (fr := []) (cuts := [18]) (J := fun pc st_z => (pc = 18 ∧ (¬ x_z = 0) ∧ st_z = ([(2, r), (0, a), (0, b)], [(1, shl1 (bI (min a b) (max a b))), (1, A r 1)], A))) ?_ 12 6 _ ?_
    · rintro pc st_z (⟨rfl, h0, rfl⟩)
      have hF : F (10 * a + b) = 1 := by
        rcases hx with ⟨_, q_z⟩ | ⟨q_z, _⟩
        · rw [← e2]; exact q_z.2
        · exact absurd q_z h0
      rw [e3, e4_z]
      refine wq_ok srt_Xplace (fr := []) (cuts := []) (J := fun _ _ => False) ?_ 8 18 _ ?_
      · intro pc st_z h; exact h.elim
      · refine ⟨(show r64 (shl1 (bI a b) - 1) by rw [em]; exact ⟨by omega, by omega⟩), ?_⟩
        refine ⟨rfl, ?_⟩
        show Cl pmt (an_sh wX) 3 [(1, pp_lb 3 (A r 1) (shl1 (bI a b) - 1))] A _
        rw [ea]
        refine (bitCount_ex hl).imp ?_
        rintro q_z rfl
        refine ⟨rfl, ?_⟩
        show (some (0, (popS (V % 2 ^ (bI a b).toNat) 64 : Int)), A) = _
        unfold pvF
        rw [if_pos hF, hc_z, hp]
    · refine ⟨fun h0 => ?_, fun h0 => ?_⟩
      · refine ⟨rfl, ?_⟩
        have hF : ¬ F (10 * a + b) = 1 := fun q_z => by
          rcases hx with ⟨e_z, _⟩ | ⟨_, e_z⟩
          · omega
          · exact e_z ⟨by omega, by rw [e2]; exact q_z⟩
        show (some (0, -1), A) = _
        unfold pvF
        rw [if_neg hF]
      · refine ⟨oX_9 r0 rk 1 rfl, ?_⟩
        refine ⟨rfl, ?_⟩
        refine (xbit_ex a0 (by omega) (by omega) b9).imp ?_
        rintro q_z rfl
        exact ⟨rfl, h0, rfl⟩
  · refine ⟨rX_9 r0 rk, ?_⟩
    refine (xhas_ex r0 rk h a0 (by omega) (by omega) b9).imp ?_
    rintro ⟨r1_z, C_z⟩ ⟨q1_z, x_z, q2_z, hx⟩
    simp only at q1_z q2_z
    subst q1_z
    subst q2_z
    exact ⟨rfl, x_z, hx, rfl⟩
def xta_post (A : pm_A) (r x y N : Int) (q : pm_R) : Prop := q.1 = none ∧ gH wX q.2 ∧ (∀ k_z j_z : Int, ¬ k_z = r → q.2 k_z j_z = A k_z j_z) ∧ (∀ k_z : Int, q.2 r k_z = A r k_z + ldc x y k_z) ∧ bnd q.2 r (N + 1)
theorem ldc_b (x y k : Int) : -1 ≤ ldc x y k ∧ ldc x y k ≤ 1 := by
  unfold ldc
  split
  · omega
  · split <;> split <;> omega
theorem ldc_n {x y : Int} (k : Int) (h : x = -1 ∨ y = -1) : ldc x y k = 0 := if_pos h
theorem ldc_y {x y : Int} (k : Int) (hx : ¬ x = -1) (hy : ¬ y = -1) : ldc x y k = (if k = 6 * x + y then 1 else 0) - (if k = 6 * y + x then 1 else 0) := if_neg (fun h_z => h_z.elim hx hy)
theorem tellArrow_ex {A : pm_A} {r x y N : Int} (hA : gH wX A) (hr0 : 0 ≤ r) (hrk : wX.2 r = 16) (hN : bnd A r N) (hN0 : 0 ≤ N) (hN2 : N ≤ 2998) (x0 : -1 ≤ x) (x5 : x ≤ 5) (y0 : -1 ≤ y) (y5 : y ≤ 5) : Cl pmt (an_sh wX) 63 [(2, r), (0, x), (0, y)] A (xta_post A r x y N) := by
  have no_z : x = -1 ∨ y = -1 → xta_post A r x y N (none, A) := fun h_z => ⟨rfl, hA, fun _ _ _ => rfl, fun k_z => by show A r k_z = A r k_z + ldc x y k_z; rw [ldc_n k_z h_z]; omega, fun j_z j0 j1 => by have := hN j_z j0 j1; show -(N + 1) ≤ A r j_z ∧ A r j_z ≤ N + 1; omega⟩
  refine Cl.of (Nat.le_of_ble_eq_true rfl) ?_
  refine wq_ok (full := o_X6_tellArrow) srt_tellArrow (fr := []) (cuts := [32]) (J := fun pc st_z => pc = 32 ∧ 0 ≤ x ∧ 0 ≤ y ∧ st_z = ([(2, r), (0, x), (0, y)], [], pm_upd A r (x * 6 + y) (A r (x * 6 + y) + 1))) ?_ 40 0 _ ?_
  · rintro pc st_z ⟨rfl, x1_z, y1, rfl⟩
    have h1 := hN (x * 6 + y) (by omega) (by omega)
    have hB_z : gH wX (pm_upd A r (x * 6 + y) (A r (x * 6 + y) + 1)) := uX_16 hA hrk (by omega) (by omega)
    have hBF : ∀ k_z j_z : Int, ¬ k_z = r → pm_upd A r (x * 6 + y) (A r (x * 6 + y) + 1) k_z j_z = A k_z j_z := fun k_z j_z hk => upd_ne hk
    have hBv : ∀ j_z : Int, pm_upd A r (x * 6 + y) (A r (x * 6 + y) + 1) r j_z = A r j_z + (if j_z = 6 * x + y then 1 else 0) := fun j_z => by
      by_cases e_z : j_z = x * 6 + y
      · rw [e_z, upd_at, if_pos (by omega)]
      · rw [upd_n2 e_z, if_neg (by omega)]; omega
    generalize pm_upd A r (x * 6 + y) (A r (x * 6 + y) + 1) = B_z at hB_z hBF hBv
    have h2 := hBv (y * 6 + x)
    have h3 := hN (y * 6 + x) (by omega) (by omega)
    have h4 : -N ≤ B_z r (y * 6 + x) ∧ B_z r (y * 6 + x) ≤ N + 1 := by rw [h2]; split <;> omega
    have hfin : ∀ k_z : Int, pm_upd B_z r (y * 6 + x) (B_z r (y * 6 + x) - 1) r k_z = A r k_z + ldc x y k_z := fun k_z => by
      rw [ldc_y k_z (by omega) (by omega)]
      by_cases e_z : k_z = y * 6 + x
      · rw [e_z, upd_at, hBv, if_pos (show y * 6 + x = 6 * y + x by omega)]; omega
      · rw [upd_n2 e_z, hBv, if_neg (show ¬ k_z = 6 * y + x by omega)]; omega
    refine wq_ok srt_tellArrow (fr := []) (cuts := []) (J := fun _ _ => False) (fun _ _ h_z => h_z.elim) 20 32 _ ?_
    refine ⟨⟨by omega, by omega⟩, ?_⟩
    refine ⟨⟨by omega, by omega⟩, ?_⟩
    refine ⟨aX_16 hr0 hrk (by omega) (by omega), ?_⟩
    refine ⟨⟨by omega, by omega⟩, ?_⟩
    refine ⟨tX_16 hr0 hrk (by omega) (by omega) rfl, ?_⟩
    refine ⟨rfl, uX_16 hB_z hrk (by omega) (by omega), fun k_z j_z hk => ?_, hfin, fun j_z j0 j1 => ?_⟩
    · show pm_upd B_z r (y * 6 + x) (B_z r (y * 6 + x) - 1) k_z j_z = A k_z j_z
      rw [upd_ne hk]; exact hBF k_z j_z hk
    · show -(N + 1) ≤ pm_upd B_z r (y * 6 + x) (B_z r (y * 6 + x) - 1) r j_z ∧ pm_upd B_z r (y * 6 + x) (B_z r (y * 6 + x) - 1) r j_z ≤ N + 1
      rw [hfin j_z]
      have a_z := hN j_z j0 j1
      have b_z := ldc_b x y j_z
      omega
  · refine ⟨fun h_z => no_z (by omega), fun h_z => ?_⟩
    refine ⟨fun h2 => no_z (by omega), fun h2 => ?_⟩
    refine ⟨fun h3 => absurd h3 (by omega), fun h3 => ?_⟩
    refine ⟨fun h4 => absurd h4 (by omega), fun h4 => ?_⟩
    have h1 := hN (x * 6 + y) (by omega) (by omega)
    refine ⟨⟨by omega, by omega⟩, ?_⟩
    refine ⟨⟨by omega, by omega⟩, ?_⟩
    refine ⟨aX_16 hr0 hrk (by omega) (by omega), ?_⟩
    refine ⟨⟨by omega, by omega⟩, ?_⟩
    refine ⟨tX_16 hr0 hrk (by omega) (by omega) rfl, ?_⟩
    exact ⟨rfl, by omega, by omega, rfl⟩
def taE (A0 B : pm_A) (s r n : Int) (F : Int → Int) (N : Int) : Prop := gH wX B ∧ (∀ k_z j_z : Int, ¬ k_z = r → B k_z j_z = A0 k_z j_z) ∧ bnd B r N
def taG (A0 B : pm_A) (s r n : Int) (F : Int → Int) (t : Int) : Prop := taE A0 B s r n F (3 * t) ∧ ∀ k_z : Int, 0 ≤ k_z → k_z < 72 → B r k_z = tsum (ctr n F) t.toNat k_z
def taH (A0 : pm_A) (s r n : Int) (F : Int → Int) : Prop := (0 ≤ s ∧ wX.2 s = 9) ∧ (0 ≤ r ∧ wX.2 r = 16) ∧ rgX A0 s n F ∧ rgS n F ∧ cntF F 100 ≤ 6 ∧ n ≤ 9
def ta_q (A0 : pm_A) (s r n : Int) (F : Int → Int) (q : pm_R) : Prop := q.1 = none ∧ gH wX q.2 ∧ (∀ k_z j_z : Int, ¬ k_z = r → q.2 k_z j_z = A0 k_z j_z) ∧ ∀ k_z : Int, 0 ≤ k_z → k_z < 72 → q.2 r k_z = tsum (ctr n F) 1000 k_z
theorem taH.ne {A0 : pm_A} {s r n : Int} {F : Int → Int} (h : taH A0 s r n F) : ¬ s = r := fun e_z => by
  have a_z := h.1.2
  rw [e_z, h.2.1.2] at a_z
  exact absurd a_z (by decide)
theorem taE.rg {A0 B : pm_A} {s r n N : Int} {F : Int → Int} (h : taH A0 s r n F) (hB : taE A0 B s r n F N) : rgX B s n F := by
  obtain ⟨q1_z, V, q2_z, q3_z⟩ := h.2.2.1
  exact ⟨by rw [hB.2.1 s 0 h.ne]; exact q1_z, V, by rw [hB.2.1 s 1 h.ne]; exact q2_z, q3_z⟩
theorem taG.up {A0 B : pm_A} {s r n t u : Int} {F : Int → Int} (h : taG A0 B s r n F t) (t0 : 0 ≤ t) (tu : t ≤ u) (hz : ∀ v_z : Int, t ≤ v_z → v_z < u → ∀ a_z b_z c_z : Int, 0 ≤ a_z → a_z < b_z → b_z < c_z → c_z < n → ¬ v_z = 100 * a_z + 10 * b_z + c_z) : taG A0 B s r n F u :=
  ⟨⟨h.1.1, h.1.2.1, fun j_z j0 j1 => by have := h.1.2.2 j_z j0 j1; omega⟩, fun k_z k0_z k1_z => by rw [ts_to t0 tu hz]; exact h.2 k_z k0_z k1_z⟩
theorem tat_65 {A0 B : pm_A} {s r n a b c : Int} {F : Int → Int} (h : taH A0 s r n F) (hB : taG A0 B s r n F (100 * a + 10 * b + c)) (a0 : 0 ≤ a) (ab : a < b) (bc : b < c) (cn : c < n) (hs : sdT n F a b c) (H : ∀ C_z, taG A0 C_z s r n F (100 * a + 10 * b + c + 1) → Tm pmt (an_sh wX) o_X6_tellArrows 117 ([(2, s), (2, r), (0, a), (0, b), (0, c)], [], C_z) (ta_q A0 s r n F)) : Tm pmt (an_sh wX) o_X6_tellArrows 65 ([(2, s), (2, r), (0, a), (0, b), (0, c)], [], B) (ta_q A0 s r n F) := by
  have hh := h
  obtain ⟨⟨s0_z, sk⟩, ⟨r0, rk⟩, hX, hS_z, hc_z, n9⟩ := h
  have b1 := pvF_b hc_z (f := 10 * a + b) (by omega) (by omega)
  have b2 := pvF_b hc_z (f := 10 * b + c) (by omega) (by omega)
  have b3 := pvF_b hc_z (f := 10 * a + c) (by omega) (by omega)
  refine wq_ok srt_tellArrows (fr := []) (cuts := [117]) (J := fun pc st_z => pc = 117 ∧ ∃ C_z, taG A0 C_z s r n F (100 * a + 10 * b + c + 1) ∧ st_z = ([(2, s), (2, r), (0, a), (0, b), (0, c)], [], C_z)) ?_ 60 65 _ ?_
  · rintro pc st_z ⟨rfl, C_z, hC, rfl⟩
    exact H C_z hC
  · refine ⟨rX_9 s0_z sk, (xplace_ex s0_z sk (hB.1.rg hh) hS_z a0 ab (by omega)).imp ?_⟩
    rintro q_z rfl
    refine ⟨rX_9 s0_z sk, (xplace_ex s0_z sk (hB.1.rg hh) hS_z (by omega) bc (by omega)).imp ?_⟩
    rintro q_z rfl
    refine ⟨rfl, (tellArrow_ex hB.1.1 r0 rk hB.1.2.2 (by omega) (by omega) b1.1 b1.2 b2.1 b2.2).imp ?_⟩
    rintro ⟨q_z, B1⟩ ⟨e_z, d1_z, d2_z, d3_z, d4_z⟩
    simp only at e_z d1_z d2_z d3_z d4_z
    subst e_z
    have hB1 : taE A0 B1 s r n F (3 * (100 * a + 10 * b + c) + 1) := ⟨d1_z, fun k_z j_z hk => by rw [d2_z k_z j_z hk]; exact hB.1.2.1 k_z j_z hk, d4_z⟩
    refine ⟨rX_9 s0_z sk, (xplace_ex s0_z sk (hB1.rg hh) hS_z (by omega) bc (by omega)).imp ?_⟩
    rintro q_z rfl
    refine ⟨rX_9 s0_z sk, (xplace_ex s0_z sk (hB1.rg hh) hS_z a0 (by omega) (by omega)).imp ?_⟩
    rintro q_z rfl
    refine ⟨rfl, (tellArrow_ex hB1.1 r0 rk hB1.2.2 (by omega) (by omega) b2.1 b2.2 b3.1 b3.2).imp ?_⟩
    rintro ⟨q_z, B2⟩ ⟨e_z, f1_z, f2_z, f3_z, f4_z⟩
    simp only at e_z f1_z f2_z f3_z f4_z
    subst e_z
    have hB2 : taE A0 B2 s r n F (3 * (100 * a + 10 * b + c) + 1 + 1) := ⟨f1_z, fun k_z j_z hk => by rw [f2_z k_z j_z hk]; exact hB1.2.1 k_z j_z hk, f4_z⟩
    refine ⟨rX_9 s0_z sk, (xplace_ex s0_z sk (hB2.rg hh) hS_z a0 (by omega) (by omega)).imp ?_⟩
    rintro q_z rfl
    refine ⟨rX_9 s0_z sk, (xplace_ex s0_z sk (hB2.rg hh) hS_z a0 ab (by omega)).imp ?_⟩
    rintro q_z rfl
    refine ⟨rfl, (tellArrow_ex hB2.1 r0 rk hB2.2.2 (by omega) (by omega) b3.1 b3.2 b1.1 b1.2).imp ?_⟩
    rintro ⟨q_z, B3⟩ ⟨e_z, g1, g2, g3_z, g4⟩
    simp only at e_z g1 g2 g3_z g4
    subst e_z
    refine ⟨rfl, B3, ⟨⟨g1, fun k_z j_z hk => by rw [g2 k_z j_z hk]; exact hB2.2.1 k_z j_z hk, fun j_z j0 j1 => ?_⟩, fun k_z k0_z k1_z => ?_⟩, rfl⟩
    · have := g4 j_z j0 j1
      omega
    · rw [g3_z k_z, f3_z k_z, d3_z k_z, hB.2 k_z k0_z k1_z, ts_s (by omega), ctr_y (by omega) a0 ab bc cn hs]
      unfold ct3
      omega
theorem tat_27 {A0 : pm_A} {s r n a b : Int} {F : Int → Int} (h : taH A0 s r n F) (a0 : 0 ≤ a) (ab : a < b) (bn : b < n) (H : ∀ C_z c_z, taG A0 C_z s r n F (100 * a + 10 * b + n) → Tm pmt (an_sh wX) o_X6_tellArrows 123 ([(2, s), (2, r), (0, a), (0, b), (0, c_z)], [], C_z) (ta_q A0 s r n F)) : ∀ (m_z : Nat) (c_z : Int) (B_z : pm_A), (10 - c_z).toNat < m_z → b < c_z → c_z ≤ n → taG A0 B_z s r n F (100 * a + 10 * b + c_z) → Tm pmt (an_sh wX) o_X6_tellArrows 27 ([(2, s), (2, r), (0, a), (0, b), (0, c_z)], [], B_z) (ta_q A0 s r n F) := by
  have hh := h
  obtain ⟨⟨s0_z, sk⟩, ⟨r0, rk⟩, hX, hS_z, hcc, n9⟩ := h
  intro m_z
  induction m_z with
  | zero => intro c_z B_z h; omega
  | succ m_z ih_z =>
    intro c_z B_z hm_z bc cn hB_z
    have e0_z : B_z s 0 = n := (hB_z.1.rg hh).1
    have h117 : c_z < n → ∀ C_z, taG A0 C_z s r n F (100 * a + 10 * b + c_z + 1) → Tm pmt (an_sh wX) o_X6_tellArrows 117 ([(2, s), (2, r), (0, a), (0, b), (0, c_z)], [], C_z) (ta_q A0 s r n F) := fun hc_z C_z hC => by
      refine wq_ok srt_tellArrows (fr := []) (cuts := [27]) (J := fun pc st_z => pc = 27 ∧ st_z = ([(2, s), (2, r), (0, a), (0, b), (0, c_z + 1)], [], C_z)) ?_ 10 117 _ ?_
      · rintro pc st_z ⟨rfl, rfl⟩
        exact ih_z (c_z + 1) C_z (by omega) (by omega) (by omega) (by rw [show 100 * a + 10 * b + (c_z + 1) = 100 * a + 10 * b + c_z + 1 by omega]; exact hC)
      · refine ⟨⟨by omega, by omega⟩, ?_⟩
        exact ⟨rfl, rfl⟩
    have hno : c_z < n → ¬ sdT n F a b c_z → taG A0 B_z s r n F (100 * a + 10 * b + c_z + 1) := fun hc_z hn => ⟨⟨hB_z.1.1, hB_z.1.2.1, fun j_z j0 j1 => by have := hB_z.1.2.2 j_z j0 j1; omega⟩, fun k_z k0_z k1_z => by
      rw [ts_s (by omega), ctr_n (by omega) a0 ab bc hc_z hn, ← hB_z.2 k_z k0_z k1_z]; omega⟩
    refine wq_ok srt_tellArrows (fr := []) (cuts := [65, 117, 123]) (J := fun pc st_z => (pc = 123 ∧ n ≤ c_z ∧ st_z = ([(2, s), (2, r), (0, a), (0, b), (0, c_z)], [], B_z)) ∨ (pc = 117 ∧ c_z < n ∧ ¬ sdT n F a b c_z ∧ st_z = ([(2, s), (2, r), (0, a), (0, b), (0, c_z)], [], B_z)) ∨ (pc = 65 ∧ c_z < n ∧ sdT n F a b c_z ∧ st_z = ([(2, s), (2, r), (0, a), (0, b), (0, c_z)], [], B_z))) ?_ 60 27 _ ?_
    · rintro pc st_z (⟨rfl, hc_z, rfl⟩ | ⟨rfl, hc_z, hn, rfl⟩ | ⟨rfl, hc_z, hn, rfl⟩)
      · have : c_z = n := by omega
        rw [this] at hB_z ⊢
        exact H B_z n hB_z
      · exact h117 hc_z B_z (hno hc_z hn)
      · exact tat_65 hh hB_z a0 ab bc hc_z hn (h117 hc_z)
    · refine ⟨oX_9 s0_z sk 0 rfl, ?_⟩
      refine ⟨fun hc_z => Or.inl ⟨rfl, by omega, rfl⟩, fun hc_z => ?_⟩
      have hcn : c_z < n := by omega
      refine ⟨rX_9 s0_z sk, (xlinked_ex s0_z sk (hB_z.1.rg hh) hS_z a0 (by omega) (by omega) bn).imp ?_⟩
      rintro ⟨q1_z, C_z⟩ ⟨e1, x_z, e2, hx⟩
      simp only at e1 e2
      subst e1
      subst e2
      refine ⟨fun z_z => Or.inr (Or.inl ⟨rfl, hcn, fun q_z => ?_, rfl⟩), fun z_z => ?_⟩
      · rcases hx with ⟨e_z, _⟩ | ⟨_, e_z⟩
        · omega
        · exact e_z q_z.1
      refine ⟨rX_9 s0_z sk, (xlinked_ex s0_z sk (hB_z.1.rg hh) hS_z (by omega) bn (by omega) hcn).imp ?_⟩
      rintro ⟨q1_z, C_z⟩ ⟨e1, y_z, e2, hy⟩
      simp only at e1 e2
      subst e1
      subst e2
      refine ⟨fun z_z => Or.inr (Or.inl ⟨rfl, hcn, fun q_z => ?_, rfl⟩), fun z2 => ?_⟩
      · rcases hy with ⟨e_z, _⟩ | ⟨_, e_z⟩
        · omega
        · exact e_z q_z.2.1
      refine ⟨rX_9 s0_z sk, (xlinked_ex s0_z sk (hB_z.1.rg hh) hS_z a0 (by omega) (by omega) hcn).imp ?_⟩
      rintro ⟨q1_z, C_z⟩ ⟨e1, w_z, e2, hw⟩
      simp only at e1 e2
      subst e1
      subst e2
      refine ⟨fun z_z => Or.inr (Or.inl ⟨rfl, hcn, fun q_z => ?_, rfl⟩), fun z3 => ?_⟩
      · rcases hw with ⟨e_z, _⟩ | ⟨_, e_z⟩
        · omega
        · exact e_z q_z.2.2
      refine Or.inr (Or.inr ⟨rfl, hcn, ⟨?_, ?_, ?_⟩, rfl⟩)
      · rcases hx with ⟨_, e_z⟩ | ⟨e_z, _⟩
        · exact e_z
        · exact absurd e_z z_z
      · rcases hy with ⟨_, e_z⟩ | ⟨e_z, _⟩
        · exact e_z
        · exact absurd e_z z2
      · rcases hw with ⟨_, e_z⟩ | ⟨e_z, _⟩
        · exact e_z
        · exact absurd e_z z3
theorem tat_14 {A0 : pm_A} {s r n a : Int} {F : Int → Int} (h : taH A0 s r n F) (a0 : 0 ≤ a) (an : a < n) (H : ∀ C_z v3 v4_z, taG A0 C_z s r n F (100 * a + 10 * n) → Tm pmt (an_sh wX) o_X6_tellArrows 129 ([(2, s), (2, r), (0, a), v3, v4_z], [], C_z) (ta_q A0 s r n F)) : ∀ (m_z : Nat) (b_z : Int) (v4_z : pm_V) (B_z : pm_A), (10 - b_z).toNat < m_z → a < b_z → b_z ≤ n → taG A0 B_z s r n F (100 * a + 10 * b_z) → Tm pmt (an_sh wX) o_X6_tellArrows 14 ([(2, s), (2, r), (0, a), (0, b_z), v4_z], [], B_z) (ta_q A0 s r n F) := by
  have hh := h
  obtain ⟨⟨s0_z, sk⟩, ⟨r0, rk⟩, hX, hS_z, hcc, n9⟩ := h
  intro m_z
  induction m_z with
  | zero => intro b_z v4_z B_z h; omega
  | succ m_z ih_z =>
    intro b_z v4_z B_z hm_z ab bn hB_z
    have e0_z : B_z s 0 = n := (hB_z.1.rg hh).1
    refine wq_ok srt_tellArrows (fr := []) (cuts := [27, 129]) (J := fun pc st_z => (pc = 129 ∧ n ≤ b_z ∧ st_z = ([(2, s), (2, r), (0, a), (0, b_z), v4_z], [], B_z)) ∨ (pc = 27 ∧ b_z < n ∧ st_z = ([(2, s), (2, r), (0, a), (0, b_z), (0, b_z + 1)], [], B_z))) ?_ 30 14 _ ?_
    · rintro pc st_z (⟨rfl, hb_z, rfl⟩ | ⟨rfl, hb_z, rfl⟩)
      · have : b_z = n := by omega
        rw [this] at hB_z
        exact H B_z _ _ hB_z
      · refine tat_27 hh a0 ab hb_z (fun C_z c_z hC => ?_) _ (b_z + 1) B_z (Nat.lt_succ_self _) (by omega) (by omega) (hB_z.up (by omega) (by omega) (fun v_z v0_z v1_z x_z y_z z_z x0_z xy_z yz zn e_z => by omega))
        refine wq_ok srt_tellArrows (fr := []) (cuts := [14]) (J := fun pc st_z => pc = 14 ∧ st_z = ([(2, s), (2, r), (0, a), (0, b_z + 1), (0, c_z)], [], C_z)) ?_ 10 123 _ ?_
        · rintro pc st_z ⟨rfl, rfl⟩
          exact ih_z (b_z + 1) _ C_z (by omega) (by omega) (by omega) (hC.up (by omega) (by omega) (fun v_z v0_z v1_z x_z y_z z_z x0_z xy_z yz zn e_z => by omega))
        · refine ⟨⟨by omega, by omega⟩, ?_⟩
          exact ⟨rfl, rfl⟩
    · refine ⟨oX_9 s0_z sk 0 rfl, ?_⟩
      refine ⟨fun hb_z => Or.inl ⟨rfl, by omega, rfl⟩, fun hb_z => ?_⟩
      refine ⟨⟨by omega, by omega⟩, ?_⟩
      exact Or.inr ⟨rfl, by omega, rfl⟩
theorem tat_2 {A0 : pm_A} {s r n : Int} {F : Int → Int} (h : taH A0 s r n F) : ∀ (m_z : Nat) (a_z : Int) (v3 v4_z : pm_V) (B_z : pm_A), (10 - a_z).toNat < m_z → 0 ≤ a_z → a_z ≤ n → taG A0 B_z s r n F (100 * a_z) → Tm pmt (an_sh wX) o_X6_tellArrows 2 ([(2, s), (2, r), (0, a_z), v3, v4_z], [], B_z) (ta_q A0 s r n F) := by
  have hh := h
  obtain ⟨⟨s0_z, sk⟩, ⟨r0, rk⟩, hX, hS_z, hcc, n9⟩ := h
  intro m_z
  induction m_z with
  | zero => intro a_z v3 v4_z B_z h; omega
  | succ m_z ih_z =>
    intro a_z v3 v4_z B_z hm_z a0_z an hB_z
    have e0_z : B_z s 0 = n := (hB_z.1.rg hh).1
    refine wq_ok srt_tellArrows (fr := []) (cuts := [14]) (J := fun pc st_z => pc = 14 ∧ a_z < n ∧ st_z = ([(2, s), (2, r), (0, a_z), (0, a_z + 1), v4_z], [], B_z)) ?_ 30 2 _ ?_
    · rintro pc st_z ⟨rfl, ha_z, rfl⟩
      refine tat_14 hh a0_z ha_z (fun C_z w3_z w4_z hC => ?_) _ (a_z + 1) _ B_z (Nat.lt_succ_self _) (by omega) (by omega) (hB_z.up (by omega) (by omega) (fun v_z v0_z v1_z x_z y_z z_z x0_z xy_z yz zn e_z => by rcases Int.lt_trichotomy x_z a_z with q_z | q_z | q_z <;> omega))
      refine wq_ok srt_tellArrows (fr := []) (cuts := [2]) (J := fun pc st_z => pc = 2 ∧ st_z = ([(2, s), (2, r), (0, a_z + 1), w3_z, w4_z], [], C_z)) ?_ 10 129 _ ?_
      · rintro pc st_z ⟨rfl, rfl⟩
        exact ih_z (a_z + 1) _ _ C_z (by omega) (by omega) (by omega) (hC.up (by omega) (by omega) (fun v_z v0_z v1_z x_z y_z z_z x0_z xy_z yz zn e_z => by rcases Int.lt_trichotomy x_z a_z with q_z | q_z | q_z <;> omega))
      · refine ⟨⟨by omega, by omega⟩, ?_⟩
        exact ⟨rfl, rfl⟩
    · refine ⟨oX_9 s0_z sk 0 rfl, ?_⟩
      refine ⟨fun hb_z => ?_, fun hb_z => ?_⟩
      · have : a_z = n := by omega
        have hU := hB_z.up (u := 1000) (by omega) (by omega) (fun v_z v0_z v1_z x_z y_z z_z x0_z xy_z yz zn e_z => by omega)
        exact ⟨rfl, hU.1.1, hU.1.2.1, hU.2⟩
      · refine ⟨⟨by omega, by omega⟩, ?_⟩
        exact ⟨rfl, by omega, rfl⟩
theorem tellArrows_ex {A : pm_A} {s r n : Int} {F : Int → Int} (hA : gH wX A) (h : taH A s r n F) (hz : ∀ k_z : Int, 0 ≤ k_z → k_z < 72 → A r k_z = 0) : Cl pmt (an_sh wX) 64 [(2, s), (2, r)] A (ta_q A s r n F) := by
  have hn := h.2.2.2.1.1
  refine Cl.of (Nat.le_of_ble_eq_true rfl) ?_
  refine wq_ok (full := o_X6_tellArrows) srt_tellArrows (fr := []) (cuts := [2]) (J := fun pc st_z => pc = 2 ∧ ∃ v3 v4_z, st_z = ([(2, s), (2, r), (0, 0), v3, v4_z], [], A)) ?_ 10 0 _ ?_
  · rintro pc st_z ⟨rfl, v3, v4_z, rfl⟩
    exact tat_2 h _ 0 v3 v4_z A (Nat.lt_succ_self _) (by omega) (by omega) ⟨⟨hA, fun _ _ _ => rfl, fun j_z j0 j1 => by rw [hz j_z j0 j1]; omega⟩, fun k_z k0_z k1_z => by rw [hz k_z k0_z k1_z]; rfl⟩
  · exact ⟨rfl, _, _, rfl⟩
end

section
/-! the reference's leads, seed, exactly -/
def ldq_post (B : pm_A) (i j : Int) (r : pm_R) : Prop := lds_post B i j r ∧ ∀ k_z : Int, r.2 7 k_z = B 7 k_z + ldc i j k_z
theorem leads_exq {B : pm_A} {i j : Int} (hB : gH wM B) (i0 : -1 ≤ i) (i1 : i ≤ 5) (j0 : -1 ≤ j) (j1 : j ≤ 5) (h9 : ∀ k_z : Int, 0 ≤ k_z → k_z < 72 → -100 ≤ B 7 k_z ∧ B 7 k_z ≤ 100) : Cl pmt (an_sh wM) 161 [(2, 0), (0, i), (0, j)] B (ldq_post B i j) := by
  have c14a := pM_14 hB
  have hsame : i = -1 ∨ j = -1 → ldq_post B i j (none, B) := fun hz => ⟨⟨rfl, hB, fun _ _ _ => rfl, fun k_z => by show -2 ≤ B 7 k_z - B 7 k_z ∧ B 7 k_z - B 7 k_z ≤ 2; omega, fun k_z => Or.inr rfl⟩, fun k_z => by show B 7 k_z = B 7 k_z + ldc i j k_z; rw [ldc_n k_z hz]; omega⟩
  have h26 : 0 ≤ i → 0 ≤ j → ∀ C_z, C_z = pm_upd B 7 (6 * i + j) (B 7 (6 * i + j) + 1) → Tm pmt (an_sh wM) o_X10_leads 26 ([(2, 0), (0, i), (0, j)], [], C_z) (ldq_post B i j) := fun i0 j0 C_z hC => by
    have b1 := h9 (6 * i + j) (by omega) (by omega)
    have b2 := h9 (6 * j + i) (by omega) (by omega)
    have hg : gH wM C_z := by rw [hC]; exact uM_7 hB kn7 (by omega) (by omega)
    have c14_z := pM_14 hg
    have hk : ∀ k_z, (k_z = 6 * i + j ∧ C_z 7 k_z = B 7 k_z + 1) ∨ C_z 7 k_z = B 7 k_z := fun k_z => by
      rw [hC]
      by_cases e_z : k_z = 6 * i + j
      · rw [e_z, upd_at]; exact Or.inl ⟨rfl, rfl⟩
      · rw [upd_o (by omega)]; exact Or.inr rfl
    have hx := hk (6 * j + i)
    have hend : ∀ D_z, D_z = pm_upd C_z 7 (6 * j + i) (C_z 7 (6 * j + i) - 1) → ldq_post B i j (none, D_z) := fun D_z hD => by
      have hk2 : ∀ k_z, (k_z = 6 * j + i ∧ D_z 7 k_z = C_z 7 k_z - 1) ∨ D_z 7 k_z = C_z 7 k_z := fun k_z => by
        rw [hD]
        by_cases e_z : k_z = 6 * j + i
        · rw [e_z, upd_at]; exact Or.inl ⟨rfl, rfl⟩
        · rw [upd_o (by omega)]; exact Or.inr rfl
      refine ⟨⟨rfl, by rw [hD]; exact uM_7 hg kn7 (by omega) (by omega), fun q_z k_z hq => ?_, fun k_z => ?_, fun k_z => ?_⟩, fun k_z => ?_⟩
      · show D_z q_z k_z = B q_z k_z
        rw [hD, upd_o (by omega), hC, upd_o (by omega)]
      · show -2 ≤ D_z 7 k_z - B 7 k_z ∧ D_z 7 k_z - B 7 k_z ≤ 2
        have a_z := hk k_z
        have b_z := hk2 k_z
        omega
      · show _ ∨ D_z 7 k_z = B 7 k_z
        have a_z := hk k_z
        have b_z := hk2 k_z
        omega
      · show D_z 7 k_z = B 7 k_z + ldc i j k_z
        rw [ldc_y k_z (by omega) (by omega)]
        have a_z : C_z 7 k_z = B 7 k_z + (if k_z = 6 * i + j then 1 else 0) := by
          rw [hC]
          by_cases e_z : k_z = 6 * i + j
          · rw [e_z, upd_at, if_pos rfl]
          · rw [upd_o (by omega), if_neg e_z]; omega
        have b_z : D_z 7 k_z = C_z 7 k_z - (if k_z = 6 * j + i then 1 else 0) := by
          rw [hD]
          by_cases e_z : k_z = 6 * j + i
          · rw [e_z, upd_at, if_pos rfl]
          · rw [upd_o (by omega), if_neg e_z]; omega
        rw [b_z, a_z]; omega
    refine wq_ok srt_Mleads (fr := []) (cuts := []) (J := fun _ _ => False) ?_ 17 26 _ ?_
    · intro pc st_z h_z; exact h_z.elim
    · refine ⟨oM_0 (by omega) km0 14 rfl, ?_⟩
      refine ⟨⟨by omega, by omega⟩, ?_⟩
      refine ⟨⟨by omega, by omega⟩, ?_⟩
      refine ⟨aM_7 (r := C_z 0 14) (by rw [c14_z]; omega) (by rw [c14_z]; exact kn7) (by omega) (by omega), ?_⟩
      have e1 : C_z (C_z 0 14) ((6 * j) + i) = C_z 7 ((6 * j) + i) := by rw [c14_z]
      refine ⟨⟨by omega, by omega⟩, ?_⟩
      refine ⟨tM_7 (r := C_z 0 14) (by rw [c14_z]; omega) (by rw [c14_z]; exact kn7) (by omega) (by omega) rfl, ?_⟩
      exact (by rw [c14_z]; exact hend _ rfl)
  have c14_z := c14a
  have b1 : 0 ≤ i → 0 ≤ j → -100 ≤ B 7 (6 * i + j) ∧ B 7 (6 * i + j) ≤ 100 := fun i0 j0 => h9 (6 * i + j) (by omega) (by omega)
  refine Cl.of (Nat.le_of_ble_eq_true rfl) ?_
  refine wq_ok (full := o_X10_leads) srt_Mleads (fr := []) (cuts := [26]) (J := fun pc st_z => (pc = 26 ∧ (¬ i = ((-1))) ∧ (¬ j = ((-1))) ∧ st_z = ([(2, 0), (0, i), (0, j)], [], pm_upd B (B 0 14) ((6 * i) + j) ((B (B 0 14) ((6 * i) + j)) + 1)))) ?_ 23 0 _ ?_
  · rintro pc st_z (⟨rfl, h0, h1, rfl⟩)
    rw [c14_z]
    exact h26 (by omega) (by omega) _ rfl
  · refine ⟨fun h0 => ?_, fun h0 => ?_⟩
    · exact hsame (by omega)
    · refine ⟨fun h1 => ?_, fun h1 => ?_⟩
      · refine ⟨oM_0 (by omega) km0 14 rfl, ?_⟩
        refine ⟨⟨by omega, by omega⟩, ?_⟩
        refine ⟨⟨by omega, by omega⟩, ?_⟩
        refine ⟨aM_7 (r := B 0 14) (by rw [c14_z]; omega) (by rw [c14_z]; exact kn7) (by omega) (by omega), ?_⟩
        have e1 : B (B 0 14) ((6 * i) + j) = B 7 ((6 * i) + j) := by rw [c14_z]
        refine ⟨(by have := b1 (by omega) (by omega); exact ⟨by omega, by omega⟩), ?_⟩
        refine ⟨tM_7 (r := B 0 14) (by rw [c14_z]; omega) (by rw [c14_z]; exact kn7) (by omega) (by omega) rfl, ?_⟩
        exact ⟨rfl, h0, h1, rfl⟩
      · exact hsame (by omega)
def sdK (A B : pm_A) (sl n t : Int) : Prop := sdJ A B sl t ∧ (∀ k_z : Int, 0 ≤ k_z → k_z < 72 → B 7 k_z = tsum (ctr n (fcs A sl)) t.toNat k_z) ∧ B 0 12 = n - 3 ∧ B 0 13 = 0
theorem sdK.up {A B : pm_A} {sl n t u : Int} (h : sdK A B sl n t) (t0 : 0 ≤ t) (tu : t ≤ u) (hz : ∀ v_z : Int, t ≤ v_z → v_z < u → ∀ a_z b_z c_z : Int, 0 ≤ a_z → a_z < b_z → b_z < c_z → c_z < n → ¬ v_z = 100 * a_z + 10 * b_z + c_z) : sdK A B sl n u :=
  ⟨h.1.mono tu, fun k_z k0_z k1_z => by rw [ts_to t0 tu hz]; exact h.2.1 k_z k0_z k1_z, h.2.2⟩
theorem sdK.no {A B : pm_A} {sl n a b c : Int} (n1 : n ≤ 10) (a0 : 0 ≤ a) (ab : a < b) (bc : b < c) (cn : c < n) (h : sdK A B sl n (100 * a + 10 * b + c)) (hn : ¬ sdT n (fcs A sl) a b c) : sdK A B sl n (100 * a + 10 * b + c + 1) :=
  ⟨h.1.mono (by omega), fun k_z k0_z k1_z => by rw [ts_s (by omega), ctr_n n1 a0 ab bc cn hn, ← h.2.1 k_z k0_z k1_z]; omega, h.2.2⟩
theorem plV_pv {F : Int → Int} {f p : Int} (h : plV F f p) : p = pvF F f := by
  unfold pvF
  rcases h with ⟨h1, h2⟩ | ⟨⟨_, h1, h2⟩, _⟩
  · rw [if_neg (by omega)]; exact h1
  · rw [if_pos h1]; exact h2
theorem sdK.step {A B B1 B2 B3 : pm_A} {sl n a b c p7 p8 p9 : Int} (n1 : n ≤ 10) (cn : c < n) (hs : sdT n (fcs A sl) a b c) (h : sdK A B sl n (100 * a + 10 * b + c)) (ht : tri3 a b c) (h7 : plV (fcs A sl) (10 * a + b) p7) (h8 : plV (fcs A sl) (10 * b + c) p8) (h9 : plV (fcs A sl) (10 * a + c) p9) (l1 : ldq_post B p7 p8 (none, B1)) (l2 : ldq_post B1 p8 p9 (none, B2)) (l3 : ldq_post B2 p9 p7 (none, B3)) : sdK A B3 sl n (100 * a + 10 * b + c + 1) := by
  have o12 : ∀ j_z : Int, B3 0 j_z = B 0 j_z := fun j_z => by
    have f1_z := l1.1.2.2.1 0 j_z (by omega)
    have f2_z := l2.1.2.2.1 0 j_z (by omega)
    have f3_z := l3.1.2.2.1 0 j_z (by omega)
    simp only at f1_z f2_z f3_z
    rw [f3_z, f2_z, f1_z]
  refine ⟨h.1.step ht h7 h8 h9 l1.1 l2.1 l3.1, fun k_z k0_z k1_z => ?_, by rw [o12]; exact h.2.2.1, by rw [o12]; exact h.2.2.2⟩
  have e1 := l1.2 k_z
  have e2 := l2.2 k_z
  have e3 := l3.2 k_z
  simp only at e1 e2 e3
  unfold tri3 at ht
  rw [e3, e2, e1, h.2.1 k_z k0_z k1_z, ts_s (by omega), ctr_y n1 ht.1 ht.2.1 ht.2.2.1 cn hs, plV_pv h7, plV_pv h8, plV_pv h9]
  unfold ct3
  omega
def msQ (A : pm_A) (sl n : Int) (r : pm_R) : Prop := ri_post r ∧ ∃ B_z x_z, RI B_z ∧ sdF A B_z ∧ (∀ k_z : Int, 0 ≤ k_z → k_z < 72 → B_z 7 k_z = tsum (ctr n (fcs A sl)) 1000 k_z) ∧ (∀ k_z : Int, 0 ≤ k_z → k_z < 72 → -9 ≤ B_z 7 k_z ∧ B_z 7 k_z ≤ 9) ∧ (B_z 0 12 = n - 3 ∧ B_z 0 13 = 0) ∧ bgA (B_z 0 12) (B_z 7) x_z ∧ r.1 = some (0, if x_z = 0 then 1 else 0) ∧ (r.2 0 12 = B_z 0 12 ∧ r.2 0 13 = B_z 0 13 ∧ ∀ k_z : Int, 0 ≤ k_z → r.2 7 k_z = B_z 7 k_z) ∧ ((x_z = 0 ∧ r.2 0 7 = B_z 0 12 ∧ lsz (B_z 0 12) (B_z 7) (r.2 10)) ∨ (¬ x_z = 0 ∧ r.2 0 7 = A 0 7 ∧ ∀ j_z, r.2 10 j_z = A 10 j_z))
theorem kM7 (j : Int) : kcode wM 7 j = 10007 := by
  rw [kc_1 (show (an_sh wM 7).1 = 1 by rw [shM_7 kn7]), kn7]
theorem mbegin_fr {A : pm_A} (h : RI A) : Cl pmt (an_sh wM) 129 [(2, 0)] A (fun r_z => bz_post A r_z ∧ r_z.2 0 12 = A 0 12 ∧ r_z.2 0 13 = A 0 13 ∧ ∀ k_z : Int, 0 ≤ k_z → r_z.2 7 k_z = A 7 k_z) := by
  obtain ⟨k_z, r_z, c1_z, q_z⟩ := mbegin_ex h
  have f_z := (fm_begin c1_z (gK_of h.g)).2
  exact ⟨k_z, r_z, c1_z, q_z, f_z 0 12 (by omega) (by omega) (by rw [kMd 12]; exact nin rfl), f_z 0 13 (by omega) (by omega) (by rw [kMd 13]; exact nin rfl), fun k_z k0_z => f_z 7 k_z (by omega) k0_z (by rw [kM7]; exact nin rfl)⟩
theorem sdq_150 {A B : pm_A} {sl n z3 a b c : Int} (hs : sl = 0 ∨ sl = 1) (hA : gH wM A) (hcut : cntF (fcs A sl) 100 ≤ 6) (n1 : n ≤ 10) (cn : c < n) (hs3 : sdT n (fcs A sl) a b c) (ht : tri3 a b c) (hJ : sdK A B sl n (100 * a + 10 * b + c)) (H : ∀ C_z w7_z w8 w9, sdK A C_z sl n (100 * a + 10 * b + c + 1) → Tm pmt (an_sh wM) o_X10_seed 174 ([(2, 0), (0, sl), (0, n), (0, z3), (0, a), (0, b), (0, c), w7_z, w8, w9], [], C_z) (msQ A sl n)) {p7 p8 p9 : Int} (hp7 : plV (fcs A sl) (10 * a + b) p7) (hp8 : plV (fcs A sl) (10 * b + c) p8) (hp9 : plV (fcs A sl) (10 * a + c) p9) : Tm pmt (an_sh wM) o_X10_seed 150 ([(2, 0), (0, sl), (0, n), (0, z3), (0, a), (0, b), (0, c), (0, p7), (0, p8), (0, p9)], [], B) (msQ A sl n) := by
  have gB := hJ.1.1.1
  have mB : ∀ k_z : Int, 0 ≤ k_z → k_z < 72 → -100 ≤ B 7 k_z ∧ B 7 k_z ≤ 100 := fun k_z k0_z k1_z => by have := hJ.1.b9 k0_z k1_z; omega
  refine wq_ok srt_Mseed (fr := []) (cuts := [158]) (J := fun pc st_z => (pc = 158 ∧ ∃ B1, ldq_post B p7 p8 (none, B1) ∧ st_z = ([(2, 0), (0, sl), (0, n), (0, z3), (0, a), (0, b), (0, c), (0, p7), (0, p8), (0, p9)], [], B1))) ?_ 8 150 _ ?_
  · rintro pc st_z (⟨rfl, B1, lB1, rfl⟩)
    have gB1 := lB1.1.2.1
    have mB1 : ∀ k_z : Int, 0 ≤ k_z → k_z < 72 → -100 ≤ B1 7 k_z ∧ B1 7 k_z ≤ 100 := fun k_z k0_z k1_z => by have := hJ.1.b9 k0_z k1_z; have e1 := lB1.1.2.2.2.1 k_z; simp only at e1; omega
    refine wq_ok srt_Mseed (fr := []) (cuts := [166]) (J := fun pc st_z => (pc = 166 ∧ ∃ B2, ldq_post B1 p8 p9 (none, B2) ∧ st_z = ([(2, 0), (0, sl), (0, n), (0, z3), (0, a), (0, b), (0, c), (0, p7), (0, p8), (0, p9)], [], B2))) ?_ 8 158 _ ?_
    · rintro pc st_z (⟨rfl, B2, lB2, rfl⟩)
      have gB2 := lB2.1.2.1
      have mB2 : ∀ k_z : Int, 0 ≤ k_z → k_z < 72 → -100 ≤ B2 7 k_z ∧ B2 7 k_z ≤ 100 := fun k_z k0_z k1_z => by have := hJ.1.b9 k0_z k1_z; have e1 := lB1.1.2.2.2.1 k_z; have e2 := lB2.1.2.2.2.1 k_z; simp only at e1 e2; omega
      refine wq_ok srt_Mseed (fr := []) (cuts := [174]) (J := fun pc st_z => (pc = 174 ∧ ∃ B3, ldq_post B2 p9 p7 (none, B3) ∧ st_z = ([(2, 0), (0, sl), (0, n), (0, z3), (0, a), (0, b), (0, c), (0, p7), (0, p8), (0, p9)], [], B3))) ?_ 8 166 _ ?_
      · rintro pc st_z (⟨rfl, B3, lB3, rfl⟩)
        exact H B3 _ _ _ (hJ.step n1 cn hs3 ht hp7 hp8 hp9 lB1 lB2 lB3)
      · refine ⟨rM_0 (by omega) km0, ?_⟩
        refine (leads_exq (B := B2) (i := p9) (j := p7) gB2 (by rcases hp9 with e_z | e_z <;> omega) (by rcases hp9 with e_z | e_z <;> omega) (by rcases hp7 with e_z | e_z <;> omega) (by rcases hp7 with e_z | e_z <;> omega) mB2).imp ?_
        rintro ⟨r1_z, B3⟩ lB3
        have q1_z := lB3.1.1
        simp only at q1_z
        subst q1_z
        exact ⟨rfl, B3, lB3, rfl⟩
    · refine ⟨rM_0 (by omega) km0, ?_⟩
      refine (leads_exq (B := B1) (i := p8) (j := p9) gB1 (by rcases hp8 with e_z | e_z <;> omega) (by rcases hp8 with e_z | e_z <;> omega) (by rcases hp9 with e_z | e_z <;> omega) (by rcases hp9 with e_z | e_z <;> omega) mB1).imp ?_
      rintro ⟨r1_z, B2⟩ lB2
      have q1_z := lB2.1.1
      simp only at q1_z
      subst q1_z
      exact ⟨rfl, B2, lB2, rfl⟩
  · refine ⟨rM_0 (by omega) km0, ?_⟩
    refine (leads_exq (B := B) (i := p7) (j := p8) gB (by rcases hp7 with e_z | e_z <;> omega) (by rcases hp7 with e_z | e_z <;> omega) (by rcases hp8 with e_z | e_z <;> omega) (by rcases hp8 with e_z | e_z <;> omega) mB).imp ?_
    rintro ⟨r1_z, B1⟩ lB1
    have q1_z := lB1.1.1
    simp only at q1_z
    subst q1_z
    exact ⟨rfl, B1, lB1, rfl⟩
theorem sdq_117 {A B : pm_A} {sl n z3 a b c : Int} (hs : sl = 0 ∨ sl = 1) (hA : gH wM A) (hcut : cntF (fcs A sl) 100 ≤ 6) (n1 : n ≤ 10) (cn : c < n) (hs3 : sdT n (fcs A sl) a b c) (ht : tri3 a b c) (hJ : sdK A B sl n (100 * a + 10 * b + c)) (H : ∀ C_z w7 w8 w9, sdK A C_z sl n (100 * a + 10 * b + c + 1) → Tm pmt (an_sh wM) o_X10_seed 174 ([(2, 0), (0, sl), (0, n), (0, z3), (0, a), (0, b), (0, c), w7, w8, w9], [], C_z) (msQ A sl n)) {w7 w8 w9 : pm_V} : Tm pmt (an_sh wM) o_X10_seed 117 ([(2, 0), (0, sl), (0, n), (0, z3), (0, a), (0, b), (0, c), w7, w8, w9], [], B) (msQ A sl n) := by
  have ht2 := ht
  unfold tri3 at ht2
  refine wq_ok srt_Mseed (fr := []) (cuts := [126]) (J := fun pc st_z => (pc = 126 ∧ ∃ p7_z, plV (fcs A sl) (10 * a + b) p7_z ∧ st_z = ([(2, 0), (0, sl), (0, n), (0, z3), (0, a), (0, b), (0, c), w7, w8, w9], [(0, p7_z)], B))) ?_ 9 117 _ ?_
  · rintro pc st_z (⟨rfl, p7_z, hp7, rfl⟩)
    refine wq_ok srt_Mseed (fr := []) (cuts := [137]) (J := fun pc st_z => (pc = 137 ∧ ∃ p8, plV (fcs A sl) (10 * b + c) p8 ∧ st_z = ([(2, 0), (0, sl), (0, n), (0, z3), (0, a), (0, b), (0, c), (0, p7_z), w8, w9], [(0, p8)], B))) ?_ 10 126 _ ?_
    · rintro pc st_z (⟨rfl, p8, hp8, rfl⟩)
      refine wq_ok srt_Mseed (fr := []) (cuts := [148]) (J := fun pc st_z => (pc = 148 ∧ ∃ p9, plV (fcs A sl) (10 * a + c) p9 ∧ st_z = ([(2, 0), (0, sl), (0, n), (0, z3), (0, a), (0, b), (0, c), (0, p7_z), (0, p8), w9], [(0, p9)], B))) ?_ 10 137 _ ?_
      · rintro pc st_z (⟨rfl, p9, hp9, rfl⟩)
        refine wq_ok srt_Mseed (fr := []) (cuts := [150]) (J := fun pc st_z => (pc = 150 ∧ st_z = ([(2, 0), (0, sl), (0, n), (0, z3), (0, a), (0, b), (0, c), (0, p7_z), (0, p8), (0, p9)], [], B))) ?_ 6 148 _ ?_
        · rintro pc st_z (⟨rfl, rfl⟩)
          exact sdq_150 hs hA hcut n1 cn hs3 ht hJ H hp7 hp8 hp9
        · exact ⟨rfl, rfl⟩
      · refine ⟨rM_0 (by omega) km0, ?_⟩
        refine (placeOf_ex (A := B) (sl := sl) (x := a) (y := c) hJ.1.1.1 (by omega) (by omega) (by omega) (by omega) (by omega)).imp ?_
        rintro ⟨r1_z, C_z⟩ hpo
        obtain ⟨q1_z, p9, q2_z, hp9⟩ := po_plV hJ.1.1 hA hcut (by omega) (by omega) hpo
        simp only at q1_z q2_z
        subst q1_z
        subst q2_z
        exact ⟨rfl, p9, hp9, rfl⟩
    · refine ⟨rM_0 (by omega) km0, ?_⟩
      refine (placeOf_ex (A := B) (sl := sl) (x := b) (y := c) hJ.1.1.1 (by omega) (by omega) (by omega) (by omega) (by omega)).imp ?_
      rintro ⟨r1_z, C_z⟩ hpo
      obtain ⟨q1_z, p8, q2_z, hp8⟩ := po_plV hJ.1.1 hA hcut (by omega) (by omega) hpo
      simp only at q1_z q2_z
      subst q1_z
      subst q2_z
      exact ⟨rfl, p8, hp8, rfl⟩
  · refine ⟨rM_0 (by omega) km0, ?_⟩
    refine (placeOf_ex (A := B) (sl := sl) (x := a) (y := b) hJ.1.1.1 (by omega) (by omega) (by omega) (by omega) (by omega)).imp ?_
    rintro ⟨r1_z, C_z⟩ hpo
    obtain ⟨q1_z, p7_z, q2_z, hp7⟩ := po_plV hJ.1.1 hA hcut (by omega) (by omega) hpo
    simp only at q1_z q2_z
    subst q1_z
    subst q2_z
    exact ⟨rfl, p7_z, hp7, rfl⟩
theorem sdq_72 {A : pm_A} {sl n z3 a b : Int} (hs : sl = 0 ∨ sl = 1) (hA : gH wM A) (hcut : cntF (fcs A sl) 100 ≤ 6) (n9 : n ≤ 9) (hn : n = A 31 sl) (a0 : 0 ≤ a) (ab : a < b) (bn : b < n) (H : ∀ C_z w6_z w7_z w8 w9, sdK A C_z sl n (100 * a + 10 * b + 10) → Tm pmt (an_sh wM) o_X10_seed 180 ([(2, 0), (0, sl), (0, n), (0, z3), (0, a), (0, b), w6_z, w7_z, w8, w9], [], C_z) (msQ A sl n)) : ∀ (m_z : Nat) (c_z : Int) (w7_z w8 w9 : pm_V) (B_z : pm_A), (10 - c_z).toNat < m_z → b < c_z → c_z ≤ 10 → sdK A B_z sl n (100 * a + 10 * b + c_z) → Tm pmt (an_sh wM) o_X10_seed 72 ([(2, 0), (0, sl), (0, n), (0, z3), (0, a), (0, b), (0, c_z), w7_z, w8, w9], [], B_z) (msQ A sl n) := by
  intro m_z
  induction m_z with
  | zero => intro c_z w7_z w8 w9 B_z h_z; omega
  | succ m_z ih_z =>
    intro c_z w7_z w8 w9 B_z hm_z c0_z c1_z hJ
    have eF : fcs B_z sl = fcs A sl := fcs_sd hJ.1.1
    have e31_z : B_z 31 sl = n := by rw [hJ.1.1.2 31 sl (by omega) (by omega), hn]
    have h174 : c_z < n → ∀ C_z w7_z w8 w9, sdK A C_z sl n (100 * a + 10 * b + c_z + 1) → Tm pmt (an_sh wM) o_X10_seed 174 ([(2, 0), (0, sl), (0, n), (0, z3), (0, a), (0, b), (0, c_z), w7_z, w8, w9], [], C_z) (msQ A sl n) := fun hc_z C_z w7_z w8 w9 hC => by
      refine wq_ok srt_Mseed (fr := []) (cuts := [72]) (J := fun pc st_z => (pc = 72 ∧ st_z = ([(2, 0), (0, sl), (0, n), (0, z3), (0, a), (0, b), (0, c_z + 1), w7_z, w8, w9], [], C_z))) ?_ 7 174 _ ?_
      · rintro pc st_z (⟨rfl, rfl⟩)
        exact ih_z (c_z + 1) _ _ _ C_z (by omega) (by omega) (by omega) (hC.up (by omega) (by omega) (fun v_z v0_z v1_z x_z y_z z_z x0_z xy_z yz zn e_z => by omega))
      · refine ⟨⟨by omega, by omega⟩, ?_⟩
        exact ⟨rfl, rfl⟩
    refine wq_ok srt_Mseed (fr := []) (cuts := [87, 180]) (J := fun pc st_z => (pc = 180 ∧ (n ≤ c_z) ∧ st_z = ([(2, 0), (0, sl), (0, n), (0, z3), (0, a), (0, b), (0, c_z), w7_z, w8, w9], [], B_z)) ∨ (pc = 87 ∧ (c_z < n) ∧ ∃ x1_z : Int, ((x1_z = 1 ∧ side (B_z 31 sl) (fcs B_z sl) a b) ∨ (x1_z = 0 ∧ ¬ side (B_z 31 sl) (fcs B_z sl) a b)) ∧ st_z = ([(2, 0), (0, sl), (0, n), (0, z3), (0, a), (0, b), (0, c_z), w7_z, w8, w9], [(0, x1_z)], B_z))) ?_ 12 72 _ ?_
    · rintro pc st_z (⟨rfl, h0, rfl⟩ | ⟨rfl, hcn, x1_z, hx1, rfl⟩)
      · exact H B_z _ _ _ _ (hJ.up (by omega) (by omega) (fun v_z v0_z v1_z x_z y_z z_z x0_z xy_z yz zn e_z => by omega))
      · refine wq_ok srt_Mseed (fr := []) (cuts := [99, 174]) (J := fun pc st_z => (pc = 174 ∧ (x1_z = 0) ∧ st_z = ([(2, 0), (0, sl), (0, n), (0, z3), (0, a), (0, b), (0, c_z), w7_z, w8, w9], [], B_z)) ∨ (pc = 99 ∧ (¬ x1_z = 0) ∧ ∃ x2_z : Int, ((x2_z = 1 ∧ side (B_z 31 sl) (fcs B_z sl) b c_z) ∨ (x2_z = 0 ∧ ¬ side (B_z 31 sl) (fcs B_z sl) b c_z)) ∧ st_z = ([(2, 0), (0, sl), (0, n), (0, z3), (0, a), (0, b), (0, c_z), w7_z, w8, w9], [(0, x2_z)], B_z))) ?_ 10 87 _ ?_
        · rintro pc st_z (⟨rfl, h0, rfl⟩ | ⟨rfl, hz1, x2_z, hx2, rfl⟩)
          · refine h174 (by omega) B_z _ _ _ (hJ.no (by omega) a0 ab c0_z (by omega) (fun q_z => ?_))
            rw [e31_z, eF] at hx1
            rcases hx1 with ⟨e_z, _⟩ | ⟨_, e_z⟩
            · omega
            · exact e_z q_z.1
          · refine wq_ok srt_Mseed (fr := []) (cuts := [111, 174]) (J := fun pc st_z => (pc = 174 ∧ (x2_z = 0) ∧ st_z = ([(2, 0), (0, sl), (0, n), (0, z3), (0, a), (0, b), (0, c_z), w7_z, w8, w9], [], B_z)) ∨ (pc = 111 ∧ (¬ x2_z = 0) ∧ ∃ x3 : Int, ((x3 = 1 ∧ side (B_z 31 sl) (fcs B_z sl) a c_z) ∨ (x3 = 0 ∧ ¬ side (B_z 31 sl) (fcs B_z sl) a c_z)) ∧ st_z = ([(2, 0), (0, sl), (0, n), (0, z3), (0, a), (0, b), (0, c_z), w7_z, w8, w9], [(0, x3)], B_z))) ?_ 10 99 _ ?_
            · rintro pc st_z (⟨rfl, h0, rfl⟩ | ⟨rfl, hz2, x3, hx3, rfl⟩)
              · refine h174 (by omega) B_z _ _ _ (hJ.no (by omega) a0 ab c0_z (by omega) (fun q_z => ?_))
                rw [e31_z, eF] at hx2
                rcases hx2 with ⟨e_z, _⟩ | ⟨_, e_z⟩
                · omega
                · exact e_z q_z.2.1
              · refine wq_ok srt_Mseed (fr := []) (cuts := [117, 174]) (J := fun pc st_z => (pc = 117 ∧ (¬ x3 = 0) ∧ st_z = ([(2, 0), (0, sl), (0, n), (0, z3), (0, a), (0, b), (0, c_z), w7_z, w8, w9], [], B_z)) ∨ (pc = 174 ∧ (x3 = 0) ∧ st_z = ([(2, 0), (0, sl), (0, n), (0, z3), (0, a), (0, b), (0, c_z), w7_z, w8, w9], [], B_z))) ?_ 7 111 _ ?_
                · rintro pc st_z (⟨rfl, h0, rfl⟩ | ⟨rfl, h0, rfl⟩)
                  · refine sdq_117 hs hA hcut (by omega) (by omega) ⟨?_, ?_, ?_⟩ ⟨a0, ab, c0_z, by omega⟩ hJ (h174 (by omega))
                    · rw [e31_z, eF] at hx1
                      rcases hx1 with ⟨_, e_z⟩ | ⟨e_z, _⟩
                      · exact e_z
                      · omega
                    · rw [e31_z, eF] at hx2
                      rcases hx2 with ⟨_, e_z⟩ | ⟨e_z, _⟩
                      · exact e_z
                      · omega
                    · rw [e31_z, eF] at hx3
                      rcases hx3 with ⟨_, e_z⟩ | ⟨e_z, _⟩
                      · exact e_z
                      · omega
                  · refine h174 (by omega) B_z _ _ _ (hJ.no (by omega) a0 ab c0_z (by omega) (fun q_z => ?_))
                    rw [e31_z, eF] at hx3
                    rcases hx3 with ⟨e_z, _⟩ | ⟨_, e_z⟩
                    · omega
                    · exact e_z q_z.2.2
                · refine ⟨fun h0 => ?_, fun h0 => ?_⟩
                  · exact Or.inl (⟨rfl, h0, rfl⟩)
                  · exact Or.inr (⟨rfl, h0, rfl⟩)
            · refine ⟨fun h0 => ?_, fun h0 => ?_⟩
              · exact Or.inl (⟨rfl, h0, rfl⟩)
              · refine ⟨rM_0 (by omega) km0, ?_⟩
                refine (isSide_ex (A := B_z) (sl := sl) (x := a) (y := c_z) hJ.1.1.1 (by omega) (by omega) (by omega) (by omega) (by omega) (by omega)).imp ?_
                rintro ⟨r1_z, C_z⟩ ⟨q1_z, x3, q2_z, hx3⟩
                simp only at q1_z q2_z
                subst q1_z
                subst q2_z
                exact Or.inr (⟨rfl, h0, x3, hx3, rfl⟩)
        · refine ⟨fun h0 => ?_, fun h0 => ?_⟩
          · exact Or.inl (⟨rfl, h0, rfl⟩)
          · refine ⟨rM_0 (by omega) km0, ?_⟩
            refine (isSide_ex (A := B_z) (sl := sl) (x := b) (y := c_z) hJ.1.1.1 (by omega) (by omega) (by omega) (by omega) (by omega) (by omega)).imp ?_
            rintro ⟨r1_z, C_z⟩ ⟨q1_z, x2_z, q2_z, hx2⟩
            simp only at q1_z q2_z
            subst q1_z
            subst q2_z
            exact Or.inr (⟨rfl, h0, x2_z, hx2, rfl⟩)
    · refine ⟨fun h0 => ?_, fun h0 => ?_⟩
      · exact Or.inl (⟨rfl, h0, rfl⟩)
      · refine ⟨rM_0 (by omega) km0, ?_⟩
        refine (isSide_ex (A := B_z) (sl := sl) (x := a) (y := b) hJ.1.1.1 (by omega) (by omega) (by omega) (by omega) (by omega) (by omega)).imp ?_
        rintro ⟨r1_z, C_z⟩ ⟨q1_z, x1_z, q2_z, hx1⟩
        simp only at q1_z q2_z
        subst q1_z
        subst q2_z
        exact Or.inr (⟨rfl, h0, x1_z, hx1, rfl⟩)
theorem sdq_60 {A : pm_A} {sl n z3 a : Int} (hs : sl = 0 ∨ sl = 1) (hA : gH wM A) (hcut : cntF (fcs A sl) 100 ≤ 6) (n9 : n ≤ 9) (hn : n = A 31 sl) (a0 : 0 ≤ a) (an : a < n) (H : ∀ C_z w5 w6_z w7_z w8 w9, sdK A C_z sl n (100 * a + 100) → Tm pmt (an_sh wM) o_X10_seed 186 ([(2, 0), (0, sl), (0, n), (0, z3), (0, a), w5, w6_z, w7_z, w8, w9], [], C_z) (msQ A sl n)) : ∀ (m_z : Nat) (b_z : Int) (w6_z w7_z w8 w9 : pm_V) (B_z : pm_A), (10 - b_z).toNat < m_z → a < b_z → b_z ≤ 10 → sdK A B_z sl n (100 * a + 10 * b_z) → Tm pmt (an_sh wM) o_X10_seed 60 ([(2, 0), (0, sl), (0, n), (0, z3), (0, a), (0, b_z), w6_z, w7_z, w8, w9], [], B_z) (msQ A sl n) := by
  intro m_z
  induction m_z with
  | zero => intro b_z w6_z w7_z w8 w9 B_z h_z; omega
  | succ m_z ih_z =>
    intro b_z w6_z w7_z w8 w9 B_z hm_z b0 b1 hJ
    have h180 : b_z < n → ∀ C_z w6_z w7_z w8 w9, sdK A C_z sl n (100 * a + 10 * b_z + 10) → Tm pmt (an_sh wM) o_X10_seed 180 ([(2, 0), (0, sl), (0, n), (0, z3), (0, a), (0, b_z), w6_z, w7_z, w8, w9], [], C_z) (msQ A sl n) := fun hc_z C_z w6_z w7_z w8 w9 hC => by
      refine wq_ok srt_Mseed (fr := []) (cuts := [60]) (J := fun pc st_z => (pc = 60 ∧ st_z = ([(2, 0), (0, sl), (0, n), (0, z3), (0, a), (0, b_z + 1), w6_z, w7_z, w8, w9], [], C_z))) ?_ 7 180 _ ?_
      · rintro pc st_z (⟨rfl, rfl⟩)
        exact ih_z (b_z + 1) _ _ _ _ C_z (by omega) (by omega) (by omega) (hC.up (by omega) (by omega) (fun v_z v0_z v1_z x_z y_z z_z x0_z xy_z yz zn e_z => by omega))
      · refine ⟨⟨by omega, by omega⟩, ?_⟩
        exact ⟨rfl, rfl⟩
    refine wq_ok srt_Mseed (fr := []) (cuts := [72, 186]) (J := fun pc st_z => (pc = 186 ∧ (n ≤ b_z) ∧ st_z = ([(2, 0), (0, sl), (0, n), (0, z3), (0, a), (0, b_z), w6_z, w7_z, w8, w9], [], B_z)) ∨ (pc = 72 ∧ (b_z < n) ∧ st_z = ([(2, 0), (0, sl), (0, n), (0, z3), (0, a), (0, b_z), (0, b_z + 1), w7_z, w8, w9], [], B_z))) ?_ 12 60 _ ?_
    · rintro pc st_z (⟨rfl, h0, rfl⟩ | ⟨rfl, h0, rfl⟩)
      · exact H B_z _ _ _ _ _ (hJ.up (by omega) (by omega) (fun v_z v0_z v1_z x_z y_z z_z x0_z xy_z yz zn e_z => by rcases Int.lt_trichotomy x_z a with q_z | q_z | q_z <;> omega))
      · exact sdq_72 hs hA hcut n9 hn a0 b0 (by omega) (h180 (by omega)) _ (b_z + 1) _ _ _ B_z (Nat.lt_succ_self _) (by omega) (by omega) (hJ.up (by omega) (by omega) (fun v_z v0_z v1_z x_z y_z z_z x0_z xy_z yz zn e_z => by omega))
    · refine ⟨fun h0 => ?_, fun h0 => ?_⟩
      · exact Or.inl (⟨rfl, h0, rfl⟩)
      · refine ⟨⟨by omega, by omega⟩, ?_⟩
        exact Or.inr (⟨rfl, h0, rfl⟩)
theorem sdq_192 {A B : pm_A} {sl n : Int} (h : RI A) (hJ : sdK A B sl n 1000) {w1 w2 w3 w4 w5 w6 w7 w8 w9 : pm_V} : Tm pmt (an_sh wM) o_X10_seed 192 ([(2, 0), w1, w2, w3, w4, w5, w6, w7, w8, w9], [], B) (msQ A sl n) := by
  have hB_z : RI B := hJ.1.1.ri h (fun j_z j0 j1 => by have := hJ.1.b9 j0 j1; omega)
  refine wq_ok srt_Mseed (fr := []) (cuts := [196]) (J := fun pc st_z => (pc = 196 ∧ ∃ C_z x_z, RI C_z ∧ (bgA (B 0 12) (B 7) x_z ∧ (C_z 0 12 = B 0 12 ∧ C_z 0 13 = B 0 13 ∧ ∀ k_z : Int, 0 ≤ k_z → C_z 7 k_z = B 7 k_z) ∧ ((x_z = 0 ∧ C_z 0 7 = B 0 12 ∧ lsz (B 0 12) (B 7) (C_z 10)) ∨ (¬ x_z = 0 ∧ C_z 0 7 = B 0 7 ∧ ∀ j_z, C_z 10 j_z = B 10 j_z))) ∧ st_z = ([(2, 0), w1, w2, w3, w4, w5, w6, w7, w8, w9], [(0, x_z)], C_z))) ?_ 6 192 _ ?_
  · rintro pc st_z (⟨rfl, C_z, x_z, q2_z, ⟨q3_z, q4_z, q5_z⟩, rfl⟩)
    have q6_z : (x_z = 0 ∧ C_z 0 7 = B 0 12 ∧ lsz (B 0 12) (B 7) (C_z 10)) ∨ (¬ x_z = 0 ∧ C_z 0 7 = A 0 7 ∧ ∀ j_z, C_z 10 j_z = A 10 j_z) := q5_z.imp id (fun e_z => ⟨e_z.1, by rw [e_z.2.1, hJ.1.1.2 0 7 (by omega) (by omega)], fun j_z => by rw [e_z.2.2 j_z, hJ.1.1.2 10 j_z (by omega) (by omega)]⟩)
    have b9 : ∀ k_z : Int, 0 ≤ k_z → k_z < 72 → -9 ≤ B 7 k_z ∧ B 7 k_z ≤ 9 := fun k_z k0_z k1_z => by have := hJ.1.b9 k0_z k1_z; omega
    refine wq_ok srt_Mseed (fr := []) (cuts := []) (J := fun _ _ => False) ?_ 8 196 _ ?_
    · intro pc st_z h; exact h.elim
    · refine ⟨fun h0 => ?_, fun h0 => ?_⟩
      · exact ⟨rfl, ⟨⟨_, rfl⟩, q2_z⟩, B, x_z, hB_z, hJ.1.1, hJ.2.1, b9, hJ.2.2, q3_z, by rw [if_neg h0], q4_z, q6_z⟩
      · exact ⟨rfl, ⟨⟨_, rfl⟩, q2_z⟩, B, x_z, hB_z, hJ.1.1, hJ.2.1, b9, hJ.2.2, q3_z, by rw [if_pos h0], q4_z, q6_z⟩
  · refine ⟨rM_0 (by omega) km0, ?_⟩
    refine (mbegin_fr hB_z).imp ?_
    rintro ⟨r1_z, C_z⟩ ⟨⟨⟨_, q2_z⟩, x_z, q1_z, q3_z, q5_z⟩, q4_z⟩
    simp only at q1_z q2_z q3_z q4_z q5_z
    subst q1_z
    exact ⟨rfl, C_z, x_z, q2_z, ⟨q3_z, q4_z, q5_z⟩, rfl⟩
theorem sdq_48 {A : pm_A} {sl n z3 : Int} (h : RI A) (hs : sl = 0 ∨ sl = 1) (hcut : cntF (fcs A sl) 100 ≤ 6) (n9 : n ≤ 9) (hn : n = A 31 sl) : ∀ (m_z : Nat) (a_z : Int) (w5 w6_z w7_z w8 w9 : pm_V) (B_z : pm_A), (10 - a_z).toNat < m_z → 0 ≤ a_z → a_z ≤ 10 → sdK A B_z sl n (100 * a_z) → Tm pmt (an_sh wM) o_X10_seed 48 ([(2, 0), (0, sl), (0, n), (0, z3), (0, a_z), w5, w6_z, w7_z, w8, w9], [], B_z) (msQ A sl n) := by
  intro m_z
  induction m_z with
  | zero => intro a_z w5 w6_z w7_z w8 w9 B_z h; omega
  | succ m_z ih_z =>
    intro a_z w5 w6_z w7_z w8 w9 B_z hm_z a0_z a1_z hJ
    have h186 : a_z < n → ∀ C_z w5 w6_z w7_z w8 w9, sdK A C_z sl n (100 * a_z + 100) → Tm pmt (an_sh wM) o_X10_seed 186 ([(2, 0), (0, sl), (0, n), (0, z3), (0, a_z), w5, w6_z, w7_z, w8, w9], [], C_z) (msQ A sl n) := fun hc_z C_z w5 w6_z w7_z w8 w9 hC => by
      refine wq_ok srt_Mseed (fr := []) (cuts := [48]) (J := fun pc st_z => (pc = 48 ∧ st_z = ([(2, 0), (0, sl), (0, n), (0, z3), (0, a_z + 1), w5, w6_z, w7_z, w8, w9], [], C_z))) ?_ 7 186 _ ?_
      · rintro pc st_z (⟨rfl, rfl⟩)
        exact ih_z (a_z + 1) _ _ _ _ _ C_z (by omega) (by omega) (by omega) (hC.up (by omega) (by omega) (fun v_z v0_z v1_z x_z y_z z_z x0_z xy_z yz zn e_z => by omega))
      · refine ⟨⟨by omega, by omega⟩, ?_⟩
        exact ⟨rfl, rfl⟩
    refine wq_ok srt_Mseed (fr := []) (cuts := [60, 192]) (J := fun pc st_z => (pc = 192 ∧ (n ≤ a_z) ∧ st_z = ([(2, 0), (0, sl), (0, n), (0, z3), (0, a_z), w5, w6_z, w7_z, w8, w9], [], B_z)) ∨ (pc = 60 ∧ (a_z < n) ∧ st_z = ([(2, 0), (0, sl), (0, n), (0, z3), (0, a_z), (0, a_z + 1), w6_z, w7_z, w8, w9], [], B_z))) ?_ 12 48 _ ?_
    · rintro pc st_z (⟨rfl, h0, rfl⟩ | ⟨rfl, h0, rfl⟩)
      · exact sdq_192 h (hJ.up (by omega) (by omega) (fun v_z v0_z v1_z x_z y_z z_z x0_z xy_z yz zn e_z => by omega))
      · exact sdq_60 hs h.g hcut n9 hn a0_z (by omega) (h186 (by omega)) _ (a_z + 1) _ _ _ _ B_z (Nat.lt_succ_self _) (by omega) (by omega) (hJ.up (by omega) (by omega) (fun v_z v0_z v1_z x_z y_z z_z x0_z xy_z yz zn e_z => by omega))
    · refine ⟨fun h0 => ?_, fun h0 => ?_⟩
      · exact Or.inl (⟨rfl, h0, rfl⟩)
      · refine ⟨⟨by omega, by omega⟩, ?_⟩
        exact Or.inr (⟨rfl, h0, rfl⟩)
end

section
/-! the draft's table is alike on both sides: table, arrows, begin, seed -/
def DT (AX AM : pm_A) : Prop := DD AX AM ∧ AX 24 2 = 25 ∧ ∀ k_z : Int, 0 ≤ k_z → k_z < 72 → AX 25 k_z = AM 7 k_z
theorem kYt (j : Int) : kcode wY 25 j = 10016 := by
  rw [kc_1 (show (an_sh wY 25).1 = 1 by decide +kernel), show wY.2 25 = 16 by decide +kernel]
theorem DT.kX {AX BX AM : pm_A} {ms : List Nat} (h : DT AX AM) (hF : gFk wY ms AX BX) (n1 : ms.contains 1 = false) (n2 : ms.contains 300 = false) (n3 : ms.contains 301 = false) (n4 : ms.contains 302 = false) (n5 : ms.contains 10016 = false) : DT BX AM := by
  refine ⟨h.1.kX hF n1 n2 n3, ?_, fun k_z k0_z k1_z => ?_⟩
  · rw [hF 24 2 (by omega) (by omega) (by rw [kYd 2]; exact nin n4)]; exact h.2.1
  · rw [hF 25 k_z (by omega) k0_z (by rw [kYt]; exact nin n5)]; exact h.2.2 k_z k0_z k1_z
theorem DT.kM {AX AM BM : pm_A} {ms : List Nat} (h : DT AX AM) (hF : gFk wM ms AM BM) (n1 : ms.contains 12 = false) (n2 : ms.contains 13 = false) (n3 : ms.contains 10007 = false) : DT AX BM := by
  refine ⟨h.1.kM hF n1 n2, h.2.1, fun k_z k0_z k1_z => ?_⟩
  rw [hF 7 k_z (by omega) k0_z (by rw [kM7]; exact nin n3)]; exact h.2.2 k_z k0_z k1_z
theorem dt_first : DT (wA WX) A0M := ⟨dd_first, by decide +kernel, fun k_z k0_z k1_z => by
  have : ∀ j_z : Fin 72, wA WX 25 (j_z.1 : Int) = A0M 7 (j_z.1 : Int) := by decide +kernel
  have h_z := this ⟨k_z.toNat, by omega⟩
  simp only at h_z
  rw [show ((k_z.toNat : Nat) : Int) = k_z by omega] at h_z
  exact h_z⟩
theorem dgz_c {p : Int} {T T' : Int → Int} (hp : p ≤ 6) (h : ∀ k_z : Int, 0 ≤ k_z → k_z < 72 → T k_z = T' k_z) (g : dgz p T) : dgz p T' := fun i_z i0_z i1_z => by
  rw [← h _ (by omega) (by omega)]; exact g i_z i0_z i1_z
theorem skz_c {p : Int} {T T' : Int → Int} (hp : p ≤ 6) (h : ∀ k_z : Int, 0 ≤ k_z → k_z < 72 → T k_z = T' k_z) (g : skz p T) : skz p T' := fun i_z j_z i0_z i1_z j0 j1 => by
  rw [← h _ (by omega) (by omega), ← h _ (by omega) (by omega)]; exact g i_z j_z i0_z i1_z j0 j1
theorem sy_c {p : Int} {T T' d : Int → Int} (hp : p ≤ 6) (h : ∀ k_z : Int, 0 ≤ k_z → k_z < 72 → T k_z = T' k_z) (g : sy p T d) : sy p T' d := ⟨g.1, fun i_z j_z i0_z i1_z j0 j1 => by
  rw [← h _ (by omega) (by omega), ← h _ (by omega) (by omega)]; exact g.2 i_z j_z i0_z i1_z j0 j1⟩
theorem bgA_c {p x : Int} {T T' : Int → Int} (hp : p ≤ 6) (h : ∀ k_z : Int, 0 ≤ k_z → k_z < 72 → T k_z = T' k_z) (g : bgA p T x) : bgA p T' x := by
  have h' : ∀ k_z : Int, 0 ≤ k_z → k_z < 72 → T' k_z = T k_z := fun k_z k0_z k1_z => (h k_z k0_z k1_z).symm
  rcases g with g | ⟨g0, g⟩
  · exact Or.inl g
  · refine Or.inr ⟨g0, ?_⟩
    rcases g with ⟨a_z, b_z⟩ | ⟨a_z, b_z, c_z⟩ | ⟨a_z, b_z, c_z, d_z⟩ | ⟨a_z, b_z, c_z, d_z, e_z⟩
    · exact Or.inl ⟨a_z, fun q_z => b_z (dgz_c hp h' q_z)⟩
    · exact Or.inr (Or.inl ⟨a_z, dgz_c hp h b_z, fun q_z => c_z (skz_c hp h' q_z)⟩)
    · exact Or.inr (Or.inr (Or.inl ⟨a_z, dgz_c hp h b_z, skz_c hp h c_z, fun w_z q_z => d_z w_z (sy_c hp h' q_z)⟩))
    · exact Or.inr (Or.inr (Or.inr ⟨a_z, dgz_c hp h b_z, skz_c hp h c_z, d_z, sy_c hp h e_z⟩))
theorem lsz_c {p : Int} {T T' s : Int → Int} (hp : p ≤ 6) (h : ∀ k_z : Int, 0 ≤ k_z → k_z < 72 → T k_z = T' k_z) (g : lsz p T s) : lsz p T' s :=
  ⟨g.1, sy_c hp h g.2.1, fun d_z sd_z => g.2.2 d_z (sy_c hp (fun k_z k0_z k1_z => (h k_z k0_z k1_z).symm) sd_z)⟩
def xtQ (A : pm_A) (n m : Int) (r : pm_R) : Prop := (r = (some (0, 0), A) ∧ ¬ okT n m) ∨ (r.1 = some (0, 1) ∧ okT n m ∧ r.2 24 0 = n ∧ r.2 24 1 = m ∧ ∀ k_z : Int, 0 ≤ k_z → k_z < 72 → r.2 (A 24 2) k_z = 0)
theorem xtable_exq {A : pm_A} {n m : Int} (hA : gH wX A) (hK : gK wY A) (e1 : A 0 1 = 24) : Cl pmt (an_sh wX) 111 [(2, 0), (0, n), (0, m)] A (xtQ A n m) := by
  have d0_z := fX_0_1 hA (r := 0) (by omega) kk0
  refine Cl.of (Nat.le_of_ble_eq_true rfl) ?_
  refine wq_ok (full := o_X9_table) srt_Xtable (fr := []) (cuts := []) (J := fun _ _ => False) (fun _ _ h_z => h_z.elim) 25 0 _ ?_
  refine ⟨fun h0 => ?_, fun h0 => ?_⟩
  · exact ⟨rfl, Or.inl ⟨rfl, fun ho => by unfold okT at ho; omega⟩⟩
  refine ⟨fun h1 => ?_, fun h1 => ?_⟩
  · exact ⟨rfl, Or.inl ⟨rfl, fun ho => by unfold okT at ho; omega⟩⟩
  refine ⟨fun h2 => ?_, fun h2 => ?_⟩
  · exact ⟨rfl, Or.inl ⟨rfl, fun ho => by unfold okT at ho; omega⟩⟩
  refine ⟨fun h3 => ?_, fun h3 => ?_⟩
  · refine ⟨oX_0 (by omega) kk0 1 rfl, ?_⟩
    refine ⟨rX_3 d0_z.1 d0_z.2, ?_⟩
    rw [e1]
    refine (xrestart_k hA hK (n := n) (m := m) (by omega) (by omega) (by omega) (by omega)).imp ?_
    rintro ⟨r1_z, C_z⟩ ⟨⟨g1, g2, g3_z, g4, g5_z, g6⟩, _⟩
    simp only at g1 g4 g5_z g6
    subst g1
    exact ⟨rfl, Or.inr ⟨rfl, ⟨⟨by omega, by omega⟩, by omega, by omega⟩, g5_z, g6, fun k_z k0_z k1_z => by have := g4 k_z k0_z k1_z; show C_z (A 24 2) k_z = 0; omega⟩⟩
  · exact ⟨rfl, Or.inl ⟨rfl, fun ho => by unfold okT at ho; omega⟩⟩
def xaQ (A : pm_A) (c hd d2 i j v : Int) (r : pm_R) : Prop := (r = (some (0, 0), A) ∧ ¬ okA c hd i j v) ∨ (r = (some (0, 1), pm_upd A d2 (6 * i + j) v) ∧ okA c hd i j v)
theorem xarrows_exq {A : pm_A} {i j v : Int} (hA : gH wX A) : Cl pmt (an_sh wX) 84 [(2, 0), (0, i), (0, j), (0, v)] A (xaQ A (A (A 0 1) 0) (A (A 0 1) 1) (A (A 0 1) 2) i j v) := by
  have d0_z := fX_0_1 hA (r := 0) (by omega) kk0
  have b0 := fX_3_0 hA d0_z.1 d0_z.2
  have b1 := fX_3_1 hA d0_z.1 d0_z.2
  refine Cl.of (Nat.le_of_ble_eq_true rfl) ?_
  refine wq_ok (full := o_X9_arrows) srt_Xarrows (fr := []) (cuts := [19]) (J := fun pc st_z => (pc = 19 ∧ ∃ x_z : Int, ((x_z = 1 ∧ ((0 ≤ i ∧ i < A (A 0 1) 0 + A (A 0 1) 1) ∧ (0 ≤ j ∧ j < A (A 0 1) 0))) ∨ (x_z = 0 ∧ ¬ ((0 ≤ i ∧ i < A (A 0 1) 0 + A (A 0 1) 1) ∧ (0 ≤ j ∧ j < A (A 0 1) 0)))) ∧ st_z = ([(2, 0), (0, i), (0, j), (0, v)], [(0, x_z)], A))) ?_ 13 0 _ ?_
  · rintro pc st_z (⟨rfl, x_z, hx, rfl⟩)
    refine wq_ok srt_Xarrows (fr := []) (cuts := []) (J := fun _ _ => False) ?_ 23 19 _ ?_
    · intro pc st_z h_z; exact h_z.elim
    · refine ⟨fun h0 => ?_, fun h0 => ?_⟩
      · exact ⟨rfl, Or.inl ⟨rfl, fun q_z => by unfold okA at q_z; omega⟩⟩
      · refine ⟨fun h1 => ?_, fun h1 => ?_⟩
        · exact ⟨rfl, Or.inl ⟨rfl, fun q_z => by unfold okA at q_z; omega⟩⟩
        · refine ⟨fun h2 => ?_, fun h2 => ?_⟩
          · refine ⟨oX_0 (Int.le_refl 0) kk0 1 rfl, ?_⟩
            refine ⟨oX_3 (fX_0_1 hA (Int.le_refl 0) kk0).1 (fX_0_1 hA (Int.le_refl 0) kk0).2 2 rfl, ?_⟩
            refine ⟨⟨by omega, by omega⟩, ?_⟩
            refine ⟨⟨by omega, by omega⟩, ?_⟩
            refine ⟨tX_16 (fX_3_2 hA (fX_0_1 hA (Int.le_refl 0) kk0).1 (fX_0_1 hA (Int.le_refl 0) kk0).2).1 (fX_3_2 hA (fX_0_1 hA (Int.le_refl 0) kk0).1 (fX_0_1 hA (Int.le_refl 0) kk0).2).2 (by omega) (by omega) rfl, ?_⟩
            exact ⟨rfl, Or.inr ⟨by rw [show i * 6 + j = 6 * i + j by omega], ⟨by omega, by omega⟩, ⟨by omega, by omega⟩, by omega, by omega⟩⟩
          · exact ⟨rfl, Or.inl ⟨rfl, fun q_z => by unfold okA at q_z; omega⟩⟩
  · refine ⟨oX_0 (Int.le_refl 0) kk0 1 rfl, ?_⟩
    refine ⟨oX_3 (fX_0_1 hA (Int.le_refl 0) kk0).1 (fX_0_1 hA (Int.le_refl 0) kk0).2 0 rfl, ?_⟩
    refine ⟨oX_0 (Int.le_refl 0) kk0 1 rfl, ?_⟩
    refine ⟨oX_3 (fX_0_1 hA (Int.le_refl 0) kk0).1 (fX_0_1 hA (Int.le_refl 0) kk0).2 1 rfl, ?_⟩
    refine ⟨rfl, ?_⟩
    refine (xcell_ex (c := A (A 0 1) 0) (hd := A (A 0 1) 1) (i := i) (j := j) b0.1 b0.2 b1.1 b1.2).imp ?_
    rintro ⟨r1_z, C_z⟩ ⟨q1_z, x_z, q2_z, hx⟩
    simp only at q1_z q2_z
    subst q1_z
    subst q2_z
    exact ⟨rfl, x_z, hx, rfl⟩
theorem marrows_exq {A : pm_A} {i j v : Int} (hA : gH wM A) : Cl pmt (an_sh wM) 126 [(2, 0), (0, i), (0, j), (0, v)] A (xaQ A (A 0 12) (A 0 13) 7 i j v) := by
  have b0 := fM_0_12 hA (r := 0) (by omega) km0
  have b1 := fM_0_13 hA (r := 0) (by omega) km0
  have c14_z := pM_14 hA
  refine Cl.of (Nat.le_of_ble_eq_true rfl) ?_
  refine wq_ok (full := o_X10_arrows) srt_Marrows (fr := []) (cuts := []) (J := fun _ _ => False) ?_ 39 0 _ ?_
  · intro pc st_z h_z; exact h_z.elim
  · refine ⟨oM_0 (by omega) km0 12 rfl, ?_⟩
    refine ⟨fun h0 => ?_, fun h0 => ?_⟩
    · exact ⟨rfl, Or.inl ⟨rfl, fun q_z => by unfold okA at q_z; omega⟩⟩
    · refine ⟨fun h1 => ?_, fun h1 => ?_⟩
      · exact ⟨rfl, Or.inl ⟨rfl, fun q_z => by unfold okA at q_z; omega⟩⟩
      · refine ⟨oM_0 (by omega) km0 12 rfl, ?_⟩
        refine ⟨oM_0 (by omega) km0 13 rfl, ?_⟩
        refine ⟨⟨by omega, by omega⟩, ?_⟩
        refine ⟨fun h2 => ?_, fun h2 => ?_⟩
        · exact ⟨rfl, Or.inl ⟨rfl, fun q_z => by unfold okA at q_z; omega⟩⟩
        · refine ⟨fun h3 => ?_, fun h3 => ?_⟩
          · exact ⟨rfl, Or.inl ⟨rfl, fun q_z => by unfold okA at q_z; omega⟩⟩
          · refine ⟨oM_0 (by omega) km0 12 rfl, ?_⟩
            refine ⟨fun h4 => ?_, fun h4 => ?_⟩
            · exact ⟨rfl, Or.inl ⟨rfl, fun q_z => by unfold okA at q_z; omega⟩⟩
            · refine ⟨fun h5 => ?_, fun h5 => ?_⟩
              · exact ⟨rfl, Or.inl ⟨rfl, fun q_z => by unfold okA at q_z; omega⟩⟩
              · refine ⟨fun h6 => ?_, fun h6 => ?_⟩
                · refine ⟨oM_0 (by omega) km0 14 rfl, ?_⟩
                  refine ⟨⟨by omega, by omega⟩, ?_⟩
                  refine ⟨⟨by omega, by omega⟩, ?_⟩
                  refine ⟨tM_7 (r := A 0 14) (by rw [c14_z]; omega) (by rw [c14_z]; exact kn7) (by omega) (by omega) rfl, ?_⟩
                  exact ⟨rfl, Or.inr ⟨by rw [c14_z], ⟨by omega, by omega⟩, ⟨by omega, by omega⟩, by omega, by omega⟩⟩
                · exact ⟨rfl, Or.inl ⟨rfl, fun q_z => by unfold okA at q_z; omega⟩⟩
def xbP (A : pm_A) (r : pm_R) : Prop := ∃ x_z, r.1 = some (0, x_z) ∧ bgA (A 24 0) (A (A 24 2)) x_z
theorem srt_Xbegin : pm_srt o_X9_begin = true := by decide +kernel
theorem xbegin_ex {A : pm_A} (hA : gH wX A) (e1 : A 0 1 = 24) (hT9 : b9t A 24) : Cl pmt (an_sh wX) 87 [(2, 0)] A (xbP A) := by
  have d0_z := fX_0_1 hA (r := 0) (by omega) kk0
  have p0_z := fX_3_0 hA d0_z.1 d0_z.2
  have hdk : wX.2 24 = 3 := by decide +kernel
  refine Cl.of (Nat.le_of_ble_eq_true rfl) ?_
  refine wq_ok (full := o_X9_begin) srt_Xbegin (fr := []) (cuts := [19]) (J := fun pc st_z => pc = 19 ∧ (¬ A 24 0 = 0) ∧ ∃ C_z x_z w_z, gH wX C_z ∧ faA (A 24 0) (A (A 24 2)) x_z ∧ st_z = ([(2, 0), w_z], [(0, x_z)], C_z)) ?_ 20 0 _ ?_
  · rintro pc st_z ⟨rfl, h0, C_z, x_z, w_z, hC, hx, rfl⟩
    have p1_z : 1 ≤ A 24 0 := by rw [e1] at p0_z; omega
    have fin_z : ∀ D_z, xbP A (some (0, x_z), D_z) := fun D_z => ⟨x_z, rfl, Or.inr ⟨p1_z, hx⟩⟩
    refine wq_ok srt_Xbegin (fr := []) (cuts := []) (J := fun pc st_z => False) (fun _ _ h_z => h_z.elim) 20 19 _ ?_
    refine ⟨fun h_z => ?_, fun h_z => ?_⟩
    · exact ⟨rfl, fin_z C_z⟩
    · refine ⟨rX_0 (by omega) kk0, ?_⟩
      refine Cl.gct q_X9_startSeed_0 (A := C_z) (a := [(2, 0)]) ⟨gv_ref (by omega) kk0, trivial⟩ hC ?_
      rintro ⟨r1_z, D_z⟩ g1 g2 g3_z
      simp only at g1 g2 g3_z
      cases r1_z with
      | some v_z => exact absurd g1 (by intro q_z; cases q_z)
      | none => exact ⟨rfl, fin_z D_z⟩
  · refine ⟨oX_0 (by omega) kk0 1 rfl, ?_⟩
    refine ⟨oX_3 d0_z.1 d0_z.2 0 rfl, ?_⟩
    refine ⟨fun h0 => ?_, fun h0 => ?_⟩
    · refine ⟨oX_0 (by omega) kk0 1 rfl, ?_⟩
      refine ⟨rX_3 d0_z.1 d0_z.2, ?_⟩
      rw [e1] at h0 ⊢
      refine (fault_ex hA (by omega) hdk hT9).imp ?_
      rintro ⟨r1_z, C_z⟩ ⟨⟨g1, _⟩, x_z, e_z, g2, _⟩
      simp only at e_z g1
      subst e_z
      exact ⟨rfl, h0, C_z, x_z, _, g1, g2, rfl⟩
    · rw [e1] at h0
      exact ⟨rfl, -1, rfl, Or.inl ⟨rfl, h0⟩⟩
def xsQ (A : pm_A) (s n : Int) (F : Int → Int) (r : pm_R) : Prop := (¬ okSd s n F ∧ r = (some (0, 0), A)) ∨ (okSd s n F ∧ ∃ x_z, faA (n - 3) (tsum (ctr n F) 1000) x_z ∧ r.1 = some (0, if x_z = 0 then 1 else 0) ∧ r.2 24 0 = n - 3 ∧ r.2 24 1 = 0 ∧ ∀ k_z : Int, 0 ≤ k_z → k_z < 72 → r.2 25 k_z = tsum (ctr n F) 1000 k_z)
theorem faA_c {p x : Int} {T T' : Int → Int} (hp : p ≤ 6) (h : ∀ k_z : Int, 0 ≤ k_z → k_z < 72 → T k_z = T' k_z) (g : faA p T x) : faA p T' x := by
  have h' : ∀ k_z : Int, 0 ≤ k_z → k_z < 72 → T' k_z = T k_z := fun k_z k0_z k1_z => (h k_z k0_z k1_z).symm
  rcases g with ⟨a_z, b_z⟩ | ⟨a_z, b_z, c_z⟩ | ⟨a_z, b_z, c_z, d_z⟩ | ⟨a_z, b_z, c_z, d_z, e_z⟩
  · exact Or.inl ⟨a_z, fun q_z => b_z (dgz_c hp h' q_z)⟩
  · exact Or.inr (Or.inl ⟨a_z, dgz_c hp h b_z, fun q_z => c_z (skz_c hp h' q_z)⟩)
  · exact Or.inr (Or.inr (Or.inl ⟨a_z, dgz_c hp h b_z, skz_c hp h c_z, fun w_z q_z => d_z w_z (sy_c hp h' q_z)⟩))
  · exact Or.inr (Or.inr (Or.inr ⟨a_z, dgz_c hp h b_z, skz_c hp h c_z, d_z, sy_c hp h e_z⟩))
theorem mc3 {j : Int} : mcode wX 24 j = 200 + j.toNat := by
  have e_z : an_sh wX 24 = (0, 2, 5) := shX_3 (by decide +kernel)
  unfold mcode
  rw [e_z] <;> rfl
theorem mc25 {j : Int} : mcode wX 25 j = 10016 := by
  have e_z : an_sh wX 25 = (1, 0, 72) := shX_16 (by decide +kernel)
  have k_z : wX.2 25 = 16 := by decide +kernel
  unfold mcode
  rw [e_z, k_z] <;> rfl
theorem xsd_72 {A C : pm_A} {n s : Int} {F : Int → Int} (hs : okSd s n F) (hC : gH wX C) (e1 : C 0 1 = 24) (e2 : C 24 2 = 25) (e0 : C 24 0 = n - 3) (eh : C 24 1 = 0) (eT : ∀ k_z : Int, 0 ≤ k_z → k_z < 72 → C 25 k_z = tsum (ctr n F) 1000 k_z) (h9 : ∀ k_z : Int, 0 ≤ k_z → k_z < 72 → -9 ≤ tsum (ctr n F) 1000 k_z ∧ tsum (ctr n F) 1000 k_z ≤ 9) : Tm pmt (an_sh wX) o_X9_seed 72 ([(2, 0), (0, s)], [], C) (xsQ A s n F) := by
  have d0_z := fX_0_1 hC (r := 0) (by omega) kk0
  have hdk : wX.2 24 = 3 := by decide +kernel
  have hT9 : b9t C 24 := fun j_z j0 j1 => by rw [e2, eT j_z j0 j1]; exact h9 j_z j0 j1
  refine wq_ok srt_seed (fr := []) (cuts := []) (J := fun pc st_z => False) (fun _ _ h_z => h_z.elim) 20 72 _ ?_
  refine ⟨oX_0 (by omega) kk0 1 rfl, ?_⟩
  refine ⟨rX_3 d0_z.1 d0_z.2, ?_⟩
  rw [e1]
  refine (fault_ex hC (by omega) hdk hT9).imp ?_
  rintro ⟨r1_z, D_z⟩ ⟨⟨g1, g2⟩, x_z, e_z, g3_z, _⟩
  simp only at e_z g1 g2
  subst e_z
  rw [e0, e2] at g3_z
  have g4 : faA (n - 3) (tsum (ctr n F) 1000) x_z := faA_c (by have := hs.2.2; omega) eT g3_z
  have k0_z : D_z 24 0 = n - 3 := by rw [g2 24 0 (by omega) (by omega) (by rw [mc3]; decide)]; exact e0
  have k1_z : D_z 24 1 = 0 := by rw [g2 24 1 (by omega) (by omega) (by rw [mc3]; decide)]; exact eh
  have k2_z : ∀ k_z : Int, 0 ≤ k_z → k_z < 72 → D_z 25 k_z = tsum (ctr n F) 1000 k_z := fun k_z h0 h1 => by rw [g2 25 k_z (by omega) h0 (by rw [mc25]; decide)]; exact eT k_z h0 h1
  refine ⟨fun h_z => ?_, fun h_z => ?_⟩
  · refine ⟨rX_0 (by omega) kk0, ?_⟩
    refine Cl.gct q_X9_startSeed_0 (A := D_z) (a := [(2, 0)]) ⟨gv_ref (by omega) kk0, trivial⟩ g1 ?_
    rintro ⟨r1_z, E_z⟩ f1_z f2_z f3_z
    simp only at f1_z f2_z f3_z
    cases r1_z with
    | some v_z => exact absurd f1_z (by intro q_z; cases q_z)
    | none =>
      refine ⟨rfl, Or.inr ⟨hs, x_z, g4, by rw [if_pos h_z], ?_, ?_, fun k_z h0 h1 => ?_⟩⟩
      · show E_z 24 0 = n - 3
        rw [f3_z 24 0 (by omega) (by omega) (by rw [mc3]; decide)]; exact k0_z
      · show E_z 24 1 = 0
        rw [f3_z 24 1 (by omega) (by omega) (by rw [mc3]; decide)]; exact k1_z
      · show E_z 25 k_z = _
        rw [f3_z 25 k_z (by omega) h0 (by rw [mc25]; decide)]; exact k2_z k_z h0 h1
  · exact ⟨rfl, Or.inr ⟨hs, x_z, g4, by rw [if_neg h_z], k0_z, k1_z, k2_z⟩⟩
theorem xsd_56 {A C : pm_A} {n s : Int} {F : Int → Int} (hs : okSd s n F) (hC : gH wX C) (e1 : C 0 1 = 24) (e2 : C 24 2 = 25) (e0 : C 24 0 = n - 3) (eh : C 24 1 = 0) (hz : ∀ k_z : Int, 0 ≤ k_z → k_z < 72 → C 25 k_z = 0) (hr : rgX C (C (C 0 13) s) n F) (hS : rgS n F) (h9 : ∀ k_z : Int, 0 ≤ k_z → k_z < 72 → -9 ≤ tsum (ctr n F) 1000 k_z ∧ tsum (ctr n F) 1000 k_z ≤ 9) : Tm pmt (an_sh wX) o_X9_seed 56 ([(2, 0), (0, s)], [], C) (xsQ A s n F) := by
  have hs1 := hs.1
  have d0_z := fX_0_1 hC (r := 0) (by omega) kk0
  have r0 := fX_0_13 hC (r := 0) (by omega) kk0
  have g0 := eX_34 hC r0.1 r0.2 (j := s) (by omega) (by omega)
  have hdk : wX.2 24 = 3 := by decide +kernel
  have hh : taH C (C (C 0 13) s) 25 n F := ⟨g0, ⟨by omega, by decide +kernel⟩, hr, hS, by have := hs.2; omega, hs.2.2⟩
  refine wq_ok srt_seed (fr := []) (cuts := [72]) (J := fun pc st_z => pc = 72 ∧ ∃ D_z, gH wX D_z ∧ (∀ k_z j_z : Int, ¬ k_z = 25 → D_z k_z j_z = C k_z j_z) ∧ (∀ k_z : Int, 0 ≤ k_z → k_z < 72 → D_z 25 k_z = tsum (ctr n F) 1000 k_z) ∧ st_z = ([(2, 0), (0, s)], [], D_z)) ?_ 20 56 _ ?_
  · rintro pc st_z ⟨rfl, D_z, h1, h2, h3, rfl⟩
    exact xsd_72 hs h1 (by rw [h2 0 1 (by omega)]; exact e1) (by rw [h2 24 2 (by omega)]; exact e2) (by rw [h2 24 0 (by omega)]; exact e0) (by rw [h2 24 1 (by omega)]; exact eh) h3 h9
  · refine ⟨oX_0 (by omega) kk0 13 rfl, ?_⟩
    refine ⟨aX_34 r0.1 r0.2 (by omega) (by omega), ?_⟩
    refine ⟨oX_0 (by omega) kk0 1 rfl, ?_⟩
    refine ⟨oX_3 d0_z.1 d0_z.2 2 rfl, ?_⟩
    refine ⟨rX_9 g0.1 g0.2, ?_⟩
    rw [e1, e2]
    refine (tellArrows_ex hC hh hz).imp ?_
    rintro ⟨r1_z, D_z⟩ ⟨q1_z, q2_z, q3_z, q4_z⟩
    simp only at q1_z q2_z q3_z q4_z
    subst q1_z
    exact ⟨rfl, D_z, q2_z, q3_z, q4_z, rfl⟩
theorem sxq_37 {A : pm_A} {n s : Int} {F : Int → Int} (hA : gH wX A) (hK : gK wY A) (e1 : A 0 1 = 24) (ed : A 24 2 = 25) (ht9 : ∀ k_z : Int, 0 ≤ k_z → k_z < 72 → -9 ≤ tsum (ctr n F) 1000 k_z ∧ tsum (ctr n F) 1000 k_z ≤ 9) (hs : s = 0 ∨ s = 1) (h : rgX A (A (A 0 13) s) n F) (hS : rgS n F) (hc : cntF F 100 = n - 3) (h9 : n ≤ 9) : Tm pmt (an_sh wX) o_X9_seed 37 ([(2, 0), (0, s)], [], A) (xsQ A s n F) := by
  have p0_z := fX_0_13 hA (Int.le_refl 0) kk0
  have g0 := eX_34 hA p0_z.1 p0_z.2 (j := s) (by omega) (by omega)
  have en : A (A (A 0 13) s) 0 = n := h.1
  have hn := hS.1
  have d0_z := fX_0_1 hA (r := 0) (by omega) kk0
  refine wq_ok srt_seed (fr := []) (cuts := [56]) (J := fun pc st_z => pc = 56 ∧ ∃ C_z, (rxP A 24 (n - 3) 0 (none, C_z) ∧ gK wY C_z) ∧ st_z = ([(2, 0), (0, s)], [], C_z)) ?_ 30 37 _ ?_
  · rintro pc st_z ⟨rfl, C_z, ⟨⟨_, q2_z, q3_z, q4_z, q5_z, q6_z⟩, q7_z⟩, rfl⟩
    simp only at q2_z q3_z q4_z q5_z q6_z
    have e2 : C_z 0 1 = 24 := by
      rw [q3_z 0 1 (by omega) (by omega) (by unfold mcode; rw [shX_0 kk0]; show ¬ 901 ∈ rs_M; decide)]; exact e1
    have e3 : C_z 24 2 = A 24 2 := q3_z 24 2 (by omega) (by omega) (by unfold mcode; rw [shX_3 (show wX.2 24 = 3 by decide +kernel)]; show ¬ 202 ∈ rs_M; decide)
    have er : C_z 0 13 = A 0 13 := q3_z 0 13 (by omega) (by omega) (by unfold mcode; rw [shX_0 kk0]; show ¬ 913 ∈ rs_M; decide)
    have eqq : C_z (A 0 13) s = A (A 0 13) s := q3_z _ s p0_z.1 (by omega) (by unfold mcode; rw [shX_34 p0_z.2]; show ¬ (10000 + wX.2 (A 0 13)) ∈ rs_M; rw [p0_z.2]; decide)
    have ek : ∀ j_z : Int, 0 ≤ j_z → j_z ≤ 1 → C_z (A (A 0 13) s) j_z = A (A (A 0 13) s) j_z := fun j_z j0 j1 => by
      refine q3_z _ j_z g0.1 j0 ?_
      unfold mcode
      rw [shX_9 g0.2]
      show ¬ (600 + j_z.toNat) ∈ rs_M
      rcases (show j_z.toNat = 0 ∨ j_z.toNat = 1 by omega) with e_z | e_z <;> rw [e_z] <;> decide
    have hrg : rgX C_z (C_z (C_z 0 13) s) n F := by
      rw [er, eqq]
      obtain ⟨y1, V, y2, y3⟩ := h
      exact ⟨by rw [ek 0 (by omega) (by omega)]; exact y1, V, by rw [ek 1 (by omega) (by omega)]; exact y2, y3⟩
    exact xsd_56 ⟨hs, hc, h9⟩ q2_z e2 (by rw [e3]; exact ed) q5_z q6_z (fun k_z k0_z k1_z => by have := q4_z k_z k0_z k1_z; rw [ed] at this; omega) hrg hS ht9
  · refine ⟨oX_0 (Int.le_refl 0) kk0 1 rfl, ?_⟩
    refine ⟨oX_0 (Int.le_refl 0) kk0 13 rfl, ?_⟩
    refine ⟨aX_34 p0_z.1 p0_z.2 (by omega) (by omega), ?_⟩
    refine ⟨oX_9 g0.1 g0.2 0 rfl, ?_⟩
    refine ⟨⟨by omega, by omega⟩, ?_⟩
    refine ⟨rX_3 d0_z.1 d0_z.2, ?_⟩
    rw [e1, en]
    refine (xrestart_k hA hK (n := n - 3) (m := 0) (by omega) (by omega) (by omega) (by omega)).imp ?_
    rintro ⟨r1_z, C_z⟩ ⟨q_z, q7_z⟩
    obtain rfl : r1_z = none := q_z.1
    exact ⟨rfl, C_z, ⟨q_z, q7_z⟩, rfl⟩
theorem xseed_exq {A : pm_A} {n s : Int} {F : Int → Int} (hA : gH wX A) (hK : gK wY A) (e1 : A 0 1 = 24) (ed : A 24 2 = 25) (ht9 : okSd s n F → ∀ k_z : Int, 0 ≤ k_z → k_z < 72 → -9 ≤ tsum (ctr n F) 1000 k_z ∧ tsum (ctr n F) 1000 k_z ≤ 9) (h : s = 0 ∨ s = 1 → rgX A (A (A 0 13) s) n F ∧ rgS n F) : Cl pmt (an_sh wX) 107 [(2, 0), (0, s)] A (xsQ A s n F) := by
  have p0_z := fX_0_13 hA (Int.le_refl 0) kk0
  have h7 : s = 0 ∨ s = 1 → Tm pmt (an_sh wX) o_X9_seed 7 ([(2, 0), (0, s)], [], A) (xsQ A s n F) := fun hs => by
    have e0_z := eX_34 hA p0_z.1 p0_z.2 (j := s) (by omega) (by omega)
    have en : A (A (A 0 13) s) 0 = n := (h hs).1.1
    have hn := (h hs).2.1
    refine wq_ok srt_seed (fr := []) (cuts := [16]) (J := fun pc st_z => (pc = 16 ∧ ∃ z_z : Int, ((z_z = 1 ∧ cntF F 100 = n - 3) ∨ (z_z = 0 ∧ ¬ cntF F 100 = n - 3)) ∧ st_z = ([(2, 0), (0, s)], [(0, z_z)], A))) ?_ 9 7 _ ?_
    · rintro pc st_z (⟨rfl, z_z, hz, rfl⟩)
      refine wq_ok srt_seed (fr := []) (cuts := [37]) (J := fun pc st_z => (pc = 37 ∧ (¬ z_z = 0) ∧ (((A (A (A 0 13) s) 0) - 3) ≤ 6) ∧ st_z = ([(2, 0), (0, s)], [], A))) ?_ 16 16 _ ?_
      · rintro pc st_z (⟨rfl, h0, h1, rfl⟩)
        have hc_z : cntF F 100 = n - 3 := (by rcases hz with ⟨_, e_z⟩ | ⟨e_z, _⟩; exact e_z; omega)
        have hn9 : n ≤ 9 := by omega
        exact sxq_37 hA hK e1 ed (ht9 ⟨hs, hc_z, hn9⟩) hs (h hs).1 (h hs).2 hc_z hn9
      · refine ⟨fun h0 => ?_, fun h0 => ?_⟩
        · exact ⟨rfl, Or.inl ⟨fun q_z => absurd q_z.2.1 (by rcases hz with ⟨e_z, _⟩ | ⟨_, e_z⟩; omega; exact e_z), rfl⟩⟩
        · refine ⟨oX_0 (Int.le_refl 0) kk0 13 rfl, ?_⟩
          refine ⟨aX_34 (fX_0_13 hA (Int.le_refl 0) kk0).1 (fX_0_13 hA (Int.le_refl 0) kk0).2 (by omega) (by omega), ?_⟩
          refine ⟨oX_9 (eX_34 hA (fX_0_13 hA (Int.le_refl 0) kk0).1 (fX_0_13 hA (Int.le_refl 0) kk0).2 (j := s) (by omega) (by omega)).1 (eX_34 hA (fX_0_13 hA (Int.le_refl 0) kk0).1 (fX_0_13 hA (Int.le_refl 0) kk0).2 (j := s) (by omega) (by omega)).2 0 rfl, ?_⟩
          refine ⟨⟨by omega, by omega⟩, ?_⟩
          refine ⟨fun h1 => ?_, fun h1 => ?_⟩
          · exact ⟨rfl, h0, h1, rfl⟩
          · exact ⟨rfl, Or.inl ⟨fun q_z => by have := q_z.2.2; omega, rfl⟩⟩
    · refine ⟨oX_0 (Int.le_refl 0) kk0 13 rfl, ?_⟩
      refine ⟨aX_34 (fX_0_13 hA (Int.le_refl 0) kk0).1 (fX_0_13 hA (Int.le_refl 0) kk0).2 (by omega) (by omega), ?_⟩
      refine ⟨rX_9 (eX_34 hA (fX_0_13 hA (Int.le_refl 0) kk0).1 (fX_0_13 hA (Int.le_refl 0) kk0).2 (j := s) (by omega) (by omega)).1 (eX_34 hA (fX_0_13 hA (Int.le_refl 0) kk0).1 (fX_0_13 hA (Int.le_refl 0) kk0).2 (j := s) (by omega) (by omega)).2, ?_⟩
      refine (xcut_ex e0_z.1 e0_z.2 (h hs).1 (h hs).2).imp ?_
      rintro ⟨r1_z, C_z⟩ ⟨q1_z, z_z, q2_z, hz⟩
      simp only at q1_z q2_z
      subst q1_z
      subst q2_z
      exact ⟨rfl, z_z, hz, rfl⟩
  refine Cl.of (Nat.le_of_ble_eq_true rfl) ?_
  refine wq_ok (full := o_X9_seed) srt_seed (fr := []) (cuts := [4]) (J := fun pc st_z => (pc = 4 ∧ ∃ x_z : Int, ((x_z = 1 ∧ (s = 0 ∨ s = 1)) ∨ (x_z = 0 ∧ ¬ (s = 0 ∨ s = 1))) ∧ st_z = ([(2, 0), (0, s)], [(0, x_z)], A))) ?_ 6 0 _ ?_
  · rintro pc st_z (⟨rfl, x_z, hx, rfl⟩)
    refine wq_ok srt_seed (fr := []) (cuts := [7]) (J := fun pc st_z => (pc = 7 ∧ (¬ x_z = 0) ∧ st_z = ([(2, 0), (0, s)], [], A))) ?_ 7 4 _ ?_
    · rintro pc st_z (⟨rfl, h0, rfl⟩)
      exact h7 (by rcases hx with ⟨_, e_z⟩ | ⟨e_z, _⟩; exact e_z; omega)
    · refine ⟨fun h0 => ?_, fun h0 => ?_⟩
      · exact ⟨rfl, Or.inl ⟨fun q_z => absurd q_z.1 (by rcases hx with ⟨e_z, _⟩ | ⟨_, e_z⟩; omega; exact e_z), rfl⟩⟩
      · exact ⟨rfl, h0, rfl⟩
  · refine ⟨rfl, ?_⟩
    refine (xa_isSlot).imp ?_
    rintro ⟨r1_z, C_z⟩ ⟨q1_z, x_z, q2_z, hx⟩
    simp only at q1_z q2_z
    subst q1_z
    subst q2_z
    exact ⟨rfl, x_z, hx, rfl⟩
def mSq (A : pm_A) (sl : Int) (r : pm_R) : Prop := (¬ okSd sl (A 31 sl) (fcs A sl) ∧ r = (some (0, 0), A)) ∨ (okSd sl (A 31 sl) (fcs A sl) ∧ msQ A sl (A 31 sl) r)
theorem smq_36 {A : pm_A} {sl : Int} (h : RI A) (ho : okSd sl (A 31 sl) (fcs A sl)) : Tm pmt (an_sh wM) o_X10_seed 36 ([(2, 0), (0, sl), (0, A 31 sl), (9, 0), (9, 0), (9, 0), (9, 0), (9, 0), (9, 0), (9, 0)], [], A) (mSq A sl) := by
  have hs := ho.1
  have b31 := eM_31 h.g (r := 31) (by omega) kn31 (j := sl) (by omega) (by omega)
  have hc_z := ho.2.1
  have h9 := ho.2.2
  have h44 : ∀ B_z, sdF A B_z → B_z 0 12 = A 31 sl - 3 → B_z 0 13 = 0 → (∀ j_z : Int, 0 ≤ j_z → j_z < 72 → B_z 7 j_z = 0) → Tm pmt (an_sh wM) o_X10_seed 44 ([(2, 0), (0, sl), (0, A 31 sl), (9, 0), (9, 0), (9, 0), (9, 0), (9, 0), (9, 0), (9, 0)], [(0, 1)], B_z) (mSq A sl) := fun B_z q3_z q4_z q5_z q6_z => by
    refine wq_ok srt_Mseed (fr := []) (cuts := [48]) (J := fun pc st_z => (pc = 48 ∧ st_z = ([(2, 0), (0, sl), (0, A 31 sl), (0, 1), (0, 0), (9, 0), (9, 0), (9, 0), (9, 0), (9, 0)], [], B_z))) ?_ 8 44 _ ?_
    · rintro pc st_z (⟨rfl, rfl⟩)
      have t_z := sdq_48 h hs (by omega) (by omega) rfl _ 0 (9, 0) (9, 0) (9, 0) (9, 0) (9, 0) B_z (z3 := 1) (Nat.lt_succ_self _) (by omega) (by omega) ⟨⟨q3_z, fun i_z j_z i0_z i1_z j0 j1 => by rw [q6_z (6 * i_z + j_z) (by omega) (by omega)]; exact ⟨by omega, Or.inl rfl⟩⟩, fun k_z k0_z k1_z => by rw [q6_z k_z k0_z k1_z]; rfl, q4_z, q5_z⟩
      obtain ⟨k_z, r_z, c1_z, q_z⟩ := t_z
      exact ⟨k_z, r_z, c1_z, Or.inr ⟨ho, q_z⟩⟩
    · exact ⟨rfl, rfl⟩
  refine wq_ok srt_Mseed (fr := []) (cuts := [44]) (J := fun pc st_z => (pc = 44 ∧ ∃ B_z, sdF A B_z ∧ B_z 0 12 = A 31 sl - 3 ∧ B_z 0 13 = 0 ∧ (∀ j_z : Int, 0 ≤ j_z → j_z < 72 → B_z 7 j_z = 0) ∧ st_z = ([(2, 0), (0, sl), (0, A 31 sl), (9, 0), (9, 0), (9, 0), (9, 0), (9, 0), (9, 0), (9, 0)], [(0, 1)], B_z))) ?_ 10 36 _ ?_
  · rintro pc st_z (⟨rfl, B_z, q3_z, q4_z, q5_z, q6_z, rfl⟩)
    exact h44 B_z q3_z q4_z q5_z q6_z
  · refine ⟨⟨by omega, by omega⟩, ?_⟩
    refine ⟨rM_0 (by omega) km0, ?_⟩
    refine (table_ex h.g (A 31 sl - 3) 0).imp ?_
    rintro ⟨r1_z, B_z⟩ (⟨q1_z, q2_z, q3_z⟩ | ⟨q1_z, q2_z, q3_z, q4_z, q5_z, q6_z⟩)
    · exact absurd (show okT (A 31 sl - 3) 0 from ⟨⟨by omega, by omega⟩, by omega, by omega⟩) q3_z
    · simp only at q1_z q3_z q4_z q5_z q6_z
      subst q1_z
      exact ⟨rfl, B_z, q3_z, q4_z, q5_z, q6_z, rfl⟩
theorem mseed_exq {A : pm_A} {sl : Int} (h : RI A) : Cl pmt (an_sh wM) 183 [(2, 0), (0, sl)] A (mSq A sl) := by
  have c48_z := pM_48 h.g
  have e48 : A (A 0 48) sl = A 31 sl := by rw [c48_z]
  have h8 : sl = 0 ∨ sl = 1 → Tm pmt (an_sh wM) o_X10_seed 8 ([(2, 0), (0, sl), (9, 0), (9, 0), (9, 0), (9, 0), (9, 0), (9, 0), (9, 0), (9, 0)], [], A) (mSq A sl) := fun hs => by
    have b31 := eM_31 h.g (r := 31) (by omega) kn31 (j := sl) (by omega) (by omega)
    refine wq_ok srt_Mseed (fr := []) (cuts := [13]) (J := fun pc st_z => (pc = 13 ∧ ∃ y_z : Int, ((y_z = 1 ∧ cntF (fcs A sl) 100 = A 31 sl - 3) ∨ (y_z = 0 ∧ ¬ cntF (fcs A sl) 100 = A 31 sl - 3)) ∧ st_z = ([(2, 0), (0, sl), (9, 0), (9, 0), (9, 0), (9, 0), (9, 0), (9, 0), (9, 0), (9, 0)], [(0, y_z)], A))) ?_ 7 8 _ ?_
    · rintro pc st_z (⟨rfl, y_z, hy, rfl⟩)
      refine wq_ok srt_Mseed (fr := []) (cuts := [36]) (J := fun pc st_z => (pc = 36 ∧ (¬ y_z = 0) ∧ (¬ (A (A 0 48) sl) = 10) ∧ st_z = ([(2, 0), (0, sl), (0, A (A 0 48) sl), (9, 0), (9, 0), (9, 0), (9, 0), (9, 0), (9, 0), (9, 0)], [], A))) ?_ 17 13 _ ?_
      · rintro pc st_z (⟨rfl, h0, h1, rfl⟩)
        rw [c48_z]
        exact smq_36 h ⟨hs, (by rcases hy with ⟨_, e_z⟩ | ⟨e_z, _⟩; exact e_z; omega), by omega⟩
      · refine ⟨fun h0 => ?_, fun h0 => ?_⟩
        · exact ⟨rfl, Or.inl ⟨fun q_z => absurd q_z.2.1 (by rcases hy with ⟨e_z, _⟩ | ⟨_, e_z⟩; omega; exact e_z), rfl⟩⟩
        · refine ⟨oM_0 (by omega) km0 48 rfl, ?_⟩
          refine ⟨aM_31 (r := A 0 48) (by rw [c48_z]; omega) (by rw [c48_z]; exact kn31) (by omega) (by omega), ?_⟩
          have e1 : A (A 0 48) sl = A 31 sl := by rw [c48_z]
          refine ⟨fun h1 => ?_, fun h1 => ?_⟩
          · refine ⟨oM_0 (by omega) km0 48 rfl, ?_⟩
            refine ⟨aM_31 (r := A 0 48) (by rw [c48_z]; omega) (by rw [c48_z]; exact kn31) (by omega) (by omega), ?_⟩
            have e2 : A (A 0 48) sl = A 31 sl := by rw [c48_z]
            exact ⟨rfl, h0, h1, rfl⟩
          · exact ⟨rfl, Or.inl ⟨fun q_z => by have := q_z.2.2; omega, rfl⟩⟩
    · refine ⟨rM_0 (by omega) km0, ?_⟩
      refine (isCutting_ex h.g (by omega) (by omega)).imp ?_
      rintro ⟨r1_z, C_z⟩ ⟨q1_z, y_z, q2_z, hy⟩
      simp only at q1_z q2_z
      subst q1_z
      subst q2_z
      exact ⟨rfl, y_z, hy, rfl⟩
  refine Cl.of (Nat.le_of_ble_eq_true rfl) ?_
  refine wq_ok (full := o_X10_seed) srt_Mseed (fr := []) (cuts := [5]) (J := fun pc st_z => (pc = 5 ∧ ∃ x_z : Int, ((x_z = 1 ∧ (sl = 0 ∨ sl = 1)) ∨ (x_z = 0 ∧ ¬ (sl = 0 ∨ sl = 1))) ∧ st_z = ([(2, 0), (0, sl), (9, 0), (9, 0), (9, 0), (9, 0), (9, 0), (9, 0), (9, 0), (9, 0)], [(0, x_z)], A))) ?_ 7 0 _ ?_
  · rintro pc st_z (⟨rfl, x_z, hx, rfl⟩)
    refine wq_ok srt_Mseed (fr := []) (cuts := [8]) (J := fun pc st_z => (pc = 8 ∧ (¬ x_z = 0) ∧ st_z = ([(2, 0), (0, sl), (9, 0), (9, 0), (9, 0), (9, 0), (9, 0), (9, 0), (9, 0), (9, 0)], [], A))) ?_ 7 5 _ ?_
    · rintro pc st_z (⟨rfl, h0, rfl⟩)
      exact h8 (by rcases hx with ⟨_, e_z⟩ | ⟨e_z, _⟩; exact e_z; omega)
    · refine ⟨fun h0 => ?_, fun h0 => ?_⟩
      · exact ⟨rfl, Or.inl ⟨fun q_z => absurd q_z.1 (by rcases hx with ⟨e_z, _⟩ | ⟨_, e_z⟩; omega; exact e_z), rfl⟩⟩
      · exact ⟨rfl, h0, rfl⟩
  · refine ⟨rM_0 (by omega) km0, ?_⟩
    refine (MisSlot_ex).imp ?_
    rintro ⟨r1_z, C_z⟩ ⟨q1_z, x_z, q2_z, hx⟩
    simp only at q1_z q2_z
    subst q1_z
    subst q2_z
    exact ⟨rfl, x_z, hx, rfl⟩
theorem dt_table {AX AM : pm_A} {n m : Int} {q r : pm_R} (h : DT AX AM) (hF : gFk wY [300, 301, 10016] AX q.2) (hq : xtQ AX n m q) (hr : tb_post AM n m r) : DT q.2 r.2 ∧ q.1 = r.1 := by
  rcases hq with ⟨rfl, no_z⟩ | ⟨q0, ok_z, q3_z, q4_z, q5_z⟩
  · rcases hr with ⟨r1_z, r2, _⟩ | ⟨_, ok_z, _⟩
    · rw [r2, r1_z]; exact ⟨h, rfl⟩
    · exact absurd ok_z no_z
  · rcases hr with ⟨_, _, no_z⟩ | ⟨r1_z, _, _, r4, r5_z, r6⟩
    · exact absurd ok_z no_z
    · have e2 : q.2 24 2 = 25 := by rw [hF 24 2 (by omega) (by omega) (by rw [kYd 2]; exact nin rfl)]; exact h.2.1
      refine ⟨⟨⟨?_, by rw [q3_z, r4], by rw [q4_z, r5_z]⟩, e2, fun k_z k0_z k1_z => ?_⟩, by rw [q0, r1_z]⟩
      · rw [hF 0 1 (by omega) (by omega) (by rw [(kY 1).1]; exact nin rfl)]; exact h.1.1
      · have := q5_z k_z k0_z k1_z
        rw [h.2.1] at this
        rw [this, r6 k_z k0_z k1_z]
theorem dt_arrows {AX AM : pm_A} {i j v : Int} {q r : pm_R} (h : DT AX AM) (hq : xaQ AX (AX (AX 0 1) 0) (AX (AX 0 1) 1) (AX (AX 0 1) 2) i j v q) (hr : xaQ AM (AM 0 12) (AM 0 13) 7 i j v r) : DT q.2 r.2 ∧ q.1 = r.1 := by
  obtain ⟨⟨h1, h2, h3⟩, h4, h5⟩ := h
  rw [h1, h2, h3, h4] at hq
  rcases hq with ⟨rfl, no_z⟩ | ⟨rfl, ok_z⟩
  · rcases hr with ⟨rfl, _⟩ | ⟨_, ok_z⟩
    · exact ⟨⟨⟨h1, h2, h3⟩, h4, h5⟩, rfl⟩
    · exact absurd ok_z no_z
  · rcases hr with ⟨_, no_z⟩ | ⟨rfl, _⟩
    · exact absurd ok_z no_z
    · refine ⟨⟨⟨?_, ?_, ?_⟩, ?_, fun k_z k0_z k1_z => ?_⟩, rfl⟩
      · show pm_upd AX 25 (6 * i + j) v 0 1 = 24
        rw [upd_o (by omega)]; exact h1
      · show pm_upd AX 25 (6 * i + j) v 24 0 = pm_upd AM 7 (6 * i + j) v 0 12
        rw [upd_o (by omega), upd_o (by omega)]; exact h2
      · show pm_upd AX 25 (6 * i + j) v 24 1 = pm_upd AM 7 (6 * i + j) v 0 13
        rw [upd_o (by omega), upd_o (by omega)]; exact h3
      · show pm_upd AX 25 (6 * i + j) v 24 2 = 25
        rw [upd_o (by omega)]; exact h4
      · show pm_upd AX 25 (6 * i + j) v 25 k_z = pm_upd AM 7 (6 * i + j) v 7 k_z
        by_cases e_z : k_z = 6 * i + j
        · rw [e_z, upd_at, upd_at]
        · rw [upd_o (by omega), upd_o (by omega)]; exact h5 k_z k0_z k1_z
theorem DT.b9 {AX AM : pm_A} (h : DT AX AM) (hM : RI AM) : b9t AX 24 := fun j_z j0 j1 => by
  rw [h.2.1, h.2.2 j_z j0 j1]; exact hM.2.1.1 j_z j0 j1
theorem dt_begin {AX AM : pm_A} {q r : pm_R} (h : DT AX AM) (hM : RI AM) (hq : xbP AX q) (hr : bz_post AM r) : q.1 = r.1 := by
  obtain ⟨x_z, q1_z, q2_z⟩ := hq
  obtain ⟨_, y_z, r1_z, r2, _⟩ := hr
  have p12 := fM_0_12 hM.g (r := 0) (by omega) km0
  rw [h.1.2.1, h.2.1] at q2_z
  have := bgA_one (bgA_c p12.2 h.2.2 q2_z) r2
  rw [q1_z, r1_z, this]
theorem ts_9 {A : pm_A} {sl : Int} (h : RI A) (ho : okSd sl (A 31 sl) (fcs A sl)) : ∀ k_z : Int, 0 ≤ k_z → k_z < 72 → -9 ≤ tsum (ctr (A 31 sl) (fcs A sl)) 1000 k_z ∧ tsum (ctr (A 31 sl) (fcs A sl)) 1000 k_z ≤ 9 := by
  obtain ⟨_, r_z, _, q_z⟩ := mseed_exq h (sl := sl)
  rcases q_z with ⟨no_z, _⟩ | ⟨_, _, B_z, x_z, _, _, q1_z, q2_z, _⟩
  · exact absurd ho no_z
  · intro k_z k0_z k1_z
    rw [← q1_z k_z k0_z k1_z]; exact q2_z k_z k0_z k1_z
theorem dt_seed {AX AM : pm_A} {s : Int} {q r : pm_R} {ms : List Nat} (h : DT AX AM) (hM : RI AM) (hF : gFk wY ms AX q.2) (n1 : ms.contains 1 = false) (n2 : ms.contains 302 = false) (hq : xsQ AX s (AM 31 s) (fcs AM s) q) (hr : mSq AM s r) : DT q.2 r.2 ∧ q.1 = r.1 := by
  rcases hq with ⟨no_z, rfl⟩ | ⟨ok_z, x_z, q1_z, q2_z, q3_z, q4_z, q5_z⟩
  · rcases hr with ⟨_, rfl⟩ | ⟨ok_z, _⟩
    · exact ⟨h, rfl⟩
    · exact absurd ok_z no_z
  · rcases hr with ⟨no_z, _⟩ | ⟨_, r0, B_z, y_z, r1_z, r2, r3, r4, hb_z, r5_z, r6, r7, r8⟩
    · exact absurd ok_z no_z
    · have e2 : q.2 24 2 = 25 := by rw [hF 24 2 (by omega) (by omega) (by rw [kYd 2]; exact nin n2)]; exact h.2.1
      have e1 : q.2 0 1 = 24 := by rw [hF 0 1 (by omega) (by omega) (by rw [(kY 1).1]; exact nin n1)]; exact h.1.1
      have hn := ok_z.2.2
      have hn4 : 1 ≤ AM 31 s - 3 := by have := (hM.2.2 s ok_z.1).1; omega
      have hx : bgA (B_z 0 12) (B_z 7) x_z := by
        rw [hb_z.1]
        refine bgA_c (T := tsum (ctr (AM 31 s) (fcs AM s)) 1000) (by omega) (fun k_z k0_z k1_z => (r3 k_z k0_z k1_z).symm) ?_
        exact Or.inr ⟨hn4, q1_z⟩
      have := bgA_one hx r5_z
      refine ⟨⟨⟨e1, by rw [q3_z, r7.1, hb_z.1], by rw [q4_z, r7.2.1, hb_z.2]⟩, e2, fun k_z k0_z k1_z => by rw [q5_z k_z k0_z k1_z, r7.2.2 k_z k0_z, r3 k_z k0_z k1_z]⟩, by rw [q2_z, r6, this]⟩
end

section
/-! too many terms, or too great a number: by the numbers of the terms -/
def BigC (f : cr_Xp 12 → Int) : Prop := (∃ c_z, 1000000000000 < f c_z) ∨ ∃ l : List (cr_Xp 12), l.Nodup ∧ 200 < l.length ∧ ∀ a_z ∈ l, 1 ≤ f a_z
theorem BigC.mono {f g : cr_Xp 12 → Int} (h : BigC f) (hl : ∀ a_z, f a_z ≤ g a_z) : BigC g := by
  rcases h with ⟨c_z, hc_z⟩ | ⟨l, h1, h2, h3⟩
  · exact Or.inl ⟨c_z, Int.lt_of_lt_of_le hc_z (hl c_z)⟩
  · exact Or.inr ⟨l, h1, h2, fun a_z ha_z => Int.le_trans (h3 a_z ha_z) (hl a_z)⟩
theorem nodup_in {α : Type} : ∀ (l m_z : List α), l.Nodup → (∀ a_z ∈ l, a_z ∈ m_z) → l.length ≤ m_z.length
  | [], m_z, _, _ => Nat.zero_le _
  | a_z :: t_z, m_z, hn, hs => by
    obtain ⟨s_z, u_z, rfl⟩ := List.append_of_mem (hs a_z (List.Mem.head _))
    have hn2 := List.nodup_cons.1 hn
    have := nodup_in t_z (s_z ++ u_z) hn2.2 (fun b_z hb_z => by
      have h1 := hs b_z (List.Mem.tail _ hb_z)
      rcases List.mem_append.1 h1 with h_z | h_z
      · exact List.mem_append.2 (Or.inl h_z)
      · rcases List.mem_cons.1 h_z with h_z | h_z
        · exact absurd (h_z ▸ hb_z) hn2.1
        · exact List.mem_append.2 (Or.inr h_z))
    rw [List.length_append] at this ⊢
    rw [List.length_cons, List.length_cons]
    omega
theorem not_big {l : cr_Pl_ 12} (h : cr_Shr l) (h1 : ∀ y_z ∈ l, y_z.1 ≤ 1000000000000) (h2 : l.length ≤ 200) : ¬ BigC (cr_co l) := by
  rintro (⟨c_z, hc_z⟩ | ⟨m_z, m1_z, m2_z, m3_z⟩)
  · obtain ⟨y_z, hy, e_z⟩ := cr_co_mem (l := l) (a := c_z) (by omega)
    rw [← e_z, cr_Shr.at h hy] at hc_z
    have := h1 y_z hy
    omega
  · have := nodup_in m_z (l.map (fun y_z => y_z.2)) m1_z (fun a_z ha_z => by
      have h3 := m3_z a_z ha_z
      obtain ⟨y_z, hy, e_z⟩ := cr_co_mem (l := l) (a := a_z) (by omega)
      exact List.mem_map.2 ⟨y_z, hy, e_z⟩)
    rw [List.length_map] at this
    omega
theorem shr_nd {l : cr_Pl_ 12} (h : cr_Shr l) : (l.map (fun y_z => y_z.2)).Nodup :=
  List.Pairwise.map (fun y_z : Int × cr_Xp 12 => y_z.2) (fun a_z b_z hab e_z => by rw [e_z] at hab; exact cr_Gt.irrefl _ hab) h.1
theorem si_nn {c : Int} (hc : 0 ≤ c) (b a : cr_Xp 12) : 0 ≤ si (c, b) a := by
  unfold si
  by_cases e_z : b = a
  · rw [if_pos e_z]; exact hc
  · rw [if_neg e_z]; exact Int.le_refl 0
theorem si_at (c : Int) (b : cr_Xp 12) : si (c, b) b = c := by
  unfold si
  rw [if_pos rfl]
theorem big_add {l : cr_Pl_ 12} (h : cr_Shr l) (hl : 200 ≤ l.length) {c : Int} (hc : 1 ≤ c) {b : cr_Xp 12} (hb : ∀ y_z ∈ l, y_z.2 ≠ b) : BigC (fun a_z => cr_co l a_z + si (c, b) a_z) := by
  refine Or.inr ⟨b :: l.map (fun y_z => y_z.2), List.nodup_cons.2 ⟨fun hm_z => ?_, shr_nd h⟩, ?_, fun a_z ha_z => ?_⟩
  · obtain ⟨y_z, hy, e_z⟩ := List.mem_map.1 hm_z
    exact hb y_z hy e_z
  · rw [List.length_cons, List.length_map]; omega
  · show 1 ≤ cr_co l a_z + si (c, b) a_z
    rcases List.mem_cons.1 ha_z with e_z | e_z
    · have := cr_Shr.nonneg h.2 a_z
      rw [e_z, si_at]
      rw [e_z] at this
      omega
    · obtain ⟨y_z, hy, e_z⟩ := List.mem_map.1 e_z
      have h1 := cr_co_pos h.2 hy
      rw [e_z] at h1
      have h2 := si_nn (show 0 ≤ c by omega) b a_z
      omega
theorem co_ge_aux {L : cr_Pl_ 12} (hL : ∀ y_z ∈ L, 0 < y_z.1) {y0 : Int × cr_Xp 12} (hy : y0 ∈ L) (a b : cr_Xp 12) (hb : ∀ i_z, b i_z = a i_z + y0.2 i_z) : ∀ l : cr_Pl_ 12, (∀ y_z ∈ l, 0 < y_z.1) → cr_co l a ≤ (l.map fun y_z => y_z.1 * cr_co L (fun i_z => b i_z - y_z.2 i_z)).sum
  | [], _ => Int.le_refl 0
  | y_z :: l, hl => by
    have ih_z := co_ge_aux hL hy a b hb l (fun z_z hz => hl z_z (List.Mem.tail _ hz))
    rw [cr_co_cons, List.map_cons, List.sum_cons]
    have hp := hl y_z (List.Mem.head _)
    have hn := cr_Shr.nonneg hL (fun i_z => b i_z - y_z.2 i_z)
    by_cases e_z : y_z.2 = a
    · rw [if_pos e_z]
      have e2 : (fun i_z => b i_z - y_z.2 i_z) = y0.2 := funext fun i_z => by rw [e_z, hb i_z]; omega
      have h1 := cr_co_pos hL hy
      rw [e2]
      have := Int.mul_le_mul_of_nonneg_left (show 1 ≤ cr_co L y0.2 by omega) (show 0 ≤ y_z.1 by omega)
      omega
    · rw [if_neg e_z]
      have := Int.mul_nonneg (show 0 ≤ y_z.1 by omega) hn
      omega
theorem co_pmz_ge {l L : cr_Pl_ 12} (hl : ∀ y_z ∈ l, 0 < y_z.1) (hL : ∀ y_z ∈ L, 0 < y_z.1) {y0 : Int × cr_Xp 12} (hy : y0 ∈ L) (a b : cr_Xp 12) (hb : ∀ i_z, b i_z = a i_z + y0.2 i_z) : cr_co l a ≤ cr_co (cr_pmz l L) b := by
  rw [cr_co_pmz]
  exact co_ge_aux hL hy a b hb l hl
theorem pmz_pos {l L : cr_Pl_ 12} (hl : ∀ y_z ∈ l, 0 < y_z.1) (hL : ∀ y_z ∈ L, 0 < y_z.1) : ∀ y_z ∈ cr_pmz l L, 0 < y_z.1 := fun y_z hy => by
  obtain ⟨a_z, ha_z, h_z⟩ := List.mem_flatMap.1 hy
  obtain ⟨b_z, hb_z, e_z⟩ := List.mem_map.1 h_z
  rw [← e_z]
  exact Int.mul_pos (hl a_z ha_z) (hL b_z hb_z)
theorem BigC.pmz {l L : cr_Pl_ 12} (hl : ∀ y_z ∈ l, 0 < y_z.1) (hL : ∀ y_z ∈ L, 0 < y_z.1) (hne : L ≠ []) (h : BigC (cr_co l)) : BigC (cr_co (cr_pmz l L)) := by
  obtain ⟨y0, hy⟩ := List.exists_mem_of_ne_nil L hne
  rcases h with ⟨c_z, hc_z⟩ | ⟨m_z, m1_z, m2_z, m3_z⟩
  · exact Or.inl ⟨fun i_z => c_z i_z + y0.2 i_z, Int.lt_of_lt_of_le hc_z (co_pmz_ge hl hL hy c_z _ (fun i_z => rfl))⟩
  · refine Or.inr ⟨m_z.map (fun a_z => fun i_z => a_z i_z + y0.2 i_z), List.Pairwise.map _ (fun a_z b_z hab e_z => hab (funext fun i_z => by
      have h5 : a_z i_z + y0.2 i_z = b_z i_z + y0.2 i_z := congrFun e_z i_z
      omega)) m1_z, by rw [List.length_map]; exact m2_z, fun a_z ha_z => ?_⟩
    obtain ⟨b_z, hb_z, e_z⟩ := List.mem_map.1 ha_z
    have h1 := co_pmz_ge hl hL hy b_z a_z (fun i_z => by rw [← e_z])
    have h2 := m3_z b_z hb_z
    omega
theorem pmz_in {l L : cr_Pl_ 12} {y z : Int × cr_Xp 12} (hy : y ∈ l) (hz : z ∈ L) : (y.1 * z.1, fun i_z => y.2 i_z + z.2 i_z) ∈ cr_pmz l L :=
  List.mem_flatMap.2 ⟨y, hy, List.mem_map.2 ⟨z, hz, rfl⟩⟩
theorem gt_addl {a b : cr_Xp 12} (h : cr_Gt a b) (c : cr_Xp 12) : cr_Gt (fun i_z => c i_z + a i_z) (fun i_z => c i_z + b i_z) := by
  have := cr_Gt.add h c
  have e1 : (fun i_z => a i_z + c i_z) = (fun i_z => c i_z + a i_z) := funext fun i_z => Int.add_comm _ _
  have e2 : (fun i_z => b i_z + c i_z) = (fun i_z => c i_z + b i_z) := funext fun i_z => Int.add_comm _ _
  rw [e1, e2] at this
  exact this
theorem BigC.len {l L : cr_Pl_ 12} (h : cr_Shr l) (H : cr_Shr L) (hlen : 201 < l.length + L.length) (h1 : l ≠ []) (h2 : L ≠ []) : BigC (cr_co (cr_pmz l L)) := by
  match l, h1, h with
  | y0 :: t_z, _, h =>
    have hz := List.getLast_mem h2
    have hlast : ∀ z_z ∈ L, z_z = L.getLast h2 ∨ cr_Gt z_z.2 (L.getLast h2).2 := fun z_z hz1 => by
      have e_z := List.dropLast_concat_getLast h2
      rw [← e_z] at hz1
      rcases List.mem_append.1 hz1 with q_z | q_z
      · have hp := H.1
        rw [← e_z] at hp
        exact Or.inr ((List.pairwise_append.1 hp).2.2 z_z q_z _ (List.Mem.head _))
      · rcases List.mem_cons.1 q_z with q_z | q_z
        · exact Or.inl q_z
        · cases q_z
    generalize L.getLast h2 = zl at hz hlast
    have hc_z := List.pairwise_cons.1 h.1
    refine Or.inr ⟨L.map (fun z_z => fun i_z => y0.2 i_z + z_z.2 i_z) ++ t_z.map (fun y_z => fun i_z => y_z.2 i_z + zl.2 i_z), List.nodup_append.2 ⟨?_, ?_, ?_⟩, ?_, fun a_z ha_z => ?_⟩
    · exact List.Pairwise.map _ (fun a_z b_z hab e_z => by
        have h3 := gt_addl hab y0.2
        rw [e_z] at h3
        exact cr_Gt.irrefl _ h3) H.1
    · exact List.Pairwise.map _ (fun a_z b_z hab e_z => by
        have h3 := cr_Gt.add hab zl.2
        rw [e_z] at h3
        exact cr_Gt.irrefl _ h3) hc_z.2
    · intro a_z ha_z b_z hb_z e_z
      obtain ⟨z_z, hz1, e1⟩ := List.mem_map.1 ha_z
      obtain ⟨y_z, hy1, e2⟩ := List.mem_map.1 hb_z
      have g1 : cr_Gt (fun i_z => y0.2 i_z + zl.2 i_z) (fun i_z => y_z.2 i_z + zl.2 i_z) := cr_Gt.add (hc_z.1 y_z hy1) zl.2
      have g2 : cr_Gt (fun i_z => y0.2 i_z + z_z.2 i_z) (fun i_z => y_z.2 i_z + zl.2 i_z) := by
        rcases hlast z_z hz1 with q_z | q_z
        · rw [q_z]; exact g1
        · exact cr_Gt.trans (gt_addl q_z y0.2) g1
      rw [e1, e2, e_z] at g2
      exact cr_Gt.irrefl _ g2
    · rw [List.length_append, List.length_map, List.length_map]
      rw [List.length_cons] at hlen
      omega
    · have hpos := pmz_pos h.2 H.2
      rcases List.mem_append.1 ha_z with q_z | q_z
      · obtain ⟨z_z, hz1, e1⟩ := List.mem_map.1 q_z
        have := cr_co_pos hpos (pmz_in (List.Mem.head t_z) hz1)
        rw [← e1]
        exact this
      · obtain ⟨y_z, hy1, e1⟩ := List.mem_map.1 q_z
        have := cr_co_pos hpos (pmz_in (List.Mem.tail y0 hy1) hz)
        rw [← e1]
        exact this
end

section
/-! the reference's add and times: spent means too much -/
theorem shr_pos {A : pm_A} {s : Int} (h1 : srtd A s) (h2 : ∀ q_z : Int, 0 ≤ q_z → q_z < A 1 s → 1 ≤ A 2 (200 * s + q_z)) : cr_Shr (LSm A s) := by
  refine ⟨?_, fun y_z hy => ?_⟩
  · unfold LSm
    rw [List.pairwise_map]
    refine List.Pairwise.imp_of_mem ?_ (List.pairwise_lt_range (n := (A 1 s).toNat))
    intro i_z j_z hi_z hj hij
    exact h1 i_z j_z (by omega) (by omega) (by have := List.mem_range.1 hj; omega)
  · obtain ⟨q_z, q0, q1_z, rfl⟩ := mem_LSm hy
    have := h2 q_z q0 q1_z
    show 0 < A 2 (200 * s + q_z)
    omega
def adq_post (A : pm_A) (s : Int) (r : pm_R) : Prop := r.1 = none ∧ adF A r.2 s ∧ ((r.2 0 4 = 1 ∧ BigC (fun a_z => cr_co (LSm A s) a_z + si (A 0 5, xp A) a_z)) ∨ (r.2 0 4 = 0 ∧ srtd r.2 s ∧ cfs r.2 s ∧ ∀ a_z, cr_co (LSm r.2 s) a_z = cr_co (LSm A s) a_z + si (A 0 5, xp A) a_z))
theorem pt_none {A : pm_A} {s t : Int} (hs : srtd A s) (ht : ptI A s t) (hne : t < A 1 s → xe A s t ≠ xp A) : ∀ y_z ∈ LSm A s, y_z.2 ≠ xp A := fun y_z hy e_z => by
  obtain ⟨q_z, q0, q1_z, rfl⟩ := mem_LSm hy
  have e_z : xe A s q_z = xp A := e_z
  obtain ⟨⟨t0_z, t1_z⟩, t2_z, t3_z⟩ := ht
  by_cases a_z : q_z < t
  · have := t2_z q_z q0 a_z
    rw [e_z] at this
    exact cr_Gt.irrefl _ this
  · by_cases b_z : q_z = t
    · rw [b_z] at e_z q1_z
      exact hne q1_z e_z
    · have := hs t q_z t0_z (by omega) q1_z
      rw [e_z] at this
      exact t3_z t (by omega) (by omega) this
theorem aq_226 {A B : pm_A} {s t : Int} (hs : 0 ≤ s ∧ s ≤ 151) (t0 : 0 ≤ t) (t1 : t < B 1 s) (hF : adF A B s) (h4 : B 0 4 = 0) (h1 : srtd B s) (h2 : ∀ q_z : Int, 0 ≤ q_z → q_z < B 1 s → 1 ≤ B 2 (200 * s + q_z) ∧ (q_z ≠ t → B 2 (200 * s + q_z) ≤ 1000000000000)) (h3 : ∀ a_z, cr_co (LSm B s) a_z = cr_co (LSm A s) a_z + si (A 0 5, xp A) a_z) (v3 v4 : pm_V) : Tm pmt (an_sh wM) o_X10_add 226 ([(2, 0), (0, s), (0, t), v3, v4], [], B) (adq_post A s) := by
  have c2_z := pM_2 hF.1
  have m1_z := eM_1 hF.1 (r := 1) (by omega) kn1 hs.1 (show s < 152 by omega)
  have hgood : B 2 (200 * s + t) ≤ 1000000000000 → adq_post A s (none, B) := fun hle => ⟨rfl, hF, Or.inr ⟨h4, h1, fun q_z q0 q1_z => ⟨(h2 q_z q0 q1_z).1, by
    by_cases e_z : q_z = t
    · rw [e_z]; exact hle
    · exact (h2 q_z q0 q1_z).2 e_z⟩, h3⟩⟩
  have hbig : 1000000000000 < B 2 (200 * s + t) → BigC (fun a_z => cr_co (LSm A s) a_z + si (A 0 5, xp A) a_z) := fun hb_z => by
    refine Or.inl ⟨xe B s t, ?_⟩
    show 1000000000000 < cr_co (LSm A s) (xe B s t) + si (A 0 5, xp A) (xe B s t)
    rw [← h3, cr_Shr.at (shr_pos h1 (fun q_z q0 q1_z => (h2 q_z q0 q1_z).1)) (in_LSm t0 t1)]
    exact hb_z
  refine wq_ok srt_Madd (fr := []) (cuts := []) (J := fun _ _ => False) ?_ 19 226 _ ?_
  · intro pc st_z h_z; exact h_z.elim
  · refine ⟨oM_0 (by omega) km0 2 rfl, ?_⟩
    refine ⟨⟨by omega, by omega⟩, ?_⟩
    refine ⟨⟨by omega, by omega⟩, ?_⟩
    refine ⟨aM_2 (r := B 0 2) (by rw [c2_z]; omega) (by rw [c2_z]; exact kn2) (by omega) (by omega), ?_⟩
    have e1 : B (B 0 2) ((200 * s) + t) = B 2 ((200 * s) + t) := by rw [c2_z]
    refine ⟨fun h0 => ?_, fun h0 => ?_, fun h0 => ?_⟩
    · refine ⟨fun hh => absurd hh (by decide), fun _ => ?_⟩
      refine ⟨oM_0 (by omega) km0 4 rfl, ?_⟩
      exact ⟨rfl, ⟨uM_0_4 hF.1 (by omega) (by omega), fun r_z j_z hr h4 => (show pm_upd B 0 4 1 r_z j_z = A r_z j_z by rw [upd_o (fun e_z => h4 ⟨e_z.1, e_z.2⟩)]; exact hF.2 r_z j_z hr h4)⟩, Or.inl ⟨(show pm_upd B 0 4 1 0 4 = 1 from upd_at), hbig (by omega)⟩⟩
    · refine ⟨fun _ => ?_, fun hh => absurd hh (by decide)⟩
      exact hgood (by omega)
    · refine ⟨fun _ => ?_, fun hh => absurd hh (by decide)⟩
      exact hgood (by omega)
theorem aq_ins {A B : pm_A} {s t : Int} (hA : adH A s) (m2 : A 1 s ≤ 199) (ht : ptI A s t) (hne : t < A 1 s → xe A s t ≠ xp A) (hB : niI A B s t 12) (v3 v4 : pm_V) : Tm pmt (an_sh wM) o_X10_add 226 ([(2, 0), (0, s), (0, t), v3, v4], [], B) (adq_post A s) := by
  obtain ⟨hA1, hs, hsr, hcf, hnum, hsp⟩ := hA
  obtain ⟨⟨t0_z, t1_z⟩, ht2, ht3⟩ := ht
  obtain ⟨g1, g2, g3_z, g4, g5_z, g6, g7⟩ := hB
  have m1_z := eM_1 hA1 (r := 1) (by omega) kn1 hs.1 (show s < 152 by omega)
  have xlt : ∀ q_z : Int, 0 ≤ q_z → q_z < t → xe B s q_z = xe A s q_z := fun q_z q0 q1_z => funext fun v_z => (g4 q_z v_z.1 q0 q1_z (by omega) (by have := v_z.2; omega)).2
  have xeq : xe B s t = xp A := funext fun v_z => g7 v_z.1 (by omega) (by have := v_z.2; omega)
  have xgt : ∀ q_z : Int, t < q_z → q_z ≤ A 1 s → xe B s q_z = xe A s (q_z - 1) := fun q_z q0 q1_z => funext fun v_z => by
    have := (g5_z q_z v_z.1 q0 q1_z (by omega) (by have := v_z.2; omega)).2
    show B 3 (12 * (200 * s + q_z) + (v_z.1 : Int)) = A 3 (12 * (200 * s + (q_z - 1)) + (v_z.1 : Int))
    rw [this]
    congr 1
    omega
  have hafter : ∀ q_z : Int, t ≤ q_z → q_z < A 1 s → cr_Gt (xp A) (xe A s q_z) := fun q_z q0 q1_z => by
    have h1 : cr_Gt (xp A) (xe A s t) := by
      rcases cr_Gt.total (xp A) (xe A s t) with e_z | e_z | e_z
      · exact absurd e_z.symm (hne (by omega))
      · exact e_z
      · exact absurd e_z (ht3 t (by omega) (by omega))
    by_cases e_z : q_z = t
    · rw [e_z]; exact h1
    · exact h1.trans (hsr t q_z t0_z (by omega) q1_z)
  refine aq_226 hs t0_z (by omega) ⟨g1, fun r_z j_z hr _ => g2 r_z j_z hr⟩ (by rw [g2 0 4 (by unfold inS; omega)]; exact hsp) ?_ ?_ ?_ v3 v4
  · intro q_z q' q0 hq hq'
    by_cases a1_z : q' < t
    · rw [xlt q_z q0 (by omega), xlt q' (by omega) a1_z]; exact hsr q_z q' q0 hq (by omega)
    · by_cases a2 : q' = t
      · rw [a2, xeq, xlt q_z q0 (by omega)]; exact ht2 q_z q0 (by omega)
      · rw [xgt q' (by omega) (by omega)]
        by_cases b1 : q_z < t
        · rw [xlt q_z q0 b1]
          exact hsr q_z (q' - 1) q0 (by omega) (by omega)
        · by_cases b2 : q_z = t
          · rw [b2, xeq]; exact hafter (q' - 1) (by omega) (by omega)
          · rw [xgt q_z (by omega) (by omega)]; exact hsr (q_z - 1) (q' - 1) (by omega) (by omega) (by omega)
  · intro q_z q0 q1_z
    by_cases a1_z : q_z < t
    · rw [(g4 q_z 0 q0 a1_z (by omega) (by omega)).1]; have := hcf q_z q0 (by omega); exact ⟨this.1, fun _ => this.2⟩
    · by_cases a2 : q_z = t
      · rw [a2, g6]; exact ⟨hnum.1, fun e_z => absurd rfl e_z⟩
      · rw [(g5_z q_z 0 (by omega) (by omega) (by omega) (by omega)).1, show 200 * s + q_z - 1 = 200 * s + (q_z - 1) by omega]; have := hcf (q_z - 1) (by omega) (by omega); exact ⟨this.1, fun _ => this.2⟩
  · intro a_z
    rw [LSm_lsf, LSm_lsf, g3_z, show (A 1 s + 1).toNat = (A 1 s).toNat + 1 by omega]
    refine co_insert (t := t.toNat) ?_ (fun q_z hq => ?_) a_z _ (by omega) (fun q_z q0 q1_z => ?_)
    · refine Prod.ext ?_ ?_
      · show B 2 (200 * s + ((t.toNat : Nat) : Int)) = A 0 5
        rw [Int.toNat_of_nonneg t0_z]; exact g6
      · show xe B s ((t.toNat : Nat) : Int) = xp A
        rw [Int.toNat_of_nonneg t0_z]; exact xeq
    · exact Prod.ext (g4 q_z 0 (by omega) (by omega) (by omega) (by omega)).1 (xlt q_z (by omega) (by omega))
    · refine Prod.ext ?_ ?_
      · show B 2 (200 * s + ((q_z + 1 : Nat) : Int)) = A 2 (200 * s + (q_z : Int))
        rw [(g5_z ((q_z + 1 : Nat) : Int) 0 (by omega) (by omega) (by omega) (by omega)).1]
        congr 1
        omega
      · show xe B s ((q_z + 1 : Nat) : Int) = xe A s (q_z : Int)
        rw [xgt ((q_z + 1 : Nat) : Int) (by omega) (by omega)]
        congr 1
        omega
theorem aq_72 {A : pm_A} {s t : Int} (hA : adH A s) (m2 : A 1 s ≤ 199) (ht : ptI A s t) (hne : t < A 1 s → xe A s t ≠ xp A) : ∀ (n_z : Nat) (k_z : Int) (v4_z : pm_V) (B_z : pm_A), (k_z - t).toNat < n_z → t ≤ k_z → k_z ≤ A 1 s → shI A B_z s k_z → Tm pmt (an_sh wM) o_X10_add 72 ([(2, 0), (0, s), (0, t), (0, k_z), v4_z], [], B_z) (adq_post A s) := by
  have hA0 := hA
  have ht0 := ht
  obtain ⟨hA1, hs, hsr, hcf, hnum, hsp⟩ := hA
  obtain ⟨⟨t0_z, t1_z⟩, ht2, ht3⟩ := ht
  intro n_z
  induction n_z with
  | zero => intro k_z v4_z B_z h_z; omega
  | succ n_z ih_z =>
    intro k_z v4_z B_z hn k0_z k1_z hI
    obtain ⟨g1, g2, g3_z, g4, g5_z⟩ := hI
    have c1_z := pM_1 g1
    have c2_z := pM_2 g1
    have c2' : pm_upd B_z (B_z 0 1) s (B_z (B_z 0 1) s + 1) 0 2 = 2 := by rw [c1_z, upd_o (by omega)]; exact c2_z
    have n5_z : pm_upd B_z (B_z 0 1) s (B_z (B_z 0 1) s + 1) 0 5 = A 0 5 := by rw [c1_z, upd_o (by omega)]; exact g2 0 5 (by unfold inS; omega)
    have m1_z := eM_1 g1 (r := 1) (by omega) kn1 hs.1 (show s < 152 by omega)
    refine wq_ok srt_Madd (fr := []) (cuts := [106, 191]) (J := fun pc st_z => (pc = 191 ∧ (k_z ≤ t) ∧ st_z = ([(2, 0), (0, s), (0, t), (0, 0), v4_z], [], pm_upd (pm_upd B_z (B_z 0 1) s ((B_z (B_z 0 1) s) + 1)) ((pm_upd B_z (B_z 0 1) s ((B_z (B_z 0 1) s) + 1)) 0 2) ((200 * s) + t) ((pm_upd B_z (B_z 0 1) s ((B_z (B_z 0 1) s) + 1)) 0 5))) ∨ (pc = 106 ∧ (t < k_z) ∧ st_z = ([(2, 0), (0, s), (0, t), (0, k_z), (0, 0)], [], pm_upd B_z (B_z 0 2) ((200 * s) + k_z) (B_z (B_z 0 2) (((200 * s) + k_z) - 1))))) ?_ 28 72 _ ?_
    · rintro pc st_z (⟨rfl, h0, rfl⟩ | ⟨rfl, h0, rfl⟩)
      · rw [n5_z, c2', c1_z]
        have hk : k_z = t := by omega
        refine ad_191 hs t0_z t1_z m2 (fun C_z v3 hC => aq_ins hA0 m2 ht0 hne hC v3 v4_z) _ 0 _ (Nat.lt_succ_self _) (by omega) (by omega) ⟨uM_2 (uM_1 g1 kn1 (by omega) (by omega)) kn2 (by omega) (by omega), fun r_z j_z hr => ?_, ?_, fun q_z v_z q0 q1_z v0_z v1_z => ?_, fun q_z v_z q0 q1_z v0_z v1_z => ?_, ?_, fun v_z v0_z v1_z => by omega⟩
        · rw [upd_o (fun e_z => hr (by unfold inS; omega)), upd_o (fun e_z => hr (by unfold inS; omega))]; exact g2 r_z j_z hr
        · rw [upd_o (by omega), upd_at, g3_z]
        · rw [upd_o (by omega), upd_o (by omega), upd_o (by omega), upd_o (by omega)]; exact g4 q_z v_z q0 (by omega) (by omega) v0_z v1_z
        · rw [upd_o (by omega), upd_o (by omega), upd_o (by omega), upd_o (by omega)]; exact g5_z q_z v_z (by omega) q1_z v0_z v1_z
        · rw [upd_at]
      · rw [c2_z]
        have b2 := eM_2 g1 (r := 2) (by omega) kn2 (j := 200 * s + k_z - 1) (by omega) (by omega)
        refine ad_106 hs (by omega) k1_z (by omega) (fun C_z v4_z hC => ih_z (k_z - 1) v4_z C_z (by omega) (by omega) (by omega) hC) _ 0 _ (Nat.lt_succ_self _) (by omega) (by omega) ⟨uM_2 g1 kn2 b2.1 b2.2, fun r_z j_z hr => ?_, ?_, fun q_z v_z q0 q1_z q2_z v0_z v1_z => ?_, fun q_z v_z q0 q1_z v0_z v1_z => ?_, ?_, fun v_z v0_z v1_z => by omega⟩
        · rw [upd_o (fun e_z => hr (by unfold inS; omega))]; exact g2 r_z j_z hr
        · rw [upd_o (by omega)]; exact g3_z
        · rw [upd_o (by omega), upd_o (by omega)]; exact g4 q_z v_z q0 (by omega) q2_z v0_z v1_z
        · rw [upd_o (by omega), upd_o (by omega)]; exact g5_z q_z v_z q0 q1_z v0_z v1_z
        · rw [upd_at]; have := (g4 (k_z - 1) 0 (by omega) (by omega) (by omega) (by omega) (by omega)).1; rw [show 200 * s + (k_z - 1) = 200 * s + k_z - 1 by omega] at this; exact this
    · refine ⟨fun h0 => ?_, fun h0 => ?_⟩
      · refine ⟨oM_0 (by omega) km0 1 rfl, ?_⟩
        refine ⟨aM_1 (r := B_z 0 1) (by rw [c1_z]; omega) (by rw [c1_z]; exact kn1) (by omega) (by omega), ?_⟩
        have e1 : B_z (B_z 0 1) s = B_z 1 s := by rw [c1_z]
        refine ⟨⟨by omega, by omega⟩, ?_⟩
        refine ⟨tM_1 (r := B_z 0 1) (by rw [c1_z]; omega) (by rw [c1_z]; exact kn1) (by omega) (by omega) rfl, ?_⟩
        refine ⟨oM_0 (by omega) km0 2 rfl, ?_⟩
        refine ⟨⟨by omega, by omega⟩, ?_⟩
        refine ⟨⟨by omega, by omega⟩, ?_⟩
        refine ⟨oM_0 (by omega) km0 5 rfl, ?_⟩
        refine ⟨tM_2 (r := (pm_upd B_z (B_z 0 1) s ((B_z (B_z 0 1) s) + 1)) 0 2) (by first | rw [c2_z]; omega | rw [c2']; omega) (by first | rw [c2_z]; exact kn2 | rw [c2']; exact kn2) (by omega) (by omega) rfl, ?_⟩
        exact Or.inl (⟨rfl, h0, rfl⟩)
      · refine ⟨oM_0 (by omega) km0 2 rfl, ?_⟩
        refine ⟨⟨by omega, by omega⟩, ?_⟩
        refine ⟨⟨by omega, by omega⟩, ?_⟩
        refine ⟨oM_0 (by omega) km0 2 rfl, ?_⟩
        refine ⟨⟨by omega, by omega⟩, ?_⟩
        refine ⟨⟨by omega, by omega⟩, ?_⟩
        refine ⟨⟨by omega, by omega⟩, ?_⟩
        refine ⟨aM_2 (r := B_z 0 2) (by first | rw [c2_z]; omega | rw [c2']; omega) (by first | rw [c2_z]; exact kn2 | rw [c2']; exact kn2) (by omega) (by omega), ?_⟩
        have e2 : B_z (B_z 0 2) (((200 * s) + k_z) - 1) = B_z 2 (((200 * s) + k_z) - 1) := by rw [c2_z]
        refine ⟨tM_2 (r := B_z 0 2) (by first | rw [c2_z]; omega | rw [c2']; omega) (by first | rw [c2_z]; exact kn2 | rw [c2']; exact kn2) (by omega) (by omega) rfl, ?_⟩
        exact Or.inr (⟨rfl, h0, rfl⟩)
theorem aq_47 {A : pm_A} {s t : Int} (hA : adH A s) (ht : ptI A s t) (hne : t < A 1 s → xe A s t ≠ xp A) (v3 v4 : pm_V) : Tm pmt (an_sh wM) o_X10_add 47 ([(2, 0), (0, s), (0, t), v3, v4], [], A) (adq_post A s) := by
  have c1_z := pM_1 hA.1
  have m1_z := eM_1 hA.1 (r := 1) (by omega) kn1 hA.2.1.1 (show s < 152 by have := hA.2.1; omega)
  have hs := hA.2.1
  have ht1 := ht.1
  refine wq_ok srt_Madd (fr := []) (cuts := [72]) (J := fun pc st_z => (pc = 72 ∧ (¬ (A (A 0 1) s) = 200) ∧ st_z = ([(2, 0), (0, s), (0, t), (0, A (A 0 1) s), v4], [], A))) ?_ 16 47 _ ?_
  · rintro pc st_z (⟨rfl, h0, rfl⟩)
    rw [c1_z] at h0 ⊢
    refine aq_72 hA (by omega) ht hne _ _ _ _ (Nat.lt_succ_self _) (by omega) (by omega) ⟨hA.1, fun _ _ _ => rfl, rfl, fun q_z v_z q0 q1_z q2_z v0_z v1_z => ⟨rfl, rfl⟩, fun q_z v_z q0 q1_z v0_z v1_z => by omega⟩
  · refine ⟨oM_0 (by omega) km0 1 rfl, ?_⟩
    refine ⟨aM_1 (r := A 0 1) (by rw [c1_z]; omega) (by rw [c1_z]; exact kn1) (by omega) (by omega), ?_⟩
    have e1 : A (A 0 1) s = A 1 s := by rw [c1_z]
    refine ⟨fun h0 => ?_, fun h0 => ?_⟩
    · refine ⟨oM_0 (by omega) km0 1 rfl, ?_⟩
      refine ⟨aM_1 (r := A 0 1) (by rw [c1_z]; omega) (by rw [c1_z]; exact kn1) (by omega) (by omega), ?_⟩
      have e2 : A (A 0 1) s = A 1 s := by rw [c1_z]
      exact ⟨rfl, h0, rfl⟩
    · refine ⟨oM_0 (by omega) km0 4 rfl, ?_⟩
      exact ⟨rfl, ⟨uM_0_4 hA.1 (by omega) (by omega), fun r_z j_z hr h4 => (show pm_upd A 0 4 1 r_z j_z = A r_z j_z from upd_o (fun e_z => h4 ⟨e_z.1, e_z.2⟩))⟩, Or.inl ⟨(show pm_upd A 0 4 1 0 4 = 1 from upd_at), big_add (shr_of hA.2.2.1 hA.2.2.2.1) (by rw [LSm_len]; omega) hA.2.2.2.2.1.1 (pt_none hA.2.2.1 ht hne)⟩⟩
theorem aq_22 {A : pm_A} {s t z : Int} (hA : adH A s) (ht : ptI A s t) (htm : t < A 1 s) (hz : (z = 1 ∧ cr_Gt (xe A s t) (xp A)) ∨ (z = 0 ∧ xe A s t = xp A) ∨ (z = -1 ∧ cr_Gt (xp A) (xe A s t))) (v3 v4 : pm_V) : Tm pmt (an_sh wM) o_X10_add 22 ([(2, 0), (0, s), (0, t), v3, v4], [(0, z)], A) (adq_post A s) := by
  have hA0 := hA
  have ht0 := ht
  obtain ⟨hA1, hs, hsr, hcf, hnum, hsp⟩ := hA
  have c2_z := pM_2 hA1
  have m1_z := eM_1 hA1 (r := 1) (by omega) kn1 hs.1 (show s < 152 by omega)
  have ht1 := ht.1
  have hct := hcf t ht1.1 htm
  refine wq_ok srt_Madd (fr := []) (cuts := [47, 226]) (J := fun pc st_z => (pc = 47 ∧ (¬ z = 0) ∧ st_z = ([(2, 0), (0, s), (0, t), v3, v4], [], A)) ∨ (pc = 226 ∧ (z = 0) ∧ st_z = ([(2, 0), (0, s), (0, t), v3, v4], [], pm_upd A (A 0 2) ((200 * s) + t) ((A (A 0 2) ((200 * s) + t)) + (A 0 5))))) ?_ 20 22 _ ?_
  · rintro pc st_z (⟨rfl, h0, rfl⟩ | ⟨rfl, h0, rfl⟩)
    · exact aq_47 hA0 ht0 (fun _ e_z => by rcases hz with ⟨_, h_z⟩ | ⟨h_z, _⟩ | ⟨_, h_z⟩; exact cr_Gt.irrefl _ (e_z ▸ h_z); exact h0 h_z; exact cr_Gt.irrefl _ (e_z ▸ h_z)) v3 v4
    · rw [c2_z]
      have hxe : xe A s t = xp A := by rcases hz with ⟨e_z, _⟩ | ⟨_, e_z⟩ | ⟨e_z, _⟩; omega; exact e_z; omega
      have hx : ∀ q_z, xe (pm_upd A 2 (200 * s + t) (A 2 (200 * s + t) + A 0 5)) s q_z = xe A s q_z := fun q_z => funext fun v_z => upd_o (by omega)
      have hm_z : pm_upd A 2 (200 * s + t) (A 2 (200 * s + t) + A 0 5) 1 s = A 1 s := upd_o (by omega)
      refine aq_226 hs ht1.1 (by rw [hm_z]; exact htm) ⟨uM_2 hA1 kn2 (by omega) (by omega), fun r_z j_z hr _ => upd_o (fun e_z => hr (by unfold inS; omega))⟩ (by rw [upd_o (by omega)]; exact hsp) ?_ ?_ ?_ v3 v4
      · intro q_z q' q0 hq hq'; rw [hx, hx]; rw [hm_z] at hq'; exact hsr q_z q' q0 hq hq'
      · intro q_z q0 q1_z
        rw [hm_z] at q1_z
        have := hcf q_z q0 q1_z
        by_cases e_z : q_z = t
        · rw [e_z, upd_at]; exact ⟨by omega, fun h_z => absurd rfl h_z⟩
        · rw [upd_o (by omega)]; exact ⟨this.1, fun _ => this.2⟩
      · intro a_z
        rw [LSm_lsf, LSm_lsf, hm_z]
        refine co_merge (t := t.toNat) (fun q_z hq => ?_) ?_ ?_ a_z _ (by omega)
        · exact Prod.ext (upd_o (by omega)) (hx q_z)
        · show xe A s ((t.toNat : Nat) : Int) = xp A
          rw [Int.toNat_of_nonneg ht1.1]; exact hxe
        · refine Prod.ext ?_ ?_
          · show pm_upd A 2 (200 * s + t) (A 2 (200 * s + t) + A 0 5) 2 (200 * s + ((t.toNat : Nat) : Int)) = A 2 (200 * s + ((t.toNat : Nat) : Int)) + A 0 5
            rw [Int.toNat_of_nonneg ht1.1, upd_at]
          · exact (hx ((t.toNat : Nat) : Int)).trans (by rw [Int.toNat_of_nonneg ht1.1]; exact hxe)
  · refine ⟨fun h0 => ?_, fun h0 => ?_⟩
    · exact Or.inl (⟨rfl, h0, rfl⟩)
    · refine ⟨oM_0 (by omega) km0 2 rfl, ?_⟩
      refine ⟨⟨by omega, by omega⟩, ?_⟩
      refine ⟨⟨by omega, by omega⟩, ?_⟩
      refine ⟨aM_2 (r := A 0 2) (by rw [c2_z]; omega) (by rw [c2_z]; exact kn2) (by omega) (by omega), ?_⟩
      have e1 : A (A 0 2) ((200 * s) + t) = A 2 ((200 * s) + t) := by rw [c2_z]
      refine ⟨oM_0 (by omega) km0 5 rfl, ?_⟩
      refine ⟨⟨by omega, by omega⟩, ?_⟩
      refine ⟨tM_2 (r := A 0 2) (by rw [c2_z]; omega) (by rw [c2_z]; exact kn2) (by omega) (by omega) rfl, ?_⟩
      exact Or.inr (⟨rfl, h0, rfl⟩)
theorem add_exq {A : pm_A} {s : Int} (hA : adH A s) : Cl pmt (an_sh wM) 121 [(2, 0), (0, s)] A (adq_post A s) := by
  have hA0 := hA
  obtain ⟨hA1, hs, hsr, hcf, hnum, hsp⟩ := hA
  have c1_z := pM_1 hA1
  have m1_z := eM_1 hA1 (r := 1) (by omega) kn1 hs.1 (show s < 152 by omega)
  refine Cl.of (Nat.le_of_ble_eq_true rfl) ?_
  refine wq_ok (full := o_X10_add) srt_Madd (fr := []) (cuts := [5]) (J := fun pc st_z => (pc = 5 ∧ ∃ t_z, ptI A s t_z ∧ st_z = ([(2, 0), (0, s), (9, 0), (9, 0), (9, 0)], [(0, t_z)], A))) ?_ 7 0 _ ?_
  · rintro pc st_z (⟨rfl, t_z, ht, rfl⟩)
    have ht1 := ht.1
    refine wq_ok srt_Madd (fr := []) (cuts := [22, 47]) (J := fun pc st_z => (pc = 47 ∧ ((A (A 0 1) s) ≤ t_z) ∧ st_z = ([(2, 0), (0, s), (0, t_z), (9, 0), (9, 0)], [], A)) ∨ (pc = 22 ∧ t_z < A (A 0 1) s ∧ ∃ z_z, ((z_z = 1 ∧ cr_Gt (xe A s t_z) (xp A)) ∨ (z_z = 0 ∧ xe A s t_z = xp A) ∨ (z_z = -1 ∧ cr_Gt (xp A) (xe A s t_z))) ∧ st_z = ([(2, 0), (0, s), (0, t_z), (9, 0), (9, 0)], [(0, z_z)], A))) ?_ 15 5 _ ?_
    · rintro pc st_z (⟨rfl, h0, rfl⟩ | ⟨rfl, htm, z_z, hz, rfl⟩)
      · rw [c1_z] at h0
        exact aq_47 hA0 ht (fun h_z => by omega) _ _
      · rw [c1_z] at htm
        exact aq_22 hA0 ht htm hz _ _
    · refine ⟨oM_0 (by omega) km0 1 rfl, ?_⟩
      refine ⟨aM_1 (r := A 0 1) (by rw [c1_z]; omega) (by rw [c1_z]; exact kn1) (by omega) (by omega), ?_⟩
      have e1 : A (A 0 1) s = A 1 s := by rw [c1_z]
      refine ⟨fun h0 => ?_, fun h0 => ?_⟩
      · exact Or.inl (⟨rfl, h0, rfl⟩)
      · refine ⟨rM_0 (by omega) km0, ?_⟩
        refine (against_ex (q := t_z) hA1 hs.1 hs.2 (by omega) (by omega)).imp ?_
        rintro ⟨r1_z, C_z⟩ ⟨rfl, z_z, hz1, hz2⟩
        simp only at hz1 hz2
        subst hz1
        exact Or.inr (⟨rfl, h0, z_z, hz2, rfl⟩)
  · refine ⟨rM_0 (by omega) km0, ?_⟩
    refine (placeIn_ex hA1 hs.1 hs.2 hsr).imp ?_
    rintro ⟨r1_z, C_z⟩ ⟨rfl, t_z, ht1, ht2⟩
    simp only at ht1 ht2
    subst ht1
    exact ⟨rfl, t_z, ht2, rfl⟩
theorem lsf_le {f : Nat → Int × cr_Xp 12} (a : cr_Xp 12) (m : Nat) : ∀ k_z : Nat, (∀ q_z, q_z < m + k_z → 0 < (f q_z).1) → cr_co (lsf m f) a ≤ cr_co (lsf (m + k_z) f) a
  | 0, _ => Int.le_refl _
  | k_z + 1, h_z => by
    have ih_z := lsf_le a m k_z (fun q_z hq => h_z q_z (by omega))
    have hp := h_z (m + k_z) (by omega)
    rw [show m + (k_z + 1) = (m + k_z) + 1 by omega, lsf_succ, co_snoc]
    have := si_nn (show 0 ≤ (f (m + k_z)).1 by omega) (f (m + k_z)).2 a
    have e_z : si (f (m + k_z)) a = si ((f (m + k_z)).1, (f (m + k_z)).2) a := rfl
    omega
theorem shz_nn {y : Int × cr_Xp 12} {l : cr_Pl_ 12} (hy : 0 < y.1) (hl : ∀ z_z ∈ l, 0 < z_z.1) (c : cr_Xp 12) : 0 ≤ cr_co (cr_shz y l) c := by
  rw [cr_co_shz]
  exact Int.mul_nonneg (by omega) (cr_Shr.nonneg hl _)
theorem pmz_le {f : Nat → Int × cr_Xp 12} {L : cr_Pl_ 12} (hL : ∀ z_z ∈ L, 0 < z_z.1) (c : cr_Xp 12) (m : Nat) : ∀ k_z : Nat, (∀ q_z, q_z < m + k_z → 0 < (f q_z).1) → cr_co (cr_pmz (lsf m f) L) c ≤ cr_co (cr_pmz (lsf (m + k_z) f) L) c
  | 0, _ => Int.le_refl _
  | k_z + 1, h_z => by
    have ih_z := pmz_le hL c m k_z (fun q_z hq => h_z q_z (by omega))
    have hp := shz_nn (h_z (m + k_z) (by omega)) hL c
    rw [show m + (k_z + 1) = (m + k_z) + 1 by omega, lsf_succ, pmz_snoc, cr_co_app]
    omega
theorem tm_le {A : pm_A} {a b t u : Int} (ca : cfs A a) (cb : cfs A b) (t0 : 0 ≤ t) (t1 : t < A 1 a) (u0 : 0 ≤ u) (u1 : u < A 1 b) (c : cr_Xp 12) : cr_co (cr_pmz (lsf t.toNat (fa A a)) (LSm A b)) c + cr_co (cr_shz (fa A a t.toNat) (lsf (u + 1).toNat (fa A b))) c ≤ cr_co (cr_pmz (LSm A a) (LSm A b)) c := by
  have pa : ∀ q_z : Nat, (q_z : Int) < A 1 a → 0 < (fa A a q_z).1 := fun q_z hq => by
    have := ca q_z (by omega) hq
    show 0 < A 2 (200 * a + (q_z : Int))
    omega
  have pb : ∀ q_z : Nat, (q_z : Int) < A 1 b → 0 < (fa A b q_z).1 := fun q_z hq => by
    have := cb q_z (by omega) hq
    show 0 < A 2 (200 * b + (q_z : Int))
    omega
  have h1 := pmz_le (f := fa A a) (pos_LSm cb) c (t.toNat + 1) ((A 1 a).toNat - (t.toNat + 1)) (fun q_z hq => pa q_z (by omega))
  rw [show t.toNat + 1 + ((A 1 a).toNat - (t.toNat + 1)) = (A 1 a).toNat by omega, lsf_succ, pmz_snoc, cr_co_app, ← LSm_fa] at h1
  have h2 : cr_co (cr_shz (fa A a t.toNat) (lsf (u + 1).toNat (fa A b))) c ≤ cr_co (cr_shz (fa A a t.toNat) (LSm A b)) c := by
    rw [cr_co_shz, cr_co_shz]
    refine Int.mul_le_mul_of_nonneg_left ?_ (by have := pa t.toNat (by omega); omega)
    have h3 := lsf_le (f := fa A b) (fun i_z => c i_z - (fa A a t.toNat).2 i_z) (u + 1).toNat ((A 1 b).toNat - (u + 1).toNat) (fun q_z hq => pb q_z (by omega))
    rw [show (u + 1).toNat + ((A 1 b).toNat - (u + 1).toNat) = (A 1 b).toNat by omega, ← LSm_fa] at h3
    exact h3
  omega
theorem co_in {l : cr_Pl_ 12} {y : Int × cr_Xp 12} (hy : y ∈ l) (hl : ∀ z_z ∈ l, 0 < z_z.1) : y.1 ≤ cr_co l y.2 := by
  obtain ⟨s_z, t_z, rfl⟩ := List.append_of_mem hy
  rw [cr_co_app, cr_co_cons, if_pos rfl]
  have a_z := cr_Shr.nonneg (l := s_z) (fun z_z hz => hl z_z (List.mem_append.2 (Or.inl hz))) y.2
  have b_z := cr_Shr.nonneg (l := t_z) (fun z_z hz => hl z_z (List.mem_append.2 (Or.inr (List.Mem.tail _ hz)))) y.2
  omega
theorem big_mul {A : pm_A} {a b t u : Int} (ca : cfs A a) (cb : cfs A b) (t0 : 0 ≤ t) (t1 : t < A 1 a) (u0 : 0 ≤ u) (u1 : u < A 1 b) (h : 1000000000000 < A 2 (200 * a + t) * A 2 (200 * b + u)) : BigC (cr_co (cr_pmz (LSm A a) (LSm A b))) := by
  refine Or.inl ⟨fun i_z => xe A a t i_z + xe A b u i_z, ?_⟩
  have h1 := co_in (pmz_in (in_LSm t0 t1) (in_LSm u0 u1)) (pmz_pos (pos_LSm ca) (pos_LSm cb))
  exact Int.lt_of_lt_of_le h h1
abbrev tBg (A : pm_A) (a b : Int) : Prop := BigC (cr_co (cr_pmz (LSm A a) (LSm A b)))
def tmIq (A B : pm_A) (to a b t u : Int) : Prop := tmF A B to ∧ ((B 0 4 = 1 ∧ tBg A a b) ∨ (B 0 4 = 0 ∧ tmG A B to a b t u))
def tmq_post (A : pm_A) (to a b : Int) (r : pm_R) : Prop := r.1 = none ∧ tmF A r.2 to ∧ ((r.2 0 4 = 1 ∧ tBg A a b) ∨ (r.2 0 4 = 0 ∧ srtd r.2 to ∧ cfs r.2 to ∧ ∀ c_z, cr_co (LSm r.2 to) c_z = cr_co (cr_pmz (LSm A a) (LSm A b)) c_z))
theorem tq_111 {A : pm_A} {to a b E1 E2 t u x y : Int} (hH : tmH A to a b E1 E2) (t0 : 0 ≤ t) (t1 : t < A 1 a) (u0 : 0 ≤ u) (u1 : u < A 1 b) (hx : x = A 2 (200 * a + t)) (hy : y = A 2 (200 * b + u)) (hxy : x * y ≤ 1000000000000) {z : pm_R → Prop}
    (H : ∀ C_z w10_z, tmIq A C_z to a b t (u + 1) → Tm pmt (an_sh wM) o_X10_times 31 ([(2, 0), (0, to), (0, a), (0, b), (0, t), (0, u + 1), (1, x), (9, 0), (1, y), (9, 0), w10_z], [], C_z) z) : ∀ (n_z : Nat) (v_z : Int) (B_z : pm_A), (12 - v_z).toNat < n_z → 0 ≤ v_z → v_z ≤ 12 → tmF A B_z to → B_z 0 4 = 0 → tmG A B_z to a b t u → B_z 0 5 = x * y → (∀ i_z : Int, 0 ≤ i_z → i_z < v_z → B_z 4 i_z = A 3 (12 * (200 * a + t) + i_z) + A 3 (12 * (200 * b + u) + i_z)) → Tm pmt (an_sh wM) o_X10_times 111 ([(2, 0), (0, to), (0, a), (0, b), (0, t), (0, u), (1, x), (9, 0), (1, y), (9, 0), (0, v_z)], [], B_z) z := by
  obtain ⟨hA, hto, ha_z, hb_z, hne, cfa, cfb, xa, xbb, hE⟩ := hH
  have ma := eM_1 hA (r := 1) (by omega) kn1 ha_z.1 (show a < 152 by omega)
  have mb := eM_1 hA (r := 1) (by omega) kn1 hb_z.1 (show b < 152 by omega)
  have ca := cfa t t0 t1
  have cb := cfb u u0 u1
  intro n_z
  induction n_z with
  | zero => intro v_z B_z h_z; omega
  | succ n_z ih_z =>
    intro v_z B_z hn v0_z v1_z hF h4 hG h5 hp
    have c3_z := pM_3 hF.1
    have c6_z := pM_6 hF.1
    have xa1 : v_z < 12 → - E1 ≤ B_z 3 (12 * (200 * a + t) + v_z) ∧ B_z 3 (12 * (200 * a + t) + v_z) ≤ E1 := fun hv => by
      rw [tm_slot hF hne.1 3 _ (by unfold inS; omega)]; exact xa t v_z t0 t1 v0_z hv
    have xb1 : v_z < 12 → - E2 ≤ B_z 3 (12 * (200 * b + u) + v_z) ∧ B_z 3 (12 * (200 * b + u) + v_z) ≤ E2 := fun hv => by
      rw [tm_slot hF hne.2 3 _ (by unfold inS; omega)]; exact xbb u v_z u0 u1 v0_z hv
    have hxy1 : 1 ≤ x * y := by
      have := Int.mul_pos (show 0 < x by omega) (show 0 < y by omega)
      omega
    refine wq_ok srt_times (fr := []) (cuts := [111, 175]) (J := fun pc st_z => (pc = 175 ∧ 12 ≤ v_z ∧ ∃ C_z, adF B_z C_z to ∧ ((C_z 0 4 = 1 ∧ BigC (fun a => cr_co (LSm B_z to) a + si (B_z 0 5, xp B_z) a)) ∨ (C_z 0 4 = 0 ∧ srtd C_z to ∧ cfs C_z to ∧ ∀ c_z, cr_co (LSm C_z to) c_z = cr_co (LSm B_z to) c_z + si (B_z 0 5, xp B_z) c_z)) ∧ st_z = ([(2, 0), (0, to), (0, a), (0, b), (0, t), (0, u), (1, x), (9, 0), (1, y), (9, 0), (0, v_z)], [], C_z)) ∨ (pc = 111 ∧ (v_z < 12) ∧ st_z = ([(2, 0), (0, to), (0, a), (0, b), (0, t), (0, u), (1, x), (9, 0), (1, y), (9, 0), (0, v_z + 1)], [], pm_upd B_z (B_z 0 6) v_z ((B_z (B_z 0 3) ((12 * ((200 * a) + t)) + v_z)) + (B_z (B_z 0 3) ((12 * ((200 * b) + u)) + v_z)))))) ?_ 39 111 _ ?_
    · rintro pc st_z (⟨rfl, hv, C_z, hF2, hC, rfl⟩ | ⟨rfl, h0, rfl⟩)
      · refine tm_175 u0 (by omega) (H C_z _ ⟨⟨hF2.1, fun r_z j_z hr h4 h5 => (hF2.2 r_z j_z hr (fun e_z => h5 ⟨e_z.1, Or.inl e_z.2⟩)).trans (hF.2 r_z j_z hr h4 h5)⟩, ?_⟩)
        have e1 : (B_z 0 5, xp B_z) = ((fa A a t.toNat).1 * (fa A b u.toNat).1, fun i_z => (fa A a t.toNat).2 i_z + (fa A b u.toNat).2 i_z) := by
          refine Prod.ext ?_ (funext fun i_z => ?_)
          · show B_z 0 5 = A 2 (200 * a + ((t.toNat : Nat) : Int)) * A 2 (200 * b + ((u.toNat : Nat) : Int))
            rw [Int.toNat_of_nonneg t0, Int.toNat_of_nonneg u0, h5, hx, hy]
          · show B_z 4 (i_z.1 : Int) = A 3 (12 * (200 * a + ((t.toNat : Nat) : Int)) + (i_z.1 : Int)) + A 3 (12 * (200 * b + ((u.toNat : Nat) : Int)) + (i_z.1 : Int))
            rw [Int.toNat_of_nonneg t0, Int.toNat_of_nonneg u0]; exact hp i_z.1 (by omega) (by have := i_z.2; omega)
        have e2 : ∀ c_z, cr_co (LSm B_z to) c_z + si (B_z 0 5, xp B_z) c_z = cr_co (cr_pmz (lsf t.toNat (fa A a)) (LSm A b)) c_z + cr_co (cr_shz (fa A a t.toNat) (lsf (u + 1).toNat (fa A b))) c_z := fun c_z => by
          rw [hG.2.2 c_z, show (u + 1).toNat = u.toNat + 1 by omega, lsf_succ, shz_snoc, co_snoc, e1]; omega
        rcases hC with ⟨hC0, hCb⟩ | ⟨hC1, hC2, hC3, hC4⟩
        · exact Or.inl ⟨hC0, hCb.mono (fun c_z => by rw [e2 c_z]; exact tm_le cfa cfb t0 t1 u0 u1 c_z)⟩
        · exact Or.inr ⟨hC1, hC2, hC3, fun c_z => by rw [hC4 c_z, e2 c_z]⟩
      · rw [c3_z, c6_z]
        have r1_z := xa1 h0
        have r2 := xb1 h0
        refine ih_z (v_z + 1) _ (by omega) (by omega) (by omega) ⟨uM_4 hF.1 kn4 (by omega) (by omega), fun r_z j_z hr h4 h5 => ?_⟩ (by rw [upd_o (by omega)]; exact h4) ⟨?_, ?_, fun c_z => ?_⟩ (by rw [upd_o (by omega)]; exact h5) (fun i_z i0_z i1_z => ?_)
        · rw [upd_o (by omega)]; exact hF.2 r_z j_z hr h4 h5
        · exact hG.1
        · exact hG.2.1
        · exact hG.2.2 c_z
        · by_cases hi_z : i_z = v_z
          · rw [hi_z, upd_at, tm_slot hF hne.1 3 _ (by unfold inS; omega), tm_slot hF hne.2 3 _ (by unfold inS; omega)]
          · rw [upd_o (by omega)]; exact hp i_z i0_z (by omega)
    · refine ⟨fun h0 => ?_, fun h0 => ?_⟩
      · refine ⟨rM_0 (by omega) km0, ?_⟩
        refine (add_exq (s := to) ⟨hF.1, hto, hG.1, hG.2.1, by rw [h5]; exact ⟨hxy1, hxy⟩, h4⟩).imp ?_
        rintro ⟨r1_z, C_z⟩ ⟨hr1, hF2, hC⟩
        simp only at hr1 hF2 hC
        subst hr1
        exact Or.inl (⟨rfl, h0, C_z, hF2, hC, rfl⟩)
      · refine ⟨oM_0 (by omega) km0 6 rfl, ?_⟩
        refine ⟨oM_0 (by omega) km0 3 rfl, ?_⟩
        refine ⟨⟨by omega, by omega⟩, ?_⟩
        refine ⟨⟨by omega, by omega⟩, ?_⟩
        refine ⟨⟨by omega, by omega⟩, ?_⟩
        refine ⟨⟨by omega, by omega⟩, ?_⟩
        refine ⟨aM_3 (r := B_z 0 3) (by rw [c3_z]; omega) (by rw [c3_z]; exact kn3) (by omega) (by omega), ?_⟩
        have e1 : B_z (B_z 0 3) ((12 * ((200 * a) + t)) + v_z) = B_z 3 ((12 * ((200 * a) + t)) + v_z) := by rw [c3_z]
        refine ⟨oM_0 (by omega) km0 3 rfl, ?_⟩
        refine ⟨⟨by omega, by omega⟩, ?_⟩
        refine ⟨⟨by omega, by omega⟩, ?_⟩
        refine ⟨⟨by omega, by omega⟩, ?_⟩
        refine ⟨⟨by omega, by omega⟩, ?_⟩
        refine ⟨aM_3 (r := B_z 0 3) (by rw [c3_z]; omega) (by rw [c3_z]; exact kn3) (by omega) (by omega), ?_⟩
        have e2 : B_z (B_z 0 3) ((12 * ((200 * b) + u)) + v_z) = B_z 3 ((12 * ((200 * b) + u)) + v_z) := by rw [c3_z]
        refine ⟨⟨by omega, by omega⟩, ?_⟩
        refine ⟨tM_4 (r := B_z 0 6) (by rw [c6_z]; omega) (by rw [c6_z]; exact kn4) (by omega) (by omega) rfl, ?_⟩
        refine ⟨⟨by omega, by omega⟩, ?_⟩
        exact Or.inr (⟨rfl, h0, rfl⟩)
theorem tq_31 {A : pm_A} {to a b E1 E2 t : Int} (hH : tmH A to a b E1 E2) (t0 : 0 ≤ t) (t1 : t < A 1 a) {z : pm_R → Prop} (H : ∀ C_z v5 w6_z w7_z w8 w9 w10_z, tmF A C_z to → ((C_z 0 4 = 1 ∧ tBg A a b) ∨ (C_z 0 4 = 0 ∧ srtd C_z to ∧ cfs C_z to ∧ ∀ c_z, cr_co (LSm C_z to) c_z = cr_co (cr_pmz (lsf (t + 1).toNat (fa A a)) (LSm A b)) c_z)) → Tm pmt (an_sh wM) o_X10_times 10 ([(2, 0), (0, to), (0, a), (0, b), (0, t + 1), v5, w6_z, w7_z, w8, w9, w10_z], [], C_z) z) : ∀ (n_z : Nat) (u_z : Int) (w6_z w7_z w8 w9 w10_z : pm_V) (B_z : pm_A), (A 1 b - u_z).toNat < n_z → 0 ≤ u_z → u_z ≤ A 1 b → tmIq A B_z to a b t u_z → Tm pmt (an_sh wM) o_X10_times 31 ([(2, 0), (0, to), (0, a), (0, b), (0, t), (0, u_z), w6_z, w7_z, w8, w9, w10_z], [], B_z) z := by
  have hH0 := hH
  obtain ⟨hA, hto, ha_z, hb_z, hne, cfa, cfb, xa, xbb, hE⟩ := hH
  have ma := eM_1 hA (r := 1) (by omega) kn1 ha_z.1 (show a < 152 by omega)
  have mb := eM_1 hA (r := 1) (by omega) kn1 hb_z.1 (show b < 152 by omega)
  intro n_z
  induction n_z with
  | zero => intro u_z w6_z w7_z w8 w9 w10_z B_z h_z; omega
  | succ n_z ih_z =>
    intro u_z w6_z w7_z w8 w9 w10_z B_z hn u0 u1_z hI
    obtain ⟨hF, hI2⟩ := hI
    have c1_z := pM_1 hF.1
    have c2_z := pM_2 hF.1
    have mB : B_z 1 b = A 1 b := tm_slot hF hne.2 1 b (Or.inl ⟨rfl, rfl⟩)
    have s4_z := fM_0_4 hF.1 (r := 0) (by omega) km0
    have nx : ∀ q_z : Int, 0 ≤ q_z → q_z < 200 → B_z 2 (200 * a + q_z) = A 2 (200 * a + q_z) := fun q_z q0 q1_z => tm_slot hF hne.1 2 _ (by unfold inS; omega)
    have ny : ∀ q_z : Int, 0 ≤ q_z → q_z < 200 → B_z 2 (200 * b + q_z) = A 2 (200 * b + q_z) := fun q_z q0 q1_z => tm_slot hF hne.2 2 _ (by unfold inS; omega)
    have ca := cfa t t0 t1
    have nxt_z := nx t t0 (by omega)
    have cbu : u_z < A 1 b → (1 ≤ A 2 (200 * b + u_z) ∧ A 2 (200 * b + u_z) ≤ 1000000000000) ∧ B_z 2 (200 * b + u_z) = A 2 (200 * b + u_z) := fun h_z => ⟨cfb u_z u0 h_z, ny u_z u0 (by omega)⟩
    have hend : (B_z 0 4 ≠ 0 ∨ A 1 b ≤ u_z) → Tm pmt (an_sh wM) o_X10_times 181 ([(2, 0), (0, to), (0, a), (0, b), (0, t), (0, u_z), w6_z, w7_z, w8, w9, w10_z], [], B_z) z := fun hc_z => by
      refine wq_ok srt_times (fr := []) (cuts := [10]) (J := fun pc st_z => (pc = 10 ∧ st_z = ([(2, 0), (0, to), (0, a), (0, b), (0, t + 1), (0, u_z), w6_z, w7_z, w8, w9, w10_z], [], B_z))) ?_ 7 181 _ ?_
      · rintro pc st_z (⟨rfl, rfl⟩)
        refine H B_z _ _ _ _ _ _ hF ?_
        rcases hI2 with h_z | ⟨h1, h2, h3, h4⟩
        · exact Or.inl h_z
        · refine Or.inr ⟨h1, h2, h3, fun c_z => ?_⟩
          have hu : u_z = A 1 b := by omega
          rw [h4 c_z, show (t + 1).toNat = t.toNat + 1 by omega, lsf_succ, pmz_snoc, cr_co_app, hu, ← LSm_fa]
      · refine ⟨⟨by omega, by omega⟩, ?_⟩
        exact ⟨rfl, rfl⟩
    refine wq_ok srt_times (fr := []) (cuts := [111, 175, 181]) (J := fun pc st_z => (pc = 181 ∧ ((B_z (B_z 0 1) b) ≤ u_z) ∧ st_z = ([(2, 0), (0, to), (0, a), (0, b), (0, t), (0, u_z), w6_z, w7_z, w8, w9, w10_z], [], B_z)) ∨ (pc = 181 ∧ (u_z < (B_z (B_z 0 1) b)) ∧ (¬ (B_z 0 4) = 0) ∧ st_z = ([(2, 0), (0, to), (0, a), (0, b), (0, t), (0, u_z), w6_z, w7_z, w8, w9, w10_z], [], B_z)) ∨ (pc = 175 ∧ (u_z < (B_z (B_z 0 1) b)) ∧ ((B_z 0 4) = 0) ∧ ((Int.tdiv 1000000000000 (B_z (B_z 0 2) ((200 * b) + u_z))) < (B_z (B_z 0 2) ((200 * a) + t))) ∧ st_z = ([(2, 0), (0, to), (0, a), (0, b), (0, t), (0, u_z), (1, B_z (B_z 0 2) ((200 * a) + t)), (9, 0), (1, B_z (B_z 0 2) ((200 * b) + u_z)), (9, 0), w10_z], [], pm_upd B_z 0 4 1)) ∨ (pc = 111 ∧ (u_z < (B_z (B_z 0 1) b)) ∧ ((B_z 0 4) = 0) ∧ ((B_z (B_z 0 2) ((200 * a) + t)) = (Int.tdiv 1000000000000 (B_z (B_z 0 2) ((200 * b) + u_z)))) ∧ st_z = ([(2, 0), (0, to), (0, a), (0, b), (0, t), (0, u_z), (1, B_z (B_z 0 2) ((200 * a) + t)), (9, 0), (1, B_z (B_z 0 2) ((200 * b) + u_z)), (9, 0), (0, 0)], [], pm_upd B_z 0 5 ((B_z (B_z 0 2) ((200 * a) + t)) * (B_z (B_z 0 2) ((200 * b) + u_z))))) ∨ (pc = 111 ∧ (u_z < (B_z (B_z 0 1) b)) ∧ ((B_z 0 4) = 0) ∧ ((B_z (B_z 0 2) ((200 * a) + t)) < (Int.tdiv 1000000000000 (B_z (B_z 0 2) ((200 * b) + u_z)))) ∧ st_z = ([(2, 0), (0, to), (0, a), (0, b), (0, t), (0, u_z), (1, B_z (B_z 0 2) ((200 * a) + t)), (9, 0), (1, B_z (B_z 0 2) ((200 * b) + u_z)), (9, 0), (0, 0)], [], pm_upd B_z 0 5 ((B_z (B_z 0 2) ((200 * a) + t)) * (B_z (B_z 0 2) ((200 * b) + u_z)))))) ?_ 45 31 _ ?_
    · rintro pc st_z (⟨rfl, h0, rfl⟩ | ⟨rfl, h0, h1, rfl⟩ | ⟨rfl, h0, h1, h2, rfl⟩ | ⟨rfl, h0, h1, h2, rfl⟩ | ⟨rfl, h0, h1, h2, rfl⟩)
      · exact hend (by rw [c1_z] at h0; omega)
      · exact hend (Or.inl h1)
      · have hu : u_z < A 1 b := by rw [c1_z, mB] at h0; exact h0
        have hbg : tBg A a b := by
          rw [c2_z] at h2
          have hb1 := cbu hu
          rw [Int.tdiv_eq_ediv_of_nonneg (by omega)] at h2
          refine big_mul cfa cfb t0 t1 u0 hu ?_
          rw [← nxt_z, ← hb1.2]
          refine Classical.byContradiction (fun hn => ?_)
          have := (Int.le_ediv_iff_mul_le (show 0 < B_z 2 (200 * b + u_z) by omega)).2 (show B_z 2 (200 * a + t) * B_z 2 (200 * b + u_z) ≤ 1000000000000 by omega)
          omega
        refine tm_175 u0 (by omega) (ih_z (u_z + 1) _ _ _ _ _ _ (by omega) (by omega) (by omega) ⟨⟨uM_0_4 hF.1 (by omega) (by omega), fun r_z j_z hr h4 h5 => ?_⟩, Or.inl ⟨upd_at, hbg⟩⟩)
        rw [upd_o (fun e_z => h5 ⟨e_z.1, Or.inl e_z.2⟩)]; exact hF.2 r_z j_z hr h4 h5
      · rw [c1_z] at h0
        rw [c2_z] at h2 ⊢
        have hb1 := cbu (by omega)
        obtain ⟨hI3, hG⟩ : B_z 0 4 = 0 ∧ tmG A B_z to a b t u_z := by
          rcases hI2 with h_z | h_z
          · have := h_z.1; omega
          · exact h_z
        have hxy : B_z 2 (200 * a + t) * B_z 2 (200 * b + u_z) ≤ 1000000000000 := by
          rw [Int.tdiv_eq_ediv_of_nonneg (by omega)] at h2
          exact (Int.le_ediv_iff_mul_le (by omega)).1 (by omega)
        have hp := Int.mul_pos (show 0 < B_z 2 (200 * a + t) by omega) (show 0 < B_z 2 (200 * b + u_z) by omega)
        refine tq_111 (E1 := E1) (E2 := E2) (x := B_z 2 (200 * a + t)) (y := B_z 2 (200 * b + u_z)) hH0 t0 t1 u0 (by omega) nxt_z hb1.2 hxy (fun C_z w10_z hC => ih_z (u_z + 1) _ _ _ _ _ C_z (by omega) (by omega) (by omega) hC) _ 0 _ (Nat.lt_succ_self _) (by omega) (by omega) ⟨uM_0_5 hF.1 (by omega) (by omega), fun r_z j_z hr h4 h5 => ?_⟩ (by rw [upd_o (by omega)]; exact hI3) hG upd_at (fun i_z i0_z i1_z => by omega)
        rw [upd_o (fun e_z => h5 ⟨e_z.1, Or.inr e_z.2⟩)]; exact hF.2 r_z j_z hr h4 h5
      · rw [c1_z] at h0
        rw [c2_z] at h2 ⊢
        have hb1 := cbu (by omega)
        obtain ⟨hI3, hG⟩ : B_z 0 4 = 0 ∧ tmG A B_z to a b t u_z := by
          rcases hI2 with h_z | h_z
          · have := h_z.1; omega
          · exact h_z
        have hxy : B_z 2 (200 * a + t) * B_z 2 (200 * b + u_z) ≤ 1000000000000 := by
          rw [Int.tdiv_eq_ediv_of_nonneg (by omega)] at h2
          exact (Int.le_ediv_iff_mul_le (by omega)).1 (by omega)
        have hp := Int.mul_pos (show 0 < B_z 2 (200 * a + t) by omega) (show 0 < B_z 2 (200 * b + u_z) by omega)
        refine tq_111 (E1 := E1) (E2 := E2) (x := B_z 2 (200 * a + t)) (y := B_z 2 (200 * b + u_z)) hH0 t0 t1 u0 (by omega) nxt_z hb1.2 hxy (fun C_z w10_z hC => ih_z (u_z + 1) _ _ _ _ _ C_z (by omega) (by omega) (by omega) hC) _ 0 _ (Nat.lt_succ_self _) (by omega) (by omega) ⟨uM_0_5 hF.1 (by omega) (by omega), fun r_z j_z hr h4 h5 => ?_⟩ (by rw [upd_o (by omega)]; exact hI3) hG upd_at (fun i_z i0_z i1_z => by omega)
        rw [upd_o (fun e_z => h5 ⟨e_z.1, Or.inr e_z.2⟩)]; exact hF.2 r_z j_z hr h4 h5
    · refine ⟨oM_0 (by omega) km0 1 rfl, ?_⟩
      refine ⟨aM_1 (r := B_z 0 1) (by rw [c1_z]; omega) (by rw [c1_z]; exact kn1) (by omega) (by omega), ?_⟩
      have e1 : B_z (B_z 0 1) b = B_z 1 b := by rw [c1_z]
      refine ⟨fun h0 => ?_, fun h0 => ?_⟩
      · exact Or.inl (⟨rfl, h0, rfl⟩)
      · refine ⟨oM_0 (by omega) km0 4 rfl, ?_⟩
        refine ⟨fun h1 => ?_, fun h1 => ?_⟩
        · exact Or.inr (Or.inl (⟨rfl, h0, h1, rfl⟩))
        · refine ⟨oM_0 (by omega) km0 2 rfl, ?_⟩
          refine ⟨⟨by omega, by omega⟩, ?_⟩
          refine ⟨⟨by omega, by omega⟩, ?_⟩
          refine ⟨aM_2 (r := B_z 0 2) (by rw [c2_z]; omega) (by rw [c2_z]; exact kn2) (by omega) (by omega), ?_⟩
          have e2 : B_z (B_z 0 2) ((200 * a) + t) = B_z 2 ((200 * a) + t) := by rw [c2_z]
          refine ⟨oM_0 (by omega) km0 2 rfl, ?_⟩
          refine ⟨⟨by omega, by omega⟩, ?_⟩
          refine ⟨⟨by omega, by omega⟩, ?_⟩
          refine ⟨aM_2 (r := B_z 0 2) (by rw [c2_z]; omega) (by rw [c2_z]; exact kn2) (by omega) (by omega), ?_⟩
          have e3 : B_z (B_z 0 2) ((200 * b) + u_z) = B_z 2 ((200 * b) + u_z) := by rw [c2_z]
          refine ⟨⟨by rw [e3]; have := cbu (by omega); omega, ⟨by omega, by omega⟩, ⟨by rw [e3]; have := cbu (by omega); omega, by rw [e3]; have := cbu (by omega); omega⟩, fun hh => absurd hh (by decide)⟩, ?_⟩
          refine ⟨fun h2 => ?_, fun h2 => ?_, fun h2 => ?_⟩
          · refine ⟨fun hh => absurd hh (by decide), fun _ => ?_⟩
            refine ⟨oM_0 (by omega) km0 4 rfl, ?_⟩
            exact Or.inr (Or.inr (Or.inl (⟨rfl, h0, h1, h2, rfl⟩)))
          · refine ⟨fun _ => ?_, fun hh => absurd hh (by decide)⟩
            refine ⟨(by have h2q : B_z (B_z 0 2) ((200 * a) + t) ≤ Int.tdiv 1000000000000 (B_z (B_z 0 2) ((200 * b) + u_z)) := (by first | exact Int.le_of_eq h2 | exact Int.le_of_lt h2); rw [e2, e3]; have hb1 := cbu (by omega); rw [e2, e3] at h2q; rw [Int.tdiv_eq_ediv_of_nonneg (by omega)] at h2q; have hl := (Int.le_ediv_iff_mul_le (show 0 < B_z 2 (200 * b + u_z) by omega)).1 (show B_z 2 (200 * a + t) ≤ 1000000000000 / B_z 2 (200 * b + u_z) by omega); have hp := Int.mul_pos (show 0 < B_z 2 (200 * a + t) by omega) (show 0 < B_z 2 (200 * b + u_z) by omega); exact ⟨by omega, by omega⟩), ?_⟩
            refine ⟨oM_0 (by omega) km0 5 rfl, ?_⟩
            exact Or.inr (Or.inr (Or.inr (Or.inl (⟨rfl, h0, h1, h2, rfl⟩))))
          · refine ⟨fun _ => ?_, fun hh => absurd hh (by decide)⟩
            refine ⟨(by have h2q : B_z (B_z 0 2) ((200 * a) + t) ≤ Int.tdiv 1000000000000 (B_z (B_z 0 2) ((200 * b) + u_z)) := (by first | exact Int.le_of_eq h2 | exact Int.le_of_lt h2); rw [e2, e3]; have hb1 := cbu (by omega); rw [e2, e3] at h2q; rw [Int.tdiv_eq_ediv_of_nonneg (by omega)] at h2q; have hl := (Int.le_ediv_iff_mul_le (show 0 < B_z 2 (200 * b + u_z) by omega)).1 (show B_z 2 (200 * a + t) ≤ 1000000000000 / B_z 2 (200 * b + u_z) by omega); have hp := Int.mul_pos (show 0 < B_z 2 (200 * a + t) by omega) (show 0 < B_z 2 (200 * b + u_z) by omega); exact ⟨by omega, by omega⟩), ?_⟩
            refine ⟨oM_0 (by omega) km0 5 rfl, ?_⟩
            exact Or.inr (Or.inr (Or.inr (Or.inr (⟨rfl, h0, h1, h2, rfl⟩))))
theorem tq_10 {A : pm_A} {to a b E1 E2 : Int} (hH : tmH A to a b E1 E2) : ∀ (n_z : Nat) (t_z : Int) (v5 w6_z w7_z w8 w9 w10_z : pm_V) (B_z : pm_A), (A 1 a - t_z).toNat < n_z → 0 ≤ t_z → t_z ≤ A 1 a → tmF A B_z to → ((B_z 0 4 = 1 ∧ tBg A a b) ∨ (B_z 0 4 = 0 ∧ srtd B_z to ∧ cfs B_z to ∧ ∀ c_z, cr_co (LSm B_z to) c_z = cr_co (cr_pmz (lsf t_z.toNat (fa A a)) (LSm A b)) c_z)) → Tm pmt (an_sh wM) o_X10_times 10 ([(2, 0), (0, to), (0, a), (0, b), (0, t_z), v5, w6_z, w7_z, w8, w9, w10_z], [], B_z) (tmq_post A to a b) := by
  have hH0 := hH
  obtain ⟨hA, hto, ha_z, hb_z, hne, cfa, cfb, xa, xbb, hE⟩ := hH
  have ma := eM_1 hA (r := 1) (by omega) kn1 ha_z.1 (show a < 152 by omega)
  have mb := eM_1 hA (r := 1) (by omega) kn1 hb_z.1 (show b < 152 by omega)
  intro n_z
  induction n_z with
  | zero => intro t_z v5 w6_z w7_z w8 w9 w10_z B_z h_z; omega
  | succ n_z ih_z =>
    intro t_z v5 w6_z w7_z w8 w9 w10_z B_z hn t0_z t1_z hF hI
    have c1_z := pM_1 hF.1
    have mB : B_z 1 a = A 1 a := tm_slot hF hne.1 1 a (Or.inl ⟨rfl, rfl⟩)
    have s4_z := fM_0_4 hF.1 (r := 0) (by omega) km0
    have hend : (B_z 0 4 ≠ 0 ∨ A 1 a ≤ t_z) → tmq_post A to a b (none, B_z) := fun hc_z => ⟨rfl, hF, by
      rcases hI with h_z | ⟨h1, h2, h3, h4⟩
      · exact Or.inl h_z
      · refine Or.inr ⟨h1, h2, h3, fun c_z => ?_⟩
        have ht : t_z = A 1 a := by omega
        rw [h4 c_z, ht, ← LSm_fa]⟩
    refine wq_ok srt_times (fr := []) (cuts := [31]) (J := fun pc st_z => (pc = 31 ∧ (t_z < (B_z (B_z 0 1) a)) ∧ ((B_z 0 4) = 0) ∧ st_z = ([(2, 0), (0, to), (0, a), (0, b), (0, t_z), (0, 0), w6_z, w7_z, w8, w9, w10_z], [], B_z))) ?_ 16 10 _ ?_
    · rintro pc st_z (⟨rfl, h0, h1, rfl⟩)
      rw [c1_z, mB] at h0
      refine tq_31 hH0 t0_z (by omega) (fun C_z v5 w6_z w7_z w8 w9 w10_z hC hC2 => ih_z (t_z + 1) v5 w6_z w7_z w8 w9 w10_z C_z (by omega) (by omega) (by omega) hC hC2) _ 0 _ _ _ _ _ B_z (Nat.lt_succ_self _) (by omega) (by omega) ⟨hF, ?_⟩
      rcases hI with h_z | ⟨h1, h2, h3, h4⟩
      · exact Or.inl h_z
      · exact Or.inr ⟨h1, h2, h3, fun c_z => by rw [h4 c_z]; show _ = _ + (0 : Int); omega⟩
    · refine ⟨oM_0 (by omega) km0 1 rfl, ?_⟩
      refine ⟨aM_1 (r := B_z 0 1) (by rw [c1_z]; omega) (by rw [c1_z]; exact kn1) (by omega) (by omega), ?_⟩
      have e1 : B_z (B_z 0 1) a = B_z 1 a := by rw [c1_z]
      refine ⟨fun h0 => ?_, fun h0 => ?_⟩
      · exact hend (Or.inr (by rw [c1_z, mB] at h0; omega))
      · refine ⟨oM_0 (by omega) km0 4 rfl, ?_⟩
        refine ⟨fun h1 => ?_, fun h1 => ?_⟩
        · exact hend (Or.inl h1)
        · exact ⟨rfl, h0, h1, rfl⟩
theorem times_exq {A : pm_A} {to a b E1 E2 : Int} (hH : tmH A to a b E1 E2) (h4 : A 0 4 = 0) : Cl pmt (an_sh wM) 196 [(2, 0), (0, to), (0, a), (0, b)] A (tmq_post A to a b) := by
  have hH0 := hH
  obtain ⟨hA, hto, ha_z, hb_z, hne, cfa, cfb, xa, xbb, hE⟩ := hH
  have ma := eM_1 hA (r := 1) (by omega) kn1 ha_z.1 (show a < 152 by omega)
  have c1_z := pM_1 hA
  refine Cl.of (Nat.le_of_ble_eq_true rfl) ?_
  refine wq_ok (full := o_X10_times) srt_times (fr := []) (cuts := [10]) (J := fun pc st_z => (pc = 10 ∧ st_z = ([(2, 0), (0, to), (0, a), (0, b), (0, 0), (9, 0), (9, 0), (9, 0), (9, 0), (9, 0), (9, 0)], [], pm_upd A (A 0 1) to 0))) ?_ 12 0 _ ?_
  · rintro pc st_z (⟨rfl, rfl⟩)
    rw [c1_z]
    have hm_z : pm_upd A 1 to 0 1 to = 0 := upd_at
    refine tq_10 hH0 _ 0 _ _ _ _ _ _ _ (Nat.lt_succ_self _) (by omega) (by omega) ⟨uM_1 hA kn1 (by omega) (by omega), fun r_z j_z hr _ _ => upd_o (fun e_z => hr (by unfold inS; omega))⟩ (Or.inr ⟨by rw [upd_o (by omega)]; exact h4, fun q_z q2_z h1 h2 h3 => by rw [hm_z] at h3; omega, fun q_z h1 h2 => by rw [hm_z] at h2; omega, fun c_z => ?_⟩)
    unfold LSm
    rw [hm_z]
    rfl
  · refine ⟨oM_0 (by omega) km0 1 rfl, ?_⟩
    refine ⟨tM_1 (r := A 0 1) (by rw [c1_z]; omega) (by rw [c1_z]; exact kn1) (by omega) (by omega) rfl, ?_⟩
    exact ⟨rfl, rfl⟩
end

section
/-! too much, by values; the reference's timesOften and product -/
def RpV (f : cr_Pv 12 → Rat) : Prop := ∃ l : cr_Pl_ 12, (∀ y_z ∈ l, 0 < y_z.1) ∧ l ≠ [] ∧ ∀ x_z : cr_Pv 12, cr_vl x_z.1 l = f x_z
def BigV (f : cr_Pv 12 → Rat) : Prop := ∃ l : cr_Pl_ 12, (∀ y_z ∈ l, 0 < y_z.1) ∧ (∀ x_z : cr_Pv 12, cr_vl x_z.1 l = f x_z) ∧ BigC (cr_co l)
theorem BigV.mul {f g : cr_Pv 12 → Rat} (h : BigV f) (hg : RpV g) : BigV (fun x_z => f x_z * g x_z) := by
  obtain ⟨l, h1, h2, h3⟩ := h
  obtain ⟨m_z, m1_z, m2_z, m3_z⟩ := hg
  exact ⟨cr_pmz l m_z, pmz_pos h1 m1_z, fun x_z => by rw [cr_vl_pmz x_z.2, h2, m3_z], h3.pmz h1 m1_z m2_z⟩
theorem BigV.add {f g : cr_Pv 12 → Rat} (h : BigV f) (hg : RpV g) : BigV (fun x_z => f x_z + g x_z) := by
  obtain ⟨l, h1, h2, h3⟩ := h
  obtain ⟨m_z, m1_z, m2_z, m3_z⟩ := hg
  refine ⟨l ++ m_z, fun y_z hy => ?_, fun x_z => by rw [cr_vl_app, h2, m3_z], h3.mono (fun a_z => ?_)⟩
  · rcases List.mem_append.1 hy with q_z | q_z
    · exact h1 y_z q_z
    · exact m1_z y_z q_z
  · rw [cr_co_app]
    have := cr_Shr.nonneg m1_z a_z
    omega
theorem BigV.eq {f g : cr_Pv 12 → Rat} (h : BigV f) (e : ∀ x_z, f x_z = g x_z) : BigV g := by
  obtain ⟨l, h1, h2, h3⟩ := h
  exact ⟨l, h1, fun x_z => by rw [h2, e], h3⟩
theorem RpV.eq {f g : cr_Pv 12 → Rat} (h : RpV f) (e : ∀ x_z, f x_z = g x_z) : RpV g := by
  obtain ⟨l, h1, h2, h3⟩ := h
  exact ⟨l, h1, h2, fun x_z => by rw [h3, e]⟩
theorem BigV.no {f : cr_Pv 12 → Rat} {l : cr_Pl_ 12} (hs : cr_Shr l) (h1 : ∀ y_z ∈ l, y_z.1 ≤ 1000000000000) (h2 : l.length ≤ 200) (hv : ∀ x_z : cr_Pv 12, cr_vl x_z.1 l = f x_z) : ¬ BigV f := by
  rintro ⟨m_z, m1_z, m2_z, m3_z⟩
  have e_z := cr_vl_unique (l := m_z) (l' := l) (fun x_z => by rw [m2_z, hv])
  exact not_big hs h1 h2 (m3_z.mono (fun a_z => Int.le_of_eq (e_z a_z)))
theorem pw_pos {l : cr_Pl_ 12} (h : ∀ y_z ∈ l, 0 < y_z.1) : ∀ m_z : Nat, ∀ y_z ∈ cr_pw l m_z, 0 < y_z.1
  | 0, y_z, hy => by
    rcases List.mem_cons.1 hy with e_z | e_z
    · rw [e_z]; show (0 : Int) < 1; omega
    · cases e_z
  | m_z + 1, y_z, hy => pmz_pos h (pw_pos h m_z) y_z hy
theorem RpV.pow {f : cr_Pv 12 → Rat} (h : RpV f) {n : Int} (hn : 0 ≤ n) : RpV (fun x_z => f x_z ^ n) := by
  obtain ⟨l, h1, h2, h3⟩ := h
  have hv : ∀ x_z : cr_Pv 12, cr_vl x_z.1 (cr_pw l n.toNat) = f x_z ^ n := fun x_z => by
    rw [cr_vl_pw x_z.2 (cr_vl_pos x_z.2 h1 h2), h3, Int.toNat_of_nonneg hn]
  refine ⟨cr_pw l n.toNat, pw_pos h1 _, fun e_z => ?_, hv⟩
  let o : cr_Pv 12 := ⟨fun _ => 1, fun _ => by grind⟩
  have h4 := hv o
  rw [e_z, cr_vl_nil] at h4
  have h5 := cr_vl_pos o.2 h1 h2
  rw [h3] at h5
  have h6 : 0 < f o ^ n := Rat.zpow_pos h5
  grind
theorem RpV.mul {f g : cr_Pv 12 → Rat} (h : RpV f) (hg : RpV g) : RpV (fun x_z => f x_z * g x_z) := by
  obtain ⟨l, h1, h2, h3⟩ := h
  obtain ⟨m_z, m1_z, m2_z, m3_z⟩ := hg
  refine ⟨cr_pmz l m_z, pmz_pos h1 m1_z, fun e_z => ?_, fun x_z => by rw [cr_vl_pmz x_z.2, h3, m3_z]⟩
  obtain ⟨y_z, hy⟩ := List.exists_mem_of_ne_nil l h2
  obtain ⟨z_z, hz⟩ := List.exists_mem_of_ne_nil m_z m2_z
  have := pmz_in hy hz
  rw [e_z] at this
  cases this
theorem RpV.one : RpV (fun _ => 1) := by
  refine ⟨[(1, fun _ => 0)], fun y_z hy => ?_, List.cons_ne_nil _ _, fun x_z => cr_vl_one x_z.1⟩
  rcases List.mem_cons.1 hy with e_z | e_z
  · rw [e_z]; show (0 : Int) < 1; omega
  · cases e_z
theorem RpV.var (i : Fin 12) : RpV (fun x_z => x_z.1 i) := by
  refine ⟨[(1, cr_up (fun _ => 0) i 1)], fun y_z hy => ?_, List.cons_ne_nil _ _, fun x_z => by rw [cr_vl_sing, cr_mo_e, Rat.zpow_one]⟩
  rcases List.mem_cons.1 hy with e_z | e_z
  · rw [e_z]; show (0 : Int) < 1; omega
  · cases e_z
theorem rp_VS {A : pm_A} {p : Int} (h : cfs A p) (hm : 1 ≤ A 1 p) : RpV (VS A p) := ⟨LSm A p, pos_LSm h, fun e_z => by
  have := LSm_len A p
  rw [e_z, List.length_nil] at this
  omega, fun x_z => rfl⟩
theorem yv_rp {A : pm_A} (hA : ltH A) (i : Nat) : RpV (fun x_z => yv A x_z i) := by
  by_cases h_z : (i : Int) < A 0 7
  · obtain ⟨_, d2_z, d3_z, _⟩ := hA.2.1 i (by omega) h_z
    exact (rp_VS d2_z d3_z).eq (fun x_z => by unfold yv; rw [if_pos h_z])
  · by_cases h2 : i < 12
    · exact (RpV.var ⟨i, h2⟩).eq (fun x_z => by unfold yv; rw [if_neg h_z, dif_pos h2])
    · exact RpV.one.eq (fun x_z => by unfold yv; rw [if_neg h_z, dif_neg h2])
theorem pvl_rp {A : pm_A} (hA : ltH A) (k sg : Int) : ∀ m_z : Nat, RpV (fun x_z => pvl A k sg x_z m_z)
  | 0 => RpV.one
  | m_z + 1 => (pvl_rp hA k sg m_z).mul ((yv_rp hA m_z).pow (n := (cx_pos (sg * A 5 (6 * (m_z : Int) + k)) : Int)) (by omega))
theorem pvl_ext {A : pm_A} (hA : ltH A) {k sg : Int} (i : Nat) (h : BigV (fun x_z => pvl A k sg x_z i)) : ∀ m_z : Nat, BigV (fun x_z => pvl A k sg x_z (i + m_z))
  | 0 => h
  | m_z + 1 => (pvl_ext hA i h m_z).mul ((yv_rp hA (i + m_z)).pow (n := (cx_pos (sg * A 5 (6 * ((i + m_z : Nat) : Int) + k)) : Int)) (by omega))
theorem big_VS {A : pm_A} {a b : Int} (ca : cfs A a) (cb : cfs A b) (h : tBg A a b) : BigV (fun x_z => VS A a x_z * VS A b x_z) :=
  ⟨cr_pmz (LSm A a) (LSm A b), pmz_pos (pos_LSm ca) (pos_LSm cb), fun x_z => cr_vl_pmz x_z.2 _ _, h⟩
abbrev oBg (A : pm_A) (s bb n : Int) : Prop := BigV (fun x_z => VS A s x_z * VS A bb x_z ^ n)
def toq_post (A : pm_A) (s bb n bs E1 E2 : Int) (r : pm_R) : Prop := r.1 = none ∧ toF A r.2 s bs ∧ ((r.2 0 4 = 1 ∧ oBg A s bb n) ∨ (r.2 0 4 = 0 ∧ srtd r.2 s ∧ cfs r.2 s ∧ 1 ≤ r.2 1 s ∧ xb r.2 s (E1 + n * E2) ∧ ∀ x_z, VS r.2 s x_z = VS A s x_z * VS A bb x_z ^ n))
theorem toq_of {A : pm_A} {s bb n bs E1 E2 : Int} {r : pm_R} (h : to_post A s bb n bs E1 E2 r) (h4 : r.2 0 4 = 0) : toq_post A s bb n bs E1 E2 r :=
  ⟨h.1, h.2.1, Or.inr (h.2.2.resolve_left (fun e_z => by omega))⟩
def toLq (A B : pm_A) (s bb n bs E1 E2 k : Int) : Prop := toF A B s bs ∧ ((B 0 4 = 1 ∧ oBg A s bb n) ∨ (B 0 4 = 0 ∧ srtd B s ∧ cfs B s ∧ 1 ≤ B 1 s ∧ xb B s (E1 + k * E2) ∧ ∀ x_z, VS B s x_z = VS A s x_z * VS A bb x_z ^ k))
theorem oq_28 {A : pm_A} {s bb n bs E1 E2 : Int} (hH : toH A s bb n bs E1 E2) (hm1 : A 1 bb = 1) (hn1 : A 2 (200 * bb) = 1) : ∀ (m_z : Nat) (t_z : Int) (v6 : pm_V) (B_z : pm_A), (A 1 s - t_z).toNat < m_z → 0 ≤ t_z → t_z ≤ A 1 s → moI A B_z s bb n t_z → Tm pmt (an_sh wM) o_X10_timesOften 28 ([(2, 0), (0, s), (0, bb), (0, n), (0, bs), (0, t_z), v6], [], B_z) (toq_post A s bb n bs E1 E2) := by
  have hs := hH.2.1
  intro m_z
  induction m_z with
  | zero => intro t_z v6 B_z h_z; omega
  | succ m_z ih_z =>
    intro t_z v6 B_z hn t0_z t1_z hI
    have c1_z := pM_1 hI.1
    have e0_z := (hI.2.2.1 s).1
    refine wq_ok srt_timesOften (fr := []) (cuts := [42]) (J := fun pc st_z => (pc = 42 ∧ (t_z < (B_z (B_z 0 1) s)) ∧ st_z = ([(2, 0), (0, s), (0, bb), (0, n), (0, bs), (0, t_z), (0, 0)], [], B_z))) ?_ 13 28 _ ?_
    · rintro pc st_z (⟨rfl, h0, rfl⟩)
      rw [c1_z, e0_z] at h0
      obtain ⟨g1, g2, g3_z, g4, g5_z⟩ := hI
      exact to_42 hH t0_z h0 (fun C_z v6 hC => ih_z (t_z + 1) v6 C_z (by omega) (by omega) (by omega) hC) _ 0 B_z (Nat.lt_succ_self _) (by omega) (by omega) ⟨g1, g2, g3_z, g4, fun q_z v_z q0 q1_z v0_z v1_z => g5_z q_z v_z (by omega) q1_z v0_z v1_z, fun v_z v0_z v1_z => by omega, fun v_z v0_z v1_z => g5_z t_z v_z (by omega) (by have := eM_1 hH.1 (r := 1) (by omega) kn1 hs.1 (show s < 152 by omega); omega) (by omega) v1_z⟩
    · refine ⟨oM_0 (by omega) km0 1 rfl, ?_⟩
      refine ⟨aM_1 (r := B_z 0 1) (by rw [c1_z]; omega) (by rw [c1_z]; exact kn1) (by omega) (by omega), ?_⟩
      have e1 : B_z (B_z 0 1) s = B_z 1 s := by rw [c1_z]
      refine ⟨fun h0 => ?_, fun h0 => ?_⟩
      · exact toq_of (to_mono hH hm1 hn1 (by rw [c1_z, e0_z] at h0; exact h0) hI) (by show B_z 0 4 = 0; rw [hI.2.1 0 4 (by unfold inS; omega)]; exact hH.2.2.2.2.2.2.2.2.2.2.2.2)
      · exact ⟨rfl, h0, rfl⟩
theorem oq_102 {A : pm_A} {s bb n bs E1 E2 : Int} (hH : toH A s bb n bs E1 E2) (hn : n ≤ 2147483647) : ∀ (m_z : Nat) (k_z : Int) (v6 : pm_V) (B_z : pm_A), (n - k_z).toNat < m_z → 0 ≤ k_z → k_z ≤ n → toLq A B_z s bb n bs E1 E2 k_z → Tm pmt (an_sh wM) o_X10_timesOften 102 ([(2, 0), (0, s), (0, bb), (0, n), (0, bs), (0, k_z), v6], [], B_z) (toq_post A s bb n bs E1 E2) := by
  obtain ⟨hA, hs, hb_z, hbs, hne, hsr, hcs, hcb, xs, xbb, hE, hm_z, h4⟩ := hH
  have mb := eM_1 hA (r := 1) (by omega) kn1 hb_z.1 (show bb < 152 by omega)
  intro m_z
  induction m_z with
  | zero => intro k_z v6 B_z h_z; omega
  | succ m_z ih_z =>
    intro k_z v6 B_z hk k0_z k1_z hL
    obtain ⟨hF, hL2⟩ := hL
    have s4_z := fM_0_4 hF.1 (r := 0) (by omega) km0
    have hbS : ∀ r_z j_z, inS bb r_z j_z → B_z r_z j_z = A r_z j_z := fun r_z j_z h_z => hF.2 r_z j_z (by unfold inS at *; omega) (by unfold inS at *; omega) (by unfold inS at h_z; omega) (by unfold inS at h_z; omega)
    have msB := eM_1 hF.1 (r := 1) (by omega) kn1 hs.1 (show s < 152 by omega)
    have hend : (B_z 0 4 ≠ 0 ∨ n ≤ k_z) → toq_post A s bb n bs E1 E2 (none, B_z) := fun hc_z => ⟨rfl, hF, by
      rcases hL2 with h_z | h_z
      · exact Or.inl h_z
      · have e_z : k_z = n := by rcases hc_z with h5 | h5; exact absurd h_z.1 h5; omega
        rw [e_z] at h_z
        exact Or.inr h_z⟩
    have hlast : ∀ C_z v6, k_z < n → B_z 0 4 = 0 → tmF B_z C_z bs → C_z 0 4 = 0 → srtd C_z bs → cfs C_z bs → (∀ c_z, cr_co (LSm C_z bs) c_z = cr_co (cr_pmz (LSm B_z s) (LSm B_z bb)) c_z) → Cl pmt (an_sh wM) 134 [(2, 0), (0, s), (0, bs)] C_z (fun r_z => r_z.1 = none ∧ Tm pmt (an_sh wM) o_X10_timesOften 137 ([(2, 0), (0, s), (0, bb), (0, n), (0, bs), (0, k_z), v6], [], r_z.2) (toq_post A s bb n bs E1 E2)) := fun C_z v6 hkn hB4 hCF hC4 hCs hCc hCo => by
      refine (copy_ex hCF.1 (by omega) hs.1 hs.2 hbs.1 hbs.2).imp ?_
      rintro ⟨r1_z, D_z⟩ ⟨q1_z, q2_z, q3_z, q4_z⟩
      simp only at q1_z q2_z q3_z q4_z
      obtain ⟨hB1, hB2, hB3, hB4', hB5, hB6⟩ : B_z 0 4 = 0 ∧ srtd B_z s ∧ cfs B_z s ∧ 1 ≤ B_z 1 s ∧ xb B_z s (E1 + k_z * E2) ∧ ∀ x_z, VS B_z s x_z = VS A s x_z * VS A bb x_z ^ k_z := by
        rcases hL2 with h_z | h_z
        · have := h_z.1; omega
        · exact h_z
      have mD_z := eM_1 q2_z (r := 1) (by omega) kn1 hs.1 (show s < 152 by omega)
      have mC := eM_1 hCF.1 (r := 1) (by omega) kn1 hbs.1 (show bs < 152 by omega)
      have hxp := xb_prod hCc hCo hB5 (xb_same mb.2 hbS xbb)
      have hVb : VS B_z bb = VS A bb := VS_of (LSm_same mb.2 hbS)
      have hVp : ∀ x_z, VS C_z bs x_z = VS A s x_z * VS A bb x_z ^ (k_z + 1) := fun x_z => by
        rw [VS_prod hCo x_z, hVb, hB6 x_z, cr_zp_add (VS_pos hcb hm_z.2 x_z), Rat.zpow_one]; grind
      have hCm : 1 ≤ C_z 1 bs := by
        refine Classical.byContradiction (fun hneg => ?_)
        let o : cr_Pv 12 := ⟨fun _ => 1, fun _ => by grind⟩
        have h0 : VS C_z bs o = 0 := by
          unfold VS LSm
          rw [show C_z 1 bs = 0 by omega]; rfl
        rw [hVp o] at h0
        have := Rat.mul_pos (VS_pos hcs hm_z.1 o) (Rat.zpow_pos (VS_pos hcb hm_z.2 o) : 0 < VS A bb o ^ (k_z + 1))
        grind
      refine ⟨q1_z, to_137 k0_z hkn hn (ih_z (k_z + 1) v6 D_z (by omega) (by omega) (by omega) ⟨⟨q2_z, fun r_z j_z hr hr2 h4 h5 => ?_⟩, Or.inr ⟨?_, ls_srtd q4_z mD_z.1 mC.1 hCs, ls_cfs q4_z mD_z.1 mC.1 hCc, ?_, ?_, fun x_z => ?_⟩⟩)⟩
      · rw [q3_z r_z j_z hr, hCF.2 r_z j_z hr2 h4 h5]; exact hF.2 r_z j_z hr hr2 h4 h5
      · rw [q3_z 0 4 (by unfold inS; omega)]; exact hC4
      · rw [(ls_xe q4_z mD_z.1 mC.1).1]; exact hCm
      · have := ls_xb q4_z mD_z.1 mC.1 hxp
        rw [show E1 + (k_z + 1) * E2 = E1 + k_z * E2 + E2 by rw [Int.add_mul]; omega]
        exact this
      · rw [VS_of q4_z]; exact hVp x_z
    refine wq_ok srt_timesOften (fr := []) (cuts := [123]) (J := fun pc st_z => (pc = 123 ∧ k_z < n ∧ B_z 0 4 = 0 ∧ ∃ C_z, tmF B_z C_z bs ∧ ((C_z 0 4 = 1 ∧ tBg B_z s bb) ∨ (C_z 0 4 = 0 ∧ srtd C_z bs ∧ cfs C_z bs ∧ ∀ c_z, cr_co (LSm C_z bs) c_z = cr_co (cr_pmz (LSm B_z s) (LSm B_z bb)) c_z)) ∧ st_z = ([(2, 0), (0, s), (0, bb), (0, n), (0, bs), (0, k_z), v6], [], C_z))) ?_ 15 102 _ ?_
    · rintro pc st_z (⟨rfl, hkn, hB4, C_z, hCF, hC, rfl⟩)
      refine wq_ok srt_timesOften (fr := []) (cuts := [137]) (J := fun pc st_z => (pc = 137 ∧ (¬ (C_z 0 4) = 0) ∧ st_z = ([(2, 0), (0, s), (0, bb), (0, n), (0, bs), (0, k_z), v6], [], C_z)) ∨ (pc = 137 ∧ ∃ D_z, Tm pmt (an_sh wM) o_X10_timesOften 137 ([(2, 0), (0, s), (0, bb), (0, n), (0, bs), (0, k_z), v6], [], D_z) (toq_post A s bb n bs E1 E2) ∧ st_z = ([(2, 0), (0, s), (0, bb), (0, n), (0, bs), (0, k_z), v6], [], D_z))) ?_ 11 123 _ ?_
      · rintro pc st_z (⟨rfl, h0, rfl⟩ | ⟨rfl, D_z, hD, rfl⟩)
        · have hC1 : C_z 0 4 = 1 ∧ oBg A s bb n := by
            rcases hC with h_z | h_z
            · obtain ⟨hB1, hB2, hB3, hB4', hB5, hB6⟩ : B_z 0 4 = 0 ∧ srtd B_z s ∧ cfs B_z s ∧ 1 ≤ B_z 1 s ∧ xb B_z s (E1 + k_z * E2) ∧ ∀ x_z, VS B_z s x_z = VS A s x_z * VS A bb x_z ^ k_z := by
                rcases hL2 with h_z | h_z
                · have := h_z.1; omega
                · exact h_z
              have hVb : VS B_z bb = VS A bb := VS_of (LSm_same mb.2 hbS)
              refine ⟨h_z.1, (BigV.mul (big_VS hB3 (cfs_same mb.2 hbS hcb) h_z.2) ((rp_VS hcb hm_z.2).pow (n := n - k_z - 1) (by omega))).eq (fun x_z => ?_)⟩
              have hp := VS_pos hcb hm_z.2 x_z
              rw [hVb, hB6 x_z, show n = k_z + 1 + (n - k_z - 1) by omega, cr_zp_add hp (k_z + 1), cr_zp_add hp k_z, Rat.zpow_one, show k_z + 1 + (n - k_z - 1) - k_z - 1 = n - k_z - 1 by omega]
              grind
            · exact absurd h_z.1 h0
          exact to_137 k0_z hkn hn (ih_z (k_z + 1) v6 C_z (by omega) (by omega) (by omega) ⟨⟨hCF.1, fun r_z j_z hr hr2 h4 h5 => (hCF.2 r_z j_z hr2 h4 h5).trans (hF.2 r_z j_z hr hr2 h4 h5)⟩, Or.inl hC1⟩)
        · exact hD
      · refine ⟨oM_0 (by omega) km0 4 rfl, ?_⟩
        refine ⟨fun h0 => ?_, fun h0 => ?_⟩
        · exact Or.inl (⟨rfl, h0, rfl⟩)
        · refine ⟨rM_0 (by omega) km0, ?_⟩
          obtain ⟨hC4, hCs, hCc, hCo⟩ : C_z 0 4 = 0 ∧ srtd C_z bs ∧ cfs C_z bs ∧ ∀ c_z, cr_co (LSm C_z bs) c_z = cr_co (cr_pmz (LSm B_z s) (LSm B_z bb)) c_z := by
            rcases hC with h_z | h_z
            · have := h_z.1; omega
            · exact h_z
          refine (hlast C_z v6 hkn hB4 hCF hC4 hCs hCc hCo).imp ?_
          rintro ⟨r1_z, D_z⟩ ⟨q1_z, q2_z⟩
          simp only at q1_z q2_z
          subst q1_z
          exact Or.inr (⟨rfl, D_z, q2_z, rfl⟩)
    · refine ⟨fun h0 => ?_, fun h0 => ?_⟩
      · exact hend (Or.inr h0)
      · refine ⟨oM_0 (by omega) km0 4 rfl, ?_⟩
        refine ⟨fun h1 => ?_, fun h1 => ?_⟩
        · exact hend (Or.inl h1)
        · refine ⟨rM_0 (by omega) km0, ?_⟩
          have hB1 : B_z 0 4 = 0 := h1
          obtain ⟨_, hB2, hB3, hB4, hB5, hB6⟩ : B_z 0 4 = 0 ∧ srtd B_z s ∧ cfs B_z s ∧ 1 ≤ B_z 1 s ∧ xb B_z s (E1 + k_z * E2) ∧ ∀ x_z, VS B_z s x_z = VS A s x_z * VS A bb x_z ^ k_z := by
            rcases hL2 with h_z | h_z
            · have := h_z.1; omega
            · exact h_z
          have hk1 := Int.mul_le_mul_of_nonneg_right (show k_z + 1 ≤ n by omega) hE.2.1
          have hk2 := Int.mul_nonneg k0_z hE.2.1
          rw [Int.add_mul] at hk1
          refine (times_exq (to := bs) (a := s) (b := bb) (E1 := E1 + k_z * E2) (E2 := E2) ⟨hF.1, hbs, hs, hb_z, ⟨by omega, by omega⟩, hB3, cfs_same mb.2 hbS hcb, hB5, xb_same mb.2 hbS xbb, by omega, by omega, by omega⟩ hB1).imp ?_
          rintro ⟨r1_z, C_z⟩ ⟨q1_z, q2_z, q3_z⟩
          simp only at q1_z q2_z q3_z
          subst q1_z
          exact ⟨rfl, h0, h1, C_z, q2_z, q3_z, rfl⟩
theorem timesOften_exq {A : pm_A} {s bb n bs E1 E2 : Int} (hH : toH A s bb n bs E1 E2) (hn : n ≤ 2147483647) : Cl pmt (an_sh wM) 197 [(2, 0), (0, s), (0, bb), (0, n), (0, bs)] A (toq_post A s bb n bs E1 E2) := by
  have hH0 := hH
  obtain ⟨hA, hs, hb_z, hbs, hne, hsr, hcs, hcb, xs, xbb, hE, hm_z, h4⟩ := hH
  have mb := eM_1 hA (r := 1) (by omega) kn1 hb_z.1 (show bb < 152 by omega)
  have c1_z := pM_1 hA
  have c2_z := pM_2 hA
  have hL : Tm pmt (an_sh wM) o_X10_timesOften 102 ([(2, 0), (0, s), (0, bb), (0, n), (0, bs), (0, 0), (9, 0)], [], A) (toq_post A s bb n bs E1 E2) := oq_102 hH0 hn _ 0 _ A (Nat.lt_succ_self _) (by omega) (by omega) ⟨⟨hA, fun _ _ _ _ _ _ => rfl⟩, Or.inr ⟨h4, hsr, hcs, hm_z.1, by rw [Int.zero_mul, Int.add_zero]; exact xs, fun x_z => by rw [Rat.zpow_zero, Rat.mul_one]⟩⟩
  refine Cl.of (Nat.le_of_ble_eq_true rfl) ?_
  refine wq_ok (full := o_X10_timesOften) srt_timesOften (fr := []) (cuts := [28, 102]) (J := fun pc st_z => (pc = 102 ∧ (¬ (A (A 0 1) bb) = 1) ∧ st_z = ([(2, 0), (0, s), (0, bb), (0, n), (0, bs), (0, 0), (9, 0)], [], A)) ∨ (pc = 102 ∧ ((A (A 0 1) bb) = 1) ∧ (1 < (A (A 0 2) (200 * bb))) ∧ st_z = ([(2, 0), (0, s), (0, bb), (0, n), (0, bs), (0, 0), (9, 0)], [], A)) ∨ (pc = 28 ∧ ((A (A 0 1) bb) = 1) ∧ ((A (A 0 2) (200 * bb)) = 1) ∧ st_z = ([(2, 0), (0, s), (0, bb), (0, n), (0, bs), (0, 0), (9, 0)], [], A)) ∨ (pc = 102 ∧ ((A (A 0 1) bb) = 1) ∧ ((A (A 0 2) (200 * bb)) < 1) ∧ st_z = ([(2, 0), (0, s), (0, bb), (0, n), (0, bs), (0, 0), (9, 0)], [], A))) ?_ 22 0 _ ?_
  · rintro pc st_z (⟨rfl, h0, rfl⟩ | ⟨rfl, h0, h1, rfl⟩ | ⟨rfl, h0, h1, rfl⟩ | ⟨rfl, h0, h1, rfl⟩)
    · exact hL
    · exact hL
    · rw [c1_z] at h0
      rw [c2_z] at h1
      exact oq_28 hH0 h0 h1 _ 0 _ A (Nat.lt_succ_self _) (by omega) (by omega) ⟨hA, fun _ _ _ => rfl, fun j_z => ⟨rfl, rfl⟩, fun q_z v_z q0 q1_z v0_z v1_z => by omega, fun q_z v_z q0 q1_z v0_z v1_z => rfl⟩
    · exact hL
  · refine ⟨oM_0 (by omega) km0 1 rfl, ?_⟩
    refine ⟨aM_1 (r := A 0 1) (by rw [c1_z]; omega) (by rw [c1_z]; exact kn1) (by omega) (by omega), ?_⟩
    have e1 : A (A 0 1) bb = A 1 bb := by rw [c1_z]
    refine ⟨fun h0 => ?_, fun h0 => ?_⟩
    · exact Or.inl (⟨rfl, h0, rfl⟩)
    · refine ⟨oM_0 (by omega) km0 2 rfl, ?_⟩
      refine ⟨⟨by omega, by omega⟩, ?_⟩
      refine ⟨aM_2 (r := A 0 2) (by rw [c2_z]; omega) (by rw [c2_z]; exact kn2) (by omega) (by omega), ?_⟩
      have e2 : A (A 0 2) (200 * bb) = A 2 (200 * bb) := by rw [c2_z]
      refine ⟨fun h1 => ?_, fun h1 => ?_, fun h1 => ?_⟩
      · refine ⟨fun _ => ?_, fun hh => absurd hh (by decide)⟩
        exact Or.inr (Or.inl (⟨rfl, h0, h1, rfl⟩))
      · refine ⟨fun hh => absurd hh (by decide), fun _ => ?_⟩
        exact Or.inr (Or.inr (Or.inl (⟨rfl, h0, h1, rfl⟩)))
      · refine ⟨fun _ => ?_, fun hh => absurd hh (by decide)⟩
        exact Or.inr (Or.inr (Or.inr (⟨rfl, h0, h1, rfl⟩)))
abbrev pBg (A : pm_A) (k sg : Int) : Prop := BigV (fun x_z => pvl A k sg x_z (A 0 7 + A 0 8).toNat)
def mpq_post (A : pm_A) (to k sg : Int) (r : pm_R) : Prop := r.1 = none ∧ prF A r.2 to ∧ ((r.2 0 4 = 1 ∧ pBg A k sg) ∨ (r.2 0 4 = 0 ∧ prG A r.2 to k sg (A 0 7 + A 0 8)))
theorem pq_72 {A B C : pm_A} {to k sg i n p : Int} (hto : to = 42 ∨ to = 43) (hp : 0 ≤ p ∧ p ≤ 46 ∧ p ≠ to) (i0 : 0 ≤ i) (i1 : i < A 0 7 + A 0 8) (hw : A 0 7 + A 0 8 ≤ 12) (hn : n = sg * A 5 (6 * i + k)) (n0 : 0 < n) (n1 : n ≤ 9999) (hB : prF A B to) (h4 : B 0 4 = 0) (hG : prG A B to k sg i) (hC : gH wM C) (hCF : ∀ q_z j_z, ¬ inS 46 q_z j_z → C q_z j_z = B q_z j_z) (hcp : cfs C p) (hmp : 1 ≤ C 1 p) (hxp : xb C p 1810) (hv : ∀ x_z, VS C p x_z = yv A x_z i.toNat) {z : pm_R → Prop}
    (hlt : ltH A) (H : ∀ D_z, prF A D_z to → ((D_z 0 4 = 1 ∧ pBg A k sg) ∨ (D_z 0 4 = 0 ∧ prG A D_z to k sg (i + 1))) → Tm pmt (an_sh wM) o_X10_product 8 ([(2, 0), (0, to), (0, k), (0, sg), (0, i + 1), (0, n)], [], D_z) z) : Tm pmt (an_sh wM) o_X10_product 72 ([(2, 0), (0, to), (0, k), (0, sg), (0, i), (0, n)], [(0, p), (0, to), (2, 0)], C) z := by
  obtain ⟨g1, g2, g3_z, g4, g5_z⟩ := hG
  have mt := eM_1 hB.1 (r := 1) (by omega) kn1 (j := to) (by omega) (by omega)
  have hs : ∀ r_z j_z, inS to r_z j_z → C r_z j_z = B r_z j_z := fun r_z j_z h_z => hCF r_z j_z (by unfold inS at *; omega)
  have hls := LSm_same mt.2 hs
  have mC := eM_1 hC (r := 1) (by omega) kn1 (j := to) (by omega) (by omega)
  have hni := Int.mul_le_mul_of_nonneg_right n1 (show (0 : Int) ≤ 1810 by omega)
  refine wq_ok srt_Mproduct (fr := []) (cuts := [79]) (J := fun pc st_z => (pc = 79 ∧ ∃ D_z, toF C D_z to 47 ∧ ((D_z 0 4 = 1 ∧ oBg C to p n) ∨ (D_z 0 4 = 0 ∧ srtd D_z to ∧ cfs D_z to ∧ 1 ≤ D_z 1 to ∧ xb D_z to (i * 18098190 + n * 1810) ∧ ∀ x_z, VS D_z to x_z = VS C to x_z * VS C p x_z ^ n)) ∧ st_z = ([(2, 0), (0, to), (0, k), (0, sg), (0, i), (0, n)], [], D_z))) ?_ 7 72 _ ?_
  · rintro pc st_z (⟨rfl, D_z, hDF, hD, rfl⟩)
    refine pr_79 i0 (by omega) (H D_z ⟨hDF.1, fun r_z j_z a1_z a2 a3 a4 a5 => ?_⟩ ?_)
    · rw [hDF.2 r_z j_z a1_z a3 a4 a5, hCF r_z j_z a2]; exact hB.2 r_z j_z a1_z a2 a3 a4 a5
    · rcases hD with h_z | ⟨d1_z, d2_z, d3_z, d4_z, d5_z, d6_z⟩
      · refine Or.inl ⟨h_z.1, ?_⟩
        have hb_z : BigV (fun x_z => pvl A k sg x_z (i.toNat + 1)) := h_z.2.eq (fun x_z => by
          rw [VS_of hls, g5_z x_z, hv x_z]
          show _ = pvl A k sg x_z i.toNat * yv A x_z i.toNat ^ (cx_pos (sg * A 5 (6 * ((i.toNat : Nat) : Int) + k)) : Int)
          rw [Int.toNat_of_nonneg i0, ← hn, show ((cx_pos n : Nat) : Int) = n by unfold cx_pos; omega])
        have := pvl_ext hlt (i.toNat + 1) hb_z ((A 0 7 + A 0 8).toNat - (i.toNat + 1))
        rw [show i.toNat + 1 + ((A 0 7 + A 0 8).toNat - (i.toNat + 1)) = (A 0 7 + A 0 8).toNat by omega] at this
        exact this
      · refine Or.inr ⟨d1_z, d2_z, d3_z, d4_z, xb_mono d5_z (by omega), fun x_z => ?_⟩
        rw [d6_z x_z, VS_of hls, g5_z x_z, hv x_z, show (i + 1).toNat = i.toNat + 1 by omega]
        show _ = pvl A k sg x_z i.toNat * yv A x_z i.toNat ^ (cx_pos (sg * A 5 (6 * ((i.toNat : Nat) : Int) + k)) : Int)
        rw [Int.toNat_of_nonneg i0, ← hn]
        have : ((cx_pos n : Nat) : Int) = n := by unfold cx_pos; omega
        rw [this]
  · refine ⟨rM_0 (by omega) km0, ?_⟩
    refine (timesOften_exq (s := to) (bb := p) (n := n) (bs := 47) (E1 := i * 18098190) (E2 := 1810) ⟨hC, by omega, by omega, by omega, ⟨by omega, by omega, by omega⟩, ls_srtd hls mC.1 mt.1 g1, ls_cfs hls mC.1 mt.1 g2, hcp, ls_xb hls mC.1 mt.1 g4, hxp, ⟨by omega, by omega, by omega, by omega⟩, ⟨by rw [hs 1 to (Or.inl ⟨rfl, rfl⟩)]; exact g3_z, hmp⟩, by rw [hCF 0 4 (by unfold inS; omega)]; exact h4⟩ (by omega)).imp ?_
    rintro ⟨r1_z, D_z⟩ ⟨q1_z, q2_z, q3_z⟩
    simp only at q1_z q2_z q3_z
    subst q1_z
    exact ⟨rfl, D_z, q2_z, q3_z, rfl⟩
theorem pq_8 {A : pm_A} {to k sg : Int} (hA : ltH A) (hto : to = 42 ∨ to = 43) (k0 : 0 ≤ k) (k1 : k < A 0 7) (hsg : sg = 1 ∨ sg = -1) : ∀ (m_z : Nat) (i_z : Int) (v5 : pm_V) (B_z : pm_A), (A 0 7 + A 0 8 - i_z).toNat < m_z → 0 ≤ i_z → i_z ≤ A 0 7 + A 0 8 → prF A B_z to → ((B_z 0 4 = 1 ∧ pBg A k sg) ∨ (B_z 0 4 = 0 ∧ prG A B_z to k sg i_z)) → Tm pmt (an_sh wM) o_X10_product 8 ([(2, 0), (0, to), (0, k), (0, sg), (0, i_z), v5], [], B_z) (mpq_post A to k sg) := by
  have p7_z := fM_0_7 hA.1 (r := 0) (by omega) km0
  have p8 := fM_0_8 hA.1 (r := 0) (by omega) km0
  intro m_z
  induction m_z with
  | zero => intro i_z v5 B_z h_z; omega
  | succ m_z ih_z =>
    intro i_z v5 B_z hm_z i0_z i1_z hF hI
    have c9_z := pM_9 hF.1
    have e7_z : B_z 0 7 = A 0 7 := hF.2 0 7 (by unfold inS; omega) (by unfold inS; omega) (by unfold inS; omega) (by omega) (by omega)
    have e8 : B_z 0 8 = A 0 8 := hF.2 0 8 (by unfold inS; omega) (by unfold inS; omega) (by unfold inS; omega) (by omega) (by omega)
    have e5 : ∀ j_z : Int, B_z 5 j_z = A 5 j_z := fun j_z => hF.2 5 j_z (by unfold inS; omega) (by unfold inS; omega) (by unfold inS; omega) (by omega) (by omega)
    have harr : i_z < A 0 7 + A 0 8 → -9999 ≤ B_z 5 (6 * i_z + k) ∧ B_z 5 (6 * i_z + k) ≤ 9999 := fun h_z => by rw [e5]; exact hA.2.2 i_z k i0_z h_z k0 k1
    have hmul_z : ∀ X_z : Int, -9999 ≤ X_z → X_z ≤ 9999 → -9999 ≤ sg * X_z ∧ sg * X_z ≤ 9999 := fun X_z h1 h2 => by rcases hsg with rfl | rfl <;> omega
    have s4_z := fM_0_4 hF.1 (r := 0) (by omega) km0
    have hend : (B_z 0 4 ≠ 0 ∨ A 0 7 + A 0 8 ≤ i_z) → mpq_post A to k sg (none, B_z) := fun hc_z => ⟨rfl, hF, by
      rcases hI with h_z | h_z
      · exact Or.inl h_z
      · have e_z : i_z = A 0 7 + A 0 8 := by rcases hc_z with h5 | h5; exact absurd h_z.1 h5; omega
        rw [e_z] at h_z
        exact Or.inr h_z⟩
    have hget_z : B_z 0 4 = 0 → prG A B_z to k sg i_z := fun h_z => by
      rcases hI with h2 | h2
      · have := h2.1; omega
      · exact h2.2
    refine wq_ok srt_Mproduct (fr := []) (cuts := [72, 79]) (J := fun pc st_z => (pc = 79 ∧ (i_z < ((B_z 0 7) + (B_z 0 8))) ∧ ((B_z 0 4) = 0) ∧ ((sg * (B_z (B_z 0 9) ((6 * i_z) + k))) ≤ 0) ∧ st_z = ([(2, 0), (0, to), (0, k), (0, sg), (0, i_z), (0, sg * (B_z (B_z 0 9) ((6 * i_z) + k)))], [], B_z)) ∨ (pc = 72 ∧ (i_z < B_z 0 7 + B_z 0 8) ∧ (B_z 0 4 = 0) ∧ (0 < sg * B_z (B_z 0 9) (6 * i_z + k)) ∧ (B_z 0 7 ≤ i_z) ∧ ∃ C_z, gH wM C_z ∧ (∀ q_z j_z, ¬ inS 46 q_z j_z → C_z q_z j_z = B_z q_z j_z) ∧ LSm C_z 46 = [(1, fun v_z => if (v_z.1 : Int) = i_z then 1 else 0)] ∧ st_z = ([(2, 0), (0, to), (0, k), (0, sg), (0, i_z), (0, sg * B_z (B_z 0 9) (6 * i_z + k))], [(0, 46), (0, to), (2, 0)], C_z)) ∨ (pc = 72 ∧ (i_z < ((B_z 0 7) + (B_z 0 8))) ∧ ((B_z 0 4) = 0) ∧ (0 < (sg * (B_z (B_z 0 9) ((6 * i_z) + k)))) ∧ (i_z < (B_z 0 7)) ∧ st_z = ([(2, 0), (0, to), (0, k), (0, sg), (0, i_z), (0, sg * (B_z (B_z 0 9) ((6 * i_z) + k)))], [(0, i_z), (0, to), (2, 0)], B_z))) ?_ 36 8 _ ?_
    · rintro pc st_z (⟨rfl, h0, h1, h2, rfl⟩ | ⟨rfl, h0, h1, h2, h3, C_z, q2_z, q3_z, q4_z, rfl⟩ | ⟨rfl, h0, h1, h2, h3, rfl⟩)
      · rw [e7_z, e8] at h0
        rw [c9_z, e5] at h2 ⊢
        have ha_z := hA.2.2 i_z k i0_z h0 k0 k1
        have hm2 := hmul_z _ ha_z.1 ha_z.2
        refine pr_79 i0_z (by omega) (ih_z (i_z + 1) _ B_z (by omega) (by omega) (by omega) hF (Or.inr ⟨h1, ?_⟩))
        obtain ⟨g1, g2, g3_z, g4, g5_z⟩ := hget_z h1
        refine ⟨g1, g2, g3_z, xb_mono g4 (by omega), fun x_z => ?_⟩
        rw [g5_z x_z, show (i_z + 1).toNat = i_z.toNat + 1 by omega]
        show _ = pvl A k sg x_z i_z.toNat * yv A x_z i_z.toNat ^ (cx_pos (sg * A 5 (6 * ((i_z.toNat : Nat) : Int) + k)) : Int)
        rw [Int.toNat_of_nonneg i0_z]
        have : ((cx_pos (sg * A 5 (6 * i_z + k)) : Nat) : Int) = 0 := by unfold cx_pos; omega
        rw [this, Rat.zpow_zero, Rat.mul_one]
      · rw [e7_z] at h3
        rw [e7_z, e8] at h0
        rw [c9_z, e5] at h2 ⊢
        have ha_z := hA.2.2 i_z k i0_z h0 k0 k1
        have hm2 := hmul_z _ ha_z.1 ha_z.2
        have mC := eM_1 q2_z (r := 1) (by omega) kn1 (j := 46) (by omega) (by omega)
        have hm1 : C_z 1 46 = 1 := by
          have := congrArg List.length q4_z
          rw [LSm_len] at this
          simp at this
          omega
        have hall : ∀ q_z : Int, 0 ≤ q_z → q_z < C_z 1 46 → C_z 2 (200 * 46 + q_z) = 1 ∧ xe C_z 46 q_z = fun v_z => if (v_z.1 : Int) = i_z then 1 else 0 := fun q_z q0 q1_z => by
          have hi_z := in_LSm (A := C_z) (p := 46) q0 q1_z
          rw [q4_z] at hi_z
          simp only [List.mem_cons, List.not_mem_nil, or_false] at hi_z
          exact ⟨congrArg Prod.fst hi_z, congrArg Prod.snd hi_z⟩
        refine pq_72 hto ⟨by omega, by omega, by omega⟩ i0_z h0 (by omega) rfl h2 hm2.2 hF h1 (hget_z h1) q2_z q3_z (fun q_z q0 q1_z => by rw [(hall q_z q0 q1_z).1]; omega) (by omega) (fun q_z v_z q0 q1_z v0_z v1_z => ?_) (fun x_z => ?_) hA (fun D_z hD hD2 => ih_z (i_z + 1) _ D_z (by omega) (by omega) (by omega) hD hD2)
        · have := congrFun (hall q_z q0 q1_z).2 ⟨v_z.toNat, by omega⟩
          have e2 : C_z 3 (12 * (200 * 46 + q_z) + ((v_z.toNat : Nat) : Int)) = if ((v_z.toNat : Nat) : Int) = i_z then 1 else 0 := this
          rw [Int.toNat_of_nonneg v0_z] at e2
          rw [e2]
          by_cases hv : v_z = i_z
          · rw [if_pos hv]; omega
          · rw [if_neg hv]; omega
        · unfold yv VS
          rw [Int.toNat_of_nonneg i0_z, if_neg (by omega), dif_pos (show i_z.toNat < 12 by omega), q4_z, cr_vl_sing]
          have e3 : (fun v_z : Fin 12 => if (v_z.1 : Int) = i_z then (1 : Int) else 0) = cr_up (fun _ => 0) ⟨i_z.toNat, by omega⟩ 1 := funext fun v_z => by
            unfold cr_up
            by_cases hv : (v_z.1 : Int) = i_z
            · rw [if_pos hv, if_pos (Fin.ext (by show v_z.1 = i_z.toNat; omega))]
            · rw [if_neg hv, if_neg (fun e_z => hv (by rw [e_z]; show ((i_z.toNat : Nat) : Int) = i_z; omega))]
          rw [e3, cr_mo_e, Rat.zpow_one]
      · rw [e7_z] at h3
        rw [e7_z, e8] at h0
        rw [c9_z, e5] at h2 ⊢
        have ha_z := hA.2.2 i_z k i0_z h0 k0 k1
        have hm2 := hmul_z _ ha_z.1 ha_z.2
        obtain ⟨d1_z, d2_z, d3_z, d4_z⟩ := hA.2.1 i_z i0_z h3
        have mi := eM_1 hA.1 (r := 1) (by omega) kn1 (j := i_z) i0_z (by omega)
        have hbS : ∀ r_z j_z, inS i_z r_z j_z → B_z r_z j_z = A r_z j_z := fun r_z j_z h_z => hF.2 r_z j_z (by unfold inS at *; omega) (by unfold inS at *; omega) (by unfold inS at *; omega) (by unfold inS at h_z; omega) (by unfold inS at h_z; omega)
        refine pq_72 hto ⟨i0_z, by omega, by omega⟩ i0_z h0 (by omega) rfl h2 hm2.2 hF h1 (hget_z h1) hF.1 (fun _ _ _ => rfl) (cfs_same mi.2 hbS d2_z) (by rw [hbS 1 i_z (Or.inl ⟨rfl, rfl⟩)]; exact d3_z) (xb_same mi.2 hbS d4_z) (fun x_z => ?_) hA (fun D_z hD hD2 => ih_z (i_z + 1) _ D_z (by omega) (by omega) (by omega) hD hD2)
        unfold yv
        rw [Int.toNat_of_nonneg i0_z, if_pos h3, VS_of (LSm_same mi.2 hbS)]
    · refine ⟨oM_0 (by omega) km0 7 rfl, ?_⟩
      refine ⟨oM_0 (by omega) km0 8 rfl, ?_⟩
      refine ⟨⟨by omega, by omega⟩, ?_⟩
      refine ⟨fun h0 => ?_, fun h0 => ?_⟩
      · exact hend (Or.inr (by rw [e7_z, e8] at h0; exact h0))
      · refine ⟨oM_0 (by omega) km0 4 rfl, ?_⟩
        refine ⟨fun h1 => ?_, fun h1 => ?_⟩
        · exact hend (Or.inl h1)
        · refine ⟨oM_0 (by omega) km0 9 rfl, ?_⟩
          refine ⟨⟨by omega, by omega⟩, ?_⟩
          refine ⟨⟨by omega, by omega⟩, ?_⟩
          refine ⟨aM_5 (r := B_z 0 9) (by rw [c9_z]; omega) (by rw [c9_z]; exact kn5) (by omega) (by omega), ?_⟩
          have e1 : B_z (B_z 0 9) ((6 * i_z) + k) = B_z 5 ((6 * i_z) + k) := by rw [c9_z]
          refine ⟨(by have hx := harr (by omega); have := hmul_z _ hx.1 hx.2; rw [e1]; exact ⟨by omega, by omega⟩), ?_⟩
          refine ⟨fun h2 => ?_, fun h2 => ?_⟩
          · exact Or.inl (⟨rfl, h0, h1, h2, rfl⟩)
          · refine ⟨oM_0 (by omega) km0 7 rfl, ?_⟩
            refine ⟨fun h3 => ?_, fun h3 => ?_⟩
            · refine ⟨rM_0 (by omega) km0, ?_⟩
              refine (heldSlot_ex (i := i_z) hF.1 i0_z (by omega)).imp ?_
              rintro ⟨r1_z, C_z⟩ ⟨q1_z, q2_z, q3_z, q4_z⟩
              simp only at q1_z q2_z q3_z q4_z
              subst q1_z
              exact Or.inr (Or.inl (⟨rfl, h0, h1, h2, h3, C_z, q2_z, q3_z, q4_z, rfl⟩))
            · exact Or.inr (Or.inr (⟨rfl, h0, h1, h2, h3, rfl⟩))
theorem product_exq {A : pm_A} {to k sg : Int} (hA : ltH A) (h4 : A 0 4 = 0) (hto : to = 42 ∨ to = 43) (k0 : 0 ≤ k) (k1 : k < A 0 7) (hsg : sg = 1 ∨ sg = -1) : Cl pmt (an_sh wM) 175 [(2, 0), (0, to), (0, k), (0, sg)] A (mpq_post A to k sg) := by
  have p7_z := fM_0_7 hA.1 (r := 0) (by omega) km0
  have p8 := fM_0_8 hA.1 (r := 0) (by omega) km0
  refine Cl.of (Nat.le_of_ble_eq_true rfl) ?_
  refine wq_ok (full := o_X10_product) srt_Mproduct (fr := []) (cuts := [5]) (J := fun pc st_z => (pc = 5 ∧ ∃ C_z, gH wM C_z ∧ (∀ q_z j_z, ¬ inS to q_z j_z → C_z q_z j_z = A q_z j_z) ∧ LSm C_z to = [(1, fun _ => 0)] ∧ st_z = ([(2, 0), (0, to), (0, k), (0, sg), (9, 0), (9, 0)], [], C_z))) ?_ 7 0 _ ?_
  · rintro pc st_z (⟨rfl, C_z, q2_z, q3_z, q4_z, rfl⟩)
    have mC := eM_1 q2_z (r := 1) (by omega) kn1 (j := to) (by omega) (by omega)
    have hm1 : C_z 1 to = 1 := by
      have := congrArg List.length q4_z
      rw [LSm_len] at this
      simp at this
      omega
    have hall : ∀ q_z : Int, 0 ≤ q_z → q_z < C_z 1 to → C_z 2 (200 * to + q_z) = 1 ∧ xe C_z to q_z = fun _ => 0 := fun q_z q0 q1_z => by
      have hi_z := in_LSm (A := C_z) (p := to) q0 q1_z
      rw [q4_z] at hi_z
      simp only [List.mem_cons, List.not_mem_nil, or_false] at hi_z
      exact ⟨congrArg Prod.fst hi_z, congrArg Prod.snd hi_z⟩
    refine wq_ok srt_Mproduct (fr := []) (cuts := [8]) (J := fun pc st_z => (pc = 8 ∧ st_z = ([(2, 0), (0, to), (0, k), (0, sg), (0, 0), (9, 0)], [], C_z))) ?_ 7 5 _ ?_
    · rintro pc st_z (⟨rfl, rfl⟩)
      refine pq_8 hA hto k0 k1 hsg _ 0 _ C_z (Nat.lt_succ_self _) (by omega) (by omega) ⟨q2_z, fun r_z j_z a1_z _ _ _ _ => q3_z r_z j_z a1_z⟩ (Or.inr ⟨by rw [q3_z 0 4 (by unfold inS; omega)]; exact h4, fun q_z q2_z b0 b1 b2 => by omega, fun q_z q0 q1_z => by rw [(hall q_z q0 q1_z).1]; omega, by omega, fun q_z v_z q0 q1_z v0_z v1_z => ?_, fun x_z => ?_⟩)
      · have := congrFun (hall q_z q0 q1_z).2 ⟨v_z.toNat, by omega⟩
        have e2 : C_z 3 (12 * (200 * to + q_z) + ((v_z.toNat : Nat) : Int)) = 0 := this
        rw [Int.toNat_of_nonneg v0_z] at e2
        rw [e2]; omega
      · unfold VS
        rw [q4_z, cr_vl_one]; rfl
    · exact ⟨rfl, rfl⟩
  · refine ⟨rM_0 (by omega) km0, ?_⟩
    refine (one_ex (p := to) hA.1 (by omega) (by omega)).imp ?_
    rintro ⟨r1_z, C_z⟩ ⟨q1_z, q2_z, q3_z, q4_z⟩
    simp only at q1_z q2_z q3_z q4_z
    subst q1_z
    exact ⟨rfl, C_z, q2_z, q3_z, q4_z, rfl⟩
end
