/-! the arrows of a cutting, exactly: pure, and the class -/
def ldc (p q k : Int) : Int := if p = -1 ∨ q = -1 then 0 else (if k = 6 * p + q then 1 else 0) - (if k = 6 * q + p then 1 else 0)
def pvF (F : Int → Int) (f : Int) : Int := if F f = 1 then cntF F f.toNat else -1
def sdT (n : Int) (F : Int → Int) (a b c : Int) : Prop := side n F a b ∧ side n F b c ∧ side n F a c
def ct3 (F : Int → Int) (a b c k : Int) : Int := ldc (pvF F (10 * a + b)) (pvF F (10 * b + c)) k + ldc (pvF F (10 * b + c)) (pvF F (10 * a + c)) k + ldc (pvF F (10 * a + c)) (pvF F (10 * a + b)) k
def trc (n : Int) (F : Int → Int) (t : Nat) (a b c : Int) : Prop := 0 ≤ a ∧ a < b ∧ b < c ∧ c < n ∧ (t : Int) = 100 * a + 10 * b + c ∧ sdT n F a b c
noncomputable def ctr (n : Int) (F : Int → Int) (t : Nat) (k : Int) : Int := @ite Int (∃ a_z b_z c_z : Int, trc n F t a_z b_z c_z) (Classical.propDecidable _) (ct3 F ((t / 100 : Nat) : Int) ((t / 10 % 10 : Nat) : Int) ((t % 10 : Nat) : Int) k) 0
noncomputable def tsum (w : Nat → Int → Int) : Nat → Int → Int
  | 0, _ => 0
  | t_z + 1, k_z => tsum w t_z k_z + w t_z k_z
theorem ctr_y {n a b c k : Int} {F : Int → Int} (n1 : n ≤ 10) (a0 : 0 ≤ a) (ab : a < b) (bc : b < c) (cn : c < n) (h : sdT n F a b c) : ctr n F (100 * a + 10 * b + c).toNat k = ct3 F a b c k := by
  unfold ctr
  have e_z : ∃ x_z y_z z_z : Int, trc n F (100 * a + 10 * b + c).toNat x_z y_z z_z := ⟨a, b, c, a0, ab, bc, cn, by omega, h⟩
  rw [if_pos e_z, show (((100 * a + 10 * b + c).toNat / 100 : Nat) : Int) = a by omega, show (((100 * a + 10 * b + c).toNat / 10 % 10 : Nat) : Int) = b by omega, show (((100 * a + 10 * b + c).toNat % 10 : Nat) : Int) = c by omega]
theorem ctr_n {n a b c k : Int} {F : Int → Int} (n1 : n ≤ 10) (a0 : 0 ≤ a) (ab : a < b) (bc : b < c) (cn : c < n) (h : ¬ sdT n F a b c) : ctr n F (100 * a + 10 * b + c).toNat k = 0 := by
  unfold ctr
  refine if_neg (fun ⟨x_z, y_z, z_z, x0_z, xy_z, yz, zn, e_z, hs⟩ => h ?_)
  have h1 : 100 * a + 10 * b + c = 100 * x_z + 10 * y_z + z_z := by omega
  have hx : x_z = a := by rcases Int.lt_trichotomy x_z a with q_z | q_z | q_z <;> omega
  have hy : y_z = b := by rcases Int.lt_trichotomy y_z b with q_z | q_z | q_z <;> omega
  have hz : z_z = c := by omega
  rw [hx, hy, hz] at hs
  exact hs
theorem ctr_0 {n k v : Int} {F : Int → Int} (v0 : 0 ≤ v) (h : ∀ a_z b_z c_z : Int, 0 ≤ a_z → a_z < b_z → b_z < c_z → c_z < n → ¬ v = 100 * a_z + 10 * b_z + c_z) : ctr n F v.toNat k = 0 := by
  unfold ctr
  exact if_neg (fun ⟨x_z, y_z, z_z, x0_z, xy_z, yz, zn, e_z, hs⟩ => h x_z y_z z_z x0_z xy_z yz zn (by omega))
theorem ts_s {w : Nat → Int → Int} {t : Int} (t0 : 0 ≤ t) (k : Int) : tsum w (t + 1).toNat k = tsum w t.toNat k + w t.toNat k := by
  rw [show (t + 1).toNat = t.toNat + 1 by omega]; rfl
theorem ts_skip {n : Int} {F : Int → Int} {t : Int} (t0 : 0 ≤ t) (k : Int) : ∀ m_z : Nat, (∀ v_z : Int, t ≤ v_z → v_z < t + m_z → ∀ a_z b_z c_z : Int, 0 ≤ a_z → a_z < b_z → b_z < c_z → c_z < n → ¬ v_z = 100 * a_z + 10 * b_z + c_z) → tsum (ctr n F) (t + m_z).toNat k = tsum (ctr n F) t.toNat k
  | 0, _ => by rw [show t + ((0 : Nat) : Int) = t by omega]
  | m_z + 1, h_z => by
    have ih_z := ts_skip (F := F) t0 k m_z (fun v_z v0_z v1_z => h_z v_z v0_z (by omega))
    rw [show t + ((m_z + 1 : Nat) : Int) = (t + (m_z : Int)) + 1 by omega, ts_s (by omega), ih_z, ctr_0 (by omega) (h_z (t + m_z) (by omega) (by omega))]
    omega
theorem ts_to {n : Int} {F : Int → Int} {t u : Int} (t0 : 0 ≤ t) (tu : t ≤ u) (h : ∀ v_z : Int, t ≤ v_z → v_z < u → ∀ a_z b_z c_z : Int, 0 ≤ a_z → a_z < b_z → b_z < c_z → c_z < n → ¬ v_z = 100 * a_z + 10 * b_z + c_z) (k : Int) : tsum (ctr n F) u.toNat k = tsum (ctr n F) t.toNat k := by
  have := ts_skip (n := n) (F := F) t0 k (u - t).toNat (fun v_z v0_z v1_z => h v_z v0_z (by omega))
  rw [show t + ((u - t).toNat : Int) = u by omega] at this
  exact this
theorem cntF_100 (F : Int → Int) {f : Int} (f0 : 0 ≤ f) (f1 : f < 100) : cntF F f.toNat ≤ cntF F 100 := cntF_mono F (by omega)
theorem pvF_b {F : Int → Int} {f : Int} (hc : cntF F 100 ≤ 6) (f0 : 0 ≤ f) (f1 : f < 100) : -1 ≤ pvF F f ∧ pvF F f ≤ 5 := by
  unfold pvF
  by_cases e_z : F f = 1
  · rw [if_pos e_z]
    have a_z := cntF_b F f.toNat
    have b_z := cntF_lt F (n := f.toNat) (m := 100) (by omega) (by rw [show ((f.toNat : Nat) : Int) = f by omega]; omega)
    omega
  · rw [if_neg e_z]; omega
theorem popS_mod (V k : Nat) : ∀ j_z : Nat, j_z ≤ k → popS (V % 2 ^ k) j_z = popS V j_z
  | 0, _ => rfl
  | j_z + 1, h_z => by
    unfold popS
    rw [popS_mod V k j_z (by omega), Nat.testBit_mod_two_pow]
    rw [show decide (j_z < k) = true from decide_eq_true (by omega), Bool.true_and]
theorem popS_hi (V k : Nat) : ∀ j_z : Nat, popS (V % 2 ^ k) (k + j_z) = popS (V % 2 ^ k) k
  | 0 => rfl
  | j_z + 1 => by
    rw [show k + (j_z + 1) = (k + j_z) + 1 by omega]
    have e_z : popS (V % 2 ^ k) (k + j_z + 1) = popS (V % 2 ^ k) (k + j_z) + (if Nat.testBit (V % 2 ^ k) (k + j_z) = true then 1 else 0) := rfl
    rw [e_z, Nat.testBit_mod_two_pow, show decide (k + j_z < k) = false from decide_eq_false (by omega), Bool.false_and]
    rw [if_neg (by decide), Nat.add_zero]
    exact popS_hi V k j_z
theorem srt_Xplace : pm_srt o_X6_placeOf = true := by decide +kernel
theorem xplace_ex {A : pm_A} {r n a b : Int} {F : Int → Int} (r0 : 0 ≤ r) (rk : wX.2 r = 9) (h : rgX A r n F) (hS : rgS n F) (a0 : 0 ≤ a) (ab : a < b) (b9 : b ≤ 9) : Cl pmt (an_sh wX) 61 [(2, r), (0, a), (0, b)] A (fun q_z => q_z = (some (0, pvF F (10 * a + b)), A)) := by
  obtain ⟨V, e1, hV⟩ := h.2
  have e2 : fcd a b = 10 * a + b := by unfold fcd; omega
  have e3 : min a b = a := by omega
  have e4_z : max a b = b := by omega
  have hb_z := bI_b a0 ab b9
  have es := shl1_nat hb_z.1 hb_z.2
  have p2_z : 1 ≤ 2 ^ (bI a b).toNat ∧ 2 ^ (bI a b).toNat ≤ 2 ^ 44 := ⟨Nat.one_le_two_pow, Nat.pow_le_pow_right (by omega) (by omega)⟩
  have p44 : (2 : Nat) ^ 44 = 17592186044416 := by decide
  rw [p44] at p2_z
  have em : shl1 (bI a b) - 1 = ((2 ^ (bI a b).toNat - 1 : Nat) : Int) := by rw [es]; omega
  have ea : pp_lb 3 (A r 1) (shl1 (bI a b) - 1) = ((V % 2 ^ (bI a b).toNat : Nat) : Int) := by
    have v1_z := hV.1
    rw [em, e1, nl_and (by omega) (by omega), Nat.and_two_pow_sub_one_eq_mod]
  have hl : V % 2 ^ (bI a b).toNat < 35184372088832 := Nat.lt_of_le_of_lt (Nat.mod_le _ _) hV.1
  have hp : popS (V % 2 ^ (bI a b).toNat) 64 = popS V (bI a b).toNat := by
    rw [show 64 = (bI a b).toNat + (64 - (bI a b).toNat) by omega, popS_hi, popS_mod _ _ _ (Nat.le_refl _)]
  have hc_z : cntF F (10 * a + b).toNat = (popS V (bI a b).toNat : Int) := by
    have pb := pre_b ⟨(10 * a + b).toNat, by omega⟩ (by show (10 * a + b).toNat / 10 < (10 * a + b).toNat % 10; omega)
    simp only at pb
    rw [show (((10 * a + b).toNat / 10 : Nat) : Int) = a by omega, show (((10 * a + b).toNat % 10 : Nat) : Int) = b by omega] at pb
    rw [cnt_pop hV hS (10 * a + b).toNat (by omega), pb, Int.toNat_natCast]
  refine Cl.of (Nat.le_of_ble_eq_true rfl) ?_
  refine wq_ok (full := o_X6_placeOf) srt_Xplace (fr := []) (cuts := [6]) (J := fun pc st_z => (pc = 6 ∧ ∃ x_z : Int, ((x_z = 1 ∧ hsP F a b) ∨ (x_z = 0 ∧ ¬ hsP F a b)) ∧ st_z = ([(2, r), (0, a), (0, b)], [(0, x_z)], A))) ?_ 6 0 _ ?_
  · rintro pc st_z (⟨rfl, x_z, hx, rfl⟩)
    refine wq_ok srt_Xplace (fr := []) (cuts := [18]) (J := fun pc st_z => (pc = 18 ∧ (¬ x_z = 0) ∧ st_z = ([(2, r), (0, a), (0, b)], [(1, shl1 (bI (min a b) (max a b))), (1, A r 1)], A))) ?_ 12 6 _ ?_
    · rintro pc st_z (⟨rfl, h0, rfl⟩)
      have hF : F (10 * a + b) = 1 := by
        rcases hx with ⟨_, q_z⟩ | ⟨q_z, _⟩
        · rw [← e2]; exact q_z.2
        · exact absurd q_z h0
      rw [e3, e4_z]
      refine wq_ok srt_Xplace (fr := []) (cuts := []) (J := fun _ _ => False) ?_ 8 18 _ ?_
      · intro pc st_z h; exact h.elim
      · refine ⟨(show r64 (shl1 (bI a b) - 1) by rw [em]; exact ⟨by omega, by omega⟩), ?_⟩
        refine ⟨rfl, ?_⟩
        show Cl pmt (an_sh wX) 3 [(1, pp_lb 3 (A r 1) (shl1 (bI a b) - 1))] A _
        rw [ea]
        refine (bitCount_ex hl).imp ?_
        rintro q_z rfl
        refine ⟨rfl, ?_⟩
        show (some (0, (popS (V % 2 ^ (bI a b).toNat) 64 : Int)), A) = _
        unfold pvF
        rw [if_pos hF, hc_z, hp]
    · refine ⟨fun h0 => ?_, fun h0 => ?_⟩
      · refine ⟨rfl, ?_⟩
        have hF : ¬ F (10 * a + b) = 1 := fun q_z => by
          rcases hx with ⟨e_z, _⟩ | ⟨_, e_z⟩
          · omega
          · exact e_z ⟨by omega, by rw [e2]; exact q_z⟩
        show (some (0, -1), A) = _
        unfold pvF
        rw [if_neg hF]
      · refine ⟨oX_9 r0 rk 1 rfl, ?_⟩
        refine ⟨rfl, ?_⟩
        refine (xbit_ex a0 (by omega) (by omega) b9).imp ?_
        rintro q_z rfl
        exact ⟨rfl, h0, rfl⟩
  · refine ⟨rX_9 r0 rk, ?_⟩
    refine (xhas_ex r0 rk h a0 (by omega) (by omega) b9).imp ?_
    rintro ⟨r1_z, C_z⟩ ⟨q1_z, x_z, q2_z, hx⟩
    simp only at q1_z q2_z
    subst q1_z
    subst q2_z
    exact ⟨rfl, x_z, hx, rfl⟩
def xta_post (A : pm_A) (r x y N : Int) (q : pm_R) : Prop := q.1 = none ∧ gH wX q.2 ∧ (∀ k_z j_z : Int, ¬ k_z = r → q.2 k_z j_z = A k_z j_z) ∧ (∀ k_z : Int, q.2 r k_z = A r k_z + ldc x y k_z) ∧ bnd q.2 r (N + 1)
theorem ldc_b (x y k : Int) : -1 ≤ ldc x y k ∧ ldc x y k ≤ 1 := by
  unfold ldc
  split
  · omega
  · split <;> split <;> omega
theorem ldc_n {x y : Int} (k : Int) (h : x = -1 ∨ y = -1) : ldc x y k = 0 := if_pos h
theorem ldc_y {x y : Int} (k : Int) (hx : ¬ x = -1) (hy : ¬ y = -1) : ldc x y k = (if k = 6 * x + y then 1 else 0) - (if k = 6 * y + x then 1 else 0) := if_neg (fun h_z => h_z.elim hx hy)
theorem tellArrow_ex {A : pm_A} {r x y N : Int} (hA : gH wX A) (hr0 : 0 ≤ r) (hrk : wX.2 r = 16) (hN : bnd A r N) (hN0 : 0 ≤ N) (hN2 : N ≤ 2998) (x0 : -1 ≤ x) (x5 : x ≤ 5) (y0 : -1 ≤ y) (y5 : y ≤ 5) : Cl pmt (an_sh wX) 63 [(2, r), (0, x), (0, y)] A (xta_post A r x y N) := by
  have no_z : x = -1 ∨ y = -1 → xta_post A r x y N (none, A) := fun h_z => ⟨rfl, hA, fun _ _ _ => rfl, fun k_z => by show A r k_z = A r k_z + ldc x y k_z; rw [ldc_n k_z h_z]; omega, fun j_z j0 j1 => by have := hN j_z j0 j1; show -(N + 1) ≤ A r j_z ∧ A r j_z ≤ N + 1; omega⟩
  refine Cl.of (Nat.le_of_ble_eq_true rfl) ?_
  refine wq_ok (full := o_X6_tellArrow) srt_tellArrow (fr := []) (cuts := [32]) (J := fun pc st_z => pc = 32 ∧ 0 ≤ x ∧ 0 ≤ y ∧ st_z = ([(2, r), (0, x), (0, y)], [], pm_upd A r (x * 6 + y) (A r (x * 6 + y) + 1))) ?_ 40 0 _ ?_
  · rintro pc st_z ⟨rfl, x1_z, y1, rfl⟩
    have h1 := hN (x * 6 + y) (by omega) (by omega)
    have hB_z : gH wX (pm_upd A r (x * 6 + y) (A r (x * 6 + y) + 1)) := uX_16 hA hrk (by omega) (by omega)
    have hBF : ∀ k_z j_z : Int, ¬ k_z = r → pm_upd A r (x * 6 + y) (A r (x * 6 + y) + 1) k_z j_z = A k_z j_z := fun k_z j_z hk => upd_ne hk
    have hBv : ∀ j_z : Int, pm_upd A r (x * 6 + y) (A r (x * 6 + y) + 1) r j_z = A r j_z + (if j_z = 6 * x + y then 1 else 0) := fun j_z => by
      by_cases e_z : j_z = x * 6 + y
      · rw [e_z, upd_at, if_pos (by omega)]
      · rw [upd_n2 e_z, if_neg (by omega)]; omega
    generalize pm_upd A r (x * 6 + y) (A r (x * 6 + y) + 1) = B_z at hB_z hBF hBv
    have h2 := hBv (y * 6 + x)
    have h3 := hN (y * 6 + x) (by omega) (by omega)
    have h4 : -N ≤ B_z r (y * 6 + x) ∧ B_z r (y * 6 + x) ≤ N + 1 := by rw [h2]; split <;> omega
    have hfin : ∀ k_z : Int, pm_upd B_z r (y * 6 + x) (B_z r (y * 6 + x) - 1) r k_z = A r k_z + ldc x y k_z := fun k_z => by
      rw [ldc_y k_z (by omega) (by omega)]
      by_cases e_z : k_z = y * 6 + x
      · rw [e_z, upd_at, hBv, if_pos (show y * 6 + x = 6 * y + x by omega)]; omega
      · rw [upd_n2 e_z, hBv, if_neg (show ¬ k_z = 6 * y + x by omega)]; omega
    refine wq_ok srt_tellArrow (fr := []) (cuts := []) (J := fun _ _ => False) (fun _ _ h_z => h_z.elim) 20 32 _ ?_
    refine ⟨⟨by omega, by omega⟩, ?_⟩
    refine ⟨⟨by omega, by omega⟩, ?_⟩
    refine ⟨aX_16 hr0 hrk (by omega) (by omega), ?_⟩
    refine ⟨⟨by omega, by omega⟩, ?_⟩
    refine ⟨tX_16 hr0 hrk (by omega) (by omega) rfl, ?_⟩
    refine ⟨rfl, uX_16 hB_z hrk (by omega) (by omega), fun k_z j_z hk => ?_, hfin, fun j_z j0 j1 => ?_⟩
    · show pm_upd B_z r (y * 6 + x) (B_z r (y * 6 + x) - 1) k_z j_z = A k_z j_z
      rw [upd_ne hk]; exact hBF k_z j_z hk
    · show -(N + 1) ≤ pm_upd B_z r (y * 6 + x) (B_z r (y * 6 + x) - 1) r j_z ∧ pm_upd B_z r (y * 6 + x) (B_z r (y * 6 + x) - 1) r j_z ≤ N + 1
      rw [hfin j_z]
      have a_z := hN j_z j0 j1
      have b_z := ldc_b x y j_z
      omega
  · refine ⟨fun h_z => no_z (by omega), fun h_z => ?_⟩
    refine ⟨fun h2 => no_z (by omega), fun h2 => ?_⟩
    refine ⟨fun h3 => absurd h3 (by omega), fun h3 => ?_⟩
    refine ⟨fun h4 => absurd h4 (by omega), fun h4 => ?_⟩
    have h1 := hN (x * 6 + y) (by omega) (by omega)
    refine ⟨⟨by omega, by omega⟩, ?_⟩
    refine ⟨⟨by omega, by omega⟩, ?_⟩
    refine ⟨aX_16 hr0 hrk (by omega) (by omega), ?_⟩
    refine ⟨⟨by omega, by omega⟩, ?_⟩
    refine ⟨tX_16 hr0 hrk (by omega) (by omega) rfl, ?_⟩
    exact ⟨rfl, by omega, by omega, rfl⟩
def taE (A0 B : pm_A) (s r n : Int) (F : Int → Int) (N : Int) : Prop := gH wX B ∧ (∀ k_z j_z : Int, ¬ k_z = r → B k_z j_z = A0 k_z j_z) ∧ bnd B r N
def taG (A0 B : pm_A) (s r n : Int) (F : Int → Int) (t : Int) : Prop := taE A0 B s r n F (3 * t) ∧ ∀ k_z : Int, 0 ≤ k_z → k_z < 72 → B r k_z = tsum (ctr n F) t.toNat k_z
def taH (A0 : pm_A) (s r n : Int) (F : Int → Int) : Prop := (0 ≤ s ∧ wX.2 s = 9) ∧ (0 ≤ r ∧ wX.2 r = 16) ∧ rgX A0 s n F ∧ rgS n F ∧ cntF F 100 ≤ 6 ∧ n ≤ 9
def ta_q (A0 : pm_A) (s r n : Int) (F : Int → Int) (q : pm_R) : Prop := q.1 = none ∧ gH wX q.2 ∧ (∀ k_z j_z : Int, ¬ k_z = r → q.2 k_z j_z = A0 k_z j_z) ∧ ∀ k_z : Int, 0 ≤ k_z → k_z < 72 → q.2 r k_z = tsum (ctr n F) 1000 k_z
theorem taH.ne {A0 : pm_A} {s r n : Int} {F : Int → Int} (h : taH A0 s r n F) : ¬ s = r := fun e_z => by
  have a_z := h.1.2
  rw [e_z, h.2.1.2] at a_z
  exact absurd a_z (by decide)
theorem taE.rg {A0 B : pm_A} {s r n N : Int} {F : Int → Int} (h : taH A0 s r n F) (hB : taE A0 B s r n F N) : rgX B s n F := by
  obtain ⟨q1_z, V, q2_z, q3_z⟩ := h.2.2.1
  exact ⟨by rw [hB.2.1 s 0 h.ne]; exact q1_z, V, by rw [hB.2.1 s 1 h.ne]; exact q2_z, q3_z⟩
theorem taG.up {A0 B : pm_A} {s r n t u : Int} {F : Int → Int} (h : taG A0 B s r n F t) (t0 : 0 ≤ t) (tu : t ≤ u) (hz : ∀ v_z : Int, t ≤ v_z → v_z < u → ∀ a_z b_z c_z : Int, 0 ≤ a_z → a_z < b_z → b_z < c_z → c_z < n → ¬ v_z = 100 * a_z + 10 * b_z + c_z) : taG A0 B s r n F u :=
  ⟨⟨h.1.1, h.1.2.1, fun j_z j0 j1 => by have := h.1.2.2 j_z j0 j1; omega⟩, fun k_z k0_z k1_z => by rw [ts_to t0 tu hz]; exact h.2 k_z k0_z k1_z⟩
theorem tat_65 {A0 B : pm_A} {s r n a b c : Int} {F : Int → Int} (h : taH A0 s r n F) (hB : taG A0 B s r n F (100 * a + 10 * b + c)) (a0 : 0 ≤ a) (ab : a < b) (bc : b < c) (cn : c < n) (hs : sdT n F a b c) (H : ∀ C_z, taG A0 C_z s r n F (100 * a + 10 * b + c + 1) → Tm pmt (an_sh wX) o_X6_tellArrows 117 ([(2, s), (2, r), (0, a), (0, b), (0, c)], [], C_z) (ta_q A0 s r n F)) : Tm pmt (an_sh wX) o_X6_tellArrows 65 ([(2, s), (2, r), (0, a), (0, b), (0, c)], [], B) (ta_q A0 s r n F) := by
  have hh := h
  obtain ⟨⟨s0_z, sk⟩, ⟨r0, rk⟩, hX, hS_z, hc_z, n9⟩ := h
  have b1 := pvF_b hc_z (f := 10 * a + b) (by omega) (by omega)
  have b2 := pvF_b hc_z (f := 10 * b + c) (by omega) (by omega)
  have b3 := pvF_b hc_z (f := 10 * a + c) (by omega) (by omega)
  refine wq_ok srt_tellArrows (fr := []) (cuts := [117]) (J := fun pc st_z => pc = 117 ∧ ∃ C_z, taG A0 C_z s r n F (100 * a + 10 * b + c + 1) ∧ st_z = ([(2, s), (2, r), (0, a), (0, b), (0, c)], [], C_z)) ?_ 60 65 _ ?_
  · rintro pc st_z ⟨rfl, C_z, hC, rfl⟩
    exact H C_z hC
  · refine ⟨rX_9 s0_z sk, (xplace_ex s0_z sk (hB.1.rg hh) hS_z a0 ab (by omega)).imp ?_⟩
    rintro q_z rfl
    refine ⟨rX_9 s0_z sk, (xplace_ex s0_z sk (hB.1.rg hh) hS_z (by omega) bc (by omega)).imp ?_⟩
    rintro q_z rfl
    refine ⟨rfl, (tellArrow_ex hB.1.1 r0 rk hB.1.2.2 (by omega) (by omega) b1.1 b1.2 b2.1 b2.2).imp ?_⟩
    rintro ⟨q_z, B1⟩ ⟨e_z, d1_z, d2_z, d3_z, d4_z⟩
    simp only at e_z d1_z d2_z d3_z d4_z
    subst e_z
    have hB1 : taE A0 B1 s r n F (3 * (100 * a + 10 * b + c) + 1) := ⟨d1_z, fun k_z j_z hk => by rw [d2_z k_z j_z hk]; exact hB.1.2.1 k_z j_z hk, d4_z⟩
    refine ⟨rX_9 s0_z sk, (xplace_ex s0_z sk (hB1.rg hh) hS_z (by omega) bc (by omega)).imp ?_⟩
    rintro q_z rfl
    refine ⟨rX_9 s0_z sk, (xplace_ex s0_z sk (hB1.rg hh) hS_z a0 (by omega) (by omega)).imp ?_⟩
    rintro q_z rfl
    refine ⟨rfl, (tellArrow_ex hB1.1 r0 rk hB1.2.2 (by omega) (by omega) b2.1 b2.2 b3.1 b3.2).imp ?_⟩
    rintro ⟨q_z, B2⟩ ⟨e_z, f1_z, f2_z, f3_z, f4_z⟩
    simp only at e_z f1_z f2_z f3_z f4_z
    subst e_z
    have hB2 : taE A0 B2 s r n F (3 * (100 * a + 10 * b + c) + 1 + 1) := ⟨f1_z, fun k_z j_z hk => by rw [f2_z k_z j_z hk]; exact hB1.2.1 k_z j_z hk, f4_z⟩
    refine ⟨rX_9 s0_z sk, (xplace_ex s0_z sk (hB2.rg hh) hS_z a0 (by omega) (by omega)).imp ?_⟩
    rintro q_z rfl
    refine ⟨rX_9 s0_z sk, (xplace_ex s0_z sk (hB2.rg hh) hS_z a0 ab (by omega)).imp ?_⟩
    rintro q_z rfl
    refine ⟨rfl, (tellArrow_ex hB2.1 r0 rk hB2.2.2 (by omega) (by omega) b3.1 b3.2 b1.1 b1.2).imp ?_⟩
    rintro ⟨q_z, B3⟩ ⟨e_z, g1, g2, g3_z, g4⟩
    simp only at e_z g1 g2 g3_z g4
    subst e_z
    refine ⟨rfl, B3, ⟨⟨g1, fun k_z j_z hk => by rw [g2 k_z j_z hk]; exact hB2.2.1 k_z j_z hk, fun j_z j0 j1 => ?_⟩, fun k_z k0_z k1_z => ?_⟩, rfl⟩
    · have := g4 j_z j0 j1
      omega
    · rw [g3_z k_z, f3_z k_z, d3_z k_z, hB.2 k_z k0_z k1_z, ts_s (by omega), ctr_y (by omega) a0 ab bc cn hs]
      unfold ct3
      omega
theorem tat_27 {A0 : pm_A} {s r n a b : Int} {F : Int → Int} (h : taH A0 s r n F) (a0 : 0 ≤ a) (ab : a < b) (bn : b < n) (H : ∀ C_z c_z, taG A0 C_z s r n F (100 * a + 10 * b + n) → Tm pmt (an_sh wX) o_X6_tellArrows 123 ([(2, s), (2, r), (0, a), (0, b), (0, c_z)], [], C_z) (ta_q A0 s r n F)) : ∀ (m_z : Nat) (c_z : Int) (B_z : pm_A), (10 - c_z).toNat < m_z → b < c_z → c_z ≤ n → taG A0 B_z s r n F (100 * a + 10 * b + c_z) → Tm pmt (an_sh wX) o_X6_tellArrows 27 ([(2, s), (2, r), (0, a), (0, b), (0, c_z)], [], B_z) (ta_q A0 s r n F) := by
  have hh := h
  obtain ⟨⟨s0_z, sk⟩, ⟨r0, rk⟩, hX, hS_z, hcc, n9⟩ := h
  intro m_z
  induction m_z with
  | zero => intro c_z B_z h; omega
  | succ m_z ih_z =>
    intro c_z B_z hm_z bc cn hB_z
    have e0_z : B_z s 0 = n := (hB_z.1.rg hh).1
    have h117 : c_z < n → ∀ C_z, taG A0 C_z s r n F (100 * a + 10 * b + c_z + 1) → Tm pmt (an_sh wX) o_X6_tellArrows 117 ([(2, s), (2, r), (0, a), (0, b), (0, c_z)], [], C_z) (ta_q A0 s r n F) := fun hc_z C_z hC => by
      refine wq_ok srt_tellArrows (fr := []) (cuts := [27]) (J := fun pc st_z => pc = 27 ∧ st_z = ([(2, s), (2, r), (0, a), (0, b), (0, c_z + 1)], [], C_z)) ?_ 10 117 _ ?_
      · rintro pc st_z ⟨rfl, rfl⟩
        exact ih_z (c_z + 1) C_z (by omega) (by omega) (by omega) (by rw [show 100 * a + 10 * b + (c_z + 1) = 100 * a + 10 * b + c_z + 1 by omega]; exact hC)
      · refine ⟨⟨by omega, by omega⟩, ?_⟩
        exact ⟨rfl, rfl⟩
    have hno : c_z < n → ¬ sdT n F a b c_z → taG A0 B_z s r n F (100 * a + 10 * b + c_z + 1) := fun hc_z hn => ⟨⟨hB_z.1.1, hB_z.1.2.1, fun j_z j0 j1 => by have := hB_z.1.2.2 j_z j0 j1; omega⟩, fun k_z k0_z k1_z => by
      rw [ts_s (by omega), ctr_n (by omega) a0 ab bc hc_z hn, ← hB_z.2 k_z k0_z k1_z]; omega⟩
    refine wq_ok srt_tellArrows (fr := []) (cuts := [65, 117, 123]) (J := fun pc st_z => (pc = 123 ∧ n ≤ c_z ∧ st_z = ([(2, s), (2, r), (0, a), (0, b), (0, c_z)], [], B_z)) ∨ (pc = 117 ∧ c_z < n ∧ ¬ sdT n F a b c_z ∧ st_z = ([(2, s), (2, r), (0, a), (0, b), (0, c_z)], [], B_z)) ∨ (pc = 65 ∧ c_z < n ∧ sdT n F a b c_z ∧ st_z = ([(2, s), (2, r), (0, a), (0, b), (0, c_z)], [], B_z))) ?_ 60 27 _ ?_
    · rintro pc st_z (⟨rfl, hc_z, rfl⟩ | ⟨rfl, hc_z, hn, rfl⟩ | ⟨rfl, hc_z, hn, rfl⟩)
      · have : c_z = n := by omega
        rw [this] at hB_z ⊢
        exact H B_z n hB_z
      · exact h117 hc_z B_z (hno hc_z hn)
      · exact tat_65 hh hB_z a0 ab bc hc_z hn (h117 hc_z)
    · refine ⟨oX_9 s0_z sk 0 rfl, ?_⟩
      refine ⟨fun hc_z => Or.inl ⟨rfl, by omega, rfl⟩, fun hc_z => ?_⟩
      have hcn : c_z < n := by omega
      refine ⟨rX_9 s0_z sk, (xlinked_ex s0_z sk (hB_z.1.rg hh) hS_z a0 (by omega) (by omega) bn).imp ?_⟩
      rintro ⟨q1_z, C_z⟩ ⟨e1, x_z, e2, hx⟩
      simp only at e1 e2
      subst e1
      subst e2
      refine ⟨fun z_z => Or.inr (Or.inl ⟨rfl, hcn, fun q_z => ?_, rfl⟩), fun z_z => ?_⟩
      · rcases hx with ⟨e_z, _⟩ | ⟨_, e_z⟩
        · omega
        · exact e_z q_z.1
      refine ⟨rX_9 s0_z sk, (xlinked_ex s0_z sk (hB_z.1.rg hh) hS_z (by omega) bn (by omega) hcn).imp ?_⟩
      rintro ⟨q1_z, C_z⟩ ⟨e1, y_z, e2, hy⟩
      simp only at e1 e2
      subst e1
      subst e2
      refine ⟨fun z_z => Or.inr (Or.inl ⟨rfl, hcn, fun q_z => ?_, rfl⟩), fun z2 => ?_⟩
      · rcases hy with ⟨e_z, _⟩ | ⟨_, e_z⟩
        · omega
        · exact e_z q_z.2.1
      refine ⟨rX_9 s0_z sk, (xlinked_ex s0_z sk (hB_z.1.rg hh) hS_z a0 (by omega) (by omega) hcn).imp ?_⟩
      rintro ⟨q1_z, C_z⟩ ⟨e1, w_z, e2, hw⟩
      simp only at e1 e2
      subst e1
      subst e2
      refine ⟨fun z_z => Or.inr (Or.inl ⟨rfl, hcn, fun q_z => ?_, rfl⟩), fun z3 => ?_⟩
      · rcases hw with ⟨e_z, _⟩ | ⟨_, e_z⟩
        · omega
        · exact e_z q_z.2.2
      refine Or.inr (Or.inr ⟨rfl, hcn, ⟨?_, ?_, ?_⟩, rfl⟩)
      · rcases hx with ⟨_, e_z⟩ | ⟨e_z, _⟩
        · exact e_z
        · exact absurd e_z z_z
      · rcases hy with ⟨_, e_z⟩ | ⟨e_z, _⟩
        · exact e_z
        · exact absurd e_z z2
      · rcases hw with ⟨_, e_z⟩ | ⟨e_z, _⟩
        · exact e_z
        · exact absurd e_z z3
theorem tat_14 {A0 : pm_A} {s r n a : Int} {F : Int → Int} (h : taH A0 s r n F) (a0 : 0 ≤ a) (an : a < n) (H : ∀ C_z v3 v4_z, taG A0 C_z s r n F (100 * a + 10 * n) → Tm pmt (an_sh wX) o_X6_tellArrows 129 ([(2, s), (2, r), (0, a), v3, v4_z], [], C_z) (ta_q A0 s r n F)) : ∀ (m_z : Nat) (b_z : Int) (v4_z : pm_V) (B_z : pm_A), (10 - b_z).toNat < m_z → a < b_z → b_z ≤ n → taG A0 B_z s r n F (100 * a + 10 * b_z) → Tm pmt (an_sh wX) o_X6_tellArrows 14 ([(2, s), (2, r), (0, a), (0, b_z), v4_z], [], B_z) (ta_q A0 s r n F) := by
  have hh := h
  obtain ⟨⟨s0_z, sk⟩, ⟨r0, rk⟩, hX, hS_z, hcc, n9⟩ := h
  intro m_z
  induction m_z with
  | zero => intro b_z v4_z B_z h; omega
  | succ m_z ih_z =>
    intro b_z v4_z B_z hm_z ab bn hB_z
    have e0_z : B_z s 0 = n := (hB_z.1.rg hh).1
    refine wq_ok srt_tellArrows (fr := []) (cuts := [27, 129]) (J := fun pc st_z => (pc = 129 ∧ n ≤ b_z ∧ st_z = ([(2, s), (2, r), (0, a), (0, b_z), v4_z], [], B_z)) ∨ (pc = 27 ∧ b_z < n ∧ st_z = ([(2, s), (2, r), (0, a), (0, b_z), (0, b_z + 1)], [], B_z))) ?_ 30 14 _ ?_
    · rintro pc st_z (⟨rfl, hb_z, rfl⟩ | ⟨rfl, hb_z, rfl⟩)
      · have : b_z = n := by omega
        rw [this] at hB_z
        exact H B_z _ _ hB_z
      · refine tat_27 hh a0 ab hb_z (fun C_z c_z hC => ?_) _ (b_z + 1) B_z (Nat.lt_succ_self _) (by omega) (by omega) (hB_z.up (by omega) (by omega) (fun v_z v0_z v1_z x_z y_z z_z x0_z xy_z yz zn e_z => by omega))
        refine wq_ok srt_tellArrows (fr := []) (cuts := [14]) (J := fun pc st_z => pc = 14 ∧ st_z = ([(2, s), (2, r), (0, a), (0, b_z + 1), (0, c_z)], [], C_z)) ?_ 10 123 _ ?_
        · rintro pc st_z ⟨rfl, rfl⟩
          exact ih_z (b_z + 1) _ C_z (by omega) (by omega) (by omega) (hC.up (by omega) (by omega) (fun v_z v0_z v1_z x_z y_z z_z x0_z xy_z yz zn e_z => by omega))
        · refine ⟨⟨by omega, by omega⟩, ?_⟩
          exact ⟨rfl, rfl⟩
    · refine ⟨oX_9 s0_z sk 0 rfl, ?_⟩
      refine ⟨fun hb_z => Or.inl ⟨rfl, by omega, rfl⟩, fun hb_z => ?_⟩
      refine ⟨⟨by omega, by omega⟩, ?_⟩
      exact Or.inr ⟨rfl, by omega, rfl⟩
theorem tat_2 {A0 : pm_A} {s r n : Int} {F : Int → Int} (h : taH A0 s r n F) : ∀ (m_z : Nat) (a_z : Int) (v3 v4_z : pm_V) (B_z : pm_A), (10 - a_z).toNat < m_z → 0 ≤ a_z → a_z ≤ n → taG A0 B_z s r n F (100 * a_z) → Tm pmt (an_sh wX) o_X6_tellArrows 2 ([(2, s), (2, r), (0, a_z), v3, v4_z], [], B_z) (ta_q A0 s r n F) := by
  have hh := h
  obtain ⟨⟨s0_z, sk⟩, ⟨r0, rk⟩, hX, hS_z, hcc, n9⟩ := h
  intro m_z
  induction m_z with
  | zero => intro a_z v3 v4_z B_z h; omega
  | succ m_z ih_z =>
    intro a_z v3 v4_z B_z hm_z a0_z an hB_z
    have e0_z : B_z s 0 = n := (hB_z.1.rg hh).1
    refine wq_ok srt_tellArrows (fr := []) (cuts := [14]) (J := fun pc st_z => pc = 14 ∧ a_z < n ∧ st_z = ([(2, s), (2, r), (0, a_z), (0, a_z + 1), v4_z], [], B_z)) ?_ 30 2 _ ?_
    · rintro pc st_z ⟨rfl, ha_z, rfl⟩
      refine tat_14 hh a0_z ha_z (fun C_z w3_z w4_z hC => ?_) _ (a_z + 1) _ B_z (Nat.lt_succ_self _) (by omega) (by omega) (hB_z.up (by omega) (by omega) (fun v_z v0_z v1_z x_z y_z z_z x0_z xy_z yz zn e_z => by rcases Int.lt_trichotomy x_z a_z with q_z | q_z | q_z <;> omega))
      refine wq_ok srt_tellArrows (fr := []) (cuts := [2]) (J := fun pc st_z => pc = 2 ∧ st_z = ([(2, s), (2, r), (0, a_z + 1), w3_z, w4_z], [], C_z)) ?_ 10 129 _ ?_
      · rintro pc st_z ⟨rfl, rfl⟩
        exact ih_z (a_z + 1) _ _ C_z (by omega) (by omega) (by omega) (hC.up (by omega) (by omega) (fun v_z v0_z v1_z x_z y_z z_z x0_z xy_z yz zn e_z => by rcases Int.lt_trichotomy x_z a_z with q_z | q_z | q_z <;> omega))
      · refine ⟨⟨by omega, by omega⟩, ?_⟩
        exact ⟨rfl, rfl⟩
    · refine ⟨oX_9 s0_z sk 0 rfl, ?_⟩
      refine ⟨fun hb_z => ?_, fun hb_z => ?_⟩
      · have : a_z = n := by omega
        have hU := hB_z.up (u := 1000) (by omega) (by omega) (fun v_z v0_z v1_z x_z y_z z_z x0_z xy_z yz zn e_z => by omega)
        exact ⟨rfl, hU.1.1, hU.1.2.1, hU.2⟩
      · refine ⟨⟨by omega, by omega⟩, ?_⟩
        exact ⟨rfl, by omega, rfl⟩
theorem tellArrows_ex {A : pm_A} {s r n : Int} {F : Int → Int} (hA : gH wX A) (h : taH A s r n F) (hz : ∀ k_z : Int, 0 ≤ k_z → k_z < 72 → A r k_z = 0) : Cl pmt (an_sh wX) 64 [(2, s), (2, r)] A (ta_q A s r n F) := by
  have hn := h.2.2.2.1.1
  refine Cl.of (Nat.le_of_ble_eq_true rfl) ?_
  refine wq_ok (full := o_X6_tellArrows) srt_tellArrows (fr := []) (cuts := [2]) (J := fun pc st_z => pc = 2 ∧ ∃ v3 v4_z, st_z = ([(2, s), (2, r), (0, 0), v3, v4_z], [], A)) ?_ 10 0 _ ?_
  · rintro pc st_z ⟨rfl, v3, v4_z, rfl⟩
    exact tat_2 h _ 0 v3 v4_z A (Nat.lt_succ_self _) (by omega) (by omega) ⟨⟨hA, fun _ _ _ => rfl, fun j_z j0 j1 => by rw [hz j_z j0 j1]; omega⟩, fun k_z k0_z k1_z => by rw [hz k_z k0_z k1_z]; rfl⟩
  · exact ⟨rfl, _, _, rfl⟩
