/-! the class's multiply, exactly -/
def dsX (A : pm_A) (p a : Int) : Prop := ¬ p = a ∧ ¬ A p 2 = A a 2 ∧ ¬ A p 3 = A a 3
def xbX (A : pm_A) (s E : Int) : Prop := ∀ q_z v_z : Int, 0 ≤ q_z → q_z < A s 1 → 0 ≤ v_z → v_z < A s 0 → - E ≤ A (A s 3) (q_z * A s 0 + v_z) ∧ A (A s 3) (q_z * A s 0 + v_z) ≤ E
def sme (A B : pm_A) (s : Int) : Prop := (∀ j_z, B s j_z = A s j_z) ∧ (∀ j_z, B (A s 2) j_z = A (A s 2) j_z) ∧ ∀ j_z, B (A s 3) j_z = A (A s 3) j_z
theorem sme.xe {A B : pm_A} {s : Int} (h : sme A B s) (q : Int) : xeX B s q = xeX A s q := funext fun v_z => by
  show (if (v_z.1 : Int) < B s 0 then B (B s 3) (q * B s 0 + (v_z.1 : Int)) else 0) = if (v_z.1 : Int) < A s 0 then A (A s 3) (q * A s 0 + (v_z.1 : Int)) else 0
  rw [h.1 0, h.1 3, h.2.2]
theorem sme.fX {A B : pm_A} {s : Int} (h : sme A B s) (q : Nat) : fX B s q = fX A s q := by
  refine Prod.ext ?_ (h.xe q)
  show B (B s 2) (q : Int) = A (A s 2) (q : Int)
  rw [h.1 2, h.2.1]
theorem sme.ls {A B : pm_A} {s : Int} (h : sme A B s) : LSx B s = LSx A s := by
  unfold LSx
  rw [h.1 1]
  exact lsf_congr (fun q_z _ => h.fX q_z)
theorem sme.sr {A B : pm_A} {s : Int} (h : sme A B s) (g : srX A s) : srX B s := fun q_z q' q0 hq hq' => by
  rw [h.1 1] at hq'
  rw [h.xe, h.xe]; exact g q_z q' q0 hq hq'
theorem sme.cf {A B : pm_A} {s : Int} (h : sme A B s) (g : cfX A s) : cfX B s := fun q_z q0 q1_z => by
  rw [h.1 1] at q1_z
  rw [h.1 2, h.2.1]; exact g q_z q0 q1_z
theorem sme.xb {A B : pm_A} {s E : Int} (h : sme A B s) (g : xbX A s E) : xbX B s E := fun q_z v_z q0 q1_z v0_z v1_z => by
  rw [h.1 1] at q1_z
  rw [h.1 0] at v1_z
  rw [h.1 0, h.1 3, h.2.2]; exact g q_z v_z q0 q1_z v0_z v1_z
theorem sme.tr {A B C : pm_A} {s : Int} (h : sme A B s) (g : sme B C s) : sme A C s :=
  ⟨fun j_z => by rw [g.1, h.1], fun j_z => by have := g.2.1 j_z; rw [h.1 2] at this; rw [this, h.2.1], fun j_z => by have := g.2.2 j_z; rw [h.1 3] at this; rw [this, h.2.2]⟩
theorem sme.rfl {A : pm_A} {s : Int} : sme A A s := ⟨fun _ => Eq.refl _, fun _ => Eq.refl _, fun _ => Eq.refl _⟩
def mxF (A B : pm_A) (q p : Int) : Prop := gH wX B ∧ (∀ r_z j_z : Int, ¬ r_z = p → ¬ r_z = A p 2 → ¬ r_z = A p 3 → ¬ r_z = A q 5 → B r_z j_z = A r_z j_z) ∧ B p 2 = A p 2 ∧ B p 3 = A p 3
theorem mxF.sm {A B : pm_A} {q p a : Int} (h : mxF A B q p) (hA : gH wX A) (qk : 0 ≤ q ∧ wX.2 q = 4) (pk : 0 ≤ p ∧ wX.2 p = 2) (ak : 0 ≤ a ∧ wX.2 a = 2) (hd : dsX A p a) : sme A B a := by
  have pn := fX_2_2 hA pk.1 pk.2
  have pp := fX_2_3 hA pk.1 pk.2
  have an := fX_2_2 hA ak.1 ak.2
  have ap := fX_2_3 hA ak.1 ak.2
  have kq := fX_4_5 hA qk.1 qk.2
  have ne : ∀ {x_z y_z : Int} {k_z l : Nat}, wX.2 x_z = k_z → wX.2 y_z = l → ¬ k_z = l → ¬ x_z = y_z := fun hx hy hkl e_z => hkl (by rw [← hx, ← hy, e_z])
  refine ⟨fun j_z => h.2.1 a j_z (fun e_z => hd.1 e_z.symm) (ne ak.2 pn.2 (by decide)) (ne ak.2 pp.2 (by decide)) (ne ak.2 kq.2 (by decide)), fun j_z => h.2.1 _ j_z (ne an.2 pk.2 (by decide)) (fun e_z => hd.2.1 e_z.symm) (ne an.2 pp.2 (by decide)) (ne an.2 kq.2 (by decide)), fun j_z => h.2.1 _ j_z (ne ap.2 pk.2 (by decide)) (ne ap.2 pn.2 (by decide)) (fun e_z => hd.2.2 e_z.symm) (ne ap.2 kq.2 (by decide))⟩
abbrev xBg (A : pm_A) (a b : Int) : Prop := BigC (cr_co (cr_pmz (LSx A a) (LSx A b)))
def mx_post (A : pm_A) (q a b p : Int) (r : pm_R) : Prop := mxF A r.2 q p ∧ ((r.1 = some (0, 0) ∧ xBg A a b) ∨ (r.1 = some (0, 1) ∧ r.2 p 0 = A a 0 ∧ srX r.2 p ∧ cfX r.2 p ∧ ∀ c_z, cr_co (LSx r.2 p) c_z = cr_co (cr_pmz (LSx A a) (LSx A b)) c_z))
def mxH (A : pm_A) (q a b p E1 E2 : Int) : Prop := gH wX A ∧ ((0 ≤ q ∧ wX.2 q = 4) ∧ (0 ≤ a ∧ wX.2 a = 2) ∧ (0 ≤ b ∧ wX.2 b = 2) ∧ (0 ≤ p ∧ wX.2 p = 2)) ∧ A a 0 = A b 0 ∧ (dsX A p a ∧ dsX A p b) ∧ (srX A a ∧ srX A b) ∧ (cfX A a ∧ cfX A b) ∧ (xbX A a E1 ∧ xbX A b E2) ∧ (0 ≤ E1 ∧ 0 ≤ E2 ∧ E1 + E2 ≤ 2147483647) ∧ 1 ≤ A a 1 ∧ 1 ≤ A b 1
theorem posX {A : pm_A} {s : Int} (h : cfX A s) : ∀ y_z ∈ LSx A s, 0 < y_z.1 := fun y_z hy => by
  obtain ⟨q_z, q0, q1_z, rfl⟩ := memX hy
  have := h q_z q0 q1_z
  show 0 < A (A s 2) q_z
  omega
theorem neX {A : pm_A} {s : Int} (h : 1 ≤ A s 1) : LSx A s ≠ [] := fun e_z => by
  have := LSx_len A s
  rw [e_z, List.length_nil] at this
  omega
theorem tmX_le {A : pm_A} {a b t u : Int} (ca : cfX A a) (cb : cfX A b) (t0 : 0 ≤ t) (t1 : t < A a 1) (u0 : 0 ≤ u) (u1 : u < A b 1) (c : cr_Xp 12) : cr_co (cr_pmz (lsf t.toNat (fX A a)) (LSx A b)) c + cr_co (cr_shz (fX A a t.toNat) (lsf (u + 1).toNat (fX A b))) c ≤ cr_co (cr_pmz (LSx A a) (LSx A b)) c := by
  have pa : ∀ q_z : Nat, (q_z : Int) < A a 1 → 0 < (fX A a q_z).1 := fun q_z hq => by
    have := ca q_z (by omega) hq
    show 0 < A (A a 2) (q_z : Int)
    omega
  have pb : ∀ q_z : Nat, (q_z : Int) < A b 1 → 0 < (fX A b q_z).1 := fun q_z hq => by
    have := cb q_z (by omega) hq
    show 0 < A (A b 2) (q_z : Int)
    omega
  have h1 := pmz_le (f := fX A a) (posX cb) c (t.toNat + 1) ((A a 1).toNat - (t.toNat + 1)) (fun q_z hq => pa q_z (by omega))
  rw [show t.toNat + 1 + ((A a 1).toNat - (t.toNat + 1)) = (A a 1).toNat by omega, lsf_succ, pmz_snoc, cr_co_app] at h1
  have h1 : cr_co (cr_pmz (lsf t.toNat (fX A a)) (LSx A b)) c + cr_co (cr_shz (fX A a t.toNat) (LSx A b)) c ≤ cr_co (cr_pmz (LSx A a) (LSx A b)) c := h1
  have h2 : cr_co (cr_shz (fX A a t.toNat) (lsf (u + 1).toNat (fX A b))) c ≤ cr_co (cr_shz (fX A a t.toNat) (LSx A b)) c := by
    rw [cr_co_shz, cr_co_shz]
    refine Int.mul_le_mul_of_nonneg_left ?_ (by have := pa t.toNat (by omega); omega)
    have h3 := lsf_le (f := fX A b) (fun i_z => c i_z - (fX A a t.toNat).2 i_z) (u + 1).toNat ((A b 1).toNat - (u + 1).toNat) (fun q_z hq => pb q_z (by omega))
    rw [show (u + 1).toNat + ((A b 1).toNat - (u + 1).toNat) = (A b 1).toNat by omega] at h3
    exact h3
  omega
theorem bigX_mul {A : pm_A} {a b t u : Int} (ca : cfX A a) (cb : cfX A b) (t0 : 0 ≤ t) (t1 : t < A a 1) (u0 : 0 ≤ u) (u1 : u < A b 1) (h : 1000000000000 < A (A a 2) t * A (A b 2) u) : xBg A a b := by
  refine Or.inl ⟨fun i_z => xeX A a t i_z + xeX A b u i_z, ?_⟩
  have h1 := co_in (pmz_in (inX t0 t1) (inX u0 u1)) (pmz_pos (posX ca) (posX cb))
  exact Int.lt_of_lt_of_le h h1
theorem srt_mult : pm_srt o_X5_multiplied = true := by decide +kernel
theorem mult_ex {A : pm_A} {x y : Int} (hx : 1 ≤ x ∧ x ≤ 1000000000000) (hy : 1 ≤ y ∧ y ≤ 1000000000000) : Cl pmt (an_sh wX) 44 [(1, x), (1, y)] A (fun r_z => r_z.2 = A ∧ ∃ z_z, r_z.1 = some (1, z_z) ∧ ((z_z = -1 ∧ 1000000000000 < x * y) ∨ (z_z = x * y ∧ 1 ≤ z_z ∧ z_z ≤ 1000000000000))) := by
  have ed : Int.tdiv 1000000000000 y = 1000000000000 / y := Int.tdiv_eq_ediv_of_nonneg (by omega)
  have hp : 1 ≤ x * y := by
    have := Int.mul_pos (show 0 < x by omega) (show 0 < y by omega)
    omega
  have big_z : 1000000000000 / y < x → 1000000000000 < x * y := fun h_z => Classical.byContradiction (fun hn => by
    have := (Int.le_ediv_iff_mul_le (show 0 < y by omega)).2 (show x * y ≤ 1000000000000 by omega)
    omega)
  have small_z : x ≤ 1000000000000 / y → x * y ≤ 1000000000000 := fun h_z => (Int.le_ediv_iff_mul_le (show 0 < y by omega)).1 h_z
  refine Cl.of (Nat.le_of_ble_eq_true rfl) ?_
  refine wq_ok (full := o_X5_multiplied) srt_mult (fr := []) (cuts := []) (J := fun _ _ => False) (fun _ _ h_z => h_z.elim) 40 0 _ ?_
  refine ⟨fun h0 => ?_, fun h0 => absurd h0 (by omega), fun h0 => absurd h0 (by omega)⟩
  refine ⟨fun hh => absurd hh (by decide), fun _ => ?_⟩
  refine ⟨⟨by omega, ⟨by omega, by omega⟩, ⟨by omega, by omega⟩, fun hh => absurd hh (by decide)⟩, ?_⟩
  refine ⟨fun h1 => ?_, fun h1 => ?_, fun h1 => ?_⟩
  · refine ⟨fun hh => absurd hh (by decide), fun _ => ?_⟩
    exact ⟨rfl, rfl, -1, rfl, Or.inl ⟨rfl, big_z (by rw [← ed]; exact h1)⟩⟩
  · refine ⟨fun _ => ?_, fun hh => absurd hh (by decide)⟩
    have hs := small_z (by rw [← ed]; exact Int.le_of_eq h1)
    refine ⟨⟨by omega, by omega⟩, ?_⟩
    exact ⟨rfl, rfl, x * y, rfl, Or.inr ⟨rfl, hp, hs⟩⟩
  · refine ⟨fun _ => ?_, fun hh => absurd hh (by decide)⟩
    have hs := small_z (by rw [← ed]; exact Int.le_of_lt h1)
    refine ⟨⟨by omega, by omega⟩, ?_⟩
    exact ⟨rfl, rfl, x * y, rfl, Or.inr ⟨rfl, hp, hs⟩⟩
def smX (A : pm_A) (a b s t : Int) : cr_Xp 12 := fun v_z => xeX A a s v_z + xeX A b t v_z
def m49 (A B : pm_A) (q a b p s t f : Int) : Prop := mxF A B q p ∧ B p 0 = A a 0 ∧ srX B p ∧ cfX B p ∧ (∀ c_z, cr_co (LSx B p) c_z = cr_co (cr_pmz (lsf s.toNat (fX A a)) (LSx A b)) c_z + cr_co (cr_shz (fX A a s.toNat) (lsf t.toNat (fX A b))) c_z) ∧ (0 ≤ f ∧ f ≤ B p 1) ∧ ∀ i_z t' : Int, 0 ≤ i_z → i_z < f → t ≤ t' → t' < A b 1 → cr_Gt (xeX B p i_z) (smX A a b s t')
theorem mx_138 {A B : pm_A} {q a b p s t f n w E1 E2 : Int} {v10 : pm_V} (hH : mxH A q a b p E1 E2) (s0 : 0 ≤ s) (s1 : s < A a 1) (t0 : 0 ≤ t) (t1 : t < A b 1) (hn : n = A (A a 2) s * A (A b 2) t) (hn1 : 1 ≤ n ∧ n ≤ 1000000000000) (h : m49 A B q a b p s t f) (hk : xkX B (B p 0) (A q 5) = smX A a b s t) (H : ∀ C_z f' v8 v9 v10, m49 A C_z q a b p s (t + 1) f' → Tm pmt (an_sh wX) o_X5_multiply 49 ([(2, q), (2, a), (2, b), (2, p), (0, w), (0, s), (0, f'), (0, t + 1), v8, v9, v10], [], C_z) (mx_post A q a b p)) : Tm pmt (an_sh wX) o_X5_multiply 138 ([(2, q), (2, a), (2, b), (2, p), (0, w), (0, s), (0, f), (0, t), (1, n), (9, 0), v10], [], B) (mx_post A q a b p) := by
  obtain ⟨hA, ⟨hq, ha_z, hb_z, hp⟩, hw, ⟨da_z, db⟩, ⟨sa_z, sb_z⟩, ⟨ca, cb⟩, ⟨xa, xb'⟩, hE, la, lb⟩ := hH
  obtain ⟨hF, hp0, hsr, hcf, hco, hf, hgt⟩ := h
  have lb2 := fX_2_1 hA hb_z.1 hb_z.2
  have kA_z := fX_4_5 hA hq.1 hq.2
  have pn := fX_2_2 hA hp.1 hp.2
  have pp := fX_2_3 hA hp.1 hp.2
  have ne : ∀ {x_z y_z : Int} {k_z l : Nat}, wX.2 x_z = k_z → wX.2 y_z = l → ¬ k_z = l → ¬ x_z = y_z := fun hx hy hkl e_z => hkl (by rw [← hx, ← hy, e_z])
  have eq5 : B q 5 = A q 5 := hF.2.1 q 5 (ne hq.2 hp.2 (by decide)) (ne hq.2 pn.2 (by decide)) (ne hq.2 pp.2 (by decide)) (ne hq.2 kA_z.2 (by decide))
  have hfit : (n, smX A a b s t) = ((fX A a s.toNat).1 * (fX A b t.toNat).1, fun i_z => (fX A a s.toNat).2 i_z + (fX A b t.toNat).2 i_z) := by
    refine Prod.ext ?_ (funext fun i_z => ?_)
    · show n = A (A a 2) ((s.toNat : Nat) : Int) * A (A b 2) ((t.toNat : Nat) : Int)
      rw [Int.toNat_of_nonneg s0, Int.toNat_of_nonneg t0]; exact hn
    · show xeX A a s i_z + xeX A b t i_z = xeX A a ((s.toNat : Nat) : Int) i_z + xeX A b ((t.toNat : Nat) : Int) i_z
      rw [Int.toNat_of_nonneg s0, Int.toNat_of_nonneg t0]
  have e2 : ∀ c_z, cr_co (LSx B p) c_z + si (n, smX A a b s t) c_z = cr_co (cr_pmz (lsf s.toNat (fX A a)) (LSx A b)) c_z + cr_co (cr_shz (fX A a s.toNat) (lsf (t + 1).toNat (fX A b))) c_z := fun c_z => by
    rw [hco c_z, show (t + 1).toNat = t.toNat + 1 by omega, lsf_succ, shz_snoc, co_snoc, hfit]; omega
  refine wq_ok srt_multiply (fr := []) (cuts := [49]) (J := fun pc st_z => pc = 49 ∧ ∃ C_z f' v8 v9 v10, m49 A C_z q a b p s (t + 1) f' ∧ st_z = ([(2, q), (2, a), (2, b), (2, p), (0, w), (0, s), (0, f'), (0, t + 1), v8, v9, v10], [], C_z)) ?_ 30 138 _ ?_
  · rintro pc st_z ⟨rfl, C_z, f', v8, v9, v10, hC, rfl⟩
    exact H C_z f' v8 v9 v10 hC
  · refine ⟨oX_4 hq.1 hq.2 5 rfl, ?_⟩
    refine ⟨rX_2 hp.1 hp.2, ?_⟩
    rw [eq5]
    refine (add_exX (s := p) (k := A q 5) (n := n) (f := f) hF.1 ⟨hp, kA_z⟩ hsr hcf hn1 hf.1 hf.2 (fun i_z i0_z i1_z => by rw [hk]; exact hgt i_z t i0_z i1_z (Int.le_refl _) t1)).imp ?_
    rintro ⟨r_z, C_z⟩ ⟨⟨g1, ⟨g2, g3_z, g4⟩, g5_z⟩, g6⟩
    simp only at g1 g2 g3_z g4 g5_z g6
    have hFC : mxF A C_z q p := ⟨g1, fun r_z j_z a1_z a2 a3 a4 => by rw [g5_z r_z j_z a1_z (by rw [hF.2.2.1]; exact a2) (by rw [hF.2.2.2]; exact a3)]; exact hF.2.1 r_z j_z a1_z a2 a3 a4, by rw [g3_z]; exact hF.2.2.1, by rw [g4]; exact hF.2.2.2⟩
    rw [hk] at g6
    rcases g6 with ⟨e_z, hbig⟩ | ⟨z_z, e_z, ⟨z0, z1, z2⟩, z3, z4, z5⟩
    · subst e_z
      refine ⟨⟨by omega, by omega⟩, ?_⟩
      refine ⟨fun h => absurd rfl h, fun h => ?_⟩
      exact ⟨rfl, hFC, Or.inl ⟨rfl, hbig.mono (fun c_z => by rw [e2 c_z]; exact tmX_le ca cb s0 s1 t0 t1 c_z)⟩⟩
    · subst e_z
      have l1 := fX_2_1 g1 hp.1 hp.2
      refine ⟨⟨by omega, by omega⟩, ?_⟩
      refine ⟨fun h => ?_, fun h => absurd h (by omega)⟩
      refine ⟨⟨by omega, by omega⟩, ?_⟩
      refine ⟨rfl, C_z, z_z + 1, _, _, _, ⟨hFC, by rw [g2]; exact hp0, z3, z4, fun c_z => by rw [z5 c_z, e2 c_z], ⟨by omega, by omega⟩, fun i_z t' i0_z i1_z u0 u1_z => ?_⟩, rfl⟩
      have hst : cr_Gt (smX A a b s t) (smX A a b s t') := gt_addl (sb_z t t' t0 (by omega) u1_z) (xeX A a s)
      by_cases e_z : i_z = z_z
      · rw [e_z, z2]; exact hst
      · have := z3 i_z z_z i0_z (by omega) z1
        rw [z2] at this
        exact this.trans hst
theorem mx_91 {A : pm_A} {q a b p s t f n w E1 E2 : Int} (hH : mxH A q a b p E1 E2) (hw : w = A a 0) (s0 : 0 ≤ s) (s1 : s < A a 1) (t0 : 0 ≤ t) (t1 : t < A b 1) (hn : n = A (A a 2) s * A (A b 2) t) (hn1 : 1 ≤ n ∧ n ≤ 1000000000000) (H : ∀ C_z f' v8 v9 v10, m49 A C_z q a b p s (t + 1) f' → Tm pmt (an_sh wX) o_X5_multiply 49 ([(2, q), (2, a), (2, b), (2, p), (0, w), (0, s), (0, f'), (0, t + 1), v8, v9, v10], [], C_z) (mx_post A q a b p)) : ∀ (m_z : Nat) (v_z : Int) (B_z : pm_A), (12 - v_z).toNat < m_z → 0 ≤ v_z → v_z ≤ w → m49 A B_z q a b p s t f → (∀ u_z : Int, 0 ≤ u_z → u_z < v_z → B_z (A q 5) u_z = A (A a 3) (s * w + u_z) + A (A b 3) (t * w + u_z)) → Tm pmt (an_sh wX) o_X5_multiply 91 ([(2, q), (2, a), (2, b), (2, p), (0, w), (0, s), (0, f), (0, t), (1, n), (9, 0), (0, v_z)], [], B_z) (mx_post A q a b p) := by
  have hH0 := hH
  obtain ⟨hA, ⟨hq, ha_z, hb_z, hp⟩, hwab, ⟨da_z, db⟩, ⟨sa_z, sb_z⟩, ⟨ca, cb⟩, ⟨xa, xb'⟩, hE, la, lb⟩ := hH
  have w0_z := fX_2_0 hA ha_z.1 ha_z.2
  have la2 := fX_2_1 hA ha_z.1 ha_z.2
  have lb2 := fX_2_1 hA hb_z.1 hb_z.2
  have kA_z := fX_4_5 hA hq.1 hq.2
  have pn := fX_2_2 hA hp.1 hp.2
  have pp := fX_2_3 hA hp.1 hp.2
  have pa := fX_2_3 hA ha_z.1 ha_z.2
  have pb := fX_2_3 hA hb_z.1 hb_z.2
  have ne : ∀ {x_z y_z : Int} {k_z l : Nat}, wX.2 x_z = k_z → wX.2 y_z = l → ¬ k_z = l → ¬ x_z = y_z := fun hx hy hkl e_z => hkl (by rw [← hx, ← hy, e_z])
  intro m_z
  induction m_z with
  | zero => intro v_z B_z h_z; omega
  | succ m_z ih_z =>
    intro v_z B_z hm_z v0_z v1_z h_z hkey
    have h0 := h_z
    obtain ⟨hF, hp0, hsr, hcf, hco, hf, hgt⟩ := h_z
    have sma := hF.sm hA hq hp ha_z da_z
    have smb := hF.sm hA hq hp hb_z db
    have eq5 : B_z q 5 = A q 5 := hF.2.1 q 5 (ne hq.2 hp.2 (by decide)) (ne hq.2 pn.2 (by decide)) (ne hq.2 pp.2 (by decide)) (ne hq.2 kA_z.2 (by decide))
    have m1_z : v_z < w → (0 ≤ s * w ∧ s * w ≤ 2388 ∧ s * w + v_z < 2400) ∧ (0 ≤ t * w ∧ t * w ≤ 2388 ∧ t * w + v_z < 2400) := fun hv => ⟨mul_lt s0 (by omega) (by omega) (by omega) v0_z hv, mul_lt t0 (by omega) (by omega) (by omega) v0_z hv⟩
    have xa1 : v_z < w → -E1 ≤ A (A a 3) (s * w + v_z) ∧ A (A a 3) (s * w + v_z) ≤ E1 := fun hv => by rw [hw]; exact xa s v_z s0 s1 v0_z (by omega)
    have xb1 : v_z < w → -E2 ≤ A (A b 3) (t * w + v_z) ∧ A (A b 3) (t * w + v_z) ≤ E2 := fun hv => by rw [hw, hwab]; exact xb' t v_z t0 t1 v0_z (by omega)
    refine wq_ok srt_multiply (fr := []) (cuts := [91, 138]) (J := fun pc st_z => (pc = 138 ∧ w ≤ v_z ∧ st_z = ([(2, q), (2, a), (2, b), (2, p), (0, w), (0, s), (0, f), (0, t), (1, n), (9, 0), (0, v_z)], [], B_z)) ∨ (pc = 91 ∧ v_z < w ∧ st_z = ([(2, q), (2, a), (2, b), (2, p), (0, w), (0, s), (0, f), (0, t), (1, n), (9, 0), (0, v_z + 1)], [], pm_upd B_z (B_z q 5) v_z (B_z (B_z a 3) (s * w + v_z) + B_z (B_z b 3) (t * w + v_z))))) ?_ 40 91 _ ?_
    · rintro pc st_z (⟨rfl, hv, rfl⟩ | ⟨rfl, hv, rfl⟩)
      · refine mx_138 hH0 s0 s1 t0 t1 hn hn1 h0 (funext fun i_z => ?_) H
        show (if (i_z.1 : Int) < B_z p 0 then B_z (A q 5) (i_z.1 : Int) else 0) = (if (i_z.1 : Int) < A a 0 then A (A a 3) (s * A a 0 + (i_z.1 : Int)) else 0) + (if (i_z.1 : Int) < A b 0 then A (A b 3) (t * A b 0 + (i_z.1 : Int)) else 0)
        rw [hp0, ← hwab, ← hw]
        by_cases e_z : (i_z.1 : Int) < w
        · rw [if_pos e_z, if_pos e_z, if_pos e_z]; exact hkey i_z.1 (by omega) (by omega)
        · rw [if_neg e_z, if_neg e_z, if_neg e_z]; rfl
      · rw [eq5, sma.1 3, smb.1 3, sma.2.2, smb.2.2]
        have x1_z := xa1 hv
        have x2_z := xb1 hv
        have nk : ∀ {x_z : Int} {k_z : Nat}, wX.2 x_z = k_z → ¬ k_z = 18 → ¬ x_z = A q 5 := fun hx hk => ne hx kA_z.2 hk
        have hsmp : sme B_z (pm_upd B_z (A q 5) v_z (A (A a 3) (s * w + v_z) + A (A b 3) (t * w + v_z))) p := ⟨fun j_z => upd_ne (nk hp.2 (by decide)), fun j_z => upd_ne (by rw [hF.2.2.1]; exact nk pn.2 (by decide)), fun j_z => upd_ne (by rw [hF.2.2.2]; exact nk pp.2 (by decide))⟩
        refine ih_z (v_z + 1) _ (by omega) (by omega) (by omega) ⟨⟨uX_18 hF.1 kA_z.2 (by omega) (by omega), fun r_z j_z a1_z a2 a3 a4 => by rw [upd_ne a4]; exact hF.2.1 r_z j_z a1_z a2 a3 a4, by rw [hsmp.1 2]; exact hF.2.2.1, by rw [hsmp.1 3]; exact hF.2.2.2⟩, by rw [hsmp.1 0]; exact hp0, hsmp.sr hsr, hsmp.cf hcf, fun c_z => by rw [hsmp.ls]; exact hco c_z, by rw [hsmp.1 1]; exact hf, fun i_z t' i0_z i1_z u0 u1_z => by rw [hsmp.xe]; exact hgt i_z t' i0_z i1_z u0 u1_z⟩ (fun u_z u0 u1_z => ?_)
        by_cases e_z : u_z = v_z
        · rw [e_z, upd_at]
        · rw [upd_n2 e_z]; exact hkey u_z u0 (by omega)
    · refine ⟨fun hv => ?_, fun hv => ?_⟩
      · exact Or.inl ⟨rfl, hv, rfl⟩
      · have mm := m1_z hv
        have x1_z := xa1 hv
        have x2_z := xb1 hv
        refine ⟨oX_4 hq.1 hq.2 5 rfl, ?_⟩
        refine ⟨oX_2 ha_z.1 ha_z.2 3 rfl, ?_⟩
        refine ⟨⟨by omega, by omega⟩, ?_⟩
        refine ⟨⟨by omega, by omega⟩, ?_⟩
        refine ⟨aX_15 (by rw [sma.1 3]; exact pa.1) (by rw [sma.1 3]; exact pa.2) (by omega) (by omega), ?_⟩
        refine ⟨oX_2 hb_z.1 hb_z.2 3 rfl, ?_⟩
        refine ⟨⟨by omega, by omega⟩, ?_⟩
        refine ⟨⟨by omega, by omega⟩, ?_⟩
        refine ⟨aX_15 (by rw [smb.1 3]; exact pb.1) (by rw [smb.1 3]; exact pb.2) (by omega) (by omega), ?_⟩
        refine ⟨(show r32 (B_z (B_z a 3) (s * w + v_z) + B_z (B_z b 3) (t * w + v_z)) by rw [sma.1 3, smb.1 3, sma.2.2, smb.2.2]; exact ⟨by omega, by omega⟩), ?_⟩
        refine ⟨tX_18 (by rw [eq5]; exact kA_z.1) (by rw [eq5]; exact kA_z.2) (by omega) (by omega) rfl, ?_⟩
        refine ⟨⟨by omega, by omega⟩, ?_⟩
        exact Or.inr ⟨rfl, hv, rfl⟩
theorem mx_49 {A : pm_A} {q a b p s w E1 E2 : Int} (hH : mxH A q a b p E1 E2) (hw : w = A a 0) (s0 : 0 ≤ s) (s1 : s < A a 1) (H : ∀ C_z f_z t_z v8 v9 v10, mxF A C_z q p → C_z p 0 = A a 0 → srX C_z p → cfX C_z p → (∀ c_z, cr_co (LSx C_z p) c_z = cr_co (cr_pmz (lsf (s + 1).toNat (fX A a)) (LSx A b)) c_z) → Tm pmt (an_sh wX) o_X5_multiply 167 ([(2, q), (2, a), (2, b), (2, p), (0, w), (0, s), (0, f_z), (0, t_z), v8, v9, v10], [], C_z) (mx_post A q a b p)) : ∀ (m_z : Nat) (t_z f_z : Int) (v8 v9 v10 : pm_V) (B_z : pm_A), (A b 1 - t_z).toNat < m_z → 0 ≤ t_z → t_z ≤ A b 1 → m49 A B_z q a b p s t_z f_z → Tm pmt (an_sh wX) o_X5_multiply 49 ([(2, q), (2, a), (2, b), (2, p), (0, w), (0, s), (0, f_z), (0, t_z), v8, v9, v10], [], B_z) (mx_post A q a b p) := by
  have hH0 := hH
  obtain ⟨hA, ⟨hq, ha_z, hb_z, hp⟩, hwab, ⟨da_z, db⟩, ⟨sa_z, sb_z⟩, ⟨ca, cb⟩, ⟨xa, xb'⟩, hE, la, lb⟩ := hH
  have w0_z := fX_2_0 hA ha_z.1 ha_z.2
  have la2 := fX_2_1 hA ha_z.1 ha_z.2
  have lb2 := fX_2_1 hA hb_z.1 hb_z.2
  have an := fX_2_2 hA ha_z.1 ha_z.2
  have bn := fX_2_2 hA hb_z.1 hb_z.2
  intro m_z
  induction m_z with
  | zero => intro t_z f_z v8 v9 v10 B_z h_z; omega
  | succ m_z ih_z =>
    intro t_z f_z v8 v9 v10 B_z hm_z t0_z t1_z h_z
    have h0 := h_z
    obtain ⟨hF, hp0, hsr, hcf, hco, hf, hgt⟩ := h_z
    have sma := hF.sm hA hq hp ha_z da_z
    have smb := hF.sm hA hq hp hb_z db
    have hca := ca s s0 s1
    refine wq_ok srt_multiply (fr := []) (cuts := [75, 167]) (J := fun pc st_z => (pc = 167 ∧ A b 1 ≤ t_z ∧ st_z = ([(2, q), (2, a), (2, b), (2, p), (0, w), (0, s), (0, f_z), (0, t_z), v8, v9, v10], [], B_z)) ∨ (pc = 75 ∧ t_z < A b 1 ∧ ∃ z_z : Int, ((z_z = -1 ∧ 1000000000000 < A (A a 2) s * A (A b 2) t_z) ∨ (z_z = A (A a 2) s * A (A b 2) t_z ∧ 1 ≤ z_z ∧ z_z ≤ 1000000000000)) ∧ st_z = ([(2, q), (2, a), (2, b), (2, p), (0, w), (0, s), (0, f_z), (0, t_z), v8, v9, v10], [(1, z_z)], B_z))) ?_ 30 49 _ ?_
    · rintro pc st_z (⟨rfl, ht, rfl⟩ | ⟨rfl, ht, z_z, hz, rfl⟩)
      · have e_z : t_z = A b 1 := by omega
        refine H B_z f_z t_z _ _ _ hF hp0 hsr hcf (fun c_z => ?_)
        rw [hco c_z, e_z, show (s + 1).toNat = s.toNat + 1 by omega, lsf_succ, pmz_snoc, cr_co_app]
        rfl
      · refine wq_ok srt_multiply (fr := []) (cuts := [91]) (J := fun pc st_z => pc = 91 ∧ (¬ z_z = -1) ∧ st_z = ([(2, q), (2, a), (2, b), (2, p), (0, w), (0, s), (0, f_z), (0, t_z), (1, z_z), (9, 0), (0, 0)], [], B_z)) ?_ 20 75 _ ?_
        · rintro pc st_z ⟨rfl, hz1, rfl⟩
          have hz2 : z_z = A (A a 2) s * A (A b 2) t_z ∧ 1 ≤ z_z ∧ z_z ≤ 1000000000000 := by
            rcases hz with h_z | h_z
            · exact absurd h_z.1 hz1
            · exact h_z
          exact mx_91 hH0 hw s0 s1 t0_z ht hz2.1 hz2.2 (fun C_z f' v8 v9 v10 hC => ih_z (t_z + 1) f' v8 v9 v10 C_z (by omega) (by omega) (by omega) hC) _ 0 B_z (Nat.lt_succ_self _) (by omega) (by omega) h0 (fun u_z u0 u1_z => by omega)
        · have hfail : z_z = -1 → mx_post A q a b p (some (0, 0), B_z) := fun e_z => ⟨hF, Or.inl ⟨rfl, by
            rcases hz with h_z | h_z
            · exact bigX_mul ca cb s0 s1 t0_z ht h_z.2
            · omega⟩⟩
          refine ⟨fun h1 => ?_, fun h1 => ?_, fun h1 => ?_⟩
          · refine ⟨fun _ => ?_, fun hh => absurd hh (by decide)⟩
            exact ⟨rfl, by omega, rfl⟩
          · refine ⟨fun hh => absurd hh (by decide), fun _ => ?_⟩
            exact ⟨rfl, hfail h1⟩
          · refine ⟨fun _ => ?_, fun hh => absurd hh (by decide)⟩
            exact ⟨rfl, by omega, rfl⟩
    · refine ⟨oX_2 hb_z.1 hb_z.2 1 rfl, ?_⟩
      refine ⟨fun h1 => ?_, fun h1 => ?_⟩
      · exact Or.inl ⟨rfl, by rw [smb.1 1] at h1; exact h1, rfl⟩
      · rw [smb.1 1] at h1
        have hcb := cb t_z t0_z h1
        refine ⟨oX_2 ha_z.1 ha_z.2 2 rfl, ?_⟩
        refine ⟨aX_14 (by rw [sma.1 2]; exact an.1) (by rw [sma.1 2]; exact an.2) s0 (by omega), ?_⟩
        refine ⟨oX_2 hb_z.1 hb_z.2 2 rfl, ?_⟩
        refine ⟨aX_14 (by rw [smb.1 2]; exact bn.1) (by rw [smb.1 2]; exact bn.2) t0_z (by omega), ?_⟩
        refine ⟨rfl, ?_⟩
        rw [sma.1 2, smb.1 2, sma.2.1, smb.2.1]
        refine (mult_ex hca hcb).imp ?_
        rintro ⟨r1_z, C_z⟩ ⟨g1, z_z, g2, g3_z⟩
        simp only at g1 g2 g3_z
        subst g1
        subst g2
        exact Or.inr ⟨rfl, h1, z_z, g3_z, rfl⟩
theorem mx_34 {A : pm_A} {q a b p w E1 E2 : Int} (hH : mxH A q a b p E1 E2) (hw : w = A a 0) : ∀ (m_z : Nat) (s_z : Int) (v6 v7 v8 v9 v10 : pm_V) (B_z : pm_A), (A a 1 - s_z).toNat < m_z → 0 ≤ s_z → s_z ≤ A a 1 → mxF A B_z q p → B_z p 0 = A a 0 → srX B_z p → cfX B_z p → (∀ c_z, cr_co (LSx B_z p) c_z = cr_co (cr_pmz (lsf s_z.toNat (fX A a)) (LSx A b)) c_z) → Tm pmt (an_sh wX) o_X5_multiply 34 ([(2, q), (2, a), (2, b), (2, p), (0, w), (0, s_z), v6, v7, v8, v9, v10], [], B_z) (mx_post A q a b p) := by
  have hH0 := hH
  obtain ⟨hA, ⟨hq, ha_z, hb_z, hp⟩, hwab, ⟨da_z, db⟩, ⟨sa_z, sb_z⟩, ⟨ca, cb⟩, ⟨xa, xb'⟩, hE, la, lb⟩ := hH
  have la2 := fX_2_1 hA ha_z.1 ha_z.2
  intro m_z
  induction m_z with
  | zero => intro s_z v6 v7 v8 v9 v10 B_z h_z; omega
  | succ m_z ih_z =>
    intro s_z v6 v7 v8 v9 v10 B_z hm_z s0_z s1_z hF hp0 hsr hcf hco
    have sma := hF.sm hA hq hp ha_z da_z
    have lp := fX_2_1 hF.1 hp.1 hp.2
    refine wq_ok srt_multiply (fr := []) (cuts := [49]) (J := fun pc st_z => pc = 49 ∧ s_z < A a 1 ∧ st_z = ([(2, q), (2, a), (2, b), (2, p), (0, w), (0, s_z), (0, 0), (0, 0), v8, v9, v10], [], B_z)) ?_ 20 34 _ ?_
    · rintro pc st_z ⟨rfl, hs, rfl⟩
      refine mx_49 hH0 hw s0_z hs (fun C_z f_z t_z v8 v9 v10 c1_z c2_z c3_z c4_z c5_z => ?_) _ 0 0 _ _ _ B_z (Nat.lt_succ_self _) (by omega) (by omega) ⟨hF, hp0, hsr, hcf, fun c_z => by rw [hco c_z]; show _ = _ + (0 : Int); omega, ⟨by omega, by omega⟩, fun i_z t' i0_z i1_z => by omega⟩
      refine wq_ok srt_multiply (fr := []) (cuts := [34]) (J := fun pc st_z => pc = 34 ∧ st_z = ([(2, q), (2, a), (2, b), (2, p), (0, w), (0, s_z + 1), (0, f_z), (0, t_z), v8, v9, v10], [], C_z)) ?_ 10 167 _ ?_
      · rintro pc st_z ⟨rfl, rfl⟩
        exact ih_z (s_z + 1) _ _ _ _ _ C_z (by omega) (by omega) (by omega) c1_z c2_z c3_z c4_z c5_z
      · refine ⟨⟨by omega, by omega⟩, ?_⟩
        exact ⟨rfl, rfl⟩
    · refine ⟨oX_2 ha_z.1 ha_z.2 1 rfl, ?_⟩
      refine ⟨fun h1 => ?_, fun h1 => ?_⟩
      · rw [sma.1 1] at h1
        have e_z : s_z = A a 1 := by omega
        rw [e_z] at hco
        exact ⟨rfl, hF, Or.inr ⟨rfl, hp0, hsr, hcf, hco⟩⟩
      · exact ⟨rfl, by rw [sma.1 1] at h1; exact h1, rfl⟩
theorem srt_clear : pm_srt o_X8_clear = true := by decide +kernel
theorem clear_exX {A : pm_A} {s w : Int} (hA : gH wX A) (s0 : 0 ≤ s) (sk : wX.2 s = 2) (w0 : 0 ≤ w) (w1 : w ≤ 12) : Cl pmt (an_sh wX) 75 [(2, s), (0, w)] A (fun r_z => r_z = (none, pm_upd (pm_upd A s 0 w) s 1 0)) := by
  refine Cl.of (Nat.le_of_ble_eq_true rfl) ?_
  refine wq_ok (full := o_X8_clear) srt_clear (fr := []) (cuts := []) (J := fun _ _ => False) (fun _ _ h_z => h_z.elim) 20 0 _ ?_
  refine ⟨oX_2 s0 sk 0 rfl, ?_⟩
  refine ⟨oX_2 s0 sk 1 rfl, ?_⟩
  rfl
theorem clr_gH {A : pm_A} {s w : Int} (hA : gH wX A) (sk : wX.2 s = 2) (w0 : 0 ≤ w) (w1 : w ≤ 12) : gH wX (pm_upd (pm_upd A s 0 w) s 1 0) := by
  have h1 : gH wX (pm_upd A s 0 w) := gH_upd hA (k := (0, 8, 4, [(0, 0, 12), (0, 0, 200), (2, 14, 0), (2, 15, 0)])) (by rw [sk]; rfl) (fun _ j_z a_z hj ej => by
    have : j_z = 0 := by omega
    subst this
    cases hj
    exact ⟨rfl, w0, w1⟩) (fun q_z => by cases q_z)
  exact gH_upd h1 (k := (0, 8, 4, [(0, 0, 12), (0, 0, 200), (2, 14, 0), (2, 15, 0)])) (by rw [sk]; rfl) (fun _ j_z a_z hj ej => by
    have : j_z = 1 := by omega
    subst this
    cases hj
    exact ⟨rfl, by simp only; omega, by simp only; omega⟩) (fun q_z => by cases q_z)
theorem multiply_exX {A : pm_A} {q a b p E1 E2 : Int} (hH : mxH A q a b p E1 E2) : Cl pmt (an_sh wX) 45 [(2, q), (2, a), (2, b), (2, p)] A (mx_post A q a b p) := by
  have hH0 := hH
  obtain ⟨hA, ⟨hq, ha_z, hb_z, hp⟩, hwab, ⟨da_z, db⟩, ⟨sa_z, sb_z⟩, ⟨ca, cb⟩, ⟨xa, xb'⟩, hE, la, lb⟩ := hH
  have w0_z := fX_2_0 hA ha_z.1 ha_z.2
  have la2 := fX_2_1 hA ha_z.1 ha_z.2
  have lb2 := fX_2_1 hA hb_z.1 hb_z.2
  obtain ⟨⟨n1_z, n2_z, n3_z⟩, _, _⟩ := shNP.of hA hp.1 hp.2
  refine Cl.of (Nat.le_of_ble_eq_true rfl) ?_
  refine wq_ok (full := o_X5_multiply) srt_multiply (fr := []) (cuts := [34]) (J := fun pc st_z => pc = 34 ∧ ∃ v6 v7 v8 v9 v10, st_z = ([(2, q), (2, a), (2, b), (2, p), (0, A a 0), (0, 0), v6, v7, v8, v9, v10], [], pm_upd (pm_upd A p 0 (A a 0)) p 1 0)) ?_ 30 0 _ ?_
  · rintro pc st_z ⟨rfl, v6, v7, v8, v9, v10, rfl⟩
    have e0_z : pm_upd (pm_upd A p 0 (A a 0)) p 1 0 p 0 = A a 0 := by rw [upd_n2 (by omega), upd_at]
    have e1 : pm_upd (pm_upd A p 0 (A a 0)) p 1 0 p 1 = 0 := upd_at
    refine mx_34 hH0 rfl _ 0 v6 v7 v8 v9 v10 _ (Nat.lt_succ_self _) (by omega) (by omega) ⟨clr_gH hA hp.2 w0_z.1 w0_z.2, fun r_z j_z a1_z a2 a3 a4 => by rw [upd_ne a1_z, upd_ne a1_z], by rw [upd_n2 (by omega), upd_n2 (by omega)], by rw [upd_n2 (by omega), upd_n2 (by omega)]⟩ e0_z (fun i_z i' i0_z i1_z i2_z => by rw [e1] at i2_z; omega) (fun i_z i0_z i1_z => by rw [e1] at i1_z; omega) (fun c_z => ?_)
    unfold LSx
    rw [e1]
    rfl
  · refine ⟨oX_2 ha_z.1 ha_z.2 1 rfl, ?_⟩
    refine ⟨oX_2 hb_z.1 hb_z.2 1 rfl, ?_⟩
    refine ⟨⟨by omega, by omega⟩, ?_⟩
    refine ⟨⟨by omega, by omega⟩, ?_⟩
    refine ⟨fun h0 => ?_, fun h0 => ?_⟩
    · refine ⟨oX_2 ha_z.1 ha_z.2 0 rfl, ?_⟩
      refine ⟨rX_2 hp.1 hp.2, ?_⟩
      refine (clear_exX hA hp.1 hp.2 w0_z.1 w0_z.2).imp ?_
      rintro r_z rfl
      exact ⟨rfl, _, _, _, _, _, rfl⟩
    · refine ⟨rfl, ⟨hA, fun _ _ _ _ _ _ => rfl, rfl, rfl⟩, Or.inl ⟨rfl, ?_⟩⟩
      exact BigC.len (shrX sa_z (fun i_z i0_z i1_z => (ca i_z i0_z i1_z).1)) (shrX sb_z (fun i_z i0_z i1_z => (cb i_z i0_z i1_z).1)) (by rw [LSx_len, LSx_len]; omega) (neX la) (neX lb)
