/-! the class's products: product -/
def pxF (A B : pm_A) (q b o : Int) : Prop := gH wX B ∧ (∀ r_z j_z : Int, ¬ r_z = b → ¬ r_z = A b 2 → ¬ r_z = A b 3 → ¬ r_z = o → ¬ r_z = A o 2 → ¬ r_z = A o 3 → ¬ r_z = A q 5 → B r_z j_z = A r_z j_z) ∧ (B b 2 = A b 2 ∧ B b 3 = A b 3) ∧ (B o 2 = A o 2 ∧ B o 3 = A o 3)
theorem knd {x y : Int} {k l : Nat} (hx : wX.2 x = k) (hy : wX.2 y = l) (hkl : ¬ k = l) : ¬ x = y := fun e_z => hkl (by rw [← hx, ← hy, e_z])
theorem pxF.sm {A B : pm_A} {q b o a : Int} (h : pxF A B q b o) (hA : gH wX A) (qk : 0 ≤ q ∧ wX.2 q = 4) (bk : 0 ≤ b ∧ wX.2 b = 2) (ok : 0 ≤ o ∧ wX.2 o = 2) (ak : 0 ≤ a ∧ wX.2 a = 2) (hb : dsX A b a) (ho : dsX A o a) : sme A B a := by
  have b2 := fX_2_2 hA bk.1 bk.2
  have b3 := fX_2_3 hA bk.1 bk.2
  have o2 := fX_2_2 hA ok.1 ok.2
  have o3_z := fX_2_3 hA ok.1 ok.2
  have a2 := fX_2_2 hA ak.1 ak.2
  have a3 := fX_2_3 hA ak.1 ak.2
  have kA_z := fX_4_5 hA qk.1 qk.2
  refine ⟨fun j_z => ?_, fun j_z => ?_, fun j_z => ?_⟩
  · exact h.2.1 a j_z (fun e_z => hb.1 e_z.symm) (knd ak.2 b2.2 (by decide)) (knd ak.2 b3.2 (by decide)) (fun e_z => ho.1 e_z.symm) (knd ak.2 o2.2 (by decide)) (knd ak.2 o3_z.2 (by decide)) (knd ak.2 kA_z.2 (by decide))
  · exact h.2.1 _ j_z (knd a2.2 bk.2 (by decide)) (fun e_z => hb.2.1 e_z.symm) (knd a2.2 b3.2 (by decide)) (knd a2.2 ok.2 (by decide)) (fun e_z => ho.2.1 e_z.symm) (knd a2.2 o3_z.2 (by decide)) (knd a2.2 kA_z.2 (by decide))
  · exact h.2.1 _ j_z (knd a3.2 bk.2 (by decide)) (knd a3.2 b2.2 (by decide)) (fun e_z => hb.2.2 e_z.symm) (knd a3.2 ok.2 (by decide)) (knd a3.2 o2.2 (by decide)) (fun e_z => ho.2.2 e_z.symm) (knd a3.2 kA_z.2 (by decide))
theorem pxF.ob {A B : pm_A} {q b o r : Int} {l : Nat} (h : pxF A B q b o) (hA : gH wX A) (qk : 0 ≤ q ∧ wX.2 q = 4) (bk : 0 ≤ b ∧ wX.2 b = 2) (ok : 0 ≤ o ∧ wX.2 o = 2) (rk : wX.2 r = l) (n1 : ¬ l = 2) (n2 : ¬ l = 14) (n3 : ¬ l = 15) (n4 : ¬ l = 18) (j : Int) : B r j = A r j :=
  h.2.1 r j (knd rk bk.2 n1) (knd rk (fX_2_2 hA bk.1 bk.2).2 n2) (knd rk (fX_2_3 hA bk.1 bk.2).2 n3) (knd rk ok.2 n1) (knd rk (fX_2_2 hA ok.1 ok.2).2 n2) (knd rk (fX_2_3 hA ok.1 ok.2).2 n3) (knd rk (fX_4_5 hA qk.1 qk.2).2 n4)
theorem pxF.step {A B C : pm_A} {q b o u v : Int} (h : pxF A B q b o) (hA : gH wX A) (qk : 0 ≤ q ∧ wX.2 q = 4) (bk : 0 ≤ b ∧ wX.2 b = 2) (ok : 0 ≤ o ∧ wX.2 o = 2) (hbo : dsX A b o) (huv : (u = b ∧ v = o) ∨ (u = o ∧ v = b)) (g : mxF B C q v) : pxF A C q b o := by
  have e5 : B q 5 = A q 5 := h.ob hA qk bk ok qk.2 (by decide) (by decide) (by decide) (by decide) 5
  have b2 := fX_2_2 hA bk.1 bk.2
  have b3 := fX_2_3 hA bk.1 bk.2
  have o2 := fX_2_2 hA ok.1 ok.2
  have o3_z := fX_2_3 hA ok.1 ok.2
  have kA_z := fX_4_5 hA qk.1 qk.2
  obtain ⟨g1, g2, g3_z, g4⟩ := g
  obtain ⟨h1, h2, ⟨h3, h4⟩, ⟨h5, h6⟩⟩ := h
  rcases huv with ⟨rfl, rfl⟩ | ⟨rfl, rfl⟩
  · rw [h5] at g3_z
    rw [h6] at g4
    rw [h5, h6, e5] at g2
    refine ⟨g1, fun r_z j_z a1_z a2 a3 a4 a5 a6 a7 => by rw [g2 r_z j_z a4 a5 a6 a7]; exact h2 r_z j_z a1_z a2 a3 a4 a5 a6 a7, ⟨?_, ?_⟩, g3_z, g4⟩
    · rw [g2 u 2 hbo.1 (knd bk.2 o2.2 (by decide)) (knd bk.2 o3_z.2 (by decide)) (knd bk.2 kA_z.2 (by decide))]; exact h3
    · rw [g2 u 3 hbo.1 (knd bk.2 o2.2 (by decide)) (knd bk.2 o3_z.2 (by decide)) (knd bk.2 kA_z.2 (by decide))]; exact h4
  · rw [h3] at g3_z
    rw [h4] at g4
    rw [h3, h4, e5] at g2
    refine ⟨g1, fun r_z j_z a1_z a2 a3 a4 a5 a6 a7 => by rw [g2 r_z j_z a1_z a2 a3 a7]; exact h2 r_z j_z a1_z a2 a3 a4 a5 a6 a7, ⟨g3_z, g4⟩, ?_, ?_⟩
    · rw [g2 u 2 (fun e_z => hbo.1 e_z.symm) (knd ok.2 b2.2 (by decide)) (knd ok.2 b3.2 (by decide)) (knd ok.2 kA_z.2 (by decide))]; exact h5
    · rw [g2 u 3 (fun e_z => hbo.1 e_z.symm) (knd ok.2 b2.2 (by decide)) (knd ok.2 b3.2 (by decide)) (knd ok.2 kA_z.2 (by decide))]; exact h6
def prX (A : pm_A) (q g k sg b o : Int) : Prop := bgS A q g k sg b ∧ (0 ≤ o ∧ wX.2 o = 2) ∧ dsX A b o ∧ ∀ i_z : Int, 0 ≤ i_z → i_z < A g 0 → dsX A b (A (A g 4) i_z) ∧ dsX A o (A (A g 4) i_z)
abbrev fpX (A : pm_A) (g k sg : Int) (x : cr_Pv 12) : Rat := bpX A g k sg x (bgW A g).toNat * mpX A g k sg x (A g 0).toNat
def prG2 (B : pm_A) (u w E : Int) (f : cr_Pv 12 → Rat) : Prop := B u 0 = w ∧ srX B u ∧ cfX B u ∧ 1 ≤ B u 1 ∧ xbX B u E ∧ ∀ x_z, VX B u x_z = f x_z
def prPx (A : pm_A) (q g k sg b o : Int) (r : pm_R) : Prop := pxF A r.2 q b o ∧ ((r.1 = some (2, -1) ∧ BigV (fpX A g k sg)) ∨ ∃ u_z, r.1 = some (2, u_z) ∧ (u_z = b ∨ u_z = o) ∧ prG2 r.2 u_z (bgW A g) 325767420 (fpX A g k sg))
theorem xbX_mono {A : pm_A} {s E E' : Int} (h : xbX A s E) (he : E ≤ E') : xbX A s E' := fun q_z v_z q0 q1_z v0_z v1_z => by have := h q_z v_z q0 q1_z v0_z v1_z; omega
theorem xbX_prod {A B : pm_A} {p a b E1 E2 : Int} (hw : B p 0 = A a 0) (hw2 : A a 0 = A b 0) (w12 : A a 0 ≤ 12) (hc : cfX B p) (h : ∀ c_z, cr_co (LSx B p) c_z = cr_co (cr_pmz (LSx A a) (LSx A b)) c_z) (h1 : xbX A a E1) (h2 : xbX A b E2) : xbX B p (E1 + E2) := by
  intro q_z v_z q0 q1_z v0_z v1_z
  have hm_z := inX (A := B) (s := p) q0 q1_z
  have hp := cr_co_pos (posX hc) hm_z
  rw [h] at hp
  obtain ⟨z_z, hz, ez⟩ := cr_co_mem (l := cr_pmz (LSx A a) (LSx A b)) (a := xeX B p q_z) (by have : 0 < cr_co (cr_pmz (LSx A a) (LSx A b)) (xeX B p q_z) := hp; omega)
  obtain ⟨y_z, hy, w_z, hw3, rfl⟩ := cr_mem_pmz hz
  obtain ⟨i_z, i0_z, i1_z, rfl⟩ := memX hy
  obtain ⟨j_z, j0, j1, rfl⟩ := memX hw3
  have e_z := congrFun ez ⟨v_z.toNat, by omega⟩
  have e2 : (if ((v_z.toNat : Nat) : Int) < A a 0 then A (A a 3) (i_z * A a 0 + ((v_z.toNat : Nat) : Int)) else 0) + (if ((v_z.toNat : Nat) : Int) < A b 0 then A (A b 3) (j_z * A b 0 + ((v_z.toNat : Nat) : Int)) else 0) = (if ((v_z.toNat : Nat) : Int) < B p 0 then B (B p 3) (q_z * B p 0 + ((v_z.toNat : Nat) : Int)) else 0) := e_z
  rw [Int.toNat_of_nonneg v0_z, if_pos v1_z, if_pos (by omega), if_pos (by omega)] at e2
  have := h1 i_z v_z i0_z i1_z v0_z (by omega)
  have := h2 j_z v_z j0 j1 v0_z (by omega)
  omega
theorem VX_prod {A B : pm_A} {p a b : Int} (h : ∀ c_z, cr_co (LSx B p) c_z = cr_co (cr_pmz (LSx A a) (LSx A b)) c_z) (x : cr_Pv 12) : VX B p x = VX A a x * VX A b x := by
  unfold VX
  rw [cr_vl_co x.1 h, cr_vl_pmz x.2]
theorem big_VX {A : pm_A} {a b : Int} (ca : cfX A a) (cb : cfX A b) (h : xBg A a b) : BigV (fun x_z => VX A a x_z * VX A b x_z) :=
  ⟨cr_pmz (LSx A a) (LSx A b), pmz_pos (posX ca) (posX cb), fun x_z => cr_vl_pmz x_z.2 _ _, h⟩
theorem prod_ne {B : pm_A} {p : Int} {l : cr_Pl_ 12} (h : ∀ c_z, cr_co (LSx B p) c_z = cr_co l c_z) (hp : ∀ y_z ∈ l, 0 < y_z.1) (hn : l ≠ []) (h0 : 0 ≤ B p 1) : 1 ≤ B p 1 := by
  refine Classical.byContradiction (fun hneg => ?_)
  obtain ⟨y_z, hy⟩ := List.exists_mem_of_ne_nil l hn
  have h1 := cr_co_pos hp hy
  rw [← h, show LSx B p = [] by unfold LSx; rw [show B p 1 = 0 by omega]; rfl, cr_co_nil] at h1
  omega
theorem pmz_ne {l m : cr_Pl_ 12} (hl : l ≠ []) (hm : m ≠ []) : cr_pmz l m ≠ [] := fun e_z => by
  obtain ⟨y_z, hy⟩ := List.exists_mem_of_ne_nil l hl
  obtain ⟨w_z, hw⟩ := List.exists_mem_of_ne_nil m hm
  have := pmz_in hy hw
  rw [e_z] at this
  cases this
theorem yX_pos {A : pm_A} {g : Int} (h : ltX A g) {i : Nat} (hi : (i : Int) < A g 0) (x : cr_Pv 12) : 0 < yX A g x i := by
  unfold yX
  rw [if_pos hi]
  obtain ⟨_, d2_z, d3_z, _⟩ := h.2.2.1 i (by omega) hi
  exact VX_pos d2_z d3_z x
abbrev npX (A : pm_A) (g k sg i : Int) (x : cr_Pv 12) : Rat := bpX A g k sg x (bgW A g).toNat * mpX A g k sg x i.toNat
theorem mp_ext {A : pm_A} {g : Int} (hA : ltX A g) {k sg : Int} (i : Nat) (h : BigV (fun x_z => bpX A g k sg x_z (bgW A g).toNat * mpX A g k sg x_z i)) : ∀ m_z : Nat, BigV (fun x_z => bpX A g k sg x_z (bgW A g).toNat * mpX A g k sg x_z (i + m_z))
  | 0 => h
  | m_z + 1 => ((mp_ext hA i h m_z).mul (mf_rp hA k sg (i + m_z))).eq (fun x_z => Rat.mul_assoc _ _ _)
theorem mp_big {A : pm_A} {g k sg i : Int} (hA : ltX A g) (i0 : 0 ≤ i) (i1 : i ≤ A g 0) (h : BigV (npX A g k sg i)) : BigV (fpX A g k sg) := by
  have h2 := mp_ext hA i.toNat h ((A g 0).toNat - i.toNat)
  rw [show i.toNat + ((A g 0).toNat - i.toNat) = (A g 0).toNat by omega] at h2
  exact h2
theorem bp_big {A : pm_A} {g k sg : Int} (hA : ltX A g) (h : BigV (fun x_z => bpX A g k sg x_z (bgW A g).toNat)) : BigV (fpX A g k sg) := by
  refine mp_big hA (i := 0) (by omega) (fX_1_0 hA.1 hA.2.1.1 hA.2.1.2).1 (h.eq (fun x_z => ?_))
  show _ = bpX A g k sg x_z (bgW A g).toNat * 1
  rw [Rat.mul_one]
def prI2 (A B : pm_A) (q g k sg b o u v i : Int) : Prop := pxF A B q b o ∧ ((u = b ∧ v = o) ∨ (u = o ∧ v = b)) ∧ prG2 B u (bgW A g) (bgW A g * 18098190 + i * 18098190) (npX A g k sg i)
def prJ2 (A B : pm_A) (q g k sg b o u v i d : Int) : Prop := pxF A B q b o ∧ ((u = b ∧ v = o) ∨ (u = o ∧ v = b)) ∧ prG2 B u (bgW A g) (bgW A g * 18098190 + i * 18098190 + d * 1810) (fun x_z => npX A g k sg i x_z * yX A g x_z i.toNat ^ d)
theorem pd_71 {A : pm_A} {q g k sg b o i T : Int} (hP : prX A q g k sg b o) (i0 : 0 ≤ i) (i1 : i < A g 0) (hT : T ≤ 9999) (hTs : 0 < T → T = sg * A (A g 2) (i * 6 + k) ∧ ¬ A (A (A g 4) i) 1 = 1) (H : ∀ C_z u_z v_z d_z w9 w10_z w11_z, prJ2 A C_z q g k sg b o u_z v_z i d_z → (T ≤ d_z ∧ 0 ≤ d_z ∧ (d_z ≤ T ∨ d_z = 0)) → Tm pmt (an_sh wX) o_X5_product 116 ([(2, q), (2, g), (0, k), (0, sg), (2, b), (2, o), (2, u_z), (2, v_z), (0, i), w9, w10_z, w11_z], [], C_z) (prPx A q g k sg b o)) : ∀ (m_z : Nat) (d_z u_z v_z : Int) (w11_z : pm_V) (B_z : pm_A), (T - d_z).toNat < m_z → 0 ≤ d_z → (d_z ≤ T ∨ d_z = 0) → prJ2 A B_z q g k sg b o u_z v_z i d_z → Tm pmt (an_sh wX) o_X5_product 71 ([(2, q), (2, g), (0, k), (0, sg), (2, b), (2, o), (2, u_z), (2, v_z), (0, i), (0, T), (0, d_z), w11_z], [], B_z) (prPx A q g k sg b o) := by
  obtain ⟨⟨hA, hq, hk, hsg, hb_z⟩, ho, hbo, hds⟩ := hP
  have hg := hA.2.1
  have p6_z := fX_1_0 hA.1 hg.1 hg.2
  have h6 := fX_1_1 hA.1 hg.1 hg.2
  have l4 := fX_1_4 hA.1 hg.1 hg.2
  have e0_z := eX_12 hA.1 l4.1 l4.2 i0 (show i < 6 by omega)
  obtain ⟨d1_z, d2_z, d3_z, d4_z, d5_z⟩ := hA.2.2.1 i i0 i1
  obtain ⟨s1_z, s2_z⟩ := hds i i0 i1
  have hw : bgW A g = A g 0 + A g 1 := rfl
  have ei : ((i.toNat : Nat) : Int) = i := Int.toNat_of_nonneg i0
  intro m_z
  induction m_z with
  | zero => intro d_z u_z v_z w11_z B_z h_z; omega
  | succ m_z ih_z =>
    intro d_z u_z v_z w11_z B_z hm_z hd0 hd1 hJ
    have hJ0 := hJ
    obtain ⟨h1, h2, b0, bs, bc, bl, bx, bv_z⟩ := hJ
    have hu : 0 ≤ u_z ∧ wX.2 u_z = 2 := by
      rcases h2 with ⟨e_z, _⟩ | ⟨e_z, _⟩
      · rw [e_z]; exact hb_z
      · rw [e_z]; exact ho
    have hv : 0 ≤ v_z ∧ wX.2 v_z = 2 := by
      rcases h2 with ⟨_, e_z⟩ | ⟨_, e_z⟩
      · rw [e_z]; exact ho
      · rw [e_z]; exact hb_z
    have sm_z := h1.sm hA.1 hq hb_z ho e0_z s1_z s2_z
    have eg : B_z g 4 = A g 4 := h1.ob hA.1 hq hb_z ho hg.2 (by decide) (by decide) (by decide) (by decide) 4
    have eg4 : B_z (A g 4) i = A (A g 4) i := h1.ob hA.1 hq hb_z ho l4.2 (by decide) (by decide) (by decide) (by decide) i
    have eL : B_z (B_z g 4) i = A (A g 4) i := by rw [eg, eg4]
    have dv : dsX B_z v_z u_z ∧ dsX B_z v_z (A (A g 4) i) := by
      obtain ⟨_, _, ⟨f1_z, f2_z⟩, ⟨f3_z, f4_z⟩⟩ := h1
      rcases h2 with ⟨rfl, rfl⟩ | ⟨rfl, rfl⟩
      · exact ⟨⟨fun e_z => hbo.1 e_z.symm, by rw [f1_z, f3_z]; exact fun e_z => hbo.2.1 e_z.symm, by rw [f2_z, f4_z]; exact fun e_z => hbo.2.2 e_z.symm⟩, s2_z.1, by rw [f3_z, sm_z.1 2]; exact s2_z.2.1, by rw [f4_z, sm_z.1 3]; exact s2_z.2.2⟩
      · exact ⟨⟨hbo.1, by rw [f1_z, f3_z]; exact hbo.2.1, by rw [f2_z, f4_z]; exact hbo.2.2⟩, s1_z.1, by rw [f1_z, sm_z.1 2]; exact s1_z.2.1, by rw [f2_z, sm_z.1 3]; exact s1_z.2.2⟩
    refine wq_ok srt_product (fr := []) (cuts := [71, 116]) (J := fun pc st_z => (pc = 116 ∧ T ≤ d_z ∧ st_z = ([(2, q), (2, g), (0, k), (0, sg), (2, b), (2, o), (2, u_z), (2, v_z), (0, i), (0, T), (0, d_z), w11_z], [], B_z)) ∨ (pc = 71 ∧ d_z < T ∧ ∃ C_z, mxF B_z C_z q v_z ∧ C_z v_z 0 = B_z u_z 0 ∧ srX C_z v_z ∧ cfX C_z v_z ∧ (∀ c_z, cr_co (LSx C_z v_z) c_z = cr_co (cr_pmz (LSx B_z u_z) (LSx B_z (A (A g 4) i))) c_z) ∧ st_z = ([(2, q), (2, g), (0, k), (0, sg), (2, b), (2, o), (2, v_z), (2, u_z), (0, i), (0, T), (0, d_z + 1), (2, v_z)], [], C_z))) ?_ 40 71 _ ?_
    · rintro pc st_z (⟨rfl, hd_z, rfl⟩ | ⟨rfl, hd_z, C_z, c1_z, c2_z, c3_z, c4_z, c5_z, rfl⟩)
      · exact H B_z u_z v_z d_z _ _ _ hJ0 ⟨hd_z, hd0, hd1⟩
      · have cl := fX_2_1 c1_z.1 hv.1 hv.2
        refine ih_z (d_z + 1) v_z u_z _ C_z (by omega) (by omega) (by omega) ⟨h1.step hA.1 hq hb_z ho hbo h2 c1_z, by rcases h2 with ⟨e1, e2⟩ | ⟨e1, e2⟩; exact Or.inr ⟨e2, e1⟩; exact Or.inl ⟨e2, e1⟩, by rw [c2_z]; exact b0, c3_z, c4_z, prod_ne c5_z (pmz_pos (posX bc) (posX (sm_z.cf d2_z))) (pmz_ne (neX bl) (neX (by rw [sm_z.1 1]; exact d3_z))) cl.1, ?_, fun x_z => ?_⟩
        · refine xbX_mono (xbX_prod (E1 := bgW A g * 18098190 + i * 18098190 + d_z * 1810) (E2 := 1810) c2_z (by rw [b0, sm_z.1 0]; exact d4_z.symm) (by omega) c4_z c5_z bx (sm_z.xb d5_z)) (by omega)
        · rw [VX_prod c5_z x_z, bv_z x_z, VX_of sm_z x_z]
          show npX A g k sg i x_z * yX A g x_z i.toNat ^ d_z * VX A (A (A g 4) i) x_z = npX A g k sg i x_z * yX A g x_z i.toNat ^ (d_z + 1)
          have hy : yX A g x_z i.toNat = VX A (A (A g 4) i) x_z := by
            unfold yX
            rw [ei, if_pos i1]
          have hpo := yX_pos hA (i := i.toNat) (by rw [ei]; exact i1) x_z
          rw [cr_zp_add hpo, Rat.zpow_one, ← hy, Rat.mul_assoc]
    · refine ⟨fun h_z => ?_, fun h_z => ?_⟩
      · exact Or.inl ⟨rfl, h_z, rfl⟩
      · refine ⟨oX_1 hg.1 hg.2 4 rfl, ?_⟩
        refine ⟨aX_12 (by rw [eg]; exact l4.1) (by rw [eg]; exact l4.2) i0 (by omega), ?_⟩
        refine ⟨rX_4 hq.1 hq.2, ?_⟩
        have hmx : mxH B_z q u_z (B_z (B_z g 4) i) v_z (bgW A g * 18098190 + i * 18098190 + d_z * 1810) 1810 := by
          rw [eL]
          exact ⟨h1.1, ⟨hq, hu, e0_z, hv⟩, by rw [b0, sm_z.1 0]; exact d4_z.symm, ⟨dv.1, dv.2⟩, ⟨bs, sm_z.sr d1_z⟩, ⟨bc, sm_z.cf d2_z⟩, ⟨bx, sm_z.xb d5_z⟩, ⟨by omega, by omega, by omega⟩, bl, by rw [sm_z.1 1]; exact d3_z⟩
        refine (multiply_exX hmx).imp ?_
        rintro ⟨r1_z, C_z⟩ ⟨g1, g2⟩
        simp only at g1 g2
        rw [eL] at g2
        rcases g2 with ⟨rfl, g3_z⟩ | ⟨rfl, g3_z, g4, g5_z, g7⟩
        · have hT0 := hTs (by omega)
          have hbig : BigV (fpX A g k sg) := by
            refine mp_big hA (i := i + 1) (by omega) (by omega) ?_
            have q1_z := big_VX bc (sm_z.cf d2_z) g3_z
            have q2_z := q1_z.mul (((yX_rp hA i.toNat).pow (n := T - d_z - 1) (by omega)))
            refine q2_z.eq (fun x_z => ?_)
            rw [bv_z x_z, VX_of sm_z x_z]
            show npX A g k sg i x_z * yX A g x_z i.toNat ^ d_z * VX A (A (A g 4) i) x_z * yX A g x_z i.toNat ^ (T - d_z - 1) = bpX A g k sg x_z (bgW A g).toNat * mpX A g k sg x_z (i + 1).toNat
            have hy : yX A g x_z i.toNat = VX A (A (A g 4) i) x_z := by
              unfold yX
              rw [ei, if_pos i1]
            have hpo := yX_pos hA (i := i.toNat) (by rw [ei]; exact i1) x_z
            have hmf : mfX A g k sg x_z i.toNat = yX A g x_z i.toNat ^ T := by
              unfold mfX
              rw [if_neg (by rw [ei]; intro hs; rcases hs with hs | hs; omega; exact hT0.2 hs)]
              have h9 : tyX A g k sg i.toNat = T := by unfold tyX cx_pos; rw [ei, ← hT0.1]; omega
              rw [h9]
            rw [show (i + 1).toNat = i.toNat + 1 by omega]
            show _ = bpX A g k sg x_z (bgW A g).toNat * (mpX A g k sg x_z i.toNat * mfX A g k sg x_z i.toNat)
            rw [hmf, ← hy, show T = d_z + 1 + (T - d_z - 1) by omega, cr_zp_add hpo, cr_zp_add hpo, Rat.zpow_one, show d_z + 1 + (T - d_z - 1) - d_z - 1 = T - d_z - 1 by omega]
            show bpX A g k sg x_z (bgW A g).toNat * mpX A g k sg x_z i.toNat * yX A g x_z i.toNat ^ d_z * yX A g x_z i.toNat * yX A g x_z i.toNat ^ (T - d_z - 1) = _
            grind
          refine ⟨fun hh => absurd rfl hh, fun _ => ?_⟩
          exact ⟨rfl, h1.step hA.1 hq hb_z ho hbo h2 g1, Or.inl ⟨rfl, hbig⟩⟩
        · refine ⟨fun _ => ?_, fun hh => absurd hh (by decide)⟩
          refine ⟨⟨by omega, by omega⟩, ?_⟩
          exact Or.inr ⟨rfl, h_z, C_z, g1, g3_z, g4, g5_z, g7, rfl⟩
theorem pd_25 {A : pm_A} {q g k sg b o : Int} (hP : prX A q g k sg b o) : ∀ (m_z : Nat) (i_z u_z v_z : Int) (w9 w10_z w11_z : pm_V) (B_z : pm_A), (6 - i_z).toNat < m_z → 0 ≤ i_z → i_z ≤ A g 0 → prI2 A B_z q g k sg b o u_z v_z i_z → Tm pmt (an_sh wX) o_X5_product 25 ([(2, q), (2, g), (0, k), (0, sg), (2, b), (2, o), (2, u_z), (2, v_z), (0, i_z), w9, w10_z, w11_z], [], B_z) (prPx A q g k sg b o) := by
  have hP0 := hP
  obtain ⟨⟨hA, hq, hk, hsg, hb_z⟩, ho, hbo, hds⟩ := hP
  have hg := hA.2.1
  have p6_z := fX_1_0 hA.1 hg.1 hg.2
  have h6 := fX_1_1 hA.1 hg.1 hg.2
  have l4 := fX_1_4 hA.1 hg.1 hg.2
  have t2_z := fX_1_2 hA.1 hg.1 hg.2
  have hw : bgW A g = A g 0 + A g 1 := rfl
  intro m_z
  induction m_z with
  | zero => intro i_z u_z v_z w9 w10_z w11_z B_z h_z; omega
  | succ m_z ih_z =>
    intro i_z u_z v_z w9 w10_z w11_z B_z hm_z i0_z i1_z hI
    have hI0 := hI
    obtain ⟨h1, h2, h3⟩ := hI
    have ei : ((i_z.toNat : Nat) : Int) = i_z := Int.toNat_of_nonneg i0_z
    have eg : ∀ j_z : Int, B_z g j_z = A g j_z := fun j_z => h1.ob hA.1 hq hb_z ho hg.2 (by decide) (by decide) (by decide) (by decide) j_z
    have eg4 : B_z (B_z g 4) i_z = A (A g 4) i_z := by rw [eg 4]; exact h1.ob hA.1 hq hb_z ho l4.2 (by decide) (by decide) (by decide) (by decide) i_z
    have et : B_z (B_z g 2) (i_z * 6 + k) = A (A g 2) (i_z * 6 + k) := by rw [eg 2]; exact h1.ob hA.1 hq hb_z ho t2_z.2 (by decide) (by decide) (by decide) (by decide) _
    have htb : i_z < A g 0 → -9999 ≤ sg * A (A g 2) (i_z * 6 + k) ∧ sg * A (A g 2) (i_z * 6 + k) ≤ 9999 := fun h_z => by
      have h1 := hA.2.2.2 i_z k i0_z (by omega) hk.1 hk.2
      rcases hsg with e_z | e_z
      · rw [e_z, Int.one_mul]; exact h1
      · rw [e_z, Int.neg_mul, Int.one_mul]; omega
    have hel : i_z < A g 0 → B_z (A (A g 4) i_z) 1 = A (A (A g 4) i_z) 1 := fun h_z => by
      have e0_z := eX_12 hA.1 l4.1 l4.2 i0_z (show i_z < 6 by omega)
      obtain ⟨s1_z, s2_z⟩ := hds i_z i0_z h_z
      exact (h1.sm hA.1 hq hb_z ho e0_z s1_z s2_z).1 1
    have hloop : i_z < A g 0 → ∀ T : Int, T ≤ 9999 → (0 < T → T = sg * A (A g 2) (i_z * 6 + k) ∧ ¬ A (A (A g 4) i_z) 1 = 1) → (T ≤ 0 → ∀ x_z : cr_Pv 12, mfX A g k sg x_z i_z.toNat = 1) → Tm pmt (an_sh wX) o_X5_product 71 ([(2, q), (2, g), (0, k), (0, sg), (2, b), (2, o), (2, u_z), (2, v_z), (0, i_z), (0, T), (0, 0), w11_z], [], B_z) (prPx A q g k sg b o) := fun hi_z T hT_z hTs hT0 => by
      refine pd_71 hP0 i0_z hi_z hT_z hTs (fun C_z u_z v_z d_z w9 w10_z w11_z hC hd_z => ?_) _ 0 u_z v_z w11_z B_z (Nat.lt_succ_self _) (by omega) (Or.inr rfl) ⟨h1, h2, h3.1, h3.2.1, h3.2.2.1, h3.2.2.2.1, xbX_mono h3.2.2.2.2.1 (by omega), fun x_z => ?_⟩
      · refine wq_ok srt_product (fr := []) (cuts := [25]) (J := fun pc st_z => pc = 25 ∧ st_z = ([(2, q), (2, g), (0, k), (0, sg), (2, b), (2, o), (2, u_z), (2, v_z), (0, i_z + 1), w9, w10_z, w11_z], [], C_z)) ?_ 40 116 _ ?_
        · rintro pc st_z ⟨rfl, rfl⟩
          obtain ⟨k1_z, k2_z, k3_z, k4_z, k5_z, k6_z, k7_z, k8_z⟩ := hC
          refine ih_z (i_z + 1) u_z v_z w9 w10_z w11_z C_z (by omega) (by omega) (by omega) ⟨k1_z, k2_z, k3_z, k4_z, k5_z, k6_z, xbX_mono k7_z (by omega), fun x_z => ?_⟩
          rw [k8_z x_z]
          show npX A g k sg i_z x_z * yX A g x_z i_z.toNat ^ d_z = bpX A g k sg x_z (bgW A g).toNat * mpX A g k sg x_z (i_z + 1).toNat
          rw [show (i_z + 1).toNat = i_z.toNat + 1 by omega]
          show bpX A g k sg x_z (bgW A g).toNat * mpX A g k sg x_z i_z.toNat * yX A g x_z i_z.toNat ^ d_z = bpX A g k sg x_z (bgW A g).toNat * (mpX A g k sg x_z i_z.toNat * mfX A g k sg x_z i_z.toNat)
          have hmf : mfX A g k sg x_z i_z.toNat = yX A g x_z i_z.toNat ^ d_z := by
            by_cases hTp : 0 < T
            · obtain ⟨y1, y2⟩ := hTs hTp
              unfold mfX
              rw [if_neg (by rw [ei]; intro hs; rcases hs with hs | hs; omega; exact y2 hs)]
              have h9 : tyX A g k sg i_z.toNat = d_z := by unfold tyX cx_pos; rw [ei, ← y1]; omega
              rw [h9]
            · have h9 : d_z = 0 := by omega
              rw [h9, Rat.zpow_zero]
              exact hT0 (by omega) x_z
          rw [hmf, Rat.mul_assoc]
        · refine ⟨⟨by omega, by omega⟩, ?_⟩
          exact ⟨rfl, rfl⟩
      · rw [h3.2.2.2.2.2 x_z]
        show npX A g k sg i_z x_z = npX A g k sg i_z x_z * yX A g x_z i_z.toNat ^ (0 : Int)
        rw [Rat.zpow_zero, Rat.mul_one]
    refine wq_ok srt_product (fr := []) (cuts := [71]) (J := fun pc st_z => pc = 71 ∧ i_z < A g 0 ∧ ∃ T : Int, T ≤ 9999 ∧ (0 < T → T = sg * A (A g 2) (i_z * 6 + k) ∧ ¬ A (A (A g 4) i_z) 1 = 1) ∧ (T ≤ 0 → ∀ x_z : cr_Pv 12, mfX A g k sg x_z i_z.toNat = 1) ∧ st_z = ([(2, q), (2, g), (0, k), (0, sg), (2, b), (2, o), (2, u_z), (2, v_z), (0, i_z), (0, T), (0, 0), w11_z], [], B_z)) ?_ 40 25 _ ?_
    · rintro pc st_z ⟨rfl, hi_z, T, hT_z, hTs, hT0, rfl⟩
      exact hloop hi_z T hT_z hTs hT0
    · refine ⟨oX_1 hg.1 hg.2 0 rfl, ?_⟩
      refine ⟨fun h_z => ?_, fun h_z => ?_⟩
      · rw [eg 0] at h_z
        have hi_z : i_z = A g 0 := by omega
        rw [hi_z] at h3
        refine ⟨rfl, h1, Or.inr ⟨u_z, rfl, ?_, h3.1, h3.2.1, h3.2.2.1, h3.2.2.2.1, xbX_mono h3.2.2.2.2.1 (by omega), h3.2.2.2.2.2⟩⟩
        rcases h2 with ⟨e_z, _⟩ | ⟨e_z, _⟩
        · exact Or.inl e_z
        · exact Or.inr e_z
      · rw [eg 0] at h_z
        have e0_z := eX_12 hA.1 l4.1 l4.2 i0_z (show i_z < 6 by omega)
        have d3_z := (hA.2.2.1 i_z i0_z h_z).2.2.1
        have htb2 := htb h_z
        refine ⟨oX_1 hg.1 hg.2 4 rfl, ?_⟩
        refine ⟨aX_12 (by rw [eg 4]; exact l4.1) (by rw [eg 4]; exact l4.2) i0_z (by omega), ?_⟩
        refine ⟨oX_2 (by rw [eg4]; exact e0_z.1) (by rw [eg4]; exact e0_z.2) 1 rfl, ?_⟩
        refine ⟨fun h4 => ?_, fun h4 => ?_⟩
        · rw [eg4, hel h_z] at h4
          refine ⟨rfl, h_z, 0, by omega, fun h5 => absurd h5 (by omega), fun _ x_z => ?_, rfl⟩
          unfold mfX
          rw [if_pos (Or.inr (by rw [ei]; omega))]
        · rw [eg4, hel h_z] at h4
          refine ⟨oX_1 hg.1 hg.2 2 rfl, ?_⟩
          refine ⟨⟨by omega, by omega⟩, ?_⟩
          refine ⟨⟨by omega, by omega⟩, ?_⟩
          refine ⟨aX_10 (by rw [eg 2]; exact t2_z.1) (by rw [eg 2]; exact t2_z.2) (by omega) (by omega), ?_⟩
          refine ⟨(show r32 (sg * B_z (B_z g 2) (i_z * 6 + k)) by rw [et]; exact ⟨by omega, by omega⟩), ?_⟩
          refine ⟨rfl, h_z, sg * B_z (B_z g 2) (i_z * 6 + k), by rw [et]; exact htb2.2, fun _ => by rw [et]; exact ⟨rfl, by omega⟩, fun h5 x_z => ?_, rfl⟩
          rw [et] at h5
          unfold mfX
          rw [if_neg (by rw [ei]; intro hs; rcases hs with hs | hs; omega; omega)]
          have h9 : tyX A g k sg i_z.toNat = 0 := by unfold tyX cx_pos; rw [ei]; omega
          rw [h9, Rat.zpow_zero]
theorem product_exX {A : pm_A} {q g k sg b o : Int} (hP : prX A q g k sg b o) : Cl pmt (an_sh wX) 46 [(2, q), (2, g), (0, k), (0, sg), (2, b), (2, o)] A (prPx A q g k sg b o) := by
  have hP0 := hP
  obtain ⟨hS_z, ho, hbo, hds⟩ := hP
  have hS0 := hS_z
  obtain ⟨hA, hq, hk, hsg, hb_z⟩ := hS_z
  have hg := hA.2.1
  have p6_z := fX_1_0 hA.1 hg.1 hg.2
  have h6 := fX_1_1 hA.1 hg.1 hg.2
  have o2 := fX_2_2 hA.1 ho.1 ho.2
  have o3_z := fX_2_3 hA.1 ho.1 ho.2
  have b2 := fX_2_2 hA.1 hb_z.1 hb_z.2
  have b3 := fX_2_3 hA.1 hb_z.1 hb_z.2
  have kA_z := fX_4_5 hA.1 hq.1 hq.2
  have hfr : ∀ C_z, mxF A C_z q b → pxF A C_z q b o := fun C_z h_z => ⟨h_z.1, fun r_z j_z a1_z a2 a3 a4 a5 a6 a7 => h_z.2.1 r_z j_z a1_z a2 a3 a7, ⟨h_z.2.2.1, h_z.2.2.2⟩, h_z.2.1 o 2 (fun e_z => hbo.1 e_z.symm) (knd ho.2 b2.2 (by decide)) (knd ho.2 b3.2 (by decide)) (knd ho.2 kA_z.2 (by decide)), h_z.2.1 o 3 (fun e_z => hbo.1 e_z.symm) (knd ho.2 b2.2 (by decide)) (knd ho.2 b3.2 (by decide)) (knd ho.2 kA_z.2 (by decide))⟩
  refine Cl.of (Nat.le_of_ble_eq_true rfl) ?_
  show Tm pmt (an_sh wX) o_X5_product 0 ([(2, q), (2, g), (0, k), (0, sg), (2, b), (2, o), (9, 0), (9, 0), (9, 0), (9, 0), (9, 0), (9, 0)], [], A) _
  refine wq_ok (full := o_X5_product) srt_product (fr := []) (cuts := [25]) (J := fun pc st_z => pc = 25 ∧ ∃ C_z w9 w10_z w11_z, pxF A C_z q b o ∧ prG2 C_z b (bgW A g) (bgW A g * 18098190) (fun x_z => bpX A g k sg x_z (bgW A g).toNat) ∧ st_z = ([(2, q), (2, g), (0, k), (0, sg), (2, b), (2, o), (2, b), (2, o), (0, 0), w9, w10_z, w11_z], [], C_z)) ?_ 40 0 _ ?_
  · rintro pc st_z ⟨rfl, C_z, w9, w10_z, w11_z, c1_z, c2_z, rfl⟩
    refine pd_25 hP0 _ 0 b o w9 w10_z w11_z C_z (Nat.lt_succ_self _) (by omega) p6_z.1 ⟨c1_z, Or.inl ⟨rfl, rfl⟩, c2_z.1, c2_z.2.1, c2_z.2.2.1, c2_z.2.2.2.1, xbX_mono c2_z.2.2.2.2.1 (by omega), fun x_z => ?_⟩
    rw [c2_z.2.2.2.2.2 x_z]
    show _ = bpX A g k sg x_z (bgW A g).toNat * 1
    rw [Rat.mul_one]
  · refine ⟨rX_4 hq.1 hq.2, ?_⟩
    refine (beginProduct_exX hS0).imp ?_
    rintro ⟨r1_z, C_z⟩ ⟨g1, g2⟩
    simp only at g1 g2
    rcases g2 with ⟨rfl, g3_z⟩ | ⟨rfl, g3_z, g4, g5_z, g7, g8, g9⟩
    · refine ⟨fun hh => absurd rfl hh, fun _ => ?_⟩
      exact ⟨rfl, hfr C_z g1, Or.inl ⟨rfl, bp_big hA g3_z⟩⟩
    · refine ⟨fun _ => ?_, fun hh => absurd hh (by decide)⟩
      exact ⟨rfl, C_z, _, _, _, hfr C_z g1, ⟨g3_z, g4, g5_z, g7, g8, g9⟩, rfl⟩
