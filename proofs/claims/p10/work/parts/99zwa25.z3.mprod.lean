/-! too much, by values; the reference's timesOften and product -/
def RpV (f : cr_Pv 12 → Rat) : Prop := ∃ l : cr_Pl_ 12, (∀ y_z ∈ l, 0 < y_z.1) ∧ l ≠ [] ∧ ∀ x_z : cr_Pv 12, cr_vl x_z.1 l = f x_z
def BigV (f : cr_Pv 12 → Rat) : Prop := ∃ l : cr_Pl_ 12, (∀ y_z ∈ l, 0 < y_z.1) ∧ (∀ x_z : cr_Pv 12, cr_vl x_z.1 l = f x_z) ∧ BigC (cr_co l)
theorem BigV.mul {f g : cr_Pv 12 → Rat} (h : BigV f) (hg : RpV g) : BigV (fun x_z => f x_z * g x_z) := by
  obtain ⟨l, h1, h2, h3⟩ := h
  obtain ⟨m_z, m1_z, m2_z, m3_z⟩ := hg
  exact ⟨cr_pmz l m_z, pmz_pos h1 m1_z, fun x_z => by rw [cr_vl_pmz x_z.2, h2, m3_z], h3.pmz h1 m1_z m2_z⟩
theorem BigV.add {f g : cr_Pv 12 → Rat} (h : BigV f) (hg : RpV g) : BigV (fun x_z => f x_z + g x_z) := by
  obtain ⟨l, h1, h2, h3⟩ := h
  obtain ⟨m_z, m1_z, m2_z, m3_z⟩ := hg
  refine ⟨l ++ m_z, fun y_z hy => ?_, fun x_z => by rw [cr_vl_app, h2, m3_z], h3.mono (fun a_z => ?_)⟩
  · rcases List.mem_append.1 hy with q_z | q_z
    · exact h1 y_z q_z
    · exact m1_z y_z q_z
  · rw [cr_co_app]
    have := cr_Shr.nonneg m1_z a_z
    omega
theorem BigV.eq {f g : cr_Pv 12 → Rat} (h : BigV f) (e : ∀ x_z, f x_z = g x_z) : BigV g := by
  obtain ⟨l, h1, h2, h3⟩ := h
  exact ⟨l, h1, fun x_z => by rw [h2, e], h3⟩
theorem RpV.eq {f g : cr_Pv 12 → Rat} (h : RpV f) (e : ∀ x_z, f x_z = g x_z) : RpV g := by
  obtain ⟨l, h1, h2, h3⟩ := h
  exact ⟨l, h1, h2, fun x_z => by rw [h3, e]⟩
theorem BigV.no {f : cr_Pv 12 → Rat} {l : cr_Pl_ 12} (hs : cr_Shr l) (h1 : ∀ y_z ∈ l, y_z.1 ≤ 1000000000000) (h2 : l.length ≤ 200) (hv : ∀ x_z : cr_Pv 12, cr_vl x_z.1 l = f x_z) : ¬ BigV f := by
  rintro ⟨m_z, m1_z, m2_z, m3_z⟩
  have e_z := cr_vl_unique (l := m_z) (l' := l) (fun x_z => by rw [m2_z, hv])
  exact not_big hs h1 h2 (m3_z.mono (fun a_z => Int.le_of_eq (e_z a_z)))
theorem pw_pos {l : cr_Pl_ 12} (h : ∀ y_z ∈ l, 0 < y_z.1) : ∀ m_z : Nat, ∀ y_z ∈ cr_pw l m_z, 0 < y_z.1
  | 0, y_z, hy => by
    rcases List.mem_cons.1 hy with e_z | e_z
    · rw [e_z]; show (0 : Int) < 1; omega
    · cases e_z
  | m_z + 1, y_z, hy => pmz_pos h (pw_pos h m_z) y_z hy
theorem RpV.pow {f : cr_Pv 12 → Rat} (h : RpV f) {n : Int} (hn : 0 ≤ n) : RpV (fun x_z => f x_z ^ n) := by
  obtain ⟨l, h1, h2, h3⟩ := h
  have hv : ∀ x_z : cr_Pv 12, cr_vl x_z.1 (cr_pw l n.toNat) = f x_z ^ n := fun x_z => by
    rw [cr_vl_pw x_z.2 (cr_vl_pos x_z.2 h1 h2), h3, Int.toNat_of_nonneg hn]
  refine ⟨cr_pw l n.toNat, pw_pos h1 _, fun e_z => ?_, hv⟩
  let o : cr_Pv 12 := ⟨fun _ => 1, fun _ => by grind⟩
  have h4 := hv o
  rw [e_z, cr_vl_nil] at h4
  have h5 := cr_vl_pos o.2 h1 h2
  rw [h3] at h5
  have h6 : 0 < f o ^ n := Rat.zpow_pos h5
  grind
theorem RpV.mul {f g : cr_Pv 12 → Rat} (h : RpV f) (hg : RpV g) : RpV (fun x_z => f x_z * g x_z) := by
  obtain ⟨l, h1, h2, h3⟩ := h
  obtain ⟨m_z, m1_z, m2_z, m3_z⟩ := hg
  refine ⟨cr_pmz l m_z, pmz_pos h1 m1_z, fun e_z => ?_, fun x_z => by rw [cr_vl_pmz x_z.2, h3, m3_z]⟩
  obtain ⟨y_z, hy⟩ := List.exists_mem_of_ne_nil l h2
  obtain ⟨z_z, hz⟩ := List.exists_mem_of_ne_nil m_z m2_z
  have := pmz_in hy hz
  rw [e_z] at this
  cases this
theorem RpV.one : RpV (fun _ => 1) := by
  refine ⟨[(1, fun _ => 0)], fun y_z hy => ?_, List.cons_ne_nil _ _, fun x_z => cr_vl_one x_z.1⟩
  rcases List.mem_cons.1 hy with e_z | e_z
  · rw [e_z]; show (0 : Int) < 1; omega
  · cases e_z
theorem RpV.var (i : Fin 12) : RpV (fun x_z => x_z.1 i) := by
  refine ⟨[(1, cr_up (fun _ => 0) i 1)], fun y_z hy => ?_, List.cons_ne_nil _ _, fun x_z => by rw [cr_vl_sing, cr_mo_e, Rat.zpow_one]⟩
  rcases List.mem_cons.1 hy with e_z | e_z
  · rw [e_z]; show (0 : Int) < 1; omega
  · cases e_z
theorem rp_VS {A : pm_A} {p : Int} (h : cfs A p) (hm : 1 ≤ A 1 p) : RpV (VS A p) := ⟨LSm A p, pos_LSm h, fun e_z => by
  have := LSm_len A p
  rw [e_z, List.length_nil] at this
  omega, fun x_z => rfl⟩
theorem yv_rp {A : pm_A} (hA : ltH A) (i : Nat) : RpV (fun x_z => yv A x_z i) := by
  by_cases h_z : (i : Int) < A 0 7
  · obtain ⟨_, d2_z, d3_z, _⟩ := hA.2.1 i (by omega) h_z
    exact (rp_VS d2_z d3_z).eq (fun x_z => by unfold yv; rw [if_pos h_z])
  · by_cases h2 : i < 12
    · exact (RpV.var ⟨i, h2⟩).eq (fun x_z => by unfold yv; rw [if_neg h_z, dif_pos h2])
    · exact RpV.one.eq (fun x_z => by unfold yv; rw [if_neg h_z, dif_neg h2])
theorem pvl_rp {A : pm_A} (hA : ltH A) (k sg : Int) : ∀ m_z : Nat, RpV (fun x_z => pvl A k sg x_z m_z)
  | 0 => RpV.one
  | m_z + 1 => (pvl_rp hA k sg m_z).mul ((yv_rp hA m_z).pow (n := (cx_pos (sg * A 5 (6 * (m_z : Int) + k)) : Int)) (by omega))
theorem pvl_ext {A : pm_A} (hA : ltH A) {k sg : Int} (i : Nat) (h : BigV (fun x_z => pvl A k sg x_z i)) : ∀ m_z : Nat, BigV (fun x_z => pvl A k sg x_z (i + m_z))
  | 0 => h
  | m_z + 1 => (pvl_ext hA i h m_z).mul ((yv_rp hA (i + m_z)).pow (n := (cx_pos (sg * A 5 (6 * ((i + m_z : Nat) : Int) + k)) : Int)) (by omega))
theorem big_VS {A : pm_A} {a b : Int} (ca : cfs A a) (cb : cfs A b) (h : tBg A a b) : BigV (fun x_z => VS A a x_z * VS A b x_z) :=
  ⟨cr_pmz (LSm A a) (LSm A b), pmz_pos (pos_LSm ca) (pos_LSm cb), fun x_z => cr_vl_pmz x_z.2 _ _, h⟩
abbrev oBg (A : pm_A) (s bb n : Int) : Prop := BigV (fun x_z => VS A s x_z * VS A bb x_z ^ n)
def toq_post (A : pm_A) (s bb n bs E1 E2 : Int) (r : pm_R) : Prop := r.1 = none ∧ toF A r.2 s bs ∧ ((r.2 0 4 = 1 ∧ oBg A s bb n) ∨ (r.2 0 4 = 0 ∧ srtd r.2 s ∧ cfs r.2 s ∧ 1 ≤ r.2 1 s ∧ xb r.2 s (E1 + n * E2) ∧ ∀ x_z, VS r.2 s x_z = VS A s x_z * VS A bb x_z ^ n))
theorem toq_of {A : pm_A} {s bb n bs E1 E2 : Int} {r : pm_R} (h : to_post A s bb n bs E1 E2 r) (h4 : r.2 0 4 = 0) : toq_post A s bb n bs E1 E2 r :=
  ⟨h.1, h.2.1, Or.inr (h.2.2.resolve_left (fun e_z => by omega))⟩
def toLq (A B : pm_A) (s bb n bs E1 E2 k : Int) : Prop := toF A B s bs ∧ ((B 0 4 = 1 ∧ oBg A s bb n) ∨ (B 0 4 = 0 ∧ srtd B s ∧ cfs B s ∧ 1 ≤ B 1 s ∧ xb B s (E1 + k * E2) ∧ ∀ x_z, VS B s x_z = VS A s x_z * VS A bb x_z ^ k))
theorem oq_28 {A : pm_A} {s bb n bs E1 E2 : Int} (hH : toH A s bb n bs E1 E2) (hm1 : A 1 bb = 1) (hn1 : A 2 (200 * bb) = 1) : ∀ (m_z : Nat) (t_z : Int) (v6 : pm_V) (B_z : pm_A), (A 1 s - t_z).toNat < m_z → 0 ≤ t_z → t_z ≤ A 1 s → moI A B_z s bb n t_z → Tm pmt (an_sh wM) o_X10_timesOften 28 ([(2, 0), (0, s), (0, bb), (0, n), (0, bs), (0, t_z), v6], [], B_z) (toq_post A s bb n bs E1 E2) := by
  have hs := hH.2.1
  intro m_z
  induction m_z with
  | zero => intro t_z v6 B_z h_z; omega
  | succ m_z ih_z =>
    intro t_z v6 B_z hn t0_z t1_z hI
    have c1_z := pM_1 hI.1
    have e0_z := (hI.2.2.1 s).1
    refine wq_ok srt_timesOften (fr := []) (cuts := [42]) (J := fun pc st_z => (pc = 42 ∧ (t_z < (B_z (B_z 0 1) s)) ∧ st_z = ([(2, 0), (0, s), (0, bb), (0, n), (0, bs), (0, t_z), (0, 0)], [], B_z))) ?_ 13 28 _ ?_
    · rintro pc st_z (⟨rfl, h0, rfl⟩)
      rw [c1_z, e0_z] at h0
      obtain ⟨g1, g2, g3_z, g4, g5_z⟩ := hI
      exact to_42 hH t0_z h0 (fun C_z v6 hC => ih_z (t_z + 1) v6 C_z (by omega) (by omega) (by omega) hC) _ 0 B_z (Nat.lt_succ_self _) (by omega) (by omega) ⟨g1, g2, g3_z, g4, fun q_z v_z q0 q1_z v0_z v1_z => g5_z q_z v_z (by omega) q1_z v0_z v1_z, fun v_z v0_z v1_z => by omega, fun v_z v0_z v1_z => g5_z t_z v_z (by omega) (by have := eM_1 hH.1 (r := 1) (by omega) kn1 hs.1 (show s < 152 by omega); omega) (by omega) v1_z⟩
    · refine ⟨oM_0 (by omega) km0 1 rfl, ?_⟩
      refine ⟨aM_1 (r := B_z 0 1) (by rw [c1_z]; omega) (by rw [c1_z]; exact kn1) (by omega) (by omega), ?_⟩
      have e1 : B_z (B_z 0 1) s = B_z 1 s := by rw [c1_z]
      refine ⟨fun h0 => ?_, fun h0 => ?_⟩
      · exact toq_of (to_mono hH hm1 hn1 (by rw [c1_z, e0_z] at h0; exact h0) hI) (by show B_z 0 4 = 0; rw [hI.2.1 0 4 (by unfold inS; omega)]; exact hH.2.2.2.2.2.2.2.2.2.2.2.2)
      · exact ⟨rfl, h0, rfl⟩
theorem oq_102 {A : pm_A} {s bb n bs E1 E2 : Int} (hH : toH A s bb n bs E1 E2) (hn : n ≤ 2147483647) : ∀ (m_z : Nat) (k_z : Int) (v6 : pm_V) (B_z : pm_A), (n - k_z).toNat < m_z → 0 ≤ k_z → k_z ≤ n → toLq A B_z s bb n bs E1 E2 k_z → Tm pmt (an_sh wM) o_X10_timesOften 102 ([(2, 0), (0, s), (0, bb), (0, n), (0, bs), (0, k_z), v6], [], B_z) (toq_post A s bb n bs E1 E2) := by
  obtain ⟨hA, hs, hb_z, hbs, hne, hsr, hcs, hcb, xs, xbb, hE, hm_z, h4⟩ := hH
  have mb := eM_1 hA (r := 1) (by omega) kn1 hb_z.1 (show bb < 152 by omega)
  intro m_z
  induction m_z with
  | zero => intro k_z v6 B_z h_z; omega
  | succ m_z ih_z =>
    intro k_z v6 B_z hk k0_z k1_z hL
    obtain ⟨hF, hL2⟩ := hL
    have s4_z := fM_0_4 hF.1 (r := 0) (by omega) km0
    have hbS : ∀ r_z j_z, inS bb r_z j_z → B_z r_z j_z = A r_z j_z := fun r_z j_z h_z => hF.2 r_z j_z (by unfold inS at *; omega) (by unfold inS at *; omega) (by unfold inS at h_z; omega) (by unfold inS at h_z; omega)
    have msB := eM_1 hF.1 (r := 1) (by omega) kn1 hs.1 (show s < 152 by omega)
    have hend : (B_z 0 4 ≠ 0 ∨ n ≤ k_z) → toq_post A s bb n bs E1 E2 (none, B_z) := fun hc_z => ⟨rfl, hF, by
      rcases hL2 with h_z | h_z
      · exact Or.inl h_z
      · have e_z : k_z = n := by rcases hc_z with h5 | h5; exact absurd h_z.1 h5; omega
        rw [e_z] at h_z
        exact Or.inr h_z⟩
    have hlast : ∀ C_z v6, k_z < n → B_z 0 4 = 0 → tmF B_z C_z bs → C_z 0 4 = 0 → srtd C_z bs → cfs C_z bs → (∀ c_z, cr_co (LSm C_z bs) c_z = cr_co (cr_pmz (LSm B_z s) (LSm B_z bb)) c_z) → Cl pmt (an_sh wM) 134 [(2, 0), (0, s), (0, bs)] C_z (fun r_z => r_z.1 = none ∧ Tm pmt (an_sh wM) o_X10_timesOften 137 ([(2, 0), (0, s), (0, bb), (0, n), (0, bs), (0, k_z), v6], [], r_z.2) (toq_post A s bb n bs E1 E2)) := fun C_z v6 hkn hB4 hCF hC4 hCs hCc hCo => by
      refine (copy_ex hCF.1 (by omega) hs.1 hs.2 hbs.1 hbs.2).imp ?_
      rintro ⟨r1_z, D_z⟩ ⟨q1_z, q2_z, q3_z, q4_z⟩
      simp only at q1_z q2_z q3_z q4_z
      obtain ⟨hB1, hB2, hB3, hB4', hB5, hB6⟩ : B_z 0 4 = 0 ∧ srtd B_z s ∧ cfs B_z s ∧ 1 ≤ B_z 1 s ∧ xb B_z s (E1 + k_z * E2) ∧ ∀ x_z, VS B_z s x_z = VS A s x_z * VS A bb x_z ^ k_z := by
        rcases hL2 with h_z | h_z
        · have := h_z.1; omega
        · exact h_z
      have mD_z := eM_1 q2_z (r := 1) (by omega) kn1 hs.1 (show s < 152 by omega)
      have mC := eM_1 hCF.1 (r := 1) (by omega) kn1 hbs.1 (show bs < 152 by omega)
      have hxp := xb_prod hCc hCo hB5 (xb_same mb.2 hbS xbb)
      have hVb : VS B_z bb = VS A bb := VS_of (LSm_same mb.2 hbS)
      have hVp : ∀ x_z, VS C_z bs x_z = VS A s x_z * VS A bb x_z ^ (k_z + 1) := fun x_z => by
        rw [VS_prod hCo x_z, hVb, hB6 x_z, cr_zp_add (VS_pos hcb hm_z.2 x_z), Rat.zpow_one]; grind
      have hCm : 1 ≤ C_z 1 bs := by
        refine Classical.byContradiction (fun hneg => ?_)
        let o : cr_Pv 12 := ⟨fun _ => 1, fun _ => by grind⟩
        have h0 : VS C_z bs o = 0 := by
          unfold VS LSm
          rw [show C_z 1 bs = 0 by omega]; rfl
        rw [hVp o] at h0
        have := Rat.mul_pos (VS_pos hcs hm_z.1 o) (Rat.zpow_pos (VS_pos hcb hm_z.2 o) : 0 < VS A bb o ^ (k_z + 1))
        grind
      refine ⟨q1_z, to_137 k0_z hkn hn (ih_z (k_z + 1) v6 D_z (by omega) (by omega) (by omega) ⟨⟨q2_z, fun r_z j_z hr hr2 h4 h5 => ?_⟩, Or.inr ⟨?_, ls_srtd q4_z mD_z.1 mC.1 hCs, ls_cfs q4_z mD_z.1 mC.1 hCc, ?_, ?_, fun x_z => ?_⟩⟩)⟩
      · rw [q3_z r_z j_z hr, hCF.2 r_z j_z hr2 h4 h5]; exact hF.2 r_z j_z hr hr2 h4 h5
      · rw [q3_z 0 4 (by unfold inS; omega)]; exact hC4
      · rw [(ls_xe q4_z mD_z.1 mC.1).1]; exact hCm
      · have := ls_xb q4_z mD_z.1 mC.1 hxp
        rw [show E1 + (k_z + 1) * E2 = E1 + k_z * E2 + E2 by rw [Int.add_mul]; omega]
        exact this
      · rw [VS_of q4_z]; exact hVp x_z
    refine wq_ok srt_timesOften (fr := []) (cuts := [123]) (J := fun pc st_z => (pc = 123 ∧ k_z < n ∧ B_z 0 4 = 0 ∧ ∃ C_z, tmF B_z C_z bs ∧ ((C_z 0 4 = 1 ∧ tBg B_z s bb) ∨ (C_z 0 4 = 0 ∧ srtd C_z bs ∧ cfs C_z bs ∧ ∀ c_z, cr_co (LSm C_z bs) c_z = cr_co (cr_pmz (LSm B_z s) (LSm B_z bb)) c_z)) ∧ st_z = ([(2, 0), (0, s), (0, bb), (0, n), (0, bs), (0, k_z), v6], [], C_z))) ?_ 15 102 _ ?_
    · rintro pc st_z (⟨rfl, hkn, hB4, C_z, hCF, hC, rfl⟩)
      refine wq_ok srt_timesOften (fr := []) (cuts := [137]) (J := fun pc st_z => (pc = 137 ∧ (¬ (C_z 0 4) = 0) ∧ st_z = ([(2, 0), (0, s), (0, bb), (0, n), (0, bs), (0, k_z), v6], [], C_z)) ∨ (pc = 137 ∧ ∃ D_z, Tm pmt (an_sh wM) o_X10_timesOften 137 ([(2, 0), (0, s), (0, bb), (0, n), (0, bs), (0, k_z), v6], [], D_z) (toq_post A s bb n bs E1 E2) ∧ st_z = ([(2, 0), (0, s), (0, bb), (0, n), (0, bs), (0, k_z), v6], [], D_z))) ?_ 11 123 _ ?_
      · rintro pc st_z (⟨rfl, h0, rfl⟩ | ⟨rfl, D_z, hD, rfl⟩)
        · have hC1 : C_z 0 4 = 1 ∧ oBg A s bb n := by
            rcases hC with h_z | h_z
            · obtain ⟨hB1, hB2, hB3, hB4', hB5, hB6⟩ : B_z 0 4 = 0 ∧ srtd B_z s ∧ cfs B_z s ∧ 1 ≤ B_z 1 s ∧ xb B_z s (E1 + k_z * E2) ∧ ∀ x_z, VS B_z s x_z = VS A s x_z * VS A bb x_z ^ k_z := by
                rcases hL2 with h_z | h_z
                · have := h_z.1; omega
                · exact h_z
              have hVb : VS B_z bb = VS A bb := VS_of (LSm_same mb.2 hbS)
              refine ⟨h_z.1, (BigV.mul (big_VS hB3 (cfs_same mb.2 hbS hcb) h_z.2) ((rp_VS hcb hm_z.2).pow (n := n - k_z - 1) (by omega))).eq (fun x_z => ?_)⟩
              have hp := VS_pos hcb hm_z.2 x_z
              rw [hVb, hB6 x_z, show n = k_z + 1 + (n - k_z - 1) by omega, cr_zp_add hp (k_z + 1), cr_zp_add hp k_z, Rat.zpow_one, show k_z + 1 + (n - k_z - 1) - k_z - 1 = n - k_z - 1 by omega]
              grind
            · exact absurd h_z.1 h0
          exact to_137 k0_z hkn hn (ih_z (k_z + 1) v6 C_z (by omega) (by omega) (by omega) ⟨⟨hCF.1, fun r_z j_z hr hr2 h4 h5 => (hCF.2 r_z j_z hr2 h4 h5).trans (hF.2 r_z j_z hr hr2 h4 h5)⟩, Or.inl hC1⟩)
        · exact hD
      · refine ⟨oM_0 (by omega) km0 4 rfl, ?_⟩
        refine ⟨fun h0 => ?_, fun h0 => ?_⟩
        · exact Or.inl (⟨rfl, h0, rfl⟩)
        · refine ⟨rM_0 (by omega) km0, ?_⟩
          obtain ⟨hC4, hCs, hCc, hCo⟩ : C_z 0 4 = 0 ∧ srtd C_z bs ∧ cfs C_z bs ∧ ∀ c_z, cr_co (LSm C_z bs) c_z = cr_co (cr_pmz (LSm B_z s) (LSm B_z bb)) c_z := by
            rcases hC with h_z | h_z
            · have := h_z.1; omega
            · exact h_z
          refine (hlast C_z v6 hkn hB4 hCF hC4 hCs hCc hCo).imp ?_
          rintro ⟨r1_z, D_z⟩ ⟨q1_z, q2_z⟩
          simp only at q1_z q2_z
          subst q1_z
          exact Or.inr (⟨rfl, D_z, q2_z, rfl⟩)
    · refine ⟨fun h0 => ?_, fun h0 => ?_⟩
      · exact hend (Or.inr h0)
      · refine ⟨oM_0 (by omega) km0 4 rfl, ?_⟩
        refine ⟨fun h1 => ?_, fun h1 => ?_⟩
        · exact hend (Or.inl h1)
        · refine ⟨rM_0 (by omega) km0, ?_⟩
          have hB1 : B_z 0 4 = 0 := h1
          obtain ⟨_, hB2, hB3, hB4, hB5, hB6⟩ : B_z 0 4 = 0 ∧ srtd B_z s ∧ cfs B_z s ∧ 1 ≤ B_z 1 s ∧ xb B_z s (E1 + k_z * E2) ∧ ∀ x_z, VS B_z s x_z = VS A s x_z * VS A bb x_z ^ k_z := by
            rcases hL2 with h_z | h_z
            · have := h_z.1; omega
            · exact h_z
          have hk1 := Int.mul_le_mul_of_nonneg_right (show k_z + 1 ≤ n by omega) hE.2.1
          have hk2 := Int.mul_nonneg k0_z hE.2.1
          rw [Int.add_mul] at hk1
          refine (times_exq (to := bs) (a := s) (b := bb) (E1 := E1 + k_z * E2) (E2 := E2) ⟨hF.1, hbs, hs, hb_z, ⟨by omega, by omega⟩, hB3, cfs_same mb.2 hbS hcb, hB5, xb_same mb.2 hbS xbb, by omega, by omega, by omega⟩ hB1).imp ?_
          rintro ⟨r1_z, C_z⟩ ⟨q1_z, q2_z, q3_z⟩
          simp only at q1_z q2_z q3_z
          subst q1_z
          exact ⟨rfl, h0, h1, C_z, q2_z, q3_z, rfl⟩
theorem timesOften_exq {A : pm_A} {s bb n bs E1 E2 : Int} (hH : toH A s bb n bs E1 E2) (hn : n ≤ 2147483647) : Cl pmt (an_sh wM) 197 [(2, 0), (0, s), (0, bb), (0, n), (0, bs)] A (toq_post A s bb n bs E1 E2) := by
  have hH0 := hH
  obtain ⟨hA, hs, hb_z, hbs, hne, hsr, hcs, hcb, xs, xbb, hE, hm_z, h4⟩ := hH
  have mb := eM_1 hA (r := 1) (by omega) kn1 hb_z.1 (show bb < 152 by omega)
  have c1_z := pM_1 hA
  have c2_z := pM_2 hA
  have hL : Tm pmt (an_sh wM) o_X10_timesOften 102 ([(2, 0), (0, s), (0, bb), (0, n), (0, bs), (0, 0), (9, 0)], [], A) (toq_post A s bb n bs E1 E2) := oq_102 hH0 hn _ 0 _ A (Nat.lt_succ_self _) (by omega) (by omega) ⟨⟨hA, fun _ _ _ _ _ _ => rfl⟩, Or.inr ⟨h4, hsr, hcs, hm_z.1, by rw [Int.zero_mul, Int.add_zero]; exact xs, fun x_z => by rw [Rat.zpow_zero, Rat.mul_one]⟩⟩
  refine Cl.of (Nat.le_of_ble_eq_true rfl) ?_
  refine wq_ok (full := o_X10_timesOften) srt_timesOften (fr := []) (cuts := [28, 102]) (J := fun pc st_z => (pc = 102 ∧ (¬ (A (A 0 1) bb) = 1) ∧ st_z = ([(2, 0), (0, s), (0, bb), (0, n), (0, bs), (0, 0), (9, 0)], [], A)) ∨ (pc = 102 ∧ ((A (A 0 1) bb) = 1) ∧ (1 < (A (A 0 2) (200 * bb))) ∧ st_z = ([(2, 0), (0, s), (0, bb), (0, n), (0, bs), (0, 0), (9, 0)], [], A)) ∨ (pc = 28 ∧ ((A (A 0 1) bb) = 1) ∧ ((A (A 0 2) (200 * bb)) = 1) ∧ st_z = ([(2, 0), (0, s), (0, bb), (0, n), (0, bs), (0, 0), (9, 0)], [], A)) ∨ (pc = 102 ∧ ((A (A 0 1) bb) = 1) ∧ ((A (A 0 2) (200 * bb)) < 1) ∧ st_z = ([(2, 0), (0, s), (0, bb), (0, n), (0, bs), (0, 0), (9, 0)], [], A))) ?_ 22 0 _ ?_
  · rintro pc st_z (⟨rfl, h0, rfl⟩ | ⟨rfl, h0, h1, rfl⟩ | ⟨rfl, h0, h1, rfl⟩ | ⟨rfl, h0, h1, rfl⟩)
    · exact hL
    · exact hL
    · rw [c1_z] at h0
      rw [c2_z] at h1
      exact oq_28 hH0 h0 h1 _ 0 _ A (Nat.lt_succ_self _) (by omega) (by omega) ⟨hA, fun _ _ _ => rfl, fun j_z => ⟨rfl, rfl⟩, fun q_z v_z q0 q1_z v0_z v1_z => by omega, fun q_z v_z q0 q1_z v0_z v1_z => rfl⟩
    · exact hL
  · refine ⟨oM_0 (by omega) km0 1 rfl, ?_⟩
    refine ⟨aM_1 (r := A 0 1) (by rw [c1_z]; omega) (by rw [c1_z]; exact kn1) (by omega) (by omega), ?_⟩
    have e1 : A (A 0 1) bb = A 1 bb := by rw [c1_z]
    refine ⟨fun h0 => ?_, fun h0 => ?_⟩
    · exact Or.inl (⟨rfl, h0, rfl⟩)
    · refine ⟨oM_0 (by omega) km0 2 rfl, ?_⟩
      refine ⟨⟨by omega, by omega⟩, ?_⟩
      refine ⟨aM_2 (r := A 0 2) (by rw [c2_z]; omega) (by rw [c2_z]; exact kn2) (by omega) (by omega), ?_⟩
      have e2 : A (A 0 2) (200 * bb) = A 2 (200 * bb) := by rw [c2_z]
      refine ⟨fun h1 => ?_, fun h1 => ?_, fun h1 => ?_⟩
      · refine ⟨fun _ => ?_, fun hh => absurd hh (by decide)⟩
        exact Or.inr (Or.inl (⟨rfl, h0, h1, rfl⟩))
      · refine ⟨fun hh => absurd hh (by decide), fun _ => ?_⟩
        exact Or.inr (Or.inr (Or.inl (⟨rfl, h0, h1, rfl⟩)))
      · refine ⟨fun _ => ?_, fun hh => absurd hh (by decide)⟩
        exact Or.inr (Or.inr (Or.inr (⟨rfl, h0, h1, rfl⟩)))
abbrev pBg (A : pm_A) (k sg : Int) : Prop := BigV (fun x_z => pvl A k sg x_z (A 0 7 + A 0 8).toNat)
def mpq_post (A : pm_A) (to k sg : Int) (r : pm_R) : Prop := r.1 = none ∧ prF A r.2 to ∧ ((r.2 0 4 = 1 ∧ pBg A k sg) ∨ (r.2 0 4 = 0 ∧ prG A r.2 to k sg (A 0 7 + A 0 8)))
theorem pq_72 {A B C : pm_A} {to k sg i n p : Int} (hto : to = 42 ∨ to = 43) (hp : 0 ≤ p ∧ p ≤ 46 ∧ p ≠ to) (i0 : 0 ≤ i) (i1 : i < A 0 7 + A 0 8) (hw : A 0 7 + A 0 8 ≤ 12) (hn : n = sg * A 5 (6 * i + k)) (n0 : 0 < n) (n1 : n ≤ 9999) (hB : prF A B to) (h4 : B 0 4 = 0) (hG : prG A B to k sg i) (hC : gH wM C) (hCF : ∀ q_z j_z, ¬ inS 46 q_z j_z → C q_z j_z = B q_z j_z) (hcp : cfs C p) (hmp : 1 ≤ C 1 p) (hxp : xb C p 1810) (hv : ∀ x_z, VS C p x_z = yv A x_z i.toNat) {z : pm_R → Prop}
    (hlt : ltH A) (H : ∀ D_z, prF A D_z to → ((D_z 0 4 = 1 ∧ pBg A k sg) ∨ (D_z 0 4 = 0 ∧ prG A D_z to k sg (i + 1))) → Tm pmt (an_sh wM) o_X10_product 8 ([(2, 0), (0, to), (0, k), (0, sg), (0, i + 1), (0, n)], [], D_z) z) : Tm pmt (an_sh wM) o_X10_product 72 ([(2, 0), (0, to), (0, k), (0, sg), (0, i), (0, n)], [(0, p), (0, to), (2, 0)], C) z := by
  obtain ⟨g1, g2, g3_z, g4, g5_z⟩ := hG
  have mt := eM_1 hB.1 (r := 1) (by omega) kn1 (j := to) (by omega) (by omega)
  have hs : ∀ r_z j_z, inS to r_z j_z → C r_z j_z = B r_z j_z := fun r_z j_z h_z => hCF r_z j_z (by unfold inS at *; omega)
  have hls := LSm_same mt.2 hs
  have mC := eM_1 hC (r := 1) (by omega) kn1 (j := to) (by omega) (by omega)
  have hni := Int.mul_le_mul_of_nonneg_right n1 (show (0 : Int) ≤ 1810 by omega)
  refine wq_ok srt_Mproduct (fr := []) (cuts := [79]) (J := fun pc st_z => (pc = 79 ∧ ∃ D_z, toF C D_z to 47 ∧ ((D_z 0 4 = 1 ∧ oBg C to p n) ∨ (D_z 0 4 = 0 ∧ srtd D_z to ∧ cfs D_z to ∧ 1 ≤ D_z 1 to ∧ xb D_z to (i * 18098190 + n * 1810) ∧ ∀ x_z, VS D_z to x_z = VS C to x_z * VS C p x_z ^ n)) ∧ st_z = ([(2, 0), (0, to), (0, k), (0, sg), (0, i), (0, n)], [], D_z))) ?_ 7 72 _ ?_
  · rintro pc st_z (⟨rfl, D_z, hDF, hD, rfl⟩)
    refine pr_79 i0 (by omega) (H D_z ⟨hDF.1, fun r_z j_z a1_z a2 a3 a4 a5 => ?_⟩ ?_)
    · rw [hDF.2 r_z j_z a1_z a3 a4 a5, hCF r_z j_z a2]; exact hB.2 r_z j_z a1_z a2 a3 a4 a5
    · rcases hD with h_z | ⟨d1_z, d2_z, d3_z, d4_z, d5_z, d6_z⟩
      · refine Or.inl ⟨h_z.1, ?_⟩
        have hb_z : BigV (fun x_z => pvl A k sg x_z (i.toNat + 1)) := h_z.2.eq (fun x_z => by
          rw [VS_of hls, g5_z x_z, hv x_z]
          show _ = pvl A k sg x_z i.toNat * yv A x_z i.toNat ^ (cx_pos (sg * A 5 (6 * ((i.toNat : Nat) : Int) + k)) : Int)
          rw [Int.toNat_of_nonneg i0, ← hn, show ((cx_pos n : Nat) : Int) = n by unfold cx_pos; omega])
        have := pvl_ext hlt (i.toNat + 1) hb_z ((A 0 7 + A 0 8).toNat - (i.toNat + 1))
        rw [show i.toNat + 1 + ((A 0 7 + A 0 8).toNat - (i.toNat + 1)) = (A 0 7 + A 0 8).toNat by omega] at this
        exact this
      · refine Or.inr ⟨d1_z, d2_z, d3_z, d4_z, xb_mono d5_z (by omega), fun x_z => ?_⟩
        rw [d6_z x_z, VS_of hls, g5_z x_z, hv x_z, show (i + 1).toNat = i.toNat + 1 by omega]
        show _ = pvl A k sg x_z i.toNat * yv A x_z i.toNat ^ (cx_pos (sg * A 5 (6 * ((i.toNat : Nat) : Int) + k)) : Int)
        rw [Int.toNat_of_nonneg i0, ← hn]
        have : ((cx_pos n : Nat) : Int) = n := by unfold cx_pos; omega
        rw [this]
  · refine ⟨rM_0 (by omega) km0, ?_⟩
    refine (timesOften_exq (s := to) (bb := p) (n := n) (bs := 47) (E1 := i * 18098190) (E2 := 1810) ⟨hC, by omega, by omega, by omega, ⟨by omega, by omega, by omega⟩, ls_srtd hls mC.1 mt.1 g1, ls_cfs hls mC.1 mt.1 g2, hcp, ls_xb hls mC.1 mt.1 g4, hxp, ⟨by omega, by omega, by omega, by omega⟩, ⟨by rw [hs 1 to (Or.inl ⟨rfl, rfl⟩)]; exact g3_z, hmp⟩, by rw [hCF 0 4 (by unfold inS; omega)]; exact h4⟩ (by omega)).imp ?_
    rintro ⟨r1_z, D_z⟩ ⟨q1_z, q2_z, q3_z⟩
    simp only at q1_z q2_z q3_z
    subst q1_z
    exact ⟨rfl, D_z, q2_z, q3_z, rfl⟩
theorem pq_8 {A : pm_A} {to k sg : Int} (hA : ltH A) (hto : to = 42 ∨ to = 43) (k0 : 0 ≤ k) (k1 : k < A 0 7) (hsg : sg = 1 ∨ sg = -1) : ∀ (m_z : Nat) (i_z : Int) (v5 : pm_V) (B_z : pm_A), (A 0 7 + A 0 8 - i_z).toNat < m_z → 0 ≤ i_z → i_z ≤ A 0 7 + A 0 8 → prF A B_z to → ((B_z 0 4 = 1 ∧ pBg A k sg) ∨ (B_z 0 4 = 0 ∧ prG A B_z to k sg i_z)) → Tm pmt (an_sh wM) o_X10_product 8 ([(2, 0), (0, to), (0, k), (0, sg), (0, i_z), v5], [], B_z) (mpq_post A to k sg) := by
  have p7_z := fM_0_7 hA.1 (r := 0) (by omega) km0
  have p8 := fM_0_8 hA.1 (r := 0) (by omega) km0
  intro m_z
  induction m_z with
  | zero => intro i_z v5 B_z h_z; omega
  | succ m_z ih_z =>
    intro i_z v5 B_z hm_z i0_z i1_z hF hI
    have c9_z := pM_9 hF.1
    have e7_z : B_z 0 7 = A 0 7 := hF.2 0 7 (by unfold inS; omega) (by unfold inS; omega) (by unfold inS; omega) (by omega) (by omega)
    have e8 : B_z 0 8 = A 0 8 := hF.2 0 8 (by unfold inS; omega) (by unfold inS; omega) (by unfold inS; omega) (by omega) (by omega)
    have e5 : ∀ j_z : Int, B_z 5 j_z = A 5 j_z := fun j_z => hF.2 5 j_z (by unfold inS; omega) (by unfold inS; omega) (by unfold inS; omega) (by omega) (by omega)
    have harr : i_z < A 0 7 + A 0 8 → -9999 ≤ B_z 5 (6 * i_z + k) ∧ B_z 5 (6 * i_z + k) ≤ 9999 := fun h_z => by rw [e5]; exact hA.2.2 i_z k i0_z h_z k0 k1
    have hmul_z : ∀ X_z : Int, -9999 ≤ X_z → X_z ≤ 9999 → -9999 ≤ sg * X_z ∧ sg * X_z ≤ 9999 := fun X_z h1 h2 => by rcases hsg with rfl | rfl <;> omega
    have s4_z := fM_0_4 hF.1 (r := 0) (by omega) km0
    have hend : (B_z 0 4 ≠ 0 ∨ A 0 7 + A 0 8 ≤ i_z) → mpq_post A to k sg (none, B_z) := fun hc_z => ⟨rfl, hF, by
      rcases hI with h_z | h_z
      · exact Or.inl h_z
      · have e_z : i_z = A 0 7 + A 0 8 := by rcases hc_z with h5 | h5; exact absurd h_z.1 h5; omega
        rw [e_z] at h_z
        exact Or.inr h_z⟩
    have hget_z : B_z 0 4 = 0 → prG A B_z to k sg i_z := fun h_z => by
      rcases hI with h2 | h2
      · have := h2.1; omega
      · exact h2.2
    refine wq_ok srt_Mproduct (fr := []) (cuts := [72, 79]) (J := fun pc st_z => (pc = 79 ∧ (i_z < ((B_z 0 7) + (B_z 0 8))) ∧ ((B_z 0 4) = 0) ∧ ((sg * (B_z (B_z 0 9) ((6 * i_z) + k))) ≤ 0) ∧ st_z = ([(2, 0), (0, to), (0, k), (0, sg), (0, i_z), (0, sg * (B_z (B_z 0 9) ((6 * i_z) + k)))], [], B_z)) ∨ (pc = 72 ∧ (i_z < B_z 0 7 + B_z 0 8) ∧ (B_z 0 4 = 0) ∧ (0 < sg * B_z (B_z 0 9) (6 * i_z + k)) ∧ (B_z 0 7 ≤ i_z) ∧ ∃ C_z, gH wM C_z ∧ (∀ q_z j_z, ¬ inS 46 q_z j_z → C_z q_z j_z = B_z q_z j_z) ∧ LSm C_z 46 = [(1, fun v_z => if (v_z.1 : Int) = i_z then 1 else 0)] ∧ st_z = ([(2, 0), (0, to), (0, k), (0, sg), (0, i_z), (0, sg * B_z (B_z 0 9) (6 * i_z + k))], [(0, 46), (0, to), (2, 0)], C_z)) ∨ (pc = 72 ∧ (i_z < ((B_z 0 7) + (B_z 0 8))) ∧ ((B_z 0 4) = 0) ∧ (0 < (sg * (B_z (B_z 0 9) ((6 * i_z) + k)))) ∧ (i_z < (B_z 0 7)) ∧ st_z = ([(2, 0), (0, to), (0, k), (0, sg), (0, i_z), (0, sg * (B_z (B_z 0 9) ((6 * i_z) + k)))], [(0, i_z), (0, to), (2, 0)], B_z))) ?_ 36 8 _ ?_
    · rintro pc st_z (⟨rfl, h0, h1, h2, rfl⟩ | ⟨rfl, h0, h1, h2, h3, C_z, q2_z, q3_z, q4_z, rfl⟩ | ⟨rfl, h0, h1, h2, h3, rfl⟩)
      · rw [e7_z, e8] at h0
        rw [c9_z, e5] at h2 ⊢
        have ha_z := hA.2.2 i_z k i0_z h0 k0 k1
        have hm2 := hmul_z _ ha_z.1 ha_z.2
        refine pr_79 i0_z (by omega) (ih_z (i_z + 1) _ B_z (by omega) (by omega) (by omega) hF (Or.inr ⟨h1, ?_⟩))
        obtain ⟨g1, g2, g3_z, g4, g5_z⟩ := hget_z h1
        refine ⟨g1, g2, g3_z, xb_mono g4 (by omega), fun x_z => ?_⟩
        rw [g5_z x_z, show (i_z + 1).toNat = i_z.toNat + 1 by omega]
        show _ = pvl A k sg x_z i_z.toNat * yv A x_z i_z.toNat ^ (cx_pos (sg * A 5 (6 * ((i_z.toNat : Nat) : Int) + k)) : Int)
        rw [Int.toNat_of_nonneg i0_z]
        have : ((cx_pos (sg * A 5 (6 * i_z + k)) : Nat) : Int) = 0 := by unfold cx_pos; omega
        rw [this, Rat.zpow_zero, Rat.mul_one]
      · rw [e7_z] at h3
        rw [e7_z, e8] at h0
        rw [c9_z, e5] at h2 ⊢
        have ha_z := hA.2.2 i_z k i0_z h0 k0 k1
        have hm2 := hmul_z _ ha_z.1 ha_z.2
        have mC := eM_1 q2_z (r := 1) (by omega) kn1 (j := 46) (by omega) (by omega)
        have hm1 : C_z 1 46 = 1 := by
          have := congrArg List.length q4_z
          rw [LSm_len] at this
          simp at this
          omega
        have hall : ∀ q_z : Int, 0 ≤ q_z → q_z < C_z 1 46 → C_z 2 (200 * 46 + q_z) = 1 ∧ xe C_z 46 q_z = fun v_z => if (v_z.1 : Int) = i_z then 1 else 0 := fun q_z q0 q1_z => by
          have hi_z := in_LSm (A := C_z) (p := 46) q0 q1_z
          rw [q4_z] at hi_z
          simp only [List.mem_cons, List.not_mem_nil, or_false] at hi_z
          exact ⟨congrArg Prod.fst hi_z, congrArg Prod.snd hi_z⟩
        refine pq_72 hto ⟨by omega, by omega, by omega⟩ i0_z h0 (by omega) rfl h2 hm2.2 hF h1 (hget_z h1) q2_z q3_z (fun q_z q0 q1_z => by rw [(hall q_z q0 q1_z).1]; omega) (by omega) (fun q_z v_z q0 q1_z v0_z v1_z => ?_) (fun x_z => ?_) hA (fun D_z hD hD2 => ih_z (i_z + 1) _ D_z (by omega) (by omega) (by omega) hD hD2)
        · have := congrFun (hall q_z q0 q1_z).2 ⟨v_z.toNat, by omega⟩
          have e2 : C_z 3 (12 * (200 * 46 + q_z) + ((v_z.toNat : Nat) : Int)) = if ((v_z.toNat : Nat) : Int) = i_z then 1 else 0 := this
          rw [Int.toNat_of_nonneg v0_z] at e2
          rw [e2]
          by_cases hv : v_z = i_z
          · rw [if_pos hv]; omega
          · rw [if_neg hv]; omega
        · unfold yv VS
          rw [Int.toNat_of_nonneg i0_z, if_neg (by omega), dif_pos (show i_z.toNat < 12 by omega), q4_z, cr_vl_sing]
          have e3 : (fun v_z : Fin 12 => if (v_z.1 : Int) = i_z then (1 : Int) else 0) = cr_up (fun _ => 0) ⟨i_z.toNat, by omega⟩ 1 := funext fun v_z => by
            unfold cr_up
            by_cases hv : (v_z.1 : Int) = i_z
            · rw [if_pos hv, if_pos (Fin.ext (by show v_z.1 = i_z.toNat; omega))]
            · rw [if_neg hv, if_neg (fun e_z => hv (by rw [e_z]; show ((i_z.toNat : Nat) : Int) = i_z; omega))]
          rw [e3, cr_mo_e, Rat.zpow_one]
      · rw [e7_z] at h3
        rw [e7_z, e8] at h0
        rw [c9_z, e5] at h2 ⊢
        have ha_z := hA.2.2 i_z k i0_z h0 k0 k1
        have hm2 := hmul_z _ ha_z.1 ha_z.2
        obtain ⟨d1_z, d2_z, d3_z, d4_z⟩ := hA.2.1 i_z i0_z h3
        have mi := eM_1 hA.1 (r := 1) (by omega) kn1 (j := i_z) i0_z (by omega)
        have hbS : ∀ r_z j_z, inS i_z r_z j_z → B_z r_z j_z = A r_z j_z := fun r_z j_z h_z => hF.2 r_z j_z (by unfold inS at *; omega) (by unfold inS at *; omega) (by unfold inS at *; omega) (by unfold inS at h_z; omega) (by unfold inS at h_z; omega)
        refine pq_72 hto ⟨i0_z, by omega, by omega⟩ i0_z h0 (by omega) rfl h2 hm2.2 hF h1 (hget_z h1) hF.1 (fun _ _ _ => rfl) (cfs_same mi.2 hbS d2_z) (by rw [hbS 1 i_z (Or.inl ⟨rfl, rfl⟩)]; exact d3_z) (xb_same mi.2 hbS d4_z) (fun x_z => ?_) hA (fun D_z hD hD2 => ih_z (i_z + 1) _ D_z (by omega) (by omega) (by omega) hD hD2)
        unfold yv
        rw [Int.toNat_of_nonneg i0_z, if_pos h3, VS_of (LSm_same mi.2 hbS)]
    · refine ⟨oM_0 (by omega) km0 7 rfl, ?_⟩
      refine ⟨oM_0 (by omega) km0 8 rfl, ?_⟩
      refine ⟨⟨by omega, by omega⟩, ?_⟩
      refine ⟨fun h0 => ?_, fun h0 => ?_⟩
      · exact hend (Or.inr (by rw [e7_z, e8] at h0; exact h0))
      · refine ⟨oM_0 (by omega) km0 4 rfl, ?_⟩
        refine ⟨fun h1 => ?_, fun h1 => ?_⟩
        · exact hend (Or.inl h1)
        · refine ⟨oM_0 (by omega) km0 9 rfl, ?_⟩
          refine ⟨⟨by omega, by omega⟩, ?_⟩
          refine ⟨⟨by omega, by omega⟩, ?_⟩
          refine ⟨aM_5 (r := B_z 0 9) (by rw [c9_z]; omega) (by rw [c9_z]; exact kn5) (by omega) (by omega), ?_⟩
          have e1 : B_z (B_z 0 9) ((6 * i_z) + k) = B_z 5 ((6 * i_z) + k) := by rw [c9_z]
          refine ⟨(by have hx := harr (by omega); have := hmul_z _ hx.1 hx.2; rw [e1]; exact ⟨by omega, by omega⟩), ?_⟩
          refine ⟨fun h2 => ?_, fun h2 => ?_⟩
          · exact Or.inl (⟨rfl, h0, h1, h2, rfl⟩)
          · refine ⟨oM_0 (by omega) km0 7 rfl, ?_⟩
            refine ⟨fun h3 => ?_, fun h3 => ?_⟩
            · refine ⟨rM_0 (by omega) km0, ?_⟩
              refine (heldSlot_ex (i := i_z) hF.1 i0_z (by omega)).imp ?_
              rintro ⟨r1_z, C_z⟩ ⟨q1_z, q2_z, q3_z, q4_z⟩
              simp only at q1_z q2_z q3_z q4_z
              subst q1_z
              exact Or.inr (Or.inl (⟨rfl, h0, h1, h2, h3, C_z, q2_z, q3_z, q4_z, rfl⟩))
            · exact Or.inr (Or.inr (⟨rfl, h0, h1, h2, h3, rfl⟩))
theorem product_exq {A : pm_A} {to k sg : Int} (hA : ltH A) (h4 : A 0 4 = 0) (hto : to = 42 ∨ to = 43) (k0 : 0 ≤ k) (k1 : k < A 0 7) (hsg : sg = 1 ∨ sg = -1) : Cl pmt (an_sh wM) 175 [(2, 0), (0, to), (0, k), (0, sg)] A (mpq_post A to k sg) := by
  have p7_z := fM_0_7 hA.1 (r := 0) (by omega) km0
  have p8 := fM_0_8 hA.1 (r := 0) (by omega) km0
  refine Cl.of (Nat.le_of_ble_eq_true rfl) ?_
  refine wq_ok (full := o_X10_product) srt_Mproduct (fr := []) (cuts := [5]) (J := fun pc st_z => (pc = 5 ∧ ∃ C_z, gH wM C_z ∧ (∀ q_z j_z, ¬ inS to q_z j_z → C_z q_z j_z = A q_z j_z) ∧ LSm C_z to = [(1, fun _ => 0)] ∧ st_z = ([(2, 0), (0, to), (0, k), (0, sg), (9, 0), (9, 0)], [], C_z))) ?_ 7 0 _ ?_
  · rintro pc st_z (⟨rfl, C_z, q2_z, q3_z, q4_z, rfl⟩)
    have mC := eM_1 q2_z (r := 1) (by omega) kn1 (j := to) (by omega) (by omega)
    have hm1 : C_z 1 to = 1 := by
      have := congrArg List.length q4_z
      rw [LSm_len] at this
      simp at this
      omega
    have hall : ∀ q_z : Int, 0 ≤ q_z → q_z < C_z 1 to → C_z 2 (200 * to + q_z) = 1 ∧ xe C_z to q_z = fun _ => 0 := fun q_z q0 q1_z => by
      have hi_z := in_LSm (A := C_z) (p := to) q0 q1_z
      rw [q4_z] at hi_z
      simp only [List.mem_cons, List.not_mem_nil, or_false] at hi_z
      exact ⟨congrArg Prod.fst hi_z, congrArg Prod.snd hi_z⟩
    refine wq_ok srt_Mproduct (fr := []) (cuts := [8]) (J := fun pc st_z => (pc = 8 ∧ st_z = ([(2, 0), (0, to), (0, k), (0, sg), (0, 0), (9, 0)], [], C_z))) ?_ 7 5 _ ?_
    · rintro pc st_z (⟨rfl, rfl⟩)
      refine pq_8 hA hto k0 k1 hsg _ 0 _ C_z (Nat.lt_succ_self _) (by omega) (by omega) ⟨q2_z, fun r_z j_z a1_z _ _ _ _ => q3_z r_z j_z a1_z⟩ (Or.inr ⟨by rw [q3_z 0 4 (by unfold inS; omega)]; exact h4, fun q_z q2_z b0 b1 b2 => by omega, fun q_z q0 q1_z => by rw [(hall q_z q0 q1_z).1]; omega, by omega, fun q_z v_z q0 q1_z v0_z v1_z => ?_, fun x_z => ?_⟩)
      · have := congrFun (hall q_z q0 q1_z).2 ⟨v_z.toNat, by omega⟩
        have e2 : C_z 3 (12 * (200 * to + q_z) + ((v_z.toNat : Nat) : Int)) = 0 := this
        rw [Int.toNat_of_nonneg v0_z] at e2
        rw [e2]; omega
      · unfold VS
        rw [q4_z, cr_vl_one]; rfl
    · exact ⟨rfl, rfl⟩
  · refine ⟨rM_0 (by omega) km0, ?_⟩
    refine (one_ex (p := to) hA.1 (by omega) (by omega)).imp ?_
    rintro ⟨r1_z, C_z⟩ ⟨q1_z, q2_z, q3_z, q4_z⟩
    simp only at q1_z q2_z q3_z q4_z
    subst q1_z
    exact ⟨rfl, C_z, q2_z, q3_z, q4_z, rfl⟩
