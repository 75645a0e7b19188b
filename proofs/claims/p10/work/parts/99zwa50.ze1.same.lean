/-! isSameAs exactly; sameness of seeds as mathematics says it -/
theorem lk_sme {A B : pm_A} {s o : Int} (h1 : sme A B s) (h2 : sme A B o) : lk B s o ↔ lk A s o := by
  unfold lk
  rw [h1.1 1, h1.1 0, h1.1 2, h1.1 3, h2.1 1, h2.1 0, h2.1 2, h2.1 3]
  constructor
  · rintro ⟨a_z, b_z, c_z⟩
    refine ⟨a_z, fun t_z t0_z t1_z => ?_, fun d_z d0_z d1_z => ?_⟩
    · have := b_z t_z t0_z t1_z
      rw [h1.2.1 t_z, h2.2.1 t_z] at this
      exact this
    · have := c_z d_z d0_z d1_z
      rw [h1.2.2 d_z, h2.2.2 d_z] at this
      exact this
  · rintro ⟨a_z, b_z, c_z⟩
    refine ⟨a_z, fun t_z t0_z t1_z => ?_, fun d_z d0_z d1_z => ?_⟩
    · rw [h1.2.1 t_z, h2.2.1 t_z]; exact b_z t_z t0_z t1_z
    · rw [h1.2.2 d_z, h2.2.2 d_z]; exact c_z d_z d0_z d1_z
def fsl (A : pm_A) (g h i z : Int) : Prop := (0 ≤ z ∧ z < A h 0) ∧ lk A (A (A h 4) z) (A (A g 4) i) ∧ ∀ d_z : Int, 0 ≤ d_z → d_z < z → ¬ lk A (A (A h 4) d_z) (A (A g 4) i)
theorem fsl_u {A : pm_A} {g h i y z : Int} (h1 : fsl A g h i y) (h2 : fsl A g h i z) : y = z := by
  rcases Int.lt_trichotomy y z with e_z | e_z | e_z
  · exact absurd h1.2.1 (h2.2.2 y h1.1.1 e_z)
  · exact e_z
  · exact absurd h2.2.1 (h1.2.2 z h2.1.1 e_z)
theorem htc_cong {T U S S' : Int → Int} {W P : Int} (e : ∀ i_z : Int, 0 ≤ i_z → i_z < P → S i_z = S' i_z) (h : htc T U S W P) : htc T U S' W P := by
  intro i_z j_z i0_z i1_z j0 j1
  have h1 := h i_z j_z i0_z i1_z j0 j1
  rw [e j_z j0 j1] at h1
  have e2 : rwS P S i_z = rwS P S' i_z := by
    unfold rwS
    by_cases q_z : i_z < P
    · rw [if_pos q_z, if_pos q_z, e i_z i0_z q_z]
    · rw [if_neg q_z, if_neg q_z]
  rw [e2] at h1
  exact h1
def saX (A : pm_A) (g h : Int) : Prop := (A g 0 = A h 0 ∧ A g 1 = A h 1) ∧ ∃ S_z : Int → Int, (∀ i_z : Int, 0 ≤ i_z → i_z < A g 0 → fsl A g h i_z (S_z i_z)) ∧ htc (A (A g 2)) (A (A h 2)) S_z (bgW A g) (A g 0)
def tzF (A B : pm_A) (g : Int) : Prop := gH wX B ∧ ∀ r_z j_z : Int, ¬ r_z = A g 5 → B r_z j_z = A r_z j_z
def isP (A : pm_A) (g h : Int) (r : pm_R) : Prop := tzF A r.2 g ∧ ((r.1 = some (0, 1) ∧ saX A g h) ∨ (r.1 = some (0, 0) ∧ ¬ saX A g h))
theorem tzF.ce {A B : pm_A} {g r : Int} {l : Nat} (h : tzF A B g) (t5 : wX.2 (A g 5) = 13) (hr : wX.2 r = l) (n : ¬ l = 13) (j : Int) : B r j = A r j := h.2 r j (knd hr t5 n)
theorem tzF.sm {A B : pm_A} {g a : Int} (h : tzF A B g) (hA : gH wX A) (t5 : wX.2 (A g 5) = 13) (ha : 0 ≤ a ∧ wX.2 a = 2) : sme A B a := by
  have a2 := fX_2_2 hA ha.1 ha.2
  have a3 := fX_2_3 hA ha.1 ha.2
  exact ⟨h.ce t5 ha.2 (by decide), h.ce t5 a2.2 (by decide), h.ce t5 a3.2 (by decide)⟩
theorem is_26 {A : pm_A} {g h : Int} (hA : gH wX A) (hg : 0 ≤ g ∧ wX.2 g = 1) (hh : 0 ≤ h ∧ wX.2 h = 1) (e0 : A g 0 = A h 0) (e1 : A g 1 = A h 1) : ∀ (m_z : Nat) (i_z : Int) (B_z : pm_A), (6 - i_z).toNat < m_z → 0 ≤ i_z → i_z ≤ A g 0 → tzF A B_z g → (∀ d_z : Int, 0 ≤ d_z → d_z < i_z → fsl A g h d_z (B_z (A g 5) d_z)) → Tm pmt (an_sh wX) o_X7_isSameAs 26 ([(2, g), (2, h), (0, i_z)], [], B_z) (isP A g h) := by
  have t5_z := fX_1_5 hA hg.1 hg.2
  have p6_z := fX_1_0 hA hg.1 hg.2
  have l4g := fX_1_4 hA hg.1 hg.2
  have l4h := fX_1_4 hA hh.1 hh.2
  have t2g := fX_1_2 hA hg.1 hg.2
  have t2h := fX_1_2 hA hh.1 hh.2
  intro m_z
  induction m_z with
  | zero => intro i_z B_z hm_z; omega
  | succ m_z ih_z =>
    intro i_z B_z hm_z i0_z i1_z hF hd_z
    have bg : ∀ j_z : Int, B_z g j_z = A g j_z := hF.ce t5_z.2 hg.2 (by decide)
    have bh : ∀ j_z : Int, B_z h j_z = A h j_z := hF.ce t5_z.2 hh.2 (by decide)
    have blg : ∀ j_z : Int, B_z (A g 4) j_z = A (A g 4) j_z := hF.ce t5_z.2 l4g.2 (by decide)
    have blh : ∀ j_z : Int, B_z (A h 4) j_z = A (A h 4) j_z := hF.ce t5_z.2 l4h.2 (by decide)
    refine wq_ok srt_isSameAs (fr := []) (cuts := [50]) (J := fun pc st_z => pc = 50 ∧ i_z < A g 0 ∧ ∃ z_z : Int, poP B_z h (A (A g 4) i_z) (some (0, z_z), B_z) ∧ st_z = ([(2, g), (2, h), (0, i_z)], [], pm_upd B_z (A g 5) i_z z_z)) ?_ 60 26 _ ?_
    · rintro pc st_z ⟨rfl, hi_z, z_z, hz, rfl⟩
      have eg := eX_12 hA l4g.1 l4g.2 i0_z (show i_z < 6 by omega)
      have hlk : ∀ d_z : Int, 0 ≤ d_z → d_z < A h 0 → (lk B_z (B_z (B_z h 4) d_z) (A (A g 4) i_z) ↔ lk A (A (A h 4) d_z) (A (A g 4) i_z)) := fun d_z d0_z d1_z => by
        have eh := eX_12 hA l4h.1 l4h.2 d0_z (show d_z < 6 by omega)
        rw [bh 4, blh d_z]
        exact lk_sme (hF.sm hA t5_z.2 eh) (hF.sm hA t5_z.2 eg)
      have hz2 : (z_z = -1 ∧ ∀ d_z : Int, 0 ≤ d_z → d_z < A h 0 → ¬ lk A (A (A h 4) d_z) (A (A g 4) i_z)) ∨ fsl A g h i_z z_z := by
        obtain ⟨_, y_z, hy, hz⟩ := hz
        have hy2 : z_z = y_z := by injection hy with q_z; injection q_z
        rw [← hy2] at hz
        rcases hz with ⟨q1_z, q2_z⟩ | ⟨q1_z, q2_z, q3_z⟩
        · refine Or.inl ⟨q1_z, fun d_z d0_z d1_z q_z => q2_z d_z d0_z (by rw [bh 0]; exact d1_z) ((hlk d_z d0_z d1_z).2 q_z)⟩
        · rw [bh 0] at q1_z
          exact Or.inr ⟨q1_z, (hlk z_z q1_z.1 q1_z.2).1 q2_z, fun d_z d0_z d1_z q_z => q3_z d_z d0_z d1_z ((hlk d_z d0_z (by omega)).2 q_z)⟩
      have zb : -1 ≤ z_z ∧ z_z ≤ 5 := by
        rcases hz2 with q_z | q_z
        · omega
        · have := q_z.1; omega
      have hC : gH wX (pm_upd B_z (A g 5) i_z z_z) := uX_13 hF.1 t5_z.2 zb.1 zb.2
      have hFC : tzF A (pm_upd B_z (A g 5) i_z z_z) g := ⟨hC, fun r_z j_z hr => by rw [upd_ne hr]; exact hF.2 r_z j_z hr⟩
      have cx : pm_upd B_z (A g 5) i_z z_z (A g 5) i_z = z_z := upd_at
      have cd : ∀ d_z : Int, ¬ d_z = i_z → pm_upd B_z (A g 5) i_z z_z (A g 5) d_z = B_z (A g 5) d_z := fun d_z hd_z => upd_n2 hd_z
      have cg := hFC.ce t5_z.2 hg.2 (by decide) 5
      generalize pm_upd B_z (A g 5) i_z z_z = C_z at hC hFC cx cd cg
      refine wq_ok srt_isSameAs (fr := []) (cuts := [26]) (J := fun pc st_z => pc = 26 ∧ ¬ z_z = -1 ∧ st_z = ([(2, g), (2, h), (0, i_z + 1)], [], C_z)) ?_ 20 50 _ ?_
      · rintro pc st_z ⟨rfl, hne, rfl⟩
        refine ih_z (i_z + 1) C_z (by omega) (by omega) (by omega) hFC (fun d_z d0_z d1_z => ?_)
        rcases hz2 with q_z | q_z
        · exact absurd q_z.1 hne
        · by_cases e_z : d_z = i_z
          · rw [e_z, cx]; exact q_z
          · rw [cd d_z e_z]; exact hd_z d_z d0_z (by omega)
      · refine ⟨oX_1 hg.1 hg.2 5 rfl, ?_⟩
        refine ⟨aX_13 (by rw [cg]; exact t5_z.1) (by rw [cg]; exact t5_z.2) i0_z (by omega), ?_⟩
        refine ⟨fun h1 => ?_, fun h1 => ?_⟩
        · rw [cg, cx] at h1
          refine ⟨⟨by omega, by omega⟩, ?_⟩
          exact ⟨rfl, h1, rfl⟩
        · rw [cg, cx] at h1
          refine ⟨rfl, hFC, Or.inr ⟨rfl, ?_⟩⟩
          rintro ⟨_, S_z, hS_z, _⟩
          rcases hz2 with q_z | q_z
          · have h2 := hS_z i_z i0_z hi_z
            exact q_z.2 _ h2.1.1 h2.1.2 h2.2.1
          · have := q_z.1; omega
    · refine ⟨oX_1 hg.1 hg.2 0 rfl, ?_⟩
      refine ⟨fun h1 => ?_, fun h1 => ?_⟩
      · rw [bg 0] at h1
        have hi_z : i_z = A g 0 := by omega
        refine ⟨oX_1 hh.1 hh.2 2 rfl, ?_⟩
        refine ⟨oX_1 hg.1 hg.2 5 rfl, ?_⟩
        refine ⟨rX_1 hg.1 hg.2, ?_⟩
        refine (hasTable_ex (A := B_z) (g := g) (o := B_z h 2) (S := B_z g 5) ⟨hF.1, hg, by rw [bh 2]; exact t2h, by rw [bg 5]; exact t5_z, fun d_z d0_z d1_z => ?_⟩).imp ?_
        · rw [bg 0] at d1_z
          rw [bg 5]
          have h2 := (hd_z d_z d0_z (by omega)).1
          omega
        · have eW : bgW B_z g = bgW A g := by unfold bgW; rw [bg 0, bg 1]
          have eT : B_z (B_z g 2) = A (A g 2) := by rw [bg 2]; exact funext (hF.ce t5_z.2 t2g.2 (by decide))
          have eU : B_z (B_z h 2) = A (A h 2) := by rw [bh 2]; exact funext (hF.ce t5_z.2 t2h.2 (by decide))
          rw [eW, eT, eU, bg 0, bg 5]
          rintro ⟨r1_z, C_z⟩ ⟨hC, hr⟩
          simp only at hC hr
          subst hC
          rcases hr with ⟨rfl, hP⟩ | ⟨rfl, hP⟩
          · exact ⟨rfl, hF, Or.inl ⟨rfl, ⟨e0, e1⟩, _, fun d_z d0_z d1_z => hd_z d_z d0_z (by omega), hP⟩⟩
          · refine ⟨rfl, hF, Or.inr ⟨rfl, ?_⟩⟩
            rintro ⟨_, S_z, hS_z, hT_z⟩
            exact hP (htc_cong (fun d_z d0_z d1_z => fsl_u (hS_z d_z d0_z d1_z) (hd_z d_z d0_z (by omega))) hT_z)
      · rw [bg 0] at h1
        have eg := eX_12 hA l4g.1 l4g.2 i0_z (show i_z < 6 by omega)
        have el : B_z (B_z g 4) i_z = A (A g 4) i_z := by rw [bg 4]; exact blg i_z
        refine ⟨oX_1 hg.1 hg.2 5 rfl, ?_⟩
        refine ⟨oX_1 hg.1 hg.2 4 rfl, ?_⟩
        refine ⟨aX_12 (by rw [bg 4]; exact l4g.1) (by rw [bg 4]; exact l4g.2) i0_z (by omega), ?_⟩
        refine ⟨rX_1 hh.1 hh.2, ?_⟩
        show Cl pmt (an_sh wX) 71 [(2, h), (2, B_z (B_z g 4) i_z)] B_z _
        rw [el]
        refine (XplaceOf_ex (A := B_z) (g := h) (o := A (A g 4) i_z) hF.1 hh eg).imp ?_
        rintro ⟨r1_z, C_z⟩ hP
        have hP0 := hP
        obtain ⟨hC, z_z, hr, _⟩ := hP
        simp only at hC hr
        subst hC
        subst hr
        refine ⟨tX_13 (by rw [bg 5]; exact t5_z.1) (by rw [bg 5]; exact t5_z.2) i0_z (by omega) rfl, ?_⟩
        refine ⟨rfl, h1, z_z, hP0, ?_⟩
        rw [bg 5]
theorem isSameAs_ex {A : pm_A} {g h : Int} (hA : gH wX A) (hg : 0 ≤ g ∧ wX.2 g = 1) (hh : 0 ≤ h ∧ wX.2 h = 1) : Cl pmt (an_sh wX) 70 [(2, g), (2, h)] A (isP A g h) := by
  have p6_z := fX_1_0 hA hg.1 hg.2
  refine Cl.of (Nat.le_of_ble_eq_true rfl) ?_
  refine wq_ok (full := o_X7_isSameAs) srt_isSameAs (fr := []) (cuts := [26]) (J := fun pc st_z => pc = 26 ∧ (A g 0 = A h 0 ∧ A g 1 = A h 1) ∧ st_z = ([(2, g), (2, h), (0, 0)], [], A)) ?_ 40 0 _ ?_
  · rintro pc st_z ⟨rfl, e_z, rfl⟩
    exact is_26 hA hg hh e_z.1 e_z.2 _ 0 A (Nat.lt_succ_self _) (by omega) (by omega) ⟨hA, fun _ _ _ => rfl⟩ (fun d_z d0_z d1_z => by omega)
  · refine ⟨oX_1 hg.1 hg.2 0 rfl, ?_⟩
    refine ⟨oX_1 hh.1 hh.2 0 rfl, ?_⟩
    refine ⟨fun h1 => ?_, fun h1 => ?_⟩
    · exact ⟨rfl, ⟨hA, fun _ _ _ => rfl⟩, Or.inr ⟨rfl, fun q_z => h1 q_z.1.1⟩⟩
    · refine ⟨oX_1 hg.1 hg.2 1 rfl, ?_⟩
      refine ⟨oX_1 hh.1 hh.2 1 rfl, ?_⟩
      refine ⟨fun h2 => ?_, fun h2 => ?_⟩
      · exact ⟨rfl, ⟨h1, h2⟩, rfl⟩
      · exact ⟨rfl, ⟨hA, fun _ _ _ => rfl⟩, Or.inr ⟨rfl, fun q_z => h2 q_z.1.2⟩⟩
/-- letters of a seed are different -/
theorem gp_ne (s : cx_Sd 12) (ks : List (Fin 12)) {i j : Fin 12} (hij : ¬ i = j) : ¬ ∀ x_z : cr_Pv 12, (cr_gp s.b ks x_z).1 i = (cr_gp s.b ks x_z).1 j := fun h_z => by
  obtain ⟨x_z, hx⟩ := cr_surj ks s ⟨fun q_z => if q_z = i then 1 else 2, fun q_z => by
    show (0 : Rat) < if q_z = i then 1 else 2
    by_cases e_z : q_z = i
    · rw [if_pos e_z]; grind
    · rw [if_neg e_z]; grind⟩
  have h1 := h_z x_z
  rw [hx] at h1
  have h2 : (if i = i then (1 : Rat) else 2) = (if j = i then 1 else 2) := h1
  rw [if_pos rfl, if_neg (fun e_z => hij e_z.symm)] at h2
  grind
def smS (s : cx_Sd 12) (ls : List (Fin 12)) (s' : cx_Sd 12) (ks : List (Fin 12)) (W P : Int) : Prop := ∃ S_z : Int → Int, (∀ i_z : Fin 12, (i_z.1 : Int) < P → ∃ f_z : Fin 12, ((f_z.1 : Int) = S_z i_z.1 ∧ (f_z.1 : Int) < P) ∧ ∀ x_z, (cr_gp s'.b ks x_z).1 f_z = (cr_gp s.b ls x_z).1 i_z) ∧ ∀ i_z j_z f_z g_z : Fin 12, (i_z.1 : Int) < W → (j_z.1 : Int) < P → (f_z.1 : Int) = rwS P S_z i_z.1 → (g_z.1 : Int) = S_z j_z.1 → cr_bs s.b ls i_z j_z = cr_bs s'.b ks f_z g_z
theorem ls_lk {A : pm_A} {s o : Int} (s1 : 0 ≤ A s 1) (o1 : 0 ≤ A o 1) (s0 : 1 ≤ A s 0 ∧ A s 0 ≤ 12) (e0 : A s 0 = A o 0) (h : LSx A s = LSx A o) : lk A s o := by
  have hlen : A s 1 = A o 1 := by
    have h1 := congrArg List.length h
    rw [LSx_len, LSx_len] at h1
    omega
  have hat : ∀ t_z : Int, 0 ≤ t_z → t_z < A s 1 → A (A s 2) t_z = A (A o 2) t_z ∧ xeX A s t_z = xeX A o t_z := fun t_z t0_z t1_z => by
    have h2 : (LSx A s)[t_z.toNat]? = (LSx A o)[t_z.toNat]? := by rw [h]
    unfold LSx lsf at h2
    rw [List.getElem?_map, List.getElem?_map, List.getElem?_range (by omega), List.getElem?_range (by omega)] at h2
    have h3 : (A (A s 2) ((t_z.toNat : Nat) : Int), xeX A s ((t_z.toNat : Nat) : Int)) = (A (A o 2) ((t_z.toNat : Nat) : Int), xeX A o ((t_z.toNat : Nat) : Int)) := Option.some.inj h2
    rw [Int.toNat_of_nonneg t0_z] at h3
    exact ⟨congrArg Prod.fst h3, congrArg Prod.snd h3⟩
  refine ⟨⟨hlen, e0⟩, fun t_z t0_z t1_z => (hat t_z t0_z t1_z).1, fun c_z c0_z c1_z => ?_⟩
  have d1_z := Int.emod_nonneg c_z (show A s 0 ≠ 0 by omega)
  have d2_z := Int.emod_lt_of_pos c_z (show 0 < A s 0 by omega)
  have d3_z := Int.mul_ediv_add_emod c_z (A s 0)
  have d4_z : 0 ≤ c_z / A s 0 := Int.ediv_nonneg c0_z (by omega)
  have d5_z : c_z / A s 0 < A s 1 := Int.ediv_lt_of_lt_mul (by omega) c1_z
  have h5 := congrFun (hat (c_z / A s 0) d4_z d5_z).2 ⟨(c_z % A s 0).toNat, by omega⟩
  have h6 : (if (((c_z % A s 0).toNat : Nat) : Int) < A s 0 then A (A s 3) (c_z / A s 0 * A s 0 + (((c_z % A s 0).toNat : Nat) : Int)) else 0) = (if (((c_z % A s 0).toNat : Nat) : Int) < A o 0 then A (A o 3) (c_z / A s 0 * A o 0 + (((c_z % A s 0).toNat : Nat) : Int)) else 0) := h5
  rw [Int.toNat_of_nonneg d1_z, ← e0, if_pos d2_z, if_pos d2_z] at h6
  have d6_z : c_z / A s 0 * A s 0 + c_z % A s 0 = c_z := by rw [Int.mul_comm]; exact d3_z
  rw [d6_z] at h6
  exact h6
theorem TrX.like {s s' : cx_Sd 12} {ks ls : List (Fin 12)} {A : pm_A} {g h : Int} (hg : TrX s ls A g) (hh : TrX s' ks A h) (eW : bgW A g = bgW A h) {i f : Fin 12} (hi : (i.1 : Int) < A g 0) (hf : (f.1 : Int) < A h 0) : lk A (A (A h 4) f.1) (A (A g 4) i.1) ↔ ∀ x_z, (cr_gp s'.b ks x_z).1 f = (cr_gp s.b ls x_z).1 i := by
  obtain ⟨a1_z, a2, a3, a4⟩ := hg.2.2.2.2.2.2.2 i hi
  obtain ⟨b1, b2, b3, b4⟩ := hh.2.2.2.2.2.2.2 f hf
  have pg := fX_1_0 hg.1 hg.2.1.1 hg.2.1.2
  have qg := fX_1_1 hg.1 hg.2.1.1 hg.2.1.2
  have ph_z := fX_1_0 hh.1 hh.2.1.1 hh.2.1.2
  have lg := fX_1_4 hg.1 hg.2.1.1 hg.2.1.2
  have lh := fX_1_4 hh.1 hh.2.1.1 hh.2.1.2
  have eg := eX_12 hg.1 lg.1 lg.2 (j := (i.1 : Int)) (by omega) (by omega)
  have eh := eX_12 hg.1 lh.1 lh.2 (j := (f.1 : Int)) (by omega) (by omega)
  have mg := fX_2_1 hg.1 eg.1 eg.2
  have mh := fX_2_1 hg.1 eh.1 eh.2
  constructor
  · intro hl x_z
    rw [b4 x_z, a4 x_z]
    unfold VX
    rw [lk_ls hl]
  · intro hx
    refine ls_lk mh.1 mg.1 ?_ (by rw [b3, a3, eW]) ?_
    · rw [b3, ← eW]; unfold bgW; have := hg.2.2.1; omega
    · refine cr_Shr.eq (shrX b1 (fun q_z q0 q1_z => (b2 q_z q0 q1_z).1)) (shrX a1_z (fun q_z q0 q1_z => (a2 q_z q0 q1_z).1)) (cr_vl_unique (fun x_z => ?_))
      have h1 := b4 x_z
      have h2 := a4 x_z
      unfold VX at h1 h2
      rw [← h1, ← h2]
      exact hx x_z
theorem sm_iff {s s' : cx_Sd 12} {ks ls : List (Fin 12)} {A : pm_A} {g h : Int} (hg : TrX s ls A g) (hh : TrX s' ks A h) : saX A g h ↔ ((A g 0 = A h 0 ∧ A g 1 = A h 1) ∧ smS s ls s' ks (bgW A g) (A g 0)) := by
  have pg := fX_1_0 hg.1 hg.2.1.1 hg.2.1.2
  have qg := fX_1_1 hg.1 hg.2.1.1 hg.2.1.2
  constructor
  · rintro ⟨e_z, S_z, hS_z, hT_z⟩
    have eW : bgW A g = bgW A h := by unfold bgW; rw [e_z.1, e_z.2]
    refine ⟨e_z, S_z, fun i_z hi_z => ?_, fun i_z j_z f_z q_z hi_z hj hf hq => ?_⟩
    · obtain ⟨h1, h2, _⟩ := hS_z i_z.1 (by omega) hi_z
      have hf : ((⟨(S_z i_z.1).toNat, by omega⟩ : Fin 12).1 : Int) = S_z i_z.1 := by show (((S_z i_z.1).toNat : Nat) : Int) = S_z i_z.1; omega
      refine ⟨⟨(S_z i_z.1).toNat, by omega⟩, ⟨hf, by rw [hf]; omega⟩, ?_⟩
      exact (hg.like hh eW hi_z (by rw [hf]; omega)).1 (by rw [hf]; exact h2)
    · have h1 := hT_z i_z.1 j_z.1 (by omega) hi_z (by omega) hj
      rw [(hg.2.2.2.1 i_z j_z hj).1 hi_z, (hh.2.2.2.1 f_z q_z ?_).1 ?_, h1, hf, hq, Int.zero_add]
      · rw [hq]
        have := (hS_z j_z.1 (by omega) hj).1
        omega
      · rw [hf, ← eW]
        unfold rwS
        by_cases q2_z : (i_z.1 : Int) < A g 0
        · rw [if_pos q2_z]
          have := (hS_z i_z.1 (by omega) q2_z).1
          unfold bgW
          omega
        · rw [if_neg q2_z]; exact hi_z
  · rintro ⟨e_z, S_z, hS_z, hT_z⟩
    have eW : bgW A g = bgW A h := by unfold bgW; rw [e_z.1, e_z.2]
    have hS2 : ∀ i_z : Int, 0 ≤ i_z → i_z < A g 0 → fsl A g h i_z (S_z i_z) := fun i_z i0_z i1_z => by
      obtain ⟨w_z, hw⟩ : ∃ w_z : Fin 12, i_z = (w_z.1 : Int) := ⟨⟨i_z.toNat, by omega⟩, by show i_z = ((i_z.toNat : Nat) : Int); omega⟩
      rw [hw] at i1_z ⊢
      obtain ⟨f_z, ⟨hf, hfP⟩, hx⟩ := hS_z w_z i1_z
      rw [← hf]
      refine ⟨⟨by omega, by omega⟩, (hg.like hh eW i1_z (by omega)).2 hx, fun d_z d0_z d1_z hl => ?_⟩
      obtain ⟨u_z, hu⟩ : ∃ u_z : Fin 12, d_z = (u_z.1 : Int) := ⟨⟨d_z.toNat, by omega⟩, by show d_z = ((d_z.toNat : Nat) : Int); omega⟩
      rw [hu] at hl d1_z
      have hx2 := (hg.like hh eW i1_z (show (u_z.1 : Int) < A h 0 by omega)).1 hl
      exact gp_ne s' ks (i := u_z) (j := f_z) (fun q_z => by rw [q_z] at d1_z; omega) (fun x_z => (hx2 x_z).trans (hx x_z).symm)
    refine ⟨e_z, S_z, hS2, fun i_z j_z i0_z i1_z j0 j1 => ?_⟩
    have hW : bgW A g ≤ 12 := by unfold bgW; omega
    obtain ⟨w_z, hw⟩ : ∃ w_z : Fin 12, i_z = (w_z.1 : Int) := ⟨⟨i_z.toNat, by omega⟩, by show i_z = ((i_z.toNat : Nat) : Int); omega⟩
    obtain ⟨u_z, hu⟩ : ∃ u_z : Fin 12, j_z = (u_z.1 : Int) := ⟨⟨j_z.toNat, by omega⟩, by show j_z = ((j_z.toNat : Nat) : Int); omega⟩
    have hr : 0 ≤ rwS (A g 0) S_z i_z ∧ rwS (A g 0) S_z i_z < bgW A g := by
      unfold rwS
      by_cases q2_z : i_z < A g 0
      · rw [if_pos q2_z]
        have := (hS2 i_z i0_z q2_z).1
        unfold bgW
        omega
      · rw [if_neg q2_z]; exact ⟨i0_z, i1_z⟩
    have hs := (hS2 j_z j0 j1).1
    obtain ⟨f_z, hf⟩ : ∃ f_z : Fin 12, rwS (A g 0) S_z i_z = (f_z.1 : Int) := ⟨⟨(rwS (A g 0) S_z i_z).toNat, by omega⟩, by show rwS (A g 0) S_z i_z = (((rwS (A g 0) S_z i_z).toNat : Nat) : Int); omega⟩
    obtain ⟨q_z, hq⟩ : ∃ q_z : Fin 12, S_z j_z = (q_z.1 : Int) := ⟨⟨(S_z j_z).toNat, by omega⟩, by show S_z j_z = (((S_z j_z).toNat : Nat) : Int); omega⟩
    have h1 := hT_z w_z u_z f_z q_z (by rw [← hw]; exact i1_z) (by rw [← hu]; exact j1) (by rw [← hw, hf]) (by rw [← hu, hq])
    rw [(hg.2.2.2.1 w_z u_z (by rw [← hu]; exact j1)).1 (by rw [← hw]; exact i1_z), (hh.2.2.2.1 f_z q_z (by rw [← hq]; omega)).1 (by rw [← hf, ← eW]; exact hr.2)] at h1
    rw [hf, hq, hw, hu, Int.zero_add]
    exact h1
