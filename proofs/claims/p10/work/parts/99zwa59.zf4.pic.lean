/-! the row of all seeds, as mathematics says it, and its picture in the class's atlas -/
abbrev Fun12 : Type := cr_Pv 12 → Rat
def gpf (s : cx_Sd 12) (p : List (Fin 12)) (i : Fin 12) : Fun12 := fun x_z => (cr_gp s.b p x_z).1 i
def stepA (s : cx_Sd 12) (W P : Int) (La : List Fun12) (Rh : List (List (Fin 12))) (p : List (Fin 12)) (k : Fin 12) (o : Option (List Fun12 × List (List (Fin 12)))) : Prop := (¬ okS s p W P k ∧ o = none) ∨ (okS s p W P k ∧ (∃ q_z ∈ Rh, smS s (p ++ [k]) s q_z W P) ∧ o = some (La, Rh)) ∨ (okS s p W P k ∧ (¬ ∃ q_z ∈ Rh, smS s (p ++ [k]) s q_z W P) ∧ ((¬ Rh.length < 150 ∧ o = none) ∨ (gpf s (p ++ [k]) k ∈ La ∧ Rh.length < 150 ∧ o = some (La, Rh ++ [p ++ [k]])) ∨ (¬ gpf s (p ++ [k]) k ∈ La ∧ ¬ La.length < 100 ∧ o = none) ∨ (¬ gpf s (p ++ [k]) k ∈ La ∧ La.length < 100 ∧ Rh.length < 150 ∧ o = some (La ++ [gpf s (p ++ [k]) k], Rh ++ [p ++ [k]]))))
theorem stepA_u {s : cx_Sd 12} {W P : Int} {La : List Fun12} {Rh : List (List (Fin 12))} {p : List (Fin 12)} {k : Fin 12} {o o' : Option (List Fun12 × List (List (Fin 12)))} (h : stepA s W P La Rh p k o) (h' : stepA s W P La Rh p k o') : o = o' := by
  rcases h with ⟨a1_z, a2⟩ | ⟨a1_z, a2, a3⟩ | ⟨a1_z, a2, a3⟩
  · rcases h' with ⟨b1, b2⟩ | ⟨b1, b2, b3⟩ | ⟨b1, b2, b3⟩
    · rw [a2, b2]
    · exact absurd b1 a1_z
    · exact absurd b1 a1_z
  · rcases h' with ⟨b1, b2⟩ | ⟨b1, b2, b3⟩ | ⟨b1, b2, b3⟩
    · exact absurd a1_z b1
    · rw [a3, b3]
    · exact absurd a2 b2
  · rcases h' with ⟨b1, b2⟩ | ⟨b1, b2, b3⟩ | ⟨b1, b2, b3⟩
    · exact absurd a1_z b1
    · exact absurd b2 a2
    · rcases a3 with ⟨c1_z, c2_z⟩ | ⟨c1_z, c2_z, c3_z⟩ | ⟨c1_z, c2_z, c3_z⟩ | ⟨c1_z, c2_z, c3_z, c4_z⟩
      · rcases b3 with ⟨d1_z, d2_z⟩ | ⟨d1_z, d2_z, d3_z⟩ | ⟨d1_z, d2_z, d3_z⟩ | ⟨d1_z, d2_z, d3_z, d4_z⟩
        · rw [c2_z, d2_z]
        · exact absurd d2_z c1_z
        · rw [c2_z, d3_z]
        · exact absurd d3_z c1_z
      · rcases b3 with ⟨d1_z, d2_z⟩ | ⟨d1_z, d2_z, d3_z⟩ | ⟨d1_z, d2_z, d3_z⟩ | ⟨d1_z, d2_z, d3_z, d4_z⟩
        · exact absurd c2_z d1_z
        · rw [c3_z, d3_z]
        · exact absurd c1_z d1_z
        · exact absurd c1_z d1_z
      · rcases b3 with ⟨d1_z, d2_z⟩ | ⟨d1_z, d2_z, d3_z⟩ | ⟨d1_z, d2_z, d3_z⟩ | ⟨d1_z, d2_z, d3_z, d4_z⟩
        · rw [c3_z, d2_z]
        · exact absurd d1_z c1_z
        · rw [c3_z, d3_z]
        · exact absurd d2_z c2_z
      · rcases b3 with ⟨d1_z, d2_z⟩ | ⟨d1_z, d2_z, d3_z⟩ | ⟨d1_z, d2_z, d3_z⟩ | ⟨d1_z, d2_z, d3_z, d4_z⟩
        · exact absurd c3_z d1_z
        · exact absurd d1_z c1_z
        · exact absurd c2_z d2_z
        · rw [c4_z, d4_z]
def allA (s : cx_Sd 12) (W P : Int) : Nat → List Fun12 → List (List (Fin 12)) → Nat → Nat → Option (List Fun12 × List (List (Fin 12))) → Prop
  | 0, _, _, _, _, _ => False
  | n_z + 1, La_z, Rh, r_z, k_z, o => (Rh.length ≤ r_z ∧ o = some (La_z, Rh)) ∨ (r_z < Rh.length ∧ P ≤ (k_z : Int) ∧ allA s W P n_z La_z Rh (r_z + 1) 0 o) ∨ ((k_z : Int) < P ∧ ∃ (p_z : List (Fin 12)) (f_z : Fin 12), Rh[r_z]? = some p_z ∧ f_z.1 = k_z ∧ ((stepA s W P La_z Rh p_z f_z none ∧ o = none) ∨ ∃ (La' : List Fun12) (Rh' : List (List (Fin 12))), stepA s W P La_z Rh p_z f_z (some (La', Rh')) ∧ allA s W P n_z La' Rh' r_z (k_z + 1) o))
theorem allA_u {s : cx_Sd 12} {W P : Int} : ∀ {n_z m_z : Nat} {La_z : List Fun12} {Rh : List (List (Fin 12))} {r_z k_z : Nat} {o o' : Option (List Fun12 × List (List (Fin 12)))}, allA s W P n_z La_z Rh r_z k_z o → allA s W P m_z La_z Rh r_z k_z o' → o = o'
  | 0, _, _, _, _, _, _, _, h_z, _ => h_z.elim
  | _ + 1, 0, _, _, _, _, _, _, _, h_z => h_z.elim
  | n_z + 1, m_z + 1, La_z, Rh, r_z, k_z, o, o', h_z, h' => by
    rcases h_z with ⟨a1_z, a2⟩ | ⟨a1_z, a2, a3⟩ | ⟨a1_z, p_z, f_z, a2, a3, a4⟩
    · rcases h' with ⟨b1, b2⟩ | ⟨b1, b2, b3⟩ | ⟨b1, q_z, g_z, b2, b3, b4⟩
      · rw [a2, b2]
      · omega
      · have := (List.getElem?_eq_some_iff.mp b2).1
        omega
    · rcases h' with ⟨b1, b2⟩ | ⟨b1, b2, b3⟩ | ⟨b1, q_z, g_z, b2, b3, b4⟩
      · omega
      · exact allA_u a3 b3
      · omega
    · rcases h' with ⟨b1, b2⟩ | ⟨b1, b2, b3⟩ | ⟨b1, q_z, g_z, b2, b3, b4⟩
      · have := (List.getElem?_eq_some_iff.mp a2).1
        omega
      · omega
      · rw [a2] at b2
        have e1 := Option.some.inj b2
        have e2 : f_z = g_z := Fin.ext (by omega)
        subst e1
        subst e2
        rcases a4 with ⟨c1_z, c2_z⟩ | ⟨L1, R1, c1_z, c2_z⟩
        · rcases b4 with ⟨d1_z, d2_z⟩ | ⟨L2_z, R2, d1_z, d2_z⟩
          · rw [c2_z, d2_z]
          · have := stepA_u c1_z d1_z
            cases this
        · rcases b4 with ⟨d1_z, d2_z⟩ | ⟨L2_z, R2, d1_z, d2_z⟩
          · have := stepA_u c1_z d1_z
            cases this
          · have h3 := Option.some.inj (stepA_u c1_z d1_z)
            injection h3 with h4 h5
            subst h4
            subst h5
            exact allA_u c2_z d2_z
def ltr (B : pm_A) (c : Int) (f : Fun12) (W : Int) : Prop := srX B c ∧ cfX B c ∧ B c 0 = W ∧ ∀ x_z, f x_z = VX B c x_z
theorem ltr.sm {B C : pm_A} {c W : Int} {f : Fun12} (h : ltr B c f W) (sm : sme B C c) : ltr C c f W := ⟨sm.sr h.1, sm.cf h.2.1, by rw [sm.1 0]; exact h.2.2.1, fun x_z => by rw [VX_of sm x_z]; exact h.2.2.2 x_z⟩
theorem ltr.like {B : pm_A} {a c W : Int} {f g : Fun12} (hB : gH wX B) (ha : 0 ≤ a ∧ wX.2 a = 2) (hc : 0 ≤ c ∧ wX.2 c = 2) (hW : 1 ≤ W ∧ W ≤ 12) (h1 : ltr B a f W) (h2 : ltr B c g W) : lk B a c ↔ f = g := by
  have ma := fX_2_1 hB ha.1 ha.2
  have mc_z := fX_2_1 hB hc.1 hc.2
  constructor
  · intro hl
    refine funext fun x_z => ?_
    rw [h1.2.2.2 x_z, h2.2.2.2 x_z]
    unfold VX
    rw [lk_ls hl]
  · intro e_z
    refine ls_lk ma.1 mc_z.1 (by rw [h1.2.2.1]; exact hW) (by rw [h1.2.2.1, h2.2.2.1]) ?_
    refine cr_Shr.eq (shrX h1.1 (fun q_z q0 q1_z => (h1.2.1 q_z q0 q1_z).1)) (shrX h2.1 (fun q_z q0 q1_z => (h2.2.1 q_z q0 q1_z).1)) (cr_vl_unique (fun x_z => ?_))
    have e1 := h1.2.2.2 x_z
    have e2 := h2.2.2.2 x_z
    unfold VX at e1 e2
    rw [← e1, ← e2, e_z]
def posL (La : List Fun12) : Prop := ∀ f_z ∈ La, ∀ x_z, 0 < f_z x_z
theorem gpf_pos (s : cx_Sd 12) (p : List (Fin 12)) (i : Fin 12) (x : cr_Pv 12) : 0 < gpf s p i x := (cr_gp s.b p x).2 i
def pcL (B : pm_A) (La : List Fun12) (W : Int) : Prop := (B 72 1 = (La.length : Int) ∧ La.length ≤ 100) ∧ (∀ (l : Nat) (f_z : Fun12), La[l]? = some f_z → ltr B (107 + 3 * (l : Int)) f_z W) ∧ (∀ (l m_z : Nat) (f_z : Fun12), La[l]? = some f_z → La[m_z]? = some f_z → l = m_z) ∧ posL La
def pcR (s : cx_Sd 12) (B : pm_A) (La : List Fun12) (W P : Int) (r : Int) (p : List (Fin 12)) : Prop := (pthP p P ∧ zrw s p W P ∧ bdS s p W P) ∧ (∀ i_z : Fin 12, (i_z.1 : Int) < P → ∃ l : Nat, B 74 (6 * r + (i_z.1 : Int)) = (l : Int) ∧ La[l]? = some (gpf s p i_z)) ∧ (∀ i_z j_z : Fin 12, (i_z.1 : Int) < W → (j_z.1 : Int) < P → cr_bs s.b p i_z j_z = B 76 (72 * r + ((i_z.1 : Int) * 6 + (j_z.1 : Int)))) ∧ B 77 r = loM (fun j_z => B 74 (6 * r + j_z)) P.toNat ∧ B 78 r = hgM (fun j_z => B 74 (6 * r + j_z)) P.toNat
def pcX (s : cx_Sd 12) (B : pm_A) (Rh : List (List (Fin 12))) (W P : Int) : Prop := ∀ (r_z : Nat) (p_z : List (Fin 12)) (k_z : Fin 12), Rh[r_z]? = some p_z → (k_z.1 : Int) < P → ¬ B 75 (6 * (r_z : Int) + (k_z.1 : Int)) = 0 → okS s p_z W P k_z ∧ ∃ q_z ∈ Rh, smS s (p_z ++ [k_z]) s q_z W P
def pcA (s : cx_Sd 12) (B : pm_A) (La : List Fun12) (Rh : List (List (Fin 12))) (W P : Int) : Prop := (B 79 0 = P ∧ B 79 0 + B 79 1 = W) ∧ pcL B La W ∧ (B 72 7 = (Rh.length : Int) ∧ Rh.length ≤ 150) ∧ (∀ (r_z : Nat) (p_z : List (Fin 12)), Rh[r_z]? = some p_z → pcR s B La W P r_z p_z) ∧ pcX s B Rh W P
/-- bounds that stay through the search -/
def sWP (s : cx_Sd 12) (W P : Int) : Prop := (1 ≤ P ∧ P ≤ 6) ∧ (P ≤ W ∧ W ≤ 12) ∧ ∀ v_z k_z : Fin 12, (k_z.1 : Int) < P → s.b v_z k_z ≤ 9 ∧ -9 ≤ s.b v_z k_z
theorem fin_of {i W : Int} (i0 : 0 ≤ i) (i1 : i < W) (hW : W ≤ 12) : ∃ f_z : Fin 12, i = (f_z.1 : Int) := ⟨⟨i.toNat, by omega⟩, by show i = ((i.toNat : Nat) : Int); omega⟩
theorem num_dst {s : cx_Sd 12} {S : Int → Int} {La : List Fun12} {p : List (Fin 12)} {P : Int} (hP : P ≤ 6) (hL : La.length ≤ 100) (h : ∀ i_z : Fin 12, (i_z.1 : Int) < P → ∃ l : Nat, S (i_z.1 : Int) = (l : Int) ∧ La[l]? = some (gpf s p i_z)) : dst S P := by
  refine ⟨fun i_z i0_z i1_z => ?_, fun i_z j_z i0_z i1_z j0 j1 e_z => ?_⟩
  · obtain ⟨f_z, rfl⟩ := fin_of i0_z i1_z (by omega)
    obtain ⟨l, h1, h2⟩ := h f_z i1_z
    have h3 := (List.getElem?_eq_some_iff.mp h2).1
    omega
  · obtain ⟨f_z, rfl⟩ := fin_of i0_z i1_z (by omega)
    obtain ⟨g_z, rfl⟩ := fin_of j0 j1 (by omega)
    obtain ⟨l, h1, h2⟩ := h f_z i1_z
    obtain ⟨m_z, h3, h4⟩ := h g_z j1
    have hlm : l = m_z := by omega
    rw [hlm, h4] at h2
    have h5 := Option.some.inj h2
    refine Classical.byContradiction (fun hn => gp_ne s p (i := f_z) (j := g_z) (fun q_z => hn (by rw [q_z])) (fun x_z => ?_))
    exact (congrFun h5 x_z).symm
/-- the seed at hand, by numbers of letters -/
def cuS (s : cx_Sd 12) (B : pm_A) (La : List Fun12) (W P : Int) (p : List (Fin 12)) : Prop := (∀ i_z : Fin 12, (i_z.1 : Int) < P → ∃ l : Nat, B 102 (i_z.1 : Int) = (l : Int) ∧ La[l]? = some (gpf s p i_z)) ∧ ∀ i_z j_z : Fin 12, (i_z.1 : Int) < W → (j_z.1 : Int) < P → cr_bs s.b p i_z j_z = B 80 ((i_z.1 : Int) * 6 + (j_z.1 : Int))
theorem thr_T {s : cx_Sd 12} {B : pm_A} {La : List Fun12} {W P r : Int} {p q : List (Fin 12)} {M : Int → Int} (hs : sWP s W P) (e : B 79 0 = P ∧ B 79 0 + B 79 1 = W) (hc : cuS s B La W P p) (hr : pcR s B La W P r q) (h : thr B r M) : sxT s p s q W P (sgm P M) ∧ ∀ k_z : Fin 12, (k_z.1 : Int) < P → ((sgm P M k_z).1 : Int) = M (k_z.1 : Int) := by
  obtain ⟨h1, h2⟩ := h
  rw [e.1] at h1
  have hW : bgW B 79 = W := e.2
  rw [hW, e.1] at h2
  have hv : ∀ i_z : Fin 12, (i_z.1 : Int) < P → ((sgm P M i_z).1 : Int) = M (i_z.1 : Int) := fun i_z hi_z => by
    have h3 := (h1 i_z.1 (by omega) hi_z).1
    exact sgm_v hi_z h3.1 (by have := hs.1; omega)
  have hn : ∀ i_z : Fin 12, ¬ (i_z.1 : Int) < P → sgm P M i_z = i_z := fun i_z hi_z => if_neg hi_z
  refine ⟨⟨fun i_z hi_z => ?_, hn, fun i_z hi_z x_z => ?_, fun i_z j_z hi_z hj => ?_⟩, hv⟩
  · rw [hv i_z hi_z]
    exact (h1 i_z.1 (by omega) hi_z).1.2
  · have h3 := h1 i_z.1 (by omega) hi_z
    obtain ⟨l, a1_z, a2⟩ := hc.1 i_z hi_z
    obtain ⟨m_z, b1, b2⟩ := hr.2.1 (sgm P M i_z) (by rw [hv i_z hi_z]; exact h3.1.2)
    rw [hv i_z hi_z] at b1
    have hlm : l = m_z := by have := h3.2; omega
    rw [hlm, b2] at a2
    exact congrFun (Option.some.inj a2) x_z
  · have h3 := h2 i_z.1 j_z.1 (by omega) hi_z (by omega) hj
    rw [hc.2 i_z j_z hi_z hj, h3]
    have e1 : ((sgm P M i_z).1 : Int) = rwS P M i_z.1 := by
      unfold rwS
      by_cases q2_z : (i_z.1 : Int) < P
      · rw [if_pos q2_z]; exact hv i_z q2_z
      · rw [if_neg q2_z, hn i_z q2_z]
    rw [hr.2.2.1 (sgm P M i_z) (sgm P M j_z) ?_ ?_, e1, hv j_z hj, Int.add_assoc]
    · by_cases q2_z : (i_z.1 : Int) < P
      · rw [hv i_z q2_z]
        have := (h1 i_z.1 (by omega) q2_z).1
        have := hs.2.1
        omega
      · rw [hn i_z q2_z]; exact hi_z
    · rw [hv j_z hj]
      exact (h1 j_z.1 (by omega) hj).1.2
theorem T_thr {s : cx_Sd 12} {B : pm_A} {La : List Fun12} {W P r : Int} {p q : List (Fin 12)} (hs : sWP s W P) (e : B 79 0 = P ∧ B 79 0 + B 79 1 = W) (hnd : ∀ (l m_z : Nat) (f_z : Fun12), La[l]? = some f_z → La[m_z]? = some f_z → l = m_z) (hc : cuS s B La W P p) (hr : pcR s B La W P r q) (h : smS s p s q W P) : ∃ M_z, thr B r M_z := by
  obtain ⟨f_z, hf⟩ := smS_T h
  have hc2 : ∀ i_z : Fin 12, (if w_z : 0 ≤ (i_z.1 : Int) ∧ (i_z.1 : Int) < 12 then (((f_z ⟨((i_z.1 : Int)).toNat, by omega⟩).1 : Nat) : Int) else 0) = ((f_z i_z).1 : Int) := fun i_z => by
    have hi_z := i_z.2
    rw [dif_pos ⟨by omega, by omega⟩]
    have e : (⟨((i_z.1 : Int)).toNat, by omega⟩ : Fin 12) = i_z := Fin.ext (by show ((i_z.1 : Int)).toNat = i_z.1; omega)
    rw [e]
  refine ⟨fun z_z => if w_z : 0 ≤ z_z ∧ z_z < 12 then (((f_z ⟨z_z.toNat, by omega⟩).1 : Nat) : Int) else 0, fun i_z i0_z i1_z => ?_, fun i_z j_z i0_z i1_z j0 j1 => ?_⟩
  · rw [e.1] at i1_z ⊢
    obtain ⟨w_z, rfl⟩ := fin_of i0_z i1_z (by have := hs.1; omega)
    show (0 ≤ (if w_1 : 0 ≤ (w_z.1 : Int) ∧ (w_z.1 : Int) < 12 then (((f_z ⟨((w_z.1 : Int)).toNat, by omega⟩).1 : Nat) : Int) else 0) ∧ (if w_1 : 0 ≤ (w_z.1 : Int) ∧ (w_z.1 : Int) < 12 then (((f_z ⟨((w_z.1 : Int)).toNat, by omega⟩).1 : Nat) : Int) else 0) < P) ∧ B 74 (6 * r + (if w_1 : 0 ≤ (w_z.1 : Int) ∧ (w_z.1 : Int) < 12 then (((f_z ⟨((w_z.1 : Int)).toNat, by omega⟩).1 : Nat) : Int) else 0)) = B 102 (w_z.1 : Int)
    rw [hc2 w_z]
    have hw := hf.1 w_z i1_z
    refine ⟨⟨by omega, hw⟩, ?_⟩
    obtain ⟨l, a1_z, a2⟩ := hc.1 w_z i1_z
    obtain ⟨m_z, b1, b2⟩ := hr.2.1 (f_z w_z) hw
    have e3 : gpf s q (f_z w_z) = gpf s p w_z := funext fun x_z => hf.2.2.1 w_z i1_z x_z
    rw [e3] at b2
    have hlm := hnd l m_z _ a2 b2
    rw [a1_z, b1, hlm]
  · have hW : bgW B 79 = W := e.2
    rw [hW] at i1_z
    rw [e.1] at j1 ⊢
    obtain ⟨w_z, rfl⟩ := fin_of i0_z i1_z hs.2.1.2
    obtain ⟨u_z, rfl⟩ := fin_of j0 j1 (by have := hs.1; omega)
    have e1 : rwS P (fun z_z => if w_z : 0 ≤ z_z ∧ z_z < 12 then (((f_z ⟨z_z.toNat, by omega⟩).1 : Nat) : Int) else 0) (w_z.1 : Int) = ((f_z w_z).1 : Int) := by
      unfold rwS
      by_cases q2_z : (w_z.1 : Int) < P
      · rw [if_pos q2_z]; exact hc2 w_z
      · rw [if_neg q2_z, hf.2.1 w_z q2_z]
    show B 80 ((w_z.1 : Int) * 6 + (u_z.1 : Int)) = B 76 (72 * r + rwS P (fun z_z => if w_z : 0 ≤ z_z ∧ z_z < 12 then (((f_z ⟨z_z.toNat, by omega⟩).1 : Nat) : Int) else 0) (w_z.1 : Int) * 6 + (if w_1 : 0 ≤ (u_z.1 : Int) ∧ (u_z.1 : Int) < 12 then (((f_z ⟨((u_z.1 : Int)).toNat, by omega⟩).1 : Nat) : Int) else 0))
    rw [e1, hc2 u_z, ← hc.2 w_z u_z i1_z j1, hf.2.2.2 w_z u_z i1_z j1, hr.2.2.1 (f_z w_z) (f_z u_z) ?_ (hf.1 u_z j1), Int.add_assoc]
    by_cases q2_z : (w_z.1 : Int) < P
    · have := hf.1 w_z q2_z
      have := hs.2.1
      omega
    · rw [hf.2.1 w_z q2_z]; exact i1_z
