/-! rows of turns, as mathematics says them, and the class's walkRow and order exactly -/
def itS (s : cx_Sd 12) (ks : List (Fin 12)) (W P : Int) (k : Fin 12) : Prop := ∀ i_z j_z : Fin 12, (i_z.1 : Int) < W → (j_z.1 : Int) < P → -9999 ≤ cr_turnB (cr_bs s.b ks) k i_z j_z ∧ cr_turnB (cr_bs s.b ks) k i_z j_z ≤ 9999
theorem TrX.its {s : cx_Sd 12} {ks : List (Fin 12)} {A : pm_A} {g : Int} (h : TrX s ks A g) {k : Fin 12} (hk : (k.1 : Int) < A g 0) : itB (A (A g 2)) (bgW A g) (A g 0) k.1 ↔ itS s ks (bgW A g) (A g 0) k := by
  have pg := fX_1_0 h.1 h.2.1.1 h.2.1.2
  have qg := fX_1_1 h.1 h.2.1.1 h.2.1.2
  constructor
  · intro hi_z i_z j_z hi1 hj1
    rw [tv_trX h hk hj1 hi1]
    unfold tvT
    by_cases e_z : (i_z.1 : Int) = (k.1 : Int) ∨ (j_z.1 : Int) = (k.1 : Int)
    · rw [if_pos e_z]
      have := h.2.2.2.2.2.2.1 i_z.1 j_z.1 (by omega) hi1 (by omega) hj1
      omega
    · rw [if_neg e_z]
      exact hi_z i_z.1 j_z.1 (by omega) hi1 (by omega) hj1 (fun q_z => e_z (Or.inl q_z)) (fun q_z => e_z (Or.inr q_z))
  · intro hi_z i_z j_z i0_z i1_z j0 j1 n1_z n2_z
    have hW : bgW A g ≤ 12 := by unfold bgW; omega
    obtain ⟨w_z, hw⟩ : ∃ w_z : Fin 12, i_z = (w_z.1 : Int) := ⟨⟨i_z.toNat, by omega⟩, by show i_z = ((i_z.toNat : Nat) : Int); omega⟩
    obtain ⟨u_z, hu⟩ : ∃ u_z : Fin 12, j_z = (u_z.1 : Int) := ⟨⟨j_z.toNat, by omega⟩, by show j_z = ((j_z.toNat : Nat) : Int); omega⟩
    rw [hw] at i1_z n1_z
    rw [hu] at j1 n2_z
    have h1 := hi_z w_z u_z i1_z j1
    rw [tv_trX h hk j1 i1_z] at h1
    unfold tvT at h1
    rw [if_neg (fun q_z => q_z.elim n1_z n2_z)] at h1
    rw [hw, hu]
    exact h1
theorem Tru.its {s : cx_Sd 12} {ks : List (Fin 12)} {A : pm_A} (h : Tru s ks A) {k : Fin 12} (hk : (k.1 : Int) < A 0 7) : arO A k.1 ↔ itS s ks (A 0 7 + A 0 8) (A 0 7) k := by
  have p7_z := fM_0_7 h.1 (r := 0) (by omega) km0
  have p8 := fM_0_8 h.1 (r := 0) (by omega) km0
  constructor
  · intro hi_z i_z j_z hi1 hj1
    rw [tv_turn h hk hj1 hi1]
    exact hi_z i_z.1 j_z.1 (by omega) hi1 (by omega) hj1
  · intro hi_z i_z j_z i0_z i1_z j0 j1
    obtain ⟨w_z, hw⟩ : ∃ w_z : Fin 12, i_z = (w_z.1 : Int) := ⟨⟨i_z.toNat, by omega⟩, by show i_z = ((i_z.toNat : Nat) : Int); omega⟩
    obtain ⟨u_z, hu⟩ : ∃ u_z : Fin 12, j_z = (u_z.1 : Int) := ⟨⟨j_z.toNat, by omega⟩, by show j_z = ((j_z.toNat : Nat) : Int); omega⟩
    rw [hw] at i1_z
    rw [hu] at j1
    have h1 := hi_z w_z u_z i1_z j1
    rw [tv_turn h hk j1 i1_z] at h1
    rw [hw, hu]
    exact h1
def okS (s : cx_Sd 12) (ks : List (Fin 12)) (W P : Int) (k : Fin 12) : Prop := ¬ spB s ks k ∧ itS s ks W P k
theorem nok {s : cx_Sd 12} {ks : List (Fin 12)} {W P : Int} {k : Fin 12} {I : Prop} (e : I ↔ itS s ks W P k) (h : spB s ks k ∨ ¬ I) : ¬ okS s ks W P k := fun q_z => h.elim q_z.1 (fun n_z => n_z (e.2 q_z.2))
def wkS (s : cx_Sd 12) (W P : Int) : List (Fin 12) → List (Fin 12) → Prop
  | _, [] => True
  | ks_z, k_z :: l => okS s ks_z W P k_z ∧ wkS s W P (ks_z ++ [k_z]) l
theorem wkS_app (s : cx_Sd 12) (W P : Int) (l' : List (Fin 12)) : ∀ (l ks_z : List (Fin 12)), wkS s W P ks_z (l ++ l') ↔ wkS s W P ks_z l ∧ wkS s W P (ks_z ++ l) l'
  | [], ks_z => by
    rw [List.nil_append, List.append_nil]
    exact ⟨fun h_z => ⟨trivial, h_z⟩, fun h_z => h_z.2⟩
  | k_z :: l, ks_z => by
    have e_z : ks_z ++ [k_z] ++ l = ks_z ++ k_z :: l := by rw [List.append_assoc]; rfl
    have h_z := wkS_app s W P l' l (ks_z ++ [k_z])
    rw [e_z] at h_z
    show (okS s ks_z W P k_z ∧ wkS s W P (ks_z ++ [k_z]) (l ++ l')) ↔ ((okS s ks_z W P k_z ∧ wkS s W P (ks_z ++ [k_z]) l) ∧ wkS s W P (ks_z ++ k_z :: l) l')
    exact ⟨fun q_z => ⟨⟨q_z.1, (h_z.1 q_z.2).1⟩, (h_z.1 q_z.2).2⟩, fun q_z => ⟨q_z.1.1, h_z.2 ⟨q_z.1.2, q_z.2⟩⟩⟩
def rwL (R : Int → Int) (n : Int) (L : List (Fin 12)) : Prop := (L.length : Int) = n ∧ ∀ (i_z : Nat) (f_z : Fin 12), L[i_z]? = some f_z → R (i_z : Int) = (f_z.1 : Int)
def rwF (R : Int → Int) (i : Nat) : Fin 12 := if h_z : 0 ≤ R (i : Int) ∧ R (i : Int) < 12 then ⟨(R (i : Int)).toNat, by omega⟩ else 0
theorem rwL_ex {R : Int → Int} {n : Int} (n0 : 0 ≤ n) (h : ∀ i_z : Int, 0 ≤ i_z → i_z < n → 0 ≤ R i_z ∧ R i_z < 12) : ∃ L_z, rwL R n L_z := by
  refine ⟨(List.range n.toNat).map (rwF R), ?_, ?_⟩
  · rw [List.length_map, List.length_range]; omega
  · intro i_z f_z hf
    rw [List.getElem?_map] at hf
    have hi_z : i_z < n.toNat := by
      refine Classical.byContradiction (fun hn => ?_)
      rw [List.getElem?_eq_none (by rw [List.length_range]; omega)] at hf
      cases hf
    rw [List.getElem?_range hi_z] at hf
    have h2 : rwF R i_z = f_z := Option.some.inj hf
    have h3 := h i_z (by omega) (by omega)
    unfold rwF at h2
    rw [dif_pos h3] at h2
    rw [← h2]
    show R (i_z : Int) = (((R (i_z : Int)).toNat : Nat) : Int)
    omega
theorem rwL_c {R R' : Int → Int} {n : Int} {L : List (Fin 12)} (h : rwL R n L) (e : ∀ i_z : Int, 0 ≤ i_z → i_z < n → R' i_z = R i_z) : rwL R' n L := ⟨h.1, fun i_z f_z hf => by
  have hi_z := (List.getElem?_eq_some_iff.mp hf).1
  have h1 := h.1
  rw [e i_z (by omega) (by omega)]
  exact h.2 i_z f_z hf⟩
theorem rwL_m {R : Int → Int} {n P : Int} {L : List (Fin 12)} (h : rwL R n L) (hP : ∀ i_z : Int, 0 ≤ i_z → i_z < n → R i_z < P) : ∀ f_z ∈ L, (f_z.1 : Int) < P := fun f_z hf => by
  obtain ⟨i_z, hi_z⟩ := List.mem_iff_getElem?.mp hf
  have h1 := (List.getElem?_eq_some_iff.mp hi_z).1
  have h2 := h.1
  have h3 := hP i_z (by omega) (by omega)
  rw [h.2 i_z f_z hi_z] at h3
  exact h3
theorem exF.hi {A B : pm_A} (hS : StE A) (h : exF A B 28) {r : Int} (hr : 100 ≤ r) (j : Int) : B r j = A r j := by
  refine h.2.1 r j ?_
  have a10 := hS.2.1.1.2.2.2.2.2.2.2.2.2.1
  have a11 := hS.2.1.1.2.2.2.2.2.2.2.2.2.2
  have m1_z := hS.2.2.1
  have p_z := (hS.2.1.2.2.2.2.1 12 (by omega) (by omega)).1
  rw [pc_12] at p_z
  rintro (⟨n_z, hn, hq⟩ | hq | hq)
  · have hk := ml_k hS.1 (⟨by omega, kk28⟩ : (0 : Int) ≤ 28 ∧ wX.2 28 = 4) hn.1 hn.2
    have e2 := hS.2.1.2.1 _ hk.1 hk.2
    have e3 := hS.2.2.2.1 _ hk.1 hk.2
    have hn2 : n_z = 0 ∨ n_z = 1 ∨ n_z = 2 ∨ n_z = 3 ∨ n_z = 4 := by omega
    have hlt : A 28 n_z < 72 := by
      rcases hn2 with rfl | rfl | rfl | rfl | rfl <;> omega
    omega
  · omega
  · omega
theorem se_hi {A C : pm_A} {g L o k : Int} (h : StE A) (ho : own g L o) (hP : sePX A g L k (none, C)) {r : Int} (hr : 100 ≤ r) (j : Int) : C r j = A r j := by
  obtain ⟨_, _, c2_z, _⟩ := hP
  simp only at c2_z
  have e_z := h.2.2.2.2.2.1 g (own_k ho).1.1 (own_k ho).1.2
  rw [c2_z r j (by rcases ho with ⟨rfl, rfl, rfl⟩ | ⟨rfl, rfl, rfl⟩ <;> omega)]
  exact swp_ne (by rcases ho with ⟨rfl, rfl, rfl⟩ | ⟨rfl, rfl, rfl⟩ <;> omega) (by omega)
/-- what walkRow and order leave: A is the world behind the copy -/
def wvF (s : cx_Sd 12) (ks : List (Fin 12)) (A B : pm_A) : Prop := StE B ∧ TrX s ks B 1 ∧ (∀ j_z : Int, B 0 j_z = A 0 j_z) ∧ (∀ j_z : Int, B 46 j_z = A 46 j_z) ∧ (∀ j_z : Int, B 1 j_z = A 1 j_z) ∧ (∀ j_z : Int, B (A 0 6) j_z = A (A 0 6) j_z) ∧ (∀ j_z : Int, B 49 j_z = A 49 j_z) ∧ (∀ r_z j_z : Int, 100 ≤ r_z → B r_z j_z = A r_z j_z) ∧ ∀ j_z : Int, B 3 j_z = A 3 j_z
theorem kk3 : wX.2 3 = 11 := by decide
theorem wvF.ex {s : cx_Sd 12} {ks : List (Fin 12)} {A B C : pm_A} (h : wvF s ks A B) (hF : exF B C 28) (hk : wX.2 (A 0 6) = 21) : wvF s ks A C := by
  obtain ⟨h1, h2, h4, h5, h6, h7, h8, h9, h3⟩ := h
  refine ⟨h1.keep hF, h2.keep (h1.ex own1) hF, fun j_z => ?_, fun j_z => ?_, fun j_z => ?_, fun j_z => ?_, fun j_z => ?_, fun r_z j_z hr => ?_, fun j_z => ?_⟩
  · rw [hF.ce h1.1 kk0 (by decide) (by decide) (by decide) (by decide)]; exact h4 j_z
  · rw [hF.ce h1.1 kk46 (by decide) (by decide) (by decide) (by decide)]; exact h5 j_z
  · rw [hF.ce h1.1 kk1 (by decide) (by decide) (by decide) (by decide)]; exact h6 j_z
  · rw [hF.ce h1.1 hk (by decide) (by decide) (by decide) (by decide)]; exact h7 j_z
  · rw [hF.ce h1.1 kk49 (by decide) (by decide) (by decide) (by decide)]; exact h8 j_z
  · rw [hF.hi h1 hr j_z]; exact h9 r_z j_z hr
  · rw [hF.ce h1.1 kk3 (by decide) (by decide) (by decide) (by decide)]; exact h3 j_z
def wyP (s : cx_Sd 12) (ks ls L : List (Fin 12)) (A : pm_A) (W P : Int) (r : pm_R) : Prop := wvF s ks A r.2 ∧ ((r.1 = some (0, 0) ∧ ¬ wkS s W P ls L) ∨ (r.1 = some (0, 1) ∧ wkS s W P ls L ∧ TrX s (ls ++ L) r.2 49))
theorem take_s {L : List (Fin 12)} {n : Nat} {f : Fin 12} (h : L[n]? = some f) : L.take (n + 1) = L.take n ++ [f] := by
  rw [List.take_succ, h]; rfl
theorem wy_32 {s : cx_Sd 12} {ks ls : List (Fin 12)} {A B0 B : pm_A} {f : Fin 12} {i : Int} (i0 : 0 ≤ i) (i1 : i ≤ 11) (hI : wvF s ks A B0) (hr : 0 ≤ A 0 6 ∧ wX.2 (A 0 6) = 21) (hT : TrX s ls B0 49) (hf : A (A 0 6) i = (f.1 : Int)) (hk : (f.1 : Int) < B0 49 0) (hF : exF B0 B 28) (hit : itB (B0 (B0 49 2)) (bgW B0 49) (B0 49 0) f.1) (c0 : B (B0 28 0) 0 = bgW B0 49) (cs : srX B (B0 28 0)) (cc : cfX B (B0 28 0)) (cv : ∀ x_z, (cr_gp s.b (ls ++ [f]) x_z).1 f = VX B (B0 28 0) x_z) {z : pm_R → Prop} (H : ∀ C_z, wvF s ks A C_z → TrX s (ls ++ [f]) C_z 49 → Tm pmt (an_sh wX) o_X9_walkRow 2 ([(2, 0), (0, i + 1)], [], C_z) z) : Tm pmt (an_sh wX) o_X9_walkRow 32 ([(2, 0), (0, i)], [], B) z := by
  have hI2 := hI.ex hF hr.2
  obtain ⟨s1_z, s2_z, s4_z, s5, s6_z, s7, s8, s9, s3_z⟩ := hI2
  have hS0 := hI.1
  have a2 := s1_z.2.1.1.2.1
  have a8 := s1_z.2.1.1.2.2.1
  have hTB := hT.keep (hS0.ex own49) hF
  have eg := (hF.gs hS0.1 (hS0.ex own49)).2.1
  have e06 : B 0 6 = A 0 6 := s4_z 6
  have ef : B (B 0 6) i = (f.1 : Int) := by rw [e06, s7 i]; exact hf
  refine wq_ok srt_walkRow (fr := []) (cuts := [2]) (J := fun pc st_z => pc = 2 ∧ ∃ C_z, sePX B 49 52 f.1 (none, C_z) ∧ st_z = ([(2, 0), (0, i + 1)], [], C_z)) ?_ 20 32 _ ?_
  · rintro pc st_z ⟨rfl, C_z, hC, rfl⟩
    have hSC := s1_z.swap own49 (show (0 : Int) ≤ f.1 by omega) (by have p6_z := fX_1_0 hS0.1 (r := 49) (by omega) kk49; omega) hC.2.1 hC.2.2.1
    have hC0 := hC
    obtain ⟨_, c1_z, c2_z, c3_z⟩ := hC
    simp only at c1_z c2_z c3_z
    have e49 := s1_z.2.2.2.2.2.1 49 (by omega) kk49
    rw [e49.1] at c2_z
    have hh : ∀ r_z j_z : Int, ¬ r_z = 50 → ¬ r_z = 52 → ¬ r_z = 28 → C_z r_z j_z = B r_z j_z := fun r_z j_z h1 h2 h3 => by
      rw [c2_z r_z j_z (by omega)]; exact swp_ne h2 h3
    have t2_z := fX_1_2 s1_z.1 (r := 49) (by omega) kk49
    rw [e49.1] at t2_z
    refine H C_z ⟨hSC, se_far s1_z s2_z hC0, fun j_z => ?_, fun j_z => ?_, fun j_z => ?_, fun j_z => ?_, fun j_z => ?_, fun r_z j_z hr => ?_, fun j_z => ?_⟩ (hT.next hS0 own49 hk hF hit c0 cs cc cv hC0)
    · rw [hh 0 j_z (by omega) (by omega) (by omega)]; exact s4_z j_z
    · rw [hh 46 j_z (by omega) (by omega) (by omega)]; exact s5 j_z
    · rw [hh 1 j_z (by omega) (by omega) (by omega)]; exact s6_z j_z
    · rw [hh _ j_z (knd hr.2 t2_z.2 (by decide)) (knd hr.2 kk52 (by decide)) (knd hr.2 kk28 (by decide))]; exact s7 j_z
    · rw [hh 49 j_z (by omega) (by omega) (by omega)]; exact s8 j_z
    · rw [hh r_z j_z (by omega) (by omega) (by omega)]; exact s9 r_z j_z hr
    · rw [hh 3 j_z (by omega) (by omega) (by omega)]; exact s3_z j_z
  · refine ⟨oX_0 z0 kk0 2 rfl, ?_⟩
    refine ⟨oX_0 z0 kk0 8 rfl, ?_⟩
    refine ⟨oX_0 z0 kk0 6 rfl, ?_⟩
    refine ⟨aX_21 (by rw [e06]; exact hr.1) (by rw [e06]; exact hr.2) i0 (by omega), ?_⟩
    refine ⟨rX_4 (r := B 0 2) (by rw [a2]; omega) (by rw [a2]; exact kk28), ?_⟩
    show Cl pmt (an_sh wX) 47 [(2, B 0 2), (2, B 0 8), (0, B (B 0 6) i)] B _
    rw [a8, a2, ef]
    refine (settle_exX s1_z own49 (by omega) (by rw [eg 0]; exact hk) hTB.2.2.2.2.2.2.1).imp ?_
    rintro ⟨r1_z, C_z⟩ hC
    have hr1 : r1_z = none := hC.1
    subst hr1
    refine ⟨⟨by omega, by omega⟩, ?_⟩
    exact ⟨rfl, C_z, hC, rfl⟩
theorem wy_2 {s : cx_Sd 12} {ks ls L : List (Fin 12)} {A : pm_A} (hr : 0 ≤ A 0 6 ∧ wX.2 (A 0 6) = 21) (hL : rwL (A (A 0 6)) (A 0 7) L) (hP : ∀ f_z ∈ L, (f_z.1 : Int) < A 49 0) : ∀ (n_z i_z : Nat) (B_z : pm_A), 12 - i_z < n_z → i_z ≤ L.length → wvF s ks A B_z → wkS s (bgW A 49) (A 49 0) ls (L.take i_z) → TrX s (ls ++ L.take i_z) B_z 49 → Tm pmt (an_sh wX) o_X9_walkRow 2 ([(2, 0), (0, (i_z : Int))], [], B_z) (wyP s ks ls L A (bgW A 49) (A 49 0)) := by
  intro n_z
  induction n_z with
  | zero => intro i_z B_z h_z; omega
  | succ n_z ih_z =>
    intro i_z B_z hn i1_z hI hw hT_z
    have hI0 := hI
    obtain ⟨h1, h2, h4, h5, h6, h7, h8, h9, h3⟩ := hI
    have a2 := h1.2.1.1.2.1
    have a8 := h1.2.1.1.2.2.1
    have n0_z := fX_0_7 h1.1 z0 kk0
    have e06 : B_z 0 6 = A 0 6 := h4 6
    have e07 : B_z 0 7 = A 0 7 := h4 7
    have eP : B_z 49 0 = A 49 0 := h8 0
    have eW : bgW B_z 49 = bgW A 49 := by unfold bgW; rw [h8 0, h8 1]
    have hlen := hL.1
    have go_z : ∀ f_z : Fin 12, L[i_z]? = some f_z → L.take (i_z + 1) = L.take i_z ++ [f_z] := fun f_z hf => take_s hf
    refine wq_ok srt_walkRow (fr := []) (cuts := [32]) (J := fun pc st_z => pc = 32 ∧ ∃ (f_z : Fin 12) (C_z : pm_A), L[i_z]? = some f_z ∧ exPX s (ls ++ L.take i_z) f_z B_z 28 49 (some (0, 1), C_z) ∧ st_z = ([(2, 0), (0, (i_z : Int))], [], C_z)) ?_ 20 2 _ ?_
    · rintro pc st_z ⟨rfl, f_z, C_z, hf, hC, rfl⟩
      obtain ⟨hF, hC⟩ := hC
      simp only at hF hC
      rcases hC with ⟨q_z, _⟩ | ⟨_, hok, c0_z, cs, cc, cv⟩
      · cases q_z
      · have hi_z := (List.getElem?_eq_some_iff.mp hf).1
        have hm_z := hP f_z (List.mem_of_getElem? hf)
        refine wy_32 (by omega) (by omega) hI0 hr hT_z (hL.2 i_z f_z hf) (by omega) hF hok.2 c0_z cs cc cv (fun D_z hD hTD => ?_)
        refine ih_z (i_z + 1) D_z (by omega) (by omega) hD ?_ ?_
        · rw [go_z f_z hf, wkS_app]
          refine ⟨hw, ⟨hok.1, ?_⟩, trivial⟩
          rw [← eW, ← eP]
          exact (hT_z.its (by omega)).1 hok.2
        · rw [go_z f_z hf, ← List.append_assoc]
          exact hTD
    · refine ⟨oX_0 z0 kk0 7 rfl, ?_⟩
      refine ⟨fun h_z => ?_, fun h_z => ?_⟩
      · have hi_z : i_z = L.length := by omega
        rw [hi_z, List.take_length] at hw hT_z
        exact ⟨rfl, hI0, Or.inr ⟨rfl, hw, hT_z⟩⟩
      · have hi_z : i_z < L.length := by omega
        have hf : L[i_z]? = some L[i_z] := List.getElem?_eq_getElem hi_z
        generalize L[i_z] = f_z at hf
        have hm_z := hP f_z (List.mem_of_getElem? hf)
        have ef : B_z (B_z 0 6) (i_z : Int) = (f_z.1 : Int) := by rw [e06, h7]; exact hL.2 i_z f_z hf
        refine ⟨oX_0 z0 kk0 2 rfl, ?_⟩
        refine ⟨oX_0 z0 kk0 8 rfl, ?_⟩
        refine ⟨oX_0 z0 kk0 6 rfl, ?_⟩
        refine ⟨aX_21 (by rw [e06]; exact hr.1) (by rw [e06]; exact hr.2) (by omega) (by omega), ?_⟩
        refine ⟨rX_4 (r := B_z 0 2) (by rw [a2]; omega) (by rw [a2]; exact kk28), ?_⟩
        show Cl pmt (an_sh wX) 42 [(2, B_z 0 2), (2, B_z 0 8), (0, B_z (B_z 0 6) (i_z : Int))] B_z _
        rw [a8, a2, ef]
        refine (exchange_exX hT_z (h1.ex own49) (by omega)).imp ?_
        rintro ⟨r1_z, C_z⟩ hC
        have hC0 := hC
        obtain ⟨hF, hC⟩ := hC
        simp only at hF hC
        rcases hC with ⟨rfl, hno⟩ | ⟨rfl, _⟩
        · refine ⟨fun hh => absurd rfl hh, fun _ => ?_⟩
          refine ⟨rfl, hI0.ex hF hr.2, Or.inl ⟨rfl, fun hall => ?_⟩⟩
          have hn2 := nok (hT_z.its (show (f_z.1 : Int) < B_z 49 0 by omega)) hno
          rw [eW, eP] at hn2
          have e2 : L = L.take i_z ++ f_z :: L.drop (i_z + 1) := by
            have e3 : L.drop i_z = f_z :: L.drop (i_z + 1) := by
              rw [List.drop_eq_getElem_cons hi_z]
              have e4_z : L[i_z]? = some L[i_z] := List.getElem?_eq_getElem hi_z
              rw [hf] at e4_z
              rw [Option.some.inj e4_z]
            rw [← e3, List.take_append_drop]
          rw [e2, wkS_app] at hall
          exact hn2 hall.2.1
        · refine ⟨fun _ => ?_, fun hh => absurd hh (by decide)⟩
          exact ⟨rfl, f_z, C_z, hf, hC0, rfl⟩
theorem walkRow_exY {s : cx_Sd 12} {ks ls L : List (Fin 12)} {A B : pm_A} (hr : 0 ≤ A 0 6 ∧ wX.2 (A 0 6) = 21) (hL : rwL (A (A 0 6)) (A 0 7) L) (hP : ∀ f_z ∈ L, (f_z.1 : Int) < A 49 0) (hI : wvF s ks A B) (hT : TrX s ls B 49) : Cl pmt (an_sh wX) 118 [(2, 0)] B (wyP s ks ls L A (bgW A 49) (A 49 0)) := by
  refine Cl.of (Nat.le_of_ble_eq_true rfl) ?_
  refine wq_ok (full := o_X9_walkRow) srt_walkRow (fr := []) (cuts := [2]) (J := fun pc st_z => pc = 2 ∧ st_z = ([(2, 0), (0, 0)], [], B)) ?_ 20 0 _ ?_
  · rintro pc st_z ⟨rfl, rfl⟩
    exact wy_2 hr hL hP _ 0 B (Nat.lt_succ_self _) (Nat.zero_le _) hI trivial (by rw [List.take_zero, List.append_nil]; exact hT)
  · exact ⟨rfl, rfl⟩
