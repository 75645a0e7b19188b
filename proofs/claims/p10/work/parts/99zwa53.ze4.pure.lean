/-! seeds that are the same but for the order of their places turn alike -/
theorem mol_perm {l l' : List (Fin 12)} (h : l.Perm l') (v : Fin 12 → Rat) (a : Fin 12 → Int) : cr_mol l v a = cr_mol l' v a := by
  induction h with
  | nil => rfl
  | cons x_z _ ih_z => rw [cr_mol_cons, cr_mol_cons, ih_z]
  | swap x_z y_z l =>
    rw [cr_mol_cons, cr_mol_cons, cr_mol_cons, cr_mol_cons]
    grind
  | trans _ _ h1 h2 => exact h1.trans h2
theorem mol_map (f : Fin 12 → Fin 12) (v : Fin 12 → Rat) (a : Fin 12 → Int) : ∀ l : List (Fin 12), cr_mol (l.map f) v a = cr_mol l (fun i_z => v (f i_z)) (fun i_z => a (f i_z))
  | [] => rfl
  | x_z :: l => by
    rw [List.map_cons, cr_mol_cons, cr_mol_cons, mol_map f v a l]
theorem fin_nd : (List.finRange 12).Nodup := by decide
theorem fin_surj {f : Fin 12 → Fin 12} (inj : ∀ i_z j_z, f i_z = f j_z → i_z = j_z) (x : Fin 12) : ∃ i_z, f i_z = x := by
  refine Classical.byContradiction (fun hn => ?_)
  have hl := cr_len ((List.finRange 12).map f) ((List.finRange 12).erase x) (by
    rw [List.nodup_iff_pairwise_ne, List.pairwise_map]
    exact (List.nodup_iff_pairwise_ne.1 fin_nd).imp (fun {a_z b_z} hne e_z => hne (inj a_z b_z e_z))) (fun y_z hy => by
    obtain ⟨i_z, _, rfl⟩ := List.mem_map.1 hy
    exact (List.mem_erase_of_ne (fun e_z => hn ⟨i_z, e_z⟩)).2 (List.mem_finRange _))
  rw [List.length_map, List.length_finRange, List.length_erase_of_mem (List.mem_finRange x), List.length_finRange] at hl
  omega
theorem mo_perm {f : Fin 12 → Fin 12} (inj : ∀ i_z j_z, f i_z = f j_z → i_z = j_z) (v : Fin 12 → Rat) (a : Fin 12 → Int) : cr_mo (fun i_z => v (f i_z)) (fun i_z => a (f i_z)) = cr_mo v a := by
  show cr_mol (List.finRange 12) (fun i_z => v (f i_z)) (fun i_z => a (f i_z)) = cr_mol (List.finRange 12) v a
  rw [← mol_map]
  refine mol_perm ?_ v a
  refine (List.perm_ext_iff_of_nodup ?_ fin_nd).2 (fun x_z => ⟨fun _ => List.mem_finRange x_z, fun _ => ?_⟩)
  · rw [List.nodup_iff_pairwise_ne, List.pairwise_map]
    exact (List.nodup_iff_pairwise_ne.1 fin_nd).imp (fun {a b_z} hne e_z => hne (inj a b_z e_z))
  · obtain ⟨i_z, hi_z⟩ := fin_surj inj x_z
    exact List.mem_map.2 ⟨i_z, List.mem_finRange i_z, hi_z⟩
def sxT (s : cx_Sd 12) (ls : List (Fin 12)) (s' : cx_Sd 12) (ks : List (Fin 12)) (W P : Int) (f : Fin 12 → Fin 12) : Prop := (∀ i_z : Fin 12, (i_z.1 : Int) < P → ((f i_z).1 : Int) < P) ∧ (∀ i_z : Fin 12, ¬ (i_z.1 : Int) < P → f i_z = i_z) ∧ (∀ i_z : Fin 12, (i_z.1 : Int) < P → ∀ x_z, (cr_gp s'.b ks x_z).1 (f i_z) = (cr_gp s.b ls x_z).1 i_z) ∧ ∀ i_z j_z : Fin 12, (i_z.1 : Int) < W → (j_z.1 : Int) < P → cr_bs s.b ls i_z j_z = cr_bs s'.b ks (f i_z) (f j_z)
def sgm (P : Int) (S : Int → Int) (i : Fin 12) : Fin 12 := if (i.1 : Int) < P then ⟨(S (i.1 : Int)).toNat % 12, Nat.mod_lt _ (by omega)⟩ else i
theorem sgm_v {P : Int} {S : Int → Int} {i : Fin 12} (hi : (i.1 : Int) < P) (h0 : 0 ≤ S (i.1 : Int)) (h1 : S (i.1 : Int) < 12) : ((sgm P S i).1 : Int) = S (i.1 : Int) := by
  unfold sgm
  rw [if_pos hi]
  show (((S (i.1 : Int)).toNat % 12 : Nat) : Int) = S (i.1 : Int)
  rw [Nat.mod_eq_of_lt (by omega)]
  omega
theorem smS_T {s s' : cx_Sd 12} {ls ks : List (Fin 12)} {W P : Int} (h : smS s ls s' ks W P) : ∃ f_z, sxT s ls s' ks W P f_z := by
  obtain ⟨S_z, h1, h2⟩ := h
  have hv : ∀ i_z : Fin 12, (i_z.1 : Int) < P → ((sgm P S_z i_z).1 : Int) = S_z (i_z.1 : Int) ∧ S_z (i_z.1 : Int) < P := fun i_z hi_z => by
    obtain ⟨f_z, ⟨hf, hP⟩, _⟩ := h1 i_z hi_z
    have := f_z.2
    exact ⟨sgm_v hi_z (by omega) (by omega), by omega⟩
  have hn : ∀ i_z : Fin 12, ¬ (i_z.1 : Int) < P → sgm P S_z i_z = i_z := fun i_z hi_z => if_neg hi_z
  refine ⟨sgm P S_z, fun i_z hi_z => by have := hv i_z hi_z; omega, hn, fun i_z hi_z x_z => ?_, fun i_z j_z hi_z hj => ?_⟩
  · obtain ⟨f_z, ⟨hf, hP⟩, hx⟩ := h1 i_z hi_z
    have e_z : sgm P S_z i_z = f_z := Fin.ext (by have := (hv i_z hi_z).1; omega)
    rw [e_z]
    exact hx x_z
  · refine h2 i_z j_z (sgm P S_z i_z) (sgm P S_z j_z) hi_z hj ?_ (hv j_z hj).1
    unfold rwS
    by_cases q_z : (i_z.1 : Int) < P
    · rw [if_pos q_z]; exact (hv i_z q_z).1
    · rw [if_neg q_z, hn i_z q_z]
theorem smT_S {s s' : cx_Sd 12} {ls ks : List (Fin 12)} {W P : Int} {f : Fin 12 → Fin 12} (h : sxT s ls s' ks W P f) : smS s ls s' ks W P := by
  have hc_z : ∀ i_z : Fin 12, (if q_z : 0 ≤ (i_z.1 : Int) ∧ (i_z.1 : Int) < 12 then (((f ⟨((i_z.1 : Int)).toNat, by omega⟩).1 : Nat) : Int) else 0) = ((f i_z).1 : Int) := fun i_z => by
    have hi_z := i_z.2
    rw [dif_pos ⟨by omega, by omega⟩]
    have e_z : (⟨((i_z.1 : Int)).toNat, by omega⟩ : Fin 12) = i_z := Fin.ext (by show ((i_z.1 : Int)).toNat = i_z.1; omega)
    rw [e_z]
  refine ⟨fun z_z => if q_z : 0 ≤ z_z ∧ z_z < 12 then (((f ⟨z_z.toNat, by omega⟩).1 : Nat) : Int) else 0, fun i_z hi_z => ⟨f i_z, ⟨(hc_z i_z).symm, h.1 i_z hi_z⟩, h.2.2.1 i_z hi_z⟩, fun i_z j_z u_z v_z hi_z hj hu hv => ?_⟩
  have hv2 : (v_z.1 : Int) = ((f j_z).1 : Int) := hv.trans (hc_z j_z)
  have hu2 : (u_z.1 : Int) = ((f i_z).1 : Int) := by
    rw [hu]
    unfold rwS
    by_cases q_z : (i_z.1 : Int) < P
    · rw [if_pos q_z]; exact hc_z i_z
    · rw [if_neg q_z, h.2.1 i_z q_z]
  have e1 : u_z = f i_z := Fin.ext (by omega)
  have e2 : v_z = f j_z := Fin.ext (by omega)
  rw [e1, e2]
  exact h.2.2.2 i_z j_z hi_z hj
theorem sxT.inj {s s' : cx_Sd 12} {ls ks : List (Fin 12)} {W P : Int} {f : Fin 12 → Fin 12} (h : sxT s ls s' ks W P f) : ∀ i_z j_z, f i_z = f j_z → i_z = j_z := by
  intro i_z j_z e_z
  by_cases hi_z : (i_z.1 : Int) < P
  · by_cases hj : (j_z.1 : Int) < P
    · refine Classical.byContradiction (fun hn => gp_ne s ls hn (fun x_z => ?_))
      rw [← h.2.2.1 i_z hi_z x_z, ← h.2.2.1 j_z hj x_z, e_z]
    · have h1 := h.1 i_z hi_z
      rw [e_z, h.2.1 j_z hj] at h1
      exact absurd h1 hj
  · by_cases hj : (j_z.1 : Int) < P
    · have h1 := h.1 j_z hj
      rw [← e_z, h.2.1 i_z hi_z] at h1
      exact absurd h1 hi_z
    · rw [h.2.1 i_z hi_z, h.2.1 j_z hj] at e_z
      exact e_z
def pthP (p : List (Fin 12)) (P : Int) : Prop := ∀ k_z ∈ p, (k_z.1 : Int) < P
def zrw (s : cx_Sd 12) (p : List (Fin 12)) (W P : Int) : Prop := ∀ i_z j_z : Fin 12, W ≤ (i_z.1 : Int) → (j_z.1 : Int) < P → cr_bs s.b p i_z j_z = 0
theorem zrw_n {s : cx_Sd 12} {p : List (Fin 12)} {W P : Int} (h : zrw s p W P) {k : Fin 12} (hk : (k.1 : Int) < P) : zrw s (p ++ [k]) W P := fun i_z j_z hi_z hj => by
  rw [cr_bs_snoc]
  have z1 := h i_z j_z hi_z hj
  have z2 := h i_z k hi_z hk
  unfold cr_turnB
  rw [z1, z2]
  by_cases e_z : i_z = k ∨ j_z = k
  · rw [if_pos e_z]; rfl
  · rw [if_neg e_z]; show (0 : Int) + (((0 : Nat) : Int) * _ + 0 * _) = 0; rw [show ((0 : Nat) : Int) = 0 from rfl, Int.zero_mul, Int.zero_mul]; rfl
theorem pthP_n {p : List (Fin 12)} {P : Int} (h : pthP p P) {k : Fin 12} (hk : (k.1 : Int) < P) : pthP (p ++ [k]) P := fun q_z hq => by
  rcases List.mem_append.1 hq with e_z | e_z
  · exact h q_z e_z
  · have e2 : q_z = k := by simpa using e_z
    rw [e2]; exact hk
theorem sxT.all {s s' : cx_Sd 12} {ls ks : List (Fin 12)} {W P : Int} {f : Fin 12 → Fin 12} (h : sxT s ls s' ks W P f) (h1 : pthP ls P) (h2 : pthP ks P) (i : Fin 12) (x : cr_Pv 12) : (cr_gp s'.b ks x).1 (f i) = (cr_gp s.b ls x).1 i := by
  by_cases hi_z : (i.1 : Int) < P
  · exact h.2.2.1 i hi_z x
  · rw [h.2.1 i hi_z, cr_gp_ne ks s'.b x (fun q_z => hi_z (h2 i q_z)), cr_gp_ne ls s.b x (fun q_z => hi_z (h1 i q_z))]
theorem sxT.tb {s s' : cx_Sd 12} {ls ks : List (Fin 12)} {W P : Int} {f : Fin 12 → Fin 12} (h : sxT s ls s' ks W P f) (hWP : P ≤ W) (z1 : zrw s ls W P) (z2 : zrw s' ks W P) {i j : Fin 12} (hj : (j.1 : Int) < P) : cr_bs s.b ls i j = cr_bs s'.b ks (f i) (f j) := by
  by_cases hi_z : (i.1 : Int) < W
  · exact h.2.2.2 i j hi_z hj
  · have e_z := h.2.1 i (by omega)
    rw [z1 i j (by omega) hj, e_z, z2 i (f j) (by omega) (h.1 j hj)]
theorem sxT.P {s s' : cx_Sd 12} {ls ks : List (Fin 12)} {W P : Int} {f : Fin 12 → Fin 12} (h : sxT s ls s' ks W P f) (hWP : P ≤ W) (h1 : pthP ls P) (h2 : pthP ks P) (z1 : zrw s ls W P) (z2 : zrw s' ks W P) {k : Fin 12} (hk : (k.1 : Int) < P) (x : cr_Pv 12) : cr_P (cr_bs s'.b ks) (f k) (cr_gp s'.b ks x).1 = cr_P (cr_bs s.b ls) k (cr_gp s.b ls x).1 := by
  unfold cr_P
  rw [← mo_perm h.inj (cr_gp s'.b ks x).1 (fun i_z => (cx_pos (cr_bs s'.b ks i_z (f k)) : Int)), ← mo_perm h.inj (cr_gp s'.b ks x).1 (fun i_z => (cx_pos (- cr_bs s'.b ks i_z (f k)) : Int))]
  have e1 : (fun i_z => (cr_gp s'.b ks x).1 (f i_z)) = (cr_gp s.b ls x).1 := funext fun i_z => h.all h1 h2 i_z x
  have e2 : (fun i_z => (cx_pos (cr_bs s'.b ks (f i_z) (f k)) : Int)) = (fun i_z => (cx_pos (cr_bs s.b ls i_z k) : Int)) := funext fun i_z => by rw [h.tb hWP z1 z2 hk]
  have e3 : (fun i_z => (cx_pos (- cr_bs s'.b ks (f i_z) (f k)) : Int)) = (fun i_z => (cx_pos (- cr_bs s.b ls i_z k) : Int)) := funext fun i_z => by rw [h.tb hWP z1 z2 hk]
  rw [e1, e2, e3]
theorem sxT.step {s s' : cx_Sd 12} {ls ks : List (Fin 12)} {W P : Int} {f : Fin 12 → Fin 12} (h : sxT s ls s' ks W P f) (hWP : P ≤ W) (h1 : pthP ls P) (h2 : pthP ks P) (z1 : zrw s ls W P) (z2 : zrw s' ks W P) {k : Fin 12} (hk : (k.1 : Int) < P) : sxT s (ls ++ [k]) s' (ks ++ [f k]) W P f := by
  refine ⟨h.1, h.2.1, fun i_z hi_z x_z => ?_, fun i_z j_z hi_z hj => ?_⟩
  · rw [cr_gp_snoc, cr_gp_snoc]
    show cr_stepv (cr_bs s'.b ks) (f k) (cr_gp s'.b ks x_z).1 (f i_z) = cr_stepv (cr_bs s.b ls) k (cr_gp s.b ls x_z).1 i_z
    by_cases e_z : i_z = k
    · rw [e_z, cr_step_k, cr_step_k, h.P hWP h1 h2 z1 z2 hk x_z, h.all h1 h2 k x_z]
    · rw [cr_step_ne _ _ e_z, cr_step_ne _ _ (fun q_z => e_z (h.inj i_z k q_z)), h.all h1 h2 i_z x_z]
  · rw [cr_bs_snoc, cr_bs_snoc]
    have b1 := h.tb hWP z1 z2 (i := i_z) hj
    have b2 := h.tb hWP z1 z2 (i := i_z) hk
    have b3 := h.tb hWP z1 z2 (i := k) hj
    unfold cr_turnB
    by_cases e_z : i_z = k ∨ j_z = k
    · rw [if_pos e_z, if_pos (by rcases e_z with e_z | e_z; exact Or.inl (by rw [e_z]); exact Or.inr (by rw [e_z])), b1]
    · rw [if_neg e_z, if_neg (fun q_z => e_z (by rcases q_z with q_z | q_z; exact Or.inl (h.inj _ _ q_z); exact Or.inr (h.inj _ _ q_z))), b1, b2, b3]
theorem sxT.symm {s s' : cx_Sd 12} {ls ks : List (Fin 12)} {W P : Int} {f : Fin 12 → Fin 12} (hWP : P ≤ W) (h : sxT s ls s' ks W P f) : ∃ g_z, sxT s' ks s ls W P g_z := by
  have hs : ∀ x_z, ∃ i_z, f i_z = x_z := fin_surj h.inj
  have hg : ∀ x_z, f (Classical.choose (hs x_z)) = x_z := fun x_z => Classical.choose_spec (hs x_z)
  have hl : ∀ x_z : Fin 12, (x_z.1 : Int) < P → ((Classical.choose (hs x_z)).1 : Int) < P := fun x_z hx => by
    refine Classical.byContradiction (fun hn => ?_)
    have h1 := h.2.1 _ hn
    rw [hg x_z] at h1
    rw [← h1] at hn
    exact hn hx
  have he : ∀ x_z : Fin 12, ¬ (x_z.1 : Int) < P → Classical.choose (hs x_z) = x_z := fun x_z hx => h.inj _ _ (by rw [hg x_z, h.2.1 x_z hx])
  refine ⟨fun x_z => Classical.choose (hs x_z), hl, he, fun i_z hi_z x_z => ?_, fun i_z j_z hi_z hj => ?_⟩
  · have h1 := h.2.2.1 _ (hl i_z hi_z) x_z
    rw [hg i_z] at h1
    exact h1.symm
  · have hi2 : ((Classical.choose (hs i_z)).1 : Int) < W := by
      by_cases q_z : (i_z.1 : Int) < P
      · have := hl i_z q_z; omega
      · rw [he i_z q_z]; exact hi_z
    have h1 := h.2.2.2 _ _ hi2 (hl j_z hj)
    rw [hg i_z, hg j_z] at h1
    exact h1.symm
theorem smS.refl (s : cx_Sd 12) (ls : List (Fin 12)) (W P : Int) : smS s ls s ls W P := smT_S (f := fun i_z => i_z) ⟨fun _ h_z => h_z, fun _ _ => rfl, fun _ _ _ => rfl, fun _ _ _ _ => rfl⟩
def bdS (s : cx_Sd 12) (p : List (Fin 12)) (W P : Int) : Prop := ∀ i_z j_z : Fin 12, (i_z.1 : Int) < W → (j_z.1 : Int) < P → -9999 ≤ cr_bs s.b p i_z j_z ∧ cr_bs s.b p i_z j_z ≤ 9999
theorem it_bd {s : cx_Sd 12} {p : List (Fin 12)} {W P : Int} {k : Fin 12} : itS s p W P k ↔ bdS s (p ++ [k]) W P := by
  unfold itS bdS
  rw [cr_bs_snoc]
theorem sxT.bd {s s' : cx_Sd 12} {ls ks : List (Fin 12)} {W P : Int} {f : Fin 12 → Fin 12} (hWP : P ≤ W) (h : sxT s ls s' ks W P f) (hb : bdS s' ks W P) : bdS s ls W P := fun i_z j_z hi_z hj => by
  rw [h.2.2.2 i_z j_z hi_z hj]
  refine hb _ _ ?_ (h.1 j_z hj)
  by_cases q_z : (i_z.1 : Int) < P
  · have := h.1 i_z q_z; omega
  · rw [h.2.1 i_z q_z]; exact hi_z
theorem sxT.back {s s' : cx_Sd 12} {p q : List (Fin 12)} {W P : Int} {f : Fin 12 → Fin 12} {k : Fin 12} (h : sxT s (p ++ [k] ++ [k]) s' q W P f) : sxT s p s' q W P f := by
  refine ⟨h.1, h.2.1, fun i_z hi_z x_z => ?_, fun i_z j_z hi_z hj => ?_⟩
  · rw [← gp_twice s p k x_z]; exact h.2.2.1 i_z hi_z x_z
  · have := h.2.2.2 i_z j_z hi_z hj
    rw [bs_twice] at this
    exact this
/-- turned where the new letter stands it leads back, and by the same sum N -/
theorem mark {s : cx_Sd 12} {p q : List (Fin 12)} {W P : Int} {f : Fin 12 → Fin 12} {k : Fin 12} (h : sxT s (p ++ [k]) s q W P f) (hWP : P ≤ W) (hp : pthP p P) (hq : pthP q P) (zp : zrw s p W P) (zq : zrw s q W P) (hk : (k.1 : Int) < P) (hb : bdS s p W P) (hok : ¬ spB s p k) : okS s q W P (f k) ∧ smS s (q ++ [f k]) s p W P := by
  have hfk := h.1 k hk
  have hp2 := pthP_n hp hk
  have zp2 := zrw_n zp hk
  have st_z := (h.step hWP hp2 hq zp2 zq hk).back
  obtain ⟨g_z, hg⟩ := st_z.symm hWP
  refine ⟨⟨fun hs => hok ?_, it_bd.2 (hg.bd hWP hb)⟩, smT_S hg⟩
  exact hs.eq (fun x_z => (h.P hWP hp2 hq zp2 zq hk x_z).trans (P_twice s p k x_z))
