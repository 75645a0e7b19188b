def cx_Cmp {B : Type} [Zero B] [Add B] [Mul (cx_S B)] [One (cx_S B)] [Add (cx_S B)] [Zero (cx_S B)] [Inhabited (cx_Idx B)] (M : Type) [Add M] [Inhabited (PLift (cx_MGl M))] [Inhabited (cx_Tord B M)] (a : B) (t : B → Rat) : Prop := ∀ b, cx_deg b ≤ cx_deg a → 0 ≤ t b * cx_pr b (cx_p a : M)
theorem cx_split3 {B : Type} [Zero B] [Add B] [Mul (cx_S B)] [One (cx_S B)] [Add (cx_S B)] [Zero (cx_S B)] [Inhabited (cx_Idx B)] (l : List B) (u : B → Rat) : l.Perm (l.filter (fun x => decide (0 < u x)) ++ l.filter (fun x => decide (u x = 0)) ++ l.filter (fun x => decide (u x < 0))) := by
  induction l with
  | nil => exact List.Perm.nil
  | cons x l ih =>
    by_cases h1 : 0 < u x
    · rw [List.filter_cons_of_pos (by simpa using h1), List.filter_cons_of_neg (by simp; grind), List.filter_cons_of_neg (by simp; grind)]
      exact List.Perm.cons x ih
    · by_cases h2 : u x = 0
      · rw [List.filter_cons_of_neg (by simpa using h1), List.filter_cons_of_pos (by simpa using h2), List.filter_cons_of_neg (by simp; grind)]
        refine (List.Perm.cons x ih).trans ?_
        rw [List.append_assoc, List.append_assoc]
        exact List.perm_middle.symm
      · rw [List.filter_cons_of_neg (by simpa using h1), List.filter_cons_of_neg (by simpa using h2), List.filter_cons_of_pos (by simp; grind)]
        refine (List.Perm.cons x ih).trans ?_
        exact List.perm_middle.symm
theorem cx_indep {B : Type} [Zero B] [Add B] [Mul (cx_S B)] [One (cx_S B)] [Add (cx_S B)] [Zero (cx_S B)] [Inhabited (cx_Idx B)] {M : Type} [Add M] [Inhabited (PLift (cx_MGl M))] [Inhabited (cx_Tord B M)] {Z : M → Prop} {g : M → cx_S B} (h : cx_Wh Z g) {a : B} (ha : a ≠ 0) {ts : B → Rat} (hts : cx_Gen (cx_Par a) (cx_deg a) ts) (hcs : cx_Cmp M a ts) {fs : B → Rat} (ls : cx_Lam g a (cx_deg a) ts fs) :
    ∀ t, cx_Gen (cx_Par a) (cx_deg a) t → cx_Cmp M a t → ∀ f, cx_Lam g a (cx_deg a) t f → f a = fs a := by
  classical
  have vs := hts.van ha (Nat.le_refl _)
  intro t ht hct
  refine cx_path_ind (K := cx_Par a) (d := cx_deg a) vs (fun t => cx_Cmp M a t → ∀ f, cx_Lam g a (cx_deg a) t f → f a = fs a) ?_ ?_ ?_ t ht (ht.van ha (Nat.le_refl _)) hct
  · intro t t' gt vt gt' vt' hs hq hct f lf
    refine hq (fun b hb => ?_) f (lf.sgn hs)
    have h1 := hct b hb
    have h2 := hs b hb
    have h3 := hs.zero hb
    by_cases h4 : t' b * cx_pr b (cx_p a : M) < 0
    · rcases cx_mul_neg h4 with ⟨h5, h6⟩ | ⟨h5, h6⟩
      · have := Rat.mul_pos (h2.1.2 h5) (by grind : 0 < - cx_pr b (cx_p a : M)); grind
      · have := Rat.mul_pos (by have := h2.2.2 h5; grind : 0 < - t b) h6; grind
    · grind
  · intro t gt vt hc hct f lf
    have hsg : cx_Sgn (cx_deg a) t ts := by
      intro b hb
      have h1 := hc b hb
      by_cases hb0 : b = 0
      · rw [hb0, gt.f.zero, hts.f.zero]; exact ⟨Iff.rfl, Iff.rfl⟩
      have h2 := gt.z b hb0 hb
      have h3 := hts.z b hb0 hb
      by_cases h4 : t b = 0
      · have : ts b = 0 := h3.2 (h2.1 h4)
        rw [h4, this]; exact ⟨Iff.rfl, Iff.rfl⟩
      · have h5 : ts b ≠ 0 := fun e => h4 (h2.2 (h3.1 e))
        by_cases h6 : 0 < t b
        · by_cases h7 : 0 < ts b
          · exact ⟨⟨fun _ => h7, fun _ => h6⟩, ⟨fun h => by grind, fun h => by grind⟩⟩
          · have := Rat.mul_pos h6 (by grind : 0 < - ts b); grind
        · by_cases h7 : 0 < ts b
          · have := Rat.mul_pos (by grind : 0 < - t b) h7; grind
          · exact ⟨⟨fun h => by grind, fun h => by grind⟩, ⟨fun h => by grind, fun h => by grind⟩⟩
    exact (lf.sgn hsg).unique ha hts.f ls cx_Eqd.rfl' a ha (Nat.le_refl _) (cx_Par.refl a)
  · intro t t' s b0 gt vt gt' vt' hs hj hb0 hn hn' hs' hq hct f lf

    let t1 : B → Rat := fun b => t b + s * ts b
    have hTb0 : cx_Ta M a b0 = 0 := by
      have h1 : 0 ≤ t b0 * cx_Ta M a b0 := hct b0 hj.dg
      have h2 : 0 ≤ ts b0 * cx_Ta M a b0 := hcs b0 hj.dg
      rcases cx_mul_neg hb0 with ⟨h3, h4⟩ | ⟨h3, h4⟩
      · by_cases h5 : 0 < cx_Ta M a b0
        · have := Rat.mul_pos (by grind : 0 < - ts b0) h5; grind
        · by_cases h6 : cx_Ta M a b0 < 0
          · have := Rat.mul_pos h3 (by grind : 0 < - cx_Ta M a b0); grind
          · grind
      · by_cases h5 : 0 < cx_Ta M a b0
        · have := Rat.mul_pos (by grind : 0 < - t b0) h5; grind
        · by_cases h6 : cx_Ta M a b0 < 0
          · have := Rat.mul_pos h4 (by grind : 0 < - cx_Ta M a b0); grind
          · grind
    let J : B → Prop := fun x => x ≠ 0 ∧ cx_Sp (cx_Par a) b0 x
    have cJ : cx_Clo J := ⟨fun x y hx hy => ⟨fun e => hx.1 (cx_deg_pos x (by have := congrArg cx_deg e; rw [cx_deg_add, cx_deg_zero] at this; omega)),
      fun v hv h0 => by rw [hv.1.add, hx.2 v hv h0, hy.2 v hv h0]; grind⟩⟩
    have J1 : ∀ b, b ≠ 0 → cx_deg b ≤ cx_deg a → t1 b = 0 → J b := fun b h1 h2 h3 => ⟨h1, hj.sp b h1 h2 h3⟩
    have J2 : ∀ b, J b → t1 b = 0 := fun b hb => hb.2 t1 hj.van hj.zr
    have Jc : ∀ x y, J x → J y → cx_pr x (cx_p y : M) = 0 := by
      intro x y hx hy
      have h1 : ∀ z, J z → cx_Ta M a z = 0 := fun z hz => hz.2 _ (cx_Ta_van ha) hTb0
      refine hx.2 (fun b => cx_pr b (cx_p y : M)) (cx_Van.par ha (cx_fun_pr _) ?_) ?_
      · show cx_pr a (cx_p y : M) = 0
        rw [cx_skew]; have := h1 y hy; have h2 : cx_pr y (cx_p a : M) = 0 := this; rw [h2]; rfl
      · show cx_pr b0 (cx_p y : M) = 0
        rw [cx_skew]
        have : cx_pr y (cx_p b0 : M) = 0 := hy.2 (fun b => cx_pr b (cx_p b0 : M)) (cx_Van.par ha (cx_fun_pr _) (by
          show cx_pr a (cx_p b0 : M) = 0
          rw [cx_skew]; have h2 : cx_pr b0 (cx_p a : M) = 0 := hTb0; rw [h2]; rfl)) (cx_pr_self b0)
        rw [this]; rfl
    obtain ⟨ord, hnod, hmem⟩ := cx_exists_list (B := B) (cx_deg a) J
    obtain ⟨wp, w0, wm, hf, hw⟩ := h.fac t1 (cx_deg a)
    obtain ⟨c, hc, hcw⟩ := cx_zero_nf h hf (fun x hx => hw x (by simp [hx])) cJ J1 hnod hmem
    have cx_side : ∀ (u t2 : B → Rat), cx_Gen (cx_Par a) (cx_deg a) t2 → cx_Van (cx_Par a) u → u b0 ≠ 0 → cx_Near cx_All (cx_deg a) t1 u t2 → cx_Lam g a (cx_deg a) t2 c := by
      intro u t2 g2 hu hu0 hn2
      have hsp := cx_split3 ord u
      have hcm : ∀ x ∈ ord, ∀ y ∈ ord, cx_pr x (cx_p y : M) = 0 := fun x hx y hy => Jc x y ((hmem x).1 hx).2.2 ((hmem y).1 hy).2.2
      have hc' := hc
      rw [cx_nf_perm hsp hcm c] at hc'
      refine cx_joint_lam (u := u) hf (fun x hx => ?_) hc' (fun y hy => ?_) (fun y hy => ?_) (fun y hy => ?_) hn2 ⟨hnod.sublist List.filter_sublist, fun y => ?_⟩
      · have := (hmem x).1 (hsp.mem_iff.2 hx)
        exact ⟨this.1, this.2.1, J2 x this.2.2⟩
      · simpa using (List.mem_filter.1 hy).2
      · simpa using (List.mem_filter.1 hy).2
      · simpa using (List.mem_filter.1 hy).2
      · rw [List.mem_filter, decide_eq_true_eq, hmem]
        constructor
        · rintro ⟨⟨h1, h2, h3⟩, h4⟩
          exact ⟨h1, h2, (g2.z y h1 h2).1 (hn2.nul0 y trivial h2 (J2 y h3) h4)⟩
        · rintro ⟨h1, h2, h3⟩
          exact ⟨⟨h1, h2, h1, fun v hv _ => hv.2 y h3⟩, hu.2 y h3⟩
    have l1 := cx_side (fun b => - ts b) t gt ⟨⟨fun x y => by show - ts (x + y) = _; rw [hts.f.add]; grind⟩, fun x hx => by show - ts x = 0; rw [vs.2 x hx]; rfl⟩ (by have := hj.tr; grind) hn
    have l2 := cx_side ts t' gt' vs hj.tr hn'
    rw [lf.unique ha gt.f l1 cx_Eqd.rfl' a ha (Nat.le_refl _) (cx_Par.refl a)]
    refine hq (fun b hb => ?_) c l2
    obtain ⟨s', h1, h2⟩ := hs'
    rw [h2 b]
    have h3 := hct b hb
    have h4 := Rat.mul_nonneg (by grind : 0 ≤ s') (hcs b hb)
    grind
theorem cx_ev_flat {B : Type} [Zero B] [Add B] [Mul (cx_S B)] [One (cx_S B)] [Add (cx_S B)] [Zero (cx_S B)] [Inhabited (cx_Idx B)] {M : Type} [Add M] [Inhabited (PLift (cx_MGl M))] [Inhabited (cx_Tord B M)] {w : List (B × Rat)} (hw : cx_NZ w) {m : M} (b : B) (h : ∀ u v, u + v = b → cx_pr u m = 0) : (cx_ev w : M → cx_S B) m b = (1 : cx_S B) b := by
  classical
  induction w generalizing b with
  | nil => rfl
  | cons x w ih =>
    have ih := ih (fun y hy => hw y (by simp [hy]))
    rw [cx_ev_cons, cx_comp_def]
    have e1 : cx_D b (fun u s => cx_ev w m u * cx_E x.1 x.2 (m + cx_p u) s) = cx_D b (fun u s => (1 : cx_S B) u * cx_E x.1 x.2 (m + cx_p u) s) := by
      refine cx_D_congr (fun u s hus => ?_)
      rw [ih u (fun v1 v2 hv => h v1 (v2 + s) (by rw [← cx_addA, hv, hus]))]
    rw [e1, cx_D_comm, cx_D_right]
    · show (1 : cx_S B) 0 * cx_E x.1 x.2 (m + cx_p (0 : B)) b = _
      rw [cx_one_zero, Rat.one_mul, cx_p_zero]
      by_cases hx : ∃ j, cx_nsm j x.1 = b
      · obtain ⟨j, hj⟩ := hx
        cases j with
        | zero =>
          have : b = 0 := hj.symm
          rw [this, cx_one_zero]; exact (cx_E_good (hw x (by simp)) x.2).unit m
        | succ j =>
          have h0 : cx_pr x.1 m = 0 := h x.1 (cx_nsm j x.1) (by rw [cx_addC]; exact hj)
          show cx_sub x.1 (cx_bin (x.2 * cx_pr x.1 m)) b = _
          rw [h0, Rat.mul_zero, ← hj, cx_sub_at (hw x (by simp)), cx_bin_z, cx_one_ne]
          intro e
          have := congrArg cx_deg e
          rw [cx_nsm_deg, cx_deg_zero] at this
          have h2 : cx_deg x.1 ≠ 0 := fun e => hw x (by simp) (cx_deg_pos _ e)
          rcases Nat.mul_eq_zero.1 this with h | h
          · omega
          · exact h2 h
      · have hno : ∀ j, cx_nsm j x.1 ≠ b := fun j hj => hx ⟨j, hj⟩
        show cx_sub x.1 _ b = _
        rw [cx_sub_off _ hno, cx_one_ne]
        intro e; exact hno 0 e.symm
    · intro u v _ hv; show (1 : cx_S B) v * _ = 0; rw [cx_one_ne hv, Rat.zero_mul]
theorem cx_theta_gen {B : Type} [Zero B] [Add B] [Mul (cx_S B)] [One (cx_S B)] [Add (cx_S B)] [Zero (cx_S B)] [Inhabited (cx_Idx B)] {M : Type} [Add M] [Inhabited (PLift (cx_MGl M))] [Inhabited (cx_Tord B M)] {Z : M → Prop} {g : M → cx_S B} (h : cx_Wh Z g) (hpos : ∀ a : B, a ≠ 0 → cx_PosAt g a) {m : M} (hm : Z m) (hdom : ∀ a : B, 0 ≤ cx_pr a m) (d : Nat) :
    ∀ n, ∀ b : B, cx_deg b < n → cx_deg b ≤ d → ∀ t, cx_Gen (fun _ => False) d t → ∀ wp w0 wm, cx_Fac t cx_All d g wp w0 wm → 0 ≤ (cx_ev wm : M → cx_S B) m b := by
  classical
  intro n
  induction n with
  | zero => intro b h; omega
  | succ n ih =>
    intro b hbn hbd t ht
    by_cases hb0 : b = 0
    · intro wp w0 wm f
      rw [hb0, (cx_ev_good f.neg.nz).unit]; grind
    let T : B → Rat := fun x => cx_pr x (m + cx_p b)
    have fT : cx_Fun T := cx_fun_pr _
    have vF : ∀ v : B → Rat, cx_Fun v → cx_Van (fun _ => False) v := fun v hv => ⟨hv, fun _ h => h.elim⟩
    refine cx_path_ind (K := fun _ => False) (d := d) (vF T fT) (fun t => ∀ wp w0 wm, cx_Fac t cx_All d g wp w0 wm → 0 ≤ (cx_ev wm : M → cx_S B) m b) ?_ ?_ ?_ t ht (vF t ht.f)
    · intro t t' _ _ _ _ hs hq wp w0 wm f
      exact hq wp w0 wm (f.sgn hs)
    · intro t gt _ hc wp w0 wm f
      have hTb : T b = cx_pr b m := by show cx_pr b (m + cx_p b) = _; rw [cx_pr_addR, cx_pr_self, Rat.add_zero]
      by_cases hz : cx_pr b m = 0
      · rw [cx_ev_flat f.neg.nz b (fun u v huv => by
          have h1 := hdom u
          have h2 := hdom v
          have h3 : cx_pr u m + cx_pr v m = 0 := by rw [← cx_pr_addL, huv, hz]
          grind), cx_one_ne hb0]
        grind
      · have h1 : 0 < T b := by rw [hTb]; have := hdom b; grind
        have h2 := hc b hbd
        have h3 : 0 ≤ t b := by
          by_cases h4 : t b < 0
          · have := Rat.mul_pos (by grind : 0 < - t b) h1; grind
          · grind
        rw [f.minus_none gt.f m hb0 h3]; grind
    · intro t t' s b0 gt _ gt' _ hs hj hb0' hn hn' _ hq
      let t1 : B → Rat := fun b => t b + s * T b
      have ft1 : cx_Fun t1 := hj.van.1
      have hpar : ∀ x, x ≠ 0 → cx_deg x ≤ d → (t1 x = 0 ↔ cx_Par b0 x) := by
        intro x hx hdx
        constructor
        · intro h0 v hv
          have h1 := hj.sp x hx hdx h0 (fun y => cx_dg b0 * v y + (- v b0) * cx_dg y) (vF _ (hv.lin cx_fun_dg (cx_dg b0) (- v b0))) (by show cx_dg b0 * v b0 + (- v b0) * cx_dg b0 = 0; grind)
          grind
        · intro hp; exact hp.zero hj.nz ft1 hj.zr
      have g1 : cx_Gen (cx_Par b0) d t1 := ⟨ft1, hpar⟩
      obtain ⟨f, ⟨ord, wp, wm, hr, hf⟩, hfw⟩ := cx_Lam.exists h g1
      have hfp : ∀ x ∈ ord, 0 ≤ f x := by
        intro x hx
        have hx' := (hr.mem x).1 hx
        refine hpos x hx'.1 t1 (g1.par hj.nz hx'.1 hx'.2.2 hx'.2.1) f ?_
        exact (cx_Lam.par hj.nz hx'.1 hx'.2.2 ⟨ord, wp, wm, hr, hf⟩).cut hx'.2.1
      let w0 : List (B × Rat) := ord.map fun x => (x, f x)
      have hw0 : ∀ y ∈ w0, y.1 ≠ 0 ∧ cx_Par b0 y.1 ∧ cx_Wl Z y ∧ 0 ≤ y.2 ∧ cx_deg y.1 ≤ d := by
        intro y hy
        obtain ⟨x, hx, rfl⟩ := List.mem_map.1 hy
        have hx' := (hr.mem x).1 hx
        exact ⟨hx'.1, hx'.2.2, hfw x hx'.1 hx'.2.1 hx'.2.2, hfp x hx, hx'.2.1⟩
      have hTs : ∀ y ∈ w0, T y.1 * cx_dg b0 = T b0 * cx_dg y.1 := fun y hy => (hw0 y hy).2.1 T fT
      have ht1z : ∀ y ∈ w0, t1 y.1 = 0 := fun y hy => (hw0 y hy).2.1.zero hj.nz ft1 hj.zr
      have hdb0 := cx_dg_pos hj.nz
      have nilL : ∀ (P : B → Prop), cx_Lt P d ([] : List (B × Rat)) := fun P => ⟨fun x hx => by simp at hx⟩

      have left : ∀ u t2, (∀ y ∈ w0, 0 < u y.1) → cx_Near cx_All d t1 u t2 → cx_Fac t2 cx_All d g (wp ++ w0) [] wm := by
        intro u t2 hu hn2
        have := cx_Fac.near (vp := w0) (v0 := []) (vm := []) hn2 hf ⟨⟨fun y hy => ⟨(hw0 y hy).1, ⟨⟨trivial, ht1z y hy⟩, hu y hy⟩, (hw0 y hy).2.2.2.2⟩⟩, nilL _, nilL _, by
          rw [cx_ev_nil, cx_I_comp, cx_comp_I]; exact cx_Eqd.rfl'⟩
        rw [List.nil_append] at this
        exact this
      have right : ∀ u t2, (∀ y ∈ w0, u y.1 < 0) → cx_Near cx_All d t1 u t2 → cx_Fac t2 cx_All d g wp [] (w0 ++ wm) := by
        intro u t2 hu hn2
        have := cx_Fac.near (vp := []) (v0 := []) (vm := w0) hn2 hf ⟨nilL _, nilL _, ⟨fun y hy => ⟨(hw0 y hy).1, ⟨⟨trivial, ht1z y hy⟩, hu y hy⟩, (hw0 y hy).2.2.2.2⟩⟩, by
          rw [cx_ev_nil, cx_I_comp, cx_I_comp]; exact cx_Eqd.rfl'⟩
        rw [List.append_nil] at this
        exact this
      have low : ∀ wp' w0' wm', cx_Fac t' cx_All d g wp' w0' wm' → ∀ u : B, cx_deg u < cx_deg b → 0 ≤ (cx_ev wm' : M → cx_S B) m u := fun wp' w0' wm' f' u hu =>
        ih u (by omega) (by omega) t' gt' wp' w0' wm' f'
      intro wp2 w02 wm2 f2
      by_cases hr0 : 0 < T b0
      · have hpT : ∀ y ∈ w0, 0 < T y.1 := by
          intro y hy
          have h1 := hTs y hy
          by_cases h2 : 0 < T y.1
          · exact h2
          · have h3 := Rat.mul_nonneg (by grind : 0 ≤ - T y.1) (by grind : 0 ≤ cx_dg b0)
            have h4 := Rat.mul_pos hr0 (cx_dg_pos (hw0 y hy).1)
            grind
        have f' := left T t' hpT hn'
        have f1 := right (fun b => - T b) t (fun y hy => by have := hpT y hy; show - T y.1 < 0; grind) hn
        have e1 := (f2.unique gt.f f1 cx_Eqd.rfl').2.2 m b hbd
        rw [e1, cx_ev_append]
        have h1 := cx_crossP hj.nz h.hZ (w := w0) 1 (by grind) (fun y hy => ⟨(hw0 y hy).1, (hw0 y hy).2.1, (hw0 y hy).2.2.1, by have := (hw0 y hy).2.2.2.1; grind⟩) (f := cx_ev wm) hm (b := b)
          (by have h3 : 0 < cx_pr b0 (m + cx_p b) := hr0; grind) (low _ _ _ f')
        have h2 := hq _ _ _ f'
        grind
      · have hr1 : T b0 < 0 := by have := hj.tr; grind
        have hpT : ∀ y ∈ w0, T y.1 < 0 := by
          intro y hy
          have h1 := hTs y hy
          by_cases h2 : T y.1 < 0
          · exact h2
          · have h3 := Rat.mul_nonneg (by grind : 0 ≤ T y.1) (by grind : 0 ≤ cx_dg b0)
            have h4 := Rat.mul_pos (by grind : 0 < - T b0) (cx_dg_pos (hw0 y hy).1)
            grind
        have f' := right T t' hpT hn'
        have f1 := left (fun b => - T b) t (fun y hy => by have := hpT y hy; show 0 < - T y.1; grind) hn
        have e1 := (f2.unique gt.f f1 cx_Eqd.rfl').2.2 m b hbd
        have nz0 : cx_NZ w0 := fun y hy => (hw0 y hy).1
        have e2 : (cx_ev wm : M → cx_S B) = cx_comp (cx_ev (cx_inv w0)) (cx_ev (w0 ++ wm)) := by
          rw [cx_ev_append, ← cx_comp_assoc, cx_ev_inv' nz0, cx_I_comp]
        rw [e1, e2]
        have h1 := cx_crossP hj.nz h.hZ (w := cx_inv w0) (-1) (by grind) (fun y hy => by
          simp only [cx_inv, List.mem_reverse, List.mem_map] at hy
          obtain ⟨x, hx, rfl⟩ := hy
          have hx' := hw0 x hx
          refine ⟨hx'.1, hx'.2.1, ?_, by have := hx'.2.2.2.1; show 0 ≤ -1 * - x.2; grind⟩
          intro m hm
          obtain ⟨z, hz⟩ := hx'.2.2.1 m hm
          refine ⟨-z, ?_⟩
          have h1 : ((-z : Int) : Rat) = -(z : Rat) := by exact_mod_cast rfl
          rw [h1, ← hz]; show -x.2 * cx_pr x.1 m = -(x.2 * cx_pr x.1 m); grind) (f := cx_ev (w0 ++ wm)) hm (b := b)
          (by have h3 : cx_pr b0 (m + cx_p b) < 0 := hr1; grind) (low _ _ _ f')
        have h2 := hq _ _ _ f'
        grind
theorem cx_theta {B : Type} [Zero B] [Add B] [Mul (cx_S B)] [One (cx_S B)] [Add (cx_S B)] [Zero (cx_S B)] [Inhabited (cx_Idx B)] {M : Type} [Add M] [Inhabited (PLift (cx_MGl M))] [Inhabited (cx_Tord B M)] {Z : M → Prop} {g : M → cx_S B} (h : cx_Wh Z g) (hpos : ∀ a : B, a ≠ 0 → cx_PosAt g a) {m : M} (hm : Z m) (hdom : ∀ a : B, 0 ≤ cx_pr a m) {d : Nat} {t : B → Rat} (ht : cx_Fun t)
    {wp w0 wm : List (B × Rat)} (f : cx_Fac t cx_All d g wp w0 wm) (b : B) (hb : cx_deg b ≤ d) : 0 ≤ (cx_ev wm : M → cx_S B) m b := by
  obtain ⟨ε, hε, hn⟩ := cx_near_small d t (cx_dg : B → Rat)
  have hn := hn ε hε (by grind)
  have g' : cx_Gen (fun _ => False) d (fun b => t b + ε * cx_dg b) := by
    refine ⟨ht.plus cx_fun_dg ε, fun b hb hd => ⟨fun h0 => ?_, fun h => h.elim⟩⟩
    have h0 : t b + ε * cx_dg b = 0 := h0
    by_cases h1 : 0 < t b
    · have h2 : 0 < t b + ε * cx_dg b := hn.pos b trivial hd h1
      grind
    · by_cases h2 : t b < 0
      · have h2 : t b + ε * cx_dg b < 0 := hn.neg b trivial hd h2
        grind
      · have h3 : t b = 0 := by grind
        have h4 : 0 < t b + ε * cx_dg b := hn.pos0 b trivial hd h3 (cx_dg_pos hb)
        grind
  have nilL : ∀ (P : B → Prop), cx_Lt P d ([] : List (B × Rat)) := fun P => ⟨fun x hx => by simp at hx⟩
  have f' := cx_Fac.near (vp := w0) (v0 := []) (vm := []) hn f ⟨⟨fun y hy => by
      have := f.nul.all y hy
      exact ⟨this.1, ⟨this.2.1, cx_dg_pos this.1⟩, this.2.2⟩⟩, nilL _, nilL _, by
    rw [cx_ev_nil, cx_I_comp, cx_comp_I]; exact cx_Eqd.rfl'⟩
  rw [List.nil_append] at f'
  exact cx_theta_gen h hpos hm hdom d (cx_deg b + 1) b (Nat.lt_succ_self _) hb _ g' _ _ _ f'
