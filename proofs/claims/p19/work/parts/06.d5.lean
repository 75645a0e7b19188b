section
def cx_Cmp {B : Type} [Zero B] [Add B] [Mul (cx_S B)] [One (cx_S B)] [Add (cx_S B)] [Zero (cx_S B)] [Inhabited (cx_Idx B)] (M : Type) [Add M] [Inhabited (PLift (cx_MGl M))] [Inhabited (cx_Tord B M)] (a : B) (t : B → Rat) : Prop := ∀ b, cx_deg b ≤ cx_deg a → 0 ≤ t b * cx_pr b (cx_p a : M)
theorem cx_split3 {B : Type} [Zero B] [Add B] [Mul (cx_S B)] [One (cx_S B)] [Add (cx_S B)] [Zero (cx_S B)] [Inhabited (cx_Idx B)] (l : List B) (u : B → Rat) : l.Perm (l.filter (fun x => decide (0 < u x)) ++ l.filter (fun x => decide (u x = 0)) ++ l.filter (fun x => decide (u x < 0))) := by
  induction l with
  | nil => exact List.Perm.nil
  | cons x l ih =>
    by_cases h1 : 0 < u x
    · rw [List.filter_cons_of_pos (by simpa using h1), List.filter_cons_of_neg (by simp; grind), List.filter_cons_of_neg (by simp; grind)]
      exact List.Perm.cons x ih
    · by_cases h2 : u x = 0
      · rw [List.filter_cons_of_neg (by simpa using h1), List.filter_cons_of_pos (by simpa using h2), List.filter_cons_of_neg (by simp; grind)]
        refine (List.Perm.cons x ih).trans ?_
        rw [List.append_assoc, List.append_assoc]
        exact List.perm_middle.symm
      · rw [List.filter_cons_of_neg (by simpa using h1), List.filter_cons_of_neg (by simpa using h2), List.filter_cons_of_pos (by simp; grind)]
        refine (List.Perm.cons x ih).trans ?_
        exact List.perm_middle.symm
theorem cx_indep {B : Type} [Zero B] [Add B] [Mul (cx_S B)] [One (cx_S B)] [Add (cx_S B)] [Zero (cx_S B)] [Inhabited (cx_Idx B)] {M : Type} [Add M] [Inhabited (PLift (cx_MGl M))] [Inhabited (cx_Tord B M)] {Z : M → Prop} {g : M → cx_S B} (h : cx_Wh Z g) {a : B} (ha : a ≠ 0) {ts : B → Rat} (hts : cx_Gen (cx_Par a) (cx_deg a) ts) (hcs : cx_Cmp M a ts) {fs : B → Rat} (ls : cx_Lam g a (cx_deg a) ts fs) :
    ∀ t, cx_Gen (cx_Par a) (cx_deg a) t → cx_Cmp M a t → ∀ f, cx_Lam g a (cx_deg a) t f → f a = fs a := by
  classical
  have vs := hts.van ha (Nat.le_refl _)
  intro t ht hct
  refine cx_path_ind (K := cx_Par a) (d := cx_deg a) vs (fun t => cx_Cmp M a t → ∀ f, cx_Lam g a (cx_deg a) t f → f a = fs a) ?_ ?_ ?_ t ht (ht.van ha (Nat.le_refl _)) hct
  · intro t t' gt vt gt' vt' hs hq hct f lf
    refine hq (fun b hb => ?_) f (lf.sgn hs)
    have h1 := hct b hb
    have h2 := hs b hb
    have h3 := hs.zero hb
    by_cases h4 : t' b * cx_pr b (cx_p a : M) < 0
    · rcases cx_mul_neg h4 with ⟨h5, h6⟩ | ⟨h5, h6⟩
      · have := Rat.mul_pos (h2.1.2 h5) (by grind : 0 < - cx_pr b (cx_p a : M)); grind
      · have := Rat.mul_pos (by have := h2.2.2 h5; grind : 0 < - t b) h6; grind
    · grind
  · intro t gt vt hc hct f lf
    have hsg : cx_Sgn (cx_deg a) t ts := by
      intro b hb
      have h1 := hc b hb
      by_cases hb0 : b = 0
      · rw [hb0, gt.f.zero, hts.f.zero]; exact ⟨Iff.rfl, Iff.rfl⟩
      have h2 := gt.z b hb0 hb
      have h3 := hts.z b hb0 hb
      by_cases h4 : t b = 0
      · have : ts b = 0 := h3.2 (h2.1 h4)
        rw [h4, this]; exact ⟨Iff.rfl, Iff.rfl⟩
      · have h5 : ts b ≠ 0 := fun e => h4 (h2.2 (h3.1 e))
        by_cases h6 : 0 < t b
        · by_cases h7 : 0 < ts b
          · exact ⟨⟨fun _ => h7, fun _ => h6⟩, ⟨fun h => by grind, fun h => by grind⟩⟩
          · have := Rat.mul_pos h6 (by grind : 0 < - ts b); grind
        · by_cases h7 : 0 < ts b
          · have := Rat.mul_pos (by grind : 0 < - t b) h7; grind
          · exact ⟨⟨fun h => by grind, fun h => by grind⟩, ⟨fun h => by grind, fun h => by grind⟩⟩
    exact (lf.sgn hsg).unique ha hts.f ls cx_Eqd.rfl' a ha (Nat.le_refl _) (cx_Par.refl a)
  · intro t t' s b0 gt vt gt' vt' hs hj hb0 hn hn' hs' hq hct f lf

    let t1 : B → Rat := fun b => t b + s * ts b
    have hTb0 : cx_Ta M a b0 = 0 := by
      have h1 : 0 ≤ t b0 * cx_Ta M a b0 := hct b0 hj.dg
      have h2 : 0 ≤ ts b0 * cx_Ta M a b0 := hcs b0 hj.dg
      rcases cx_mul_neg hb0 with ⟨h3, h4⟩ | ⟨h3, h4⟩
      · by_cases h5 : 0 < cx_Ta M a b0
        · have := Rat.mul_pos (by grind : 0 < - ts b0) h5; grind
        · by_cases h6 : cx_Ta M a b0 < 0
          · have := Rat.mul_pos h3 (by grind : 0 < - cx_Ta M a b0); grind
          · grind
      · by_cases h5 : 0 < cx_Ta M a b0
        · have := Rat.mul_pos (by grind : 0 < - t b0) h5; grind
        · by_cases h6 : cx_Ta M a b0 < 0
          · have := Rat.mul_pos h4 (by grind : 0 < - cx_Ta M a b0); grind
          · grind
    let J : B → Prop := fun x => x ≠ 0 ∧ cx_Sp (cx_Par a) b0 x
    have cJ : cx_Clo J := ⟨fun x y hx hy => ⟨fun e => hx.1 (cx_deg_pos x (by have := congrArg cx_deg e; rw [cx_deg_add, cx_deg_zero] at this; omega)),
      fun v hv h0 => by rw [hv.1.add, hx.2 v hv h0, hy.2 v hv h0]; grind⟩⟩
    have J1 : ∀ b, b ≠ 0 → cx_deg b ≤ cx_deg a → t1 b = 0 → J b := fun b h1 h2 h3 => ⟨h1, hj.sp b h1 h2 h3⟩
    have J2 : ∀ b, J b → t1 b = 0 := fun b hb => hb.2 t1 hj.van hj.zr
    have Jc : ∀ x y, J x → J y → cx_pr x (cx_p y : M) = 0 := by
      intro x y hx hy
      have h1 : ∀ z, J z → cx_Ta M a z = 0 := fun z hz => hz.2 _ (cx_Ta_van ha) hTb0
      refine hx.2 (fun b => cx_pr b (cx_p y : M)) (cx_Van.par ha (cx_fun_pr _) ?_) ?_
      · show cx_pr a (cx_p y : M) = 0
        rw [cx_skew]; have := h1 y hy; have h2 : cx_pr y (cx_p a : M) = 0 := this; rw [h2]; rfl
      · show cx_pr b0 (cx_p y : M) = 0
        rw [cx_skew]
        have : cx_pr y (cx_p b0 : M) = 0 := hy.2 (fun b => cx_pr b (cx_p b0 : M)) (cx_Van.par ha (cx_fun_pr _) (by
          show cx_pr a (cx_p b0 : M) = 0
          rw [cx_skew]; have h2 : cx_pr b0 (cx_p a : M) = 0 := hTb0; rw [h2]; rfl)) (cx_pr_self b0)
        rw [this]; rfl
    obtain ⟨ord, hnod, hmem⟩ := cx_exists_list (B := B) (cx_deg a) J
    obtain ⟨wp, w0, wm, hf, hw⟩ := h.fac t1 (cx_deg a)
    obtain ⟨c, hc, hcw⟩ := cx_zero_nf h hf (fun x hx => hw x (by simp [hx])) cJ J1 hnod hmem
    have cx_side : ∀ (u t2 : B → Rat), cx_Gen (cx_Par a) (cx_deg a) t2 → cx_Van (cx_Par a) u → u b0 ≠ 0 → cx_Near cx_All (cx_deg a) t1 u t2 → cx_Lam g a (cx_deg a) t2 c := by
      intro u t2 g2 hu hu0 hn2
      have hsp := cx_split3 ord u
      have hcm : ∀ x ∈ ord, ∀ y ∈ ord, cx_pr x (cx_p y : M) = 0 := fun x hx y hy => Jc x y ((hmem x).1 hx).2.2 ((hmem y).1 hy).2.2
      have hc' := hc
      rw [cx_nf_perm hsp hcm c] at hc'
      refine cx_joint_lam (u := u) hf (fun x hx => ?_) hc' (fun y hy => ?_) (fun y hy => ?_) (fun y hy => ?_) hn2 ⟨hnod.sublist List.filter_sublist, fun y => ?_⟩
      · have := (hmem x).1 (hsp.mem_iff.2 hx)
        exact ⟨this.1, this.2.1, J2 x this.2.2⟩
      · simpa using (List.mem_filter.1 hy).2
      · simpa using (List.mem_filter.1 hy).2
      · simpa using (List.mem_filter.1 hy).2
      · rw [List.mem_filter, decide_eq_true_eq, hmem]
        constructor
        · rintro ⟨⟨h1, h2, h3⟩, h4⟩
          exact ⟨h1, h2, (g2.z y h1 h2).1 (hn2.nul0 y trivial h2 (J2 y h3) h4)⟩
        · rintro ⟨h1, h2, h3⟩
          exact ⟨⟨h1, h2, h1, fun v hv _ => hv.2 y h3⟩, hu.2 y h3⟩
    have l1 := cx_side (fun b => - ts b) t gt ⟨⟨fun x y => by show - ts (x + y) = _; rw [hts.f.add]; grind⟩, fun x hx => by show - ts x = 0; rw [vs.2 x hx]; rfl⟩ (by have := hj.tr; grind) hn
    have l2 := cx_side ts t' gt' vs hj.tr hn'
    rw [lf.unique ha gt.f l1 cx_Eqd.rfl' a ha (Nat.le_refl _) (cx_Par.refl a)]
    refine hq (fun b hb => ?_) c l2
    obtain ⟨s', h1, h2⟩ := hs'
    rw [h2 b]
    have h3 := hct b hb
    have h4 := Rat.mul_nonneg (by grind : 0 ≤ s') (hcs b hb)
    grind
theorem cx_ev_flat {B : Type} [Zero B] [Add B] [Mul (cx_S B)] [One (cx_S B)] [Add (cx_S B)] [Zero (cx_S B)] [Inhabited (cx_Idx B)] {M : Type} [Add M] [Inhabited (PLift (cx_MGl M))] [Inhabited (cx_Tord B M)] {w : List (B × Rat)} (hw : cx_NZ w) {m : M} (b : B) (h : ∀ u v, u + v = b → cx_pr u m = 0) : (cx_ev w : M → cx_S B) m b = (1 : cx_S B) b := by
  classical
  induction w generalizing b with
  | nil => rfl
  | cons x w ih =>
    have ih := ih (fun y hy => hw y (by simp [hy]))
    rw [cx_ev_cons, cx_comp_def]
    have e1 : cx_D b (fun u s => cx_ev w m u * cx_E x.1 x.2 (m + cx_p u) s) = cx_D b (fun u s => (1 : cx_S B) u * cx_E x.1 x.2 (m + cx_p u) s) := by
      refine cx_D_congr (fun u s hus => ?_)
      rw [ih u (fun v1 v2 hv => h v1 (v2 + s) (by rw [← cx_addA, hv, hus]))]
    rw [e1, cx_D_comm, cx_D_right]
    · show (1 : cx_S B) 0 * cx_E x.1 x.2 (m + cx_p (0 : B)) b = _
      rw [cx_one_zero, Rat.one_mul, cx_p_zero]
      by_cases hx : ∃ j, cx_nsm j x.1 = b
      · obtain ⟨j, hj⟩ := hx
        cases j with
        | zero =>
          have : b = 0 := hj.symm
          rw [this, cx_one_zero]; exact (cx_E_good (hw x (by simp)) x.2).unit m
        | succ j =>
          have h0 : cx_pr x.1 m = 0 := h x.1 (cx_nsm j x.1) (by rw [cx_addC]; exact hj)
          show cx_sub x.1 (cx_bin (x.2 * cx_pr x.1 m)) b = _
          rw [h0, Rat.mul_zero, ← hj, cx_sub_at (hw x (by simp)), cx_bin_z, cx_one_ne]
          intro e
          have := congrArg cx_deg e
          rw [cx_nsm_deg, cx_deg_zero] at this
          have h2 : cx_deg x.1 ≠ 0 := fun e => hw x (by simp) (cx_deg_pos _ e)
          rcases Nat.mul_eq_zero.1 this with h | h
          · omega
          · exact h2 h
      · have hno : ∀ j, cx_nsm j x.1 ≠ b := fun j hj => hx ⟨j, hj⟩
        show cx_sub x.1 _ b = _
        rw [cx_sub_off _ hno, cx_one_ne]
        intro e; exact hno 0 e.symm
    · intro u v _ hv; show (1 : cx_S B) v * _ = 0; rw [cx_one_ne hv, Rat.zero_mul]
theorem cx_theta_gen {B : Type} [Zero B] [Add B] [Mul (cx_S B)] [One (cx_S B)] [Add (cx_S B)] [Zero (cx_S B)] [Inhabited (cx_Idx B)] {M : Type} [Add M] [Inhabited (PLift (cx_MGl M))] [Inhabited (cx_Tord B M)] {Z : M → Prop} {g : M → cx_S B} (h : cx_Wh Z g) (hpos : ∀ a : B, a ≠ 0 → cx_PosAt g a) {m : M} (hm : Z m) (hdom : ∀ a : B, 0 ≤ cx_pr a m) (d : Nat) :
    ∀ n, ∀ b : B, cx_deg b < n → cx_deg b ≤ d → ∀ t, cx_Gen (fun _ => False) d t → ∀ wp w0 wm, cx_Fac t cx_All d g wp w0 wm → 0 ≤ (cx_ev wm : M → cx_S B) m b := by
  classical
  intro n
  induction n with
  | zero => intro b h; omega
  | succ n ih =>
    intro b hbn hbd t ht
    by_cases hb0 : b = 0
    · intro wp w0 wm f
      rw [hb0, (cx_ev_good f.neg.nz).unit]; grind
    let T : B → Rat := fun x => cx_pr x (m + cx_p b)
    have fT : cx_Fun T := cx_fun_pr _
    have vF : ∀ v : B → Rat, cx_Fun v → cx_Van (fun _ => False) v := fun v hv => ⟨hv, fun _ h => h.elim⟩
    refine cx_path_ind (K := fun _ => False) (d := d) (vF T fT) (fun t => ∀ wp w0 wm, cx_Fac t cx_All d g wp w0 wm → 0 ≤ (cx_ev wm : M → cx_S B) m b) ?_ ?_ ?_ t ht (vF t ht.f)
    · intro t t' _ _ _ _ hs hq wp w0 wm f
      exact hq wp w0 wm (f.sgn hs)
    · intro t gt _ hc wp w0 wm f
      have hTb : T b = cx_pr b m := by show cx_pr b (m + cx_p b) = _; rw [cx_pr_addR, cx_pr_self, Rat.add_zero]
      by_cases hz : cx_pr b m = 0
      · rw [cx_ev_flat f.neg.nz b (fun u v huv => by
          have h1 := hdom u
          have h2 := hdom v
          have h3 : cx_pr u m + cx_pr v m = 0 := by rw [← cx_pr_addL, huv, hz]
          grind), cx_one_ne hb0]
        grind
      · have h1 : 0 < T b := by rw [hTb]; have := hdom b; grind
        have h2 := hc b hbd
        have h3 : 0 ≤ t b := by
          by_cases h4 : t b < 0
          · have := Rat.mul_pos (by grind : 0 < - t b) h1; grind
          · grind
        rw [f.minus_none gt.f m hb0 h3]; grind
    · intro t t' s b0 gt _ gt' _ hs hj hb0' hn hn' _ hq
      let t1 : B → Rat := fun b => t b + s * T b
      have ft1 : cx_Fun t1 := hj.van.1
      have hpar : ∀ x, x ≠ 0 → cx_deg x ≤ d → (t1 x = 0 ↔ cx_Par b0 x) := by
        intro x hx hdx
        constructor
        · intro h0 v hv
          have h1 := hj.sp x hx hdx h0 (fun y => cx_dg b0 * v y + (- v b0) * cx_dg y) (vF _ (hv.lin cx_fun_dg (cx_dg b0) (- v b0))) (by show cx_dg b0 * v b0 + (- v b0) * cx_dg b0 = 0; grind)
          grind
        · intro hp; exact hp.zero hj.nz ft1 hj.zr
      have g1 : cx_Gen (cx_Par b0) d t1 := ⟨ft1, hpar⟩
      obtain ⟨f, ⟨ord, wp, wm, hr, hf⟩, hfw⟩ := cx_Lam.exists h g1
      have hfp : ∀ x ∈ ord, 0 ≤ f x := by
        intro x hx
        have hx' := (hr.mem x).1 hx
        refine hpos x hx'.1 t1 (g1.par hj.nz hx'.1 hx'.2.2 hx'.2.1) f ?_
        exact (cx_Lam.par hj.nz hx'.1 hx'.2.2 ⟨ord, wp, wm, hr, hf⟩).cut hx'.2.1
      let w0 : List (B × Rat) := ord.map fun x => (x, f x)
      have hw0 : ∀ y ∈ w0, y.1 ≠ 0 ∧ cx_Par b0 y.1 ∧ cx_Wl Z y ∧ 0 ≤ y.2 ∧ cx_deg y.1 ≤ d := by
        intro y hy
        obtain ⟨x, hx, rfl⟩ := List.mem_map.1 hy
        have hx' := (hr.mem x).1 hx
        exact ⟨hx'.1, hx'.2.2, hfw x hx'.1 hx'.2.1 hx'.2.2, hfp x hx, hx'.2.1⟩
      have hTs : ∀ y ∈ w0, T y.1 * cx_dg b0 = T b0 * cx_dg y.1 := fun y hy => (hw0 y hy).2.1 T fT
      have ht1z : ∀ y ∈ w0, t1 y.1 = 0 := fun y hy => (hw0 y hy).2.1.zero hj.nz ft1 hj.zr
      have hdb0 := cx_dg_pos hj.nz
      have nilL : ∀ (P : B → Prop), cx_Lt P d ([] : List (B × Rat)) := fun P => ⟨fun x hx => by simp at hx⟩

      have left : ∀ u t2, (∀ y ∈ w0, 0 < u y.1) → cx_Near cx_All d t1 u t2 → cx_Fac t2 cx_All d g (wp ++ w0) [] wm := by
        intro u t2 hu hn2
        have := cx_Fac.near (vp := w0) (v0 := []) (vm := []) hn2 hf ⟨⟨fun y hy => ⟨(hw0 y hy).1, ⟨⟨trivial, ht1z y hy⟩, hu y hy⟩, (hw0 y hy).2.2.2.2⟩⟩, nilL _, nilL _, by
          rw [cx_ev_nil, cx_I_comp, cx_comp_I]; exact cx_Eqd.rfl'⟩
        rw [List.nil_append] at this
        exact this
      have right : ∀ u t2, (∀ y ∈ w0, u y.1 < 0) → cx_Near cx_All d t1 u t2 → cx_Fac t2 cx_All d g wp [] (w0 ++ wm) := by
        intro u t2 hu hn2
        have := cx_Fac.near (vp := []) (v0 := []) (vm := w0) hn2 hf ⟨nilL _, nilL _, ⟨fun y hy => ⟨(hw0 y hy).1, ⟨⟨trivial, ht1z y hy⟩, hu y hy⟩, (hw0 y hy).2.2.2.2⟩⟩, by
          rw [cx_ev_nil, cx_I_comp, cx_I_comp]; exact cx_Eqd.rfl'⟩
        rw [List.append_nil] at this
        exact this
      have low : ∀ wp' w0' wm', cx_Fac t' cx_All d g wp' w0' wm' → ∀ u : B, cx_deg u < cx_deg b → 0 ≤ (cx_ev wm' : M → cx_S B) m u := fun wp' w0' wm' f' u hu =>
        ih u (by omega) (by omega) t' gt' wp' w0' wm' f'
      intro wp2 w02 wm2 f2
      by_cases hr0 : 0 < T b0
      · have hpT : ∀ y ∈ w0, 0 < T y.1 := by
          intro y hy
          have h1 := hTs y hy
          by_cases h2 : 0 < T y.1
          · exact h2
          · have h3 := Rat.mul_nonneg (by grind : 0 ≤ - T y.1) (by grind : 0 ≤ cx_dg b0)
            have h4 := Rat.mul_pos hr0 (cx_dg_pos (hw0 y hy).1)
            grind
        have f' := left T t' hpT hn'
        have f1 := right (fun b => - T b) t (fun y hy => by have := hpT y hy; show - T y.1 < 0; grind) hn
        have e1 := (f2.unique gt.f f1 cx_Eqd.rfl').2.2 m b hbd
        rw [e1, cx_ev_append]
        have h1 := cx_crossP hj.nz h.hZ (w := w0) 1 (by grind) (fun y hy => ⟨(hw0 y hy).1, (hw0 y hy).2.1, (hw0 y hy).2.2.1, by have := (hw0 y hy).2.2.2.1; grind⟩) (f := cx_ev wm) hm (b := b)
          (by have h3 : 0 < cx_pr b0 (m + cx_p b) := hr0; grind) (low _ _ _ f')
        have h2 := hq _ _ _ f'
        grind
      · have hr1 : T b0 < 0 := by have := hj.tr; grind
        have hpT : ∀ y ∈ w0, T y.1 < 0 := by
          intro y hy
          have h1 := hTs y hy
          by_cases h2 : T y.1 < 0
          · exact h2
          · have h3 := Rat.mul_nonneg (by grind : 0 ≤ T y.1) (by grind : 0 ≤ cx_dg b0)
            have h4 := Rat.mul_pos (by grind : 0 < - T b0) (cx_dg_pos (hw0 y hy).1)
            grind
        have f' := right T t' hpT hn'
        have f1 := left (fun b => - T b) t (fun y hy => by have := hpT y hy; show 0 < - T y.1; grind) hn
        have e1 := (f2.unique gt.f f1 cx_Eqd.rfl').2.2 m b hbd
        have nz0 : cx_NZ w0 := fun y hy => (hw0 y hy).1
        have e2 : (cx_ev wm : M → cx_S B) = cx_comp (cx_ev (cx_inv w0)) (cx_ev (w0 ++ wm)) := by
          rw [cx_ev_append, ← cx_comp_assoc, cx_ev_inv' nz0, cx_I_comp]
        rw [e1, e2]
        have h1 := cx_crossP hj.nz h.hZ (w := cx_inv w0) (-1) (by grind) (fun y hy => by
          simp only [cx_inv, List.mem_reverse, List.mem_map] at hy
          obtain ⟨x, hx, rfl⟩ := hy
          have hx' := hw0 x hx
          refine ⟨hx'.1, hx'.2.1, ?_, by have := hx'.2.2.2.1; show 0 ≤ -1 * - x.2; grind⟩
          intro m hm
          obtain ⟨z, hz⟩ := hx'.2.2.1 m hm
          refine ⟨-z, ?_⟩
          have h1 : ((-z : Int) : Rat) = -(z : Rat) := by exact_mod_cast rfl
          rw [h1, ← hz]; show -x.2 * cx_pr x.1 m = -(x.2 * cx_pr x.1 m); grind) (f := cx_ev (w0 ++ wm)) hm (b := b)
          (by have h3 : cx_pr b0 (m + cx_p b) < 0 := hr1; grind) (low _ _ _ f')
        have h2 := hq _ _ _ f'
        grind
theorem cx_theta {B : Type} [Zero B] [Add B] [Mul (cx_S B)] [One (cx_S B)] [Add (cx_S B)] [Zero (cx_S B)] [Inhabited (cx_Idx B)] {M : Type} [Add M] [Inhabited (PLift (cx_MGl M))] [Inhabited (cx_Tord B M)] {Z : M → Prop} {g : M → cx_S B} (h : cx_Wh Z g) (hpos : ∀ a : B, a ≠ 0 → cx_PosAt g a) {m : M} (hm : Z m) (hdom : ∀ a : B, 0 ≤ cx_pr a m) {d : Nat} {t : B → Rat} (ht : cx_Fun t)
    {wp w0 wm : List (B × Rat)} (f : cx_Fac t cx_All d g wp w0 wm) (b : B) (hb : cx_deg b ≤ d) : 0 ≤ (cx_ev wm : M → cx_S B) m b := by
  obtain ⟨ε, hε, hn⟩ := cx_near_small d t (cx_dg : B → Rat)
  have hn := hn ε hε (by grind)
  have g' : cx_Gen (fun _ => False) d (fun b => t b + ε * cx_dg b) := by
    refine ⟨ht.plus cx_fun_dg ε, fun b hb hd => ⟨fun h0 => ?_, fun h => h.elim⟩⟩
    have h0 : t b + ε * cx_dg b = 0 := h0
    by_cases h1 : 0 < t b
    · have h2 : 0 < t b + ε * cx_dg b := hn.pos b trivial hd h1
      grind
    · by_cases h2 : t b < 0
      · have h2 : t b + ε * cx_dg b < 0 := hn.neg b trivial hd h2
        grind
      · have h3 : t b = 0 := by grind
        have h4 : 0 < t b + ε * cx_dg b := hn.pos0 b trivial hd h3 (cx_dg_pos hb)
        grind
  have nilL : ∀ (P : B → Prop), cx_Lt P d ([] : List (B × Rat)) := fun P => ⟨fun x hx => by simp at hx⟩
  have f' := cx_Fac.near (vp := w0) (v0 := []) (vm := []) hn f ⟨⟨fun y hy => by
      have := f.nul.all y hy
      exact ⟨this.1, ⟨this.2.1, cx_dg_pos this.1⟩, this.2.2⟩⟩, nilL _, nilL _, by
    rw [cx_ev_nil, cx_I_comp, cx_comp_I]; exact cx_Eqd.rfl'⟩
  rw [List.nil_append] at f'
  exact cx_theta_gen h hpos hm hdom d (cx_deg b + 1) b (Nat.lt_succ_self _) hb _ g' _ _ _ f'
end

section
theorem cx_bin_big (n k : Nat) (h : n < k) : cx_bin (n : Rat) k = 0 := by
  induction k with
  | zero => omega
  | succ j ih =>
    have hs := cx_bin_succ (n : Rat) j
    have hne : ((j : Rat) + 1) ≠ 0 := by
      have : (0 : Rat) ≤ (j : Rat) := by exact_mod_cast Nat.zero_le j
      grind
    have h0 : cx_bin (n : Rat) j * ((n : Rat) - j) = 0 := by
      by_cases hj : n < j
      · rw [ih hj, Rat.zero_mul]
      · have : n = j := by omega
        subst this
        rw [show (n : Rat) - n = 0 by grind, Rat.mul_zero]
    rw [h0] at hs
    rcases Rat.mul_eq_zero.1 hs with h | h
    · exact h
    · exact absurd h hne
theorem cx_comp_top {B : Type} [Zero B] [Add B] [Mul (cx_S B)] [One (cx_S B)] [Add (cx_S B)] [Zero (cx_S B)] [Inhabited (cx_Idx B)] {M : Type} [Add M] [Inhabited (PLift (cx_MGl M))] [Inhabited (cx_Tord B M)] {f f' g g' : M → cx_S B} {D0 : Nat} (hf : ∀ m b, cx_deg b < D0 → f m b = f' m b) (hg : ∀ m b, cx_deg b < D0 → g m b = g' m b)
    (uf : ∀ m, f m 0 = 1) (uf' : ∀ m, f' m 0 = 1) (ug : ∀ m, g m 0 = 1) (ug' : ∀ m, g' m 0 = 1) {a : B} (ha : a ≠ 0) (hd : cx_deg a = D0) (m : M) :
    cx_comp f g m a - cx_comp f' g' m a = (f m a - f' m a) + (g m a - g' m a) := by
  have e : cx_comp f g m a - cx_comp f' g' m a = cx_D a (fun u s => g m u * f (m + cx_p u) s + (-1) * (g' m u * f' (m + cx_p u) s)) := by
    rw [cx_D_add, cx_D_mulL, cx_comp_def, cx_comp_def]; grind
  rw [e, cx_D_ends ha]
  · simp only [uf, uf', ug, ug', cx_p_zero]; grind
  · intro u s hus hu hs
    have h := cx_deg_add u s
    rw [hus] at h
    have h1 : cx_deg u ≠ 0 := fun e => hu (cx_deg_pos u e)
    have h2 : cx_deg s ≠ 0 := fun e => hs (cx_deg_pos s e)
    rw [hf _ s (by omega), hg _ u (by omega)]; grind
theorem cx_lam_shift {B : Type} [Zero B] [Add B] [Mul (cx_S B)] [One (cx_S B)] [Add (cx_S B)] [Zero (cx_S B)] [Inhabited (cx_Idx B)] {M : Type} [Add M] [Inhabited (PLift (cx_MGl M))] [Inhabited (cx_Tord B M)] {g g' : M → cx_S B} {a : B} (ha : a ≠ 0) {t : B → Rat} (ht : cx_Gen (cx_Par a) (cx_deg a) t) {f f' : B → Rat}
    (l : cx_Lam g a (cx_deg a) t f) (l' : cx_Lam g' a (cx_deg a) t f') (hlow : ∀ m b, cx_deg b < cx_deg a → g m b = g' m b) (m : M) : g m a - g' m a = (f a - f' a) * cx_pr a m := by
  classical
  have hda : cx_deg a ≠ 0 := fun e => ha (cx_deg_pos a e)
  have hee : cx_Eqd (cx_deg a - 1) g g' := fun m b hb => hlow m b (by omega)
  have hlowf := (l.cut (d' := cx_deg a - 1) (by omega)).unique ha ht.f (l'.cut (by omega)) hee
  obtain ⟨ord, wp, wm, hr, hf⟩ := l
  obtain ⟨ord', wp', wm', hr', hf'⟩ := l'
  have e1 : (cx_ev (ord'.map fun x => (x, f' x)) : M → cx_S B) = cx_nf ord f' := (cx_nf_perm (hr.perm hr') (hr.comm ha) f').symm
  have hta : t a = 0 := (ht.z a ha (Nat.le_refl _)).2 (cx_Par.refl a)
  have u := (hf.cut (d' := cx_deg a - 1) (by omega)).unique ht.f (hf'.cut (by omega)) hee
  have up : cx_Eqd (cx_deg a - 1) (cx_ev wp : M → cx_S B) (cx_ev wp') := (cx_ev_cut hf.pos.nz).trans (u.1.trans (cx_ev_cut hf'.pos.nz).symm)
  have u0 : cx_Eqd (cx_deg a - 1) (cx_nf ord f : M → cx_S B) (cx_nf ord f') := by
    rw [← e1]; exact (cx_ev_cut hf.nul.nz).trans (u.2.1.trans (cx_ev_cut hf'.nul.nz).symm)
  have um : cx_Eqd (cx_deg a - 1) (cx_ev wm : M → cx_S B) (cx_ev wm') := (cx_ev_cut hf.neg.nz).trans (u.2.2.trans (cx_ev_cut hf'.neg.nz).symm)
  have cp : cx_Clo (fun b => 0 < t b) := ⟨fun a b h h' => by have e_ := ht.f.add a b; grind⟩
  have cx_cm : cx_Clo (fun b => t b < 0) := ⟨fun a b h h' => by have e_ := ht.f.add a b; grind⟩
  have p0 : (cx_ev wp : M → cx_S B) m a = 0 := hf.pos.sup cp (fun _ h => h.2) m a ha (by grind)
  have p0' : (cx_ev wp' : M → cx_S B) m a = 0 := hf'.pos.sup cp (fun _ h => h.2) m a ha (by grind)
  have m0 : (cx_ev wm : M → cx_S B) m a = 0 := hf.neg.sup cx_cm (fun _ h => h.2) m a ha (by grind)
  have m0' : (cx_ev wm' : M → cx_S B) m a = 0 := hf'.neg.sup cx_cm (fun _ h => h.2) m a ha (by grind)
  have hnz : ∀ x ∈ ord, x ≠ 0 := fun x hx => ((hr.mem x).1 hx).1
  have gp := (cx_ev_good (M := M) hf.pos.nz).unit
  have gp' := (cx_ev_good (M := M) hf'.pos.nz).unit
  have gm := (cx_ev_good (M := M) hf.neg.nz).unit
  have gm' := (cx_ev_good (M := M) hf'.neg.nz).unit
  have g0 := (cx_nf_good (M := M) hnz f).unit
  have g0' := (cx_nf_good (M := M) hnz f').unit
  have eqg : g m a = cx_comp (cx_ev wp) (cx_comp (cx_nf ord f) (cx_ev wm)) m a := hf.eq m a (Nat.le_refl _)
  have eqg' : g' m a = cx_comp (cx_ev wp') (cx_comp (cx_nf ord f') (cx_ev wm')) m a := by
    rw [hf'.eq m a (Nat.le_refl _), e1]
  have lo : ∀ {x y : M → cx_S B}, cx_Eqd (cx_deg a - 1) x y → ∀ m b, cx_deg b < cx_deg a → x m b = y m b := fun h m b hb => h m b (by omega)
  rw [eqg, eqg', cx_comp_top (lo up) (lo (cx_Eqd.comp u0 um)) gp gp' ((cx_nf_good hnz f).comp (cx_ev_good hf.neg.nz)).unit ((cx_nf_good hnz f').comp (cx_ev_good hf'.neg.nz)).unit ha rfl m,
    cx_comp_top (lo u0) (lo um) g0 g0' gm gm' ha rfl m, p0, p0', m0, m0']
  let z : B → Rat := fun y => if cx_deg y < cx_deg a then f y else 0
  have n1 := cx_nf_low (M := M) hr.nodup hnz f z (cx_deg a) (by omega) (fun y _ h => by show _ = if _ then _ else _; rw [if_pos h]) (fun y _ h => by show (if _ then _ else _) = _; rw [if_neg (by omega)]) m a (Nat.le_refl _)
  have n2 := cx_nf_low (M := M) hr.nodup hnz f' z (cx_deg a) (by omega) (fun y hy h => by
    show _ = if _ then _ else _; rw [if_pos h]
    have := (hr.mem y).1 hy
    exact (hlowf y this.1 (by omega) this.2.2).symm) (fun y _ h => by show (if _ then _ else _) = _; rw [if_neg (by omega)]) m a (Nat.le_refl _)
  have hmem : a ∈ ord := (hr.mem a).2 ⟨ha, Nat.le_refl _, cx_Par.refl a⟩
  rw [if_pos ⟨rfl, hmem⟩] at n1 n2
  rw [n1, n2]; grind
theorem cx_gen_cmp {B : Type} [Zero B] [Add B] [Mul (cx_S B)] [One (cx_S B)] [Add (cx_S B)] [Zero (cx_S B)] [Inhabited (cx_Idx B)] {M : Type} [Add M] [Inhabited (PLift (cx_MGl M))] [Inhabited (cx_Tord B M)] {a : B} (ha : a ≠ 0) (D0 : Nat) (k : B) (hk : ¬ cx_Par a k) (s : Rat) (hs : s = 1 ∨ s = -1) (h : 0 ≤ s * cx_pr k (cx_p a : M)) :
    ∃ t, cx_Gen (cx_Par a) D0 t ∧ (∀ b, cx_deg b ≤ D0 → 0 ≤ t b * cx_pr b (cx_p a : M)) ∧ 0 < s * t k := by
  classical
  obtain ⟨l, hn, hm⟩ := cx_exists_list (B := B) D0 (fun x => ¬ cx_Par a x)
  have hT := cx_Ta_van (M := M) ha
  obtain ⟨v, hv, hgen⟩ := cx_generic (cx_Van (cx_Par a)) (fun u v hu hv e => ⟨hu.1.plus hv.1 e, fun a ha => by show u a + e * v a = 0; rw [hu.2 a ha, hv.2 a ha]; grind⟩) ⟨cx_Ta M a, hT⟩
    ((k :: l).map fun x => ((x, 1), (x, 0))) (by
    intro q hq
    obtain ⟨x, hx, rfl⟩ := List.mem_map.1 hq
    have hx : ¬ cx_Par a x := by
      rcases List.mem_cons.1 hx with h | h
      · rw [h]; exact hk
      · exact ((hm x).1 h).2.2
    have : ∃ v : B → Rat, cx_Fun v ∧ v x * cx_dg a ≠ v a * cx_dg x := by
      refine Classical.byContradiction (fun hno => hx (fun v hv => ?_))
      exact Classical.byContradiction (fun h1 => hno ⟨v, hv, h1⟩)
    obtain ⟨v, hv, hne⟩ := this
    refine ⟨fun y => cx_dg a * v y + (- v a) * cx_dg y, cx_Van.par ha (hv.lin cx_fun_dg _ _) (by show cx_dg a * v a + (- v a) * cx_dg a = 0; grind), ?_⟩
    show (cx_dg a * v x + (- v a) * cx_dg x) * 1 + (cx_dg a * v x + (- v a) * cx_dg x) * 0 ≠ 0
    grind)
  have hgen' : ∀ x ∈ k :: l, v x ≠ 0 := by
    intro x hx h0
    have := hgen ((x, 1), (x, 0)) (List.mem_map.2 ⟨x, hx, rfl⟩)
    simp only [h0] at this
    exact this (by grind)

  obtain ⟨w, hw, hwn, hwk⟩ : ∃ w, cx_Van (cx_Par a) w ∧ (∀ x ∈ k :: l, w x ≠ 0) ∧ 0 < s * w k := by
    have hvk := hgen' k (by simp)
    by_cases h1 : 0 < s * v k
    · exact ⟨v, hv, hgen', h1⟩
    · refine ⟨fun x => (-1) * v x, ⟨hv.1.smul (-1), fun x hx => by show (-1) * v x = 0; rw [hv.2 x hx]; grind⟩, fun x hx h0 => hgen' x hx (by grind), ?_⟩
      rcases hs with rfl | rfl <;> grind
  obtain ⟨ε, hε, hns⟩ := cx_near_small (max D0 (cx_deg k)) (cx_Ta M a) w
  have hns := hns ε hε (by grind)
  have ft : cx_Fun (fun b => cx_Ta M a b + ε * w b) := hT.1.plus hw.1 ε
  refine ⟨fun b => cx_Ta M a b + ε * w b, ⟨ft, fun b hb hd => ⟨fun h0 => ?_, fun hp => ?_⟩⟩, fun b hb => ?_, ?_⟩
  · have h0 : cx_Ta M a b + ε * w b = 0 := h0
    refine Classical.byContradiction (fun hnp => ?_)
    have hwb : w b ≠ 0 := hwn b (by simp [(hm b).2 ⟨hb, hd, hnp⟩])
    by_cases h1 : 0 < cx_Ta M a b
    · have h2 : 0 < cx_Ta M a b + ε * w b := hns.pos b trivial (by omega) h1
      grind
    · by_cases h2 : cx_Ta M a b < 0
      · have h2 : cx_Ta M a b + ε * w b < 0 := hns.neg b trivial (by omega) h2
        grind
      · have h3 : cx_Ta M a b = 0 := by grind
        rw [h3, Rat.zero_add] at h0
        rcases Rat.mul_eq_zero.1 h0 with h | h
        · grind
        · exact hwb h
  · show cx_Ta M a b + ε * w b = 0
    rw [hT.2 b hp, hw.2 b hp]; grind
  · show 0 ≤ (cx_Ta M a b + ε * w b) * cx_Ta M a b
    by_cases h1 : 0 < cx_Ta M a b
    · have h2 : 0 < cx_Ta M a b + ε * w b := hns.pos b trivial (by omega) h1
      have := Rat.mul_pos h2 h1; grind
    · by_cases h2 : cx_Ta M a b < 0
      · have h3 : cx_Ta M a b + ε * w b < 0 := hns.neg b trivial (by omega) h2
        have := Rat.mul_pos (by grind : 0 < -(cx_Ta M a b + ε * w b)) (by grind : 0 < - cx_Ta M a b); grind
      · have h3 : cx_Ta M a b = 0 := by grind
        rw [h3]; grind
  · show 0 < s * (cx_Ta M a k + ε * w k)
    have h1 : 0 ≤ s * cx_Ta M a k := h
    have := Rat.mul_pos hε hwk
    grind
theorem cx_gen_cmp0 {B : Type} [Zero B] [Add B] [Mul (cx_S B)] [One (cx_S B)] [Add (cx_S B)] [Zero (cx_S B)] [Inhabited (cx_Idx B)] {M : Type} [Add M] [Inhabited (PLift (cx_MGl M))] [Inhabited (cx_Tord B M)] {a : B} (ha : a ≠ 0) (D0 : Nat) : ∃ t, cx_Gen (cx_Par a) D0 t ∧ (∀ b, cx_deg b ≤ D0 → 0 ≤ t b * cx_pr b (cx_p a : M)) := by
  classical
  by_cases hk : ∃ k : B, ¬ cx_Par a k
  · obtain ⟨k, hk⟩ := hk
    by_cases h : 0 ≤ cx_pr k (cx_p a : M)
    · obtain ⟨t, h1, h2, _⟩ := cx_gen_cmp (M := M) ha D0 k hk 1 (.inl rfl) (by grind)
      exact ⟨t, h1, h2⟩
    · obtain ⟨t, h1, h2, _⟩ := cx_gen_cmp (M := M) ha D0 k hk (-1) (.inr rfl) (by grind)
      exact ⟨t, h1, h2⟩
  · refine ⟨cx_Ta M a, ⟨cx_Ta_fun a, fun b _ _ => ⟨fun _ => Classical.byContradiction (fun h => hk ⟨b, h⟩), fun h => (cx_Ta_van ha).2 b h⟩⟩, fun b _ => ?_⟩
    have : cx_Ta M a b = 0 := (cx_Ta_van ha).2 b (Classical.byContradiction (fun h => hk ⟨b, h⟩))
    rw [this]; grind
abbrev cx_Kd {B : Type} [Zero B] [Add B] [Mul (cx_S B)] [One (cx_S B)] [Add (cx_S B)] [Zero (cx_S B)] [Inhabited (cx_Idx B)] (M : Type) [Add M] [Inhabited (PLift (cx_MGl M))] [Inhabited (cx_Tord B M)] (k : B) (q : Rat) (v v2 cx_dl : B → Rat) : Prop := (k ≠ 0) ∧ (cx_deg k = 1) ∧ (cx_Fun v) ∧ (cx_Fun v2) ∧ (cx_Fun cx_dl) ∧ (∀ a, v2 a = v a + q * cx_pr k (cx_p a : M)) ∧ (v k = -1) ∧ (cx_dl k = 0) ∧ (∀ a, 0 ≤ cx_dl a) ∧ (∀ a, cx_dl a = 0 → ∃ j, a = cx_nsm j k) ∧ (∀ a : B, cx_IsI (q * cx_pr k (cx_p a : M))) ∧ (∀ a : B, cx_dl a ≠ 0 → ∃ m : M, cx_pr k m = 0 ∧ cx_pr a m ≠ 0)
theorem cx_Kd.k0 {B : Type} [Zero B] [Add B] [Mul (cx_S B)] [One (cx_S B)] [Add (cx_S B)] [Zero (cx_S B)] [Inhabited (cx_Idx B)] {M : Type} [Add M] [Inhabited (PLift (cx_MGl M))] [Inhabited (cx_Tord B M)] {k : B} {q : Rat} {v v2 cx_dl : B → Rat} (hh_ : cx_Kd M k q v v2 cx_dl) : k ≠ 0 := hh_.1
theorem cx_Kd.dk {B : Type} [Zero B] [Add B] [Mul (cx_S B)] [One (cx_S B)] [Add (cx_S B)] [Zero (cx_S B)] [Inhabited (cx_Idx B)] {M : Type} [Add M] [Inhabited (PLift (cx_MGl M))] [Inhabited (cx_Tord B M)] {k : B} {q : Rat} {v v2 cx_dl : B → Rat} (hh_ : cx_Kd M k q v v2 cx_dl) : cx_deg k = 1 := hh_.2.1
theorem cx_Kd.fv {B : Type} [Zero B] [Add B] [Mul (cx_S B)] [One (cx_S B)] [Add (cx_S B)] [Zero (cx_S B)] [Inhabited (cx_Idx B)] {M : Type} [Add M] [Inhabited (PLift (cx_MGl M))] [Inhabited (cx_Tord B M)] {k : B} {q : Rat} {v v2 cx_dl : B → Rat} (hh_ : cx_Kd M k q v v2 cx_dl) : cx_Fun v := hh_.2.2.1
theorem cx_Kd.fv2 {B : Type} [Zero B] [Add B] [Mul (cx_S B)] [One (cx_S B)] [Add (cx_S B)] [Zero (cx_S B)] [Inhabited (cx_Idx B)] {M : Type} [Add M] [Inhabited (PLift (cx_MGl M))] [Inhabited (cx_Tord B M)] {k : B} {q : Rat} {v v2 cx_dl : B → Rat} (hh_ : cx_Kd M k q v v2 cx_dl) : cx_Fun v2 := hh_.2.2.2.1
theorem cx_Kd.fd {B : Type} [Zero B] [Add B] [Mul (cx_S B)] [One (cx_S B)] [Add (cx_S B)] [Zero (cx_S B)] [Inhabited (cx_Idx B)] {M : Type} [Add M] [Inhabited (PLift (cx_MGl M))] [Inhabited (cx_Tord B M)] {k : B} {q : Rat} {v v2 cx_dl : B → Rat} (hh_ : cx_Kd M k q v v2 cx_dl) : cx_Fun cx_dl := hh_.2.2.2.2.1
theorem cx_Kd.v2e {B : Type} [Zero B] [Add B] [Mul (cx_S B)] [One (cx_S B)] [Add (cx_S B)] [Zero (cx_S B)] [Inhabited (cx_Idx B)] {M : Type} [Add M] [Inhabited (PLift (cx_MGl M))] [Inhabited (cx_Tord B M)] {k : B} {q : Rat} {v v2 cx_dl : B → Rat} (hh_ : cx_Kd M k q v v2 cx_dl) : ∀ a, v2 a = v a + q * cx_pr k (cx_p a : M) := hh_.2.2.2.2.2.1
theorem cx_Kd.vk {B : Type} [Zero B] [Add B] [Mul (cx_S B)] [One (cx_S B)] [Add (cx_S B)] [Zero (cx_S B)] [Inhabited (cx_Idx B)] {M : Type} [Add M] [Inhabited (PLift (cx_MGl M))] [Inhabited (cx_Tord B M)] {k : B} {q : Rat} {v v2 cx_dl : B → Rat} (hh_ : cx_Kd M k q v v2 cx_dl) : v k = -1 := hh_.2.2.2.2.2.2.1
theorem cx_Kd.dlk {B : Type} [Zero B] [Add B] [Mul (cx_S B)] [One (cx_S B)] [Add (cx_S B)] [Zero (cx_S B)] [Inhabited (cx_Idx B)] {M : Type} [Add M] [Inhabited (PLift (cx_MGl M))] [Inhabited (cx_Tord B M)] {k : B} {q : Rat} {v v2 cx_dl : B → Rat} (hh_ : cx_Kd M k q v v2 cx_dl) : cx_dl k = 0 := hh_.2.2.2.2.2.2.2.1
theorem cx_Kd.dl0 {B : Type} [Zero B] [Add B] [Mul (cx_S B)] [One (cx_S B)] [Add (cx_S B)] [Zero (cx_S B)] [Inhabited (cx_Idx B)] {M : Type} [Add M] [Inhabited (PLift (cx_MGl M))] [Inhabited (cx_Tord B M)] {k : B} {q : Rat} {v v2 cx_dl : B → Rat} (hh_ : cx_Kd M k q v v2 cx_dl) : ∀ a, 0 ≤ cx_dl a := hh_.2.2.2.2.2.2.2.2.1
theorem cx_Kd.ray {B : Type} [Zero B] [Add B] [Mul (cx_S B)] [One (cx_S B)] [Add (cx_S B)] [Zero (cx_S B)] [Inhabited (cx_Idx B)] {M : Type} [Add M] [Inhabited (PLift (cx_MGl M))] [Inhabited (cx_Tord B M)] {k : B} {q : Rat} {v v2 cx_dl : B → Rat} (hh_ : cx_Kd M k q v v2 cx_dl) : ∀ a, cx_dl a = 0 → ∃ j, a = cx_nsm j k := hh_.2.2.2.2.2.2.2.2.2.1
theorem cx_Kd.ri {B : Type} [Zero B] [Add B] [Mul (cx_S B)] [One (cx_S B)] [Add (cx_S B)] [Zero (cx_S B)] [Inhabited (cx_Idx B)] {M : Type} [Add M] [Inhabited (PLift (cx_MGl M))] [Inhabited (cx_Tord B M)] {k : B} {q : Rat} {v v2 cx_dl : B → Rat} (hh_ : cx_Kd M k q v v2 cx_dl) : ∀ a : B, cx_IsI (q * cx_pr k (cx_p a : M)) := hh_.2.2.2.2.2.2.2.2.2.2.1
theorem cx_Kd.tst {B : Type} [Zero B] [Add B] [Mul (cx_S B)] [One (cx_S B)] [Add (cx_S B)] [Zero (cx_S B)] [Inhabited (cx_Idx B)] {M : Type} [Add M] [Inhabited (PLift (cx_MGl M))] [Inhabited (cx_Tord B M)] {k : B} {q : Rat} {v v2 cx_dl : B → Rat} (hh_ : cx_Kd M k q v v2 cx_dl) : ∀ a : B, cx_dl a ≠ 0 → ∃ m : M, cx_pr k m = 0 ∧ cx_pr a m ≠ 0 := hh_.2.2.2.2.2.2.2.2.2.2.2
theorem cx_Kd.flip {B : Type} [Zero B] [Add B] [Mul (cx_S B)] [One (cx_S B)] [Add (cx_S B)] [Zero (cx_S B)] [Inhabited (cx_Idx B)] {M : Type} [Add M] [Inhabited (PLift (cx_MGl M))] [Inhabited (cx_Tord B M)] {k : B} {q : Rat} {v v2 cx_dl : B → Rat} (h : cx_Kd M k q v v2 cx_dl) : cx_Kd M k (-q) v2 v cx_dl := ⟨(h.k0),
  (h.dk),
  (h.fv2),
  (h.fv),
  (h.fd),
  (fun a => by rw [h.v2e]; grind),
  (by rw [h.v2e, h.vk, cx_pr_self]; grind),
  (h.dlk),
  (h.dl0),
  (h.ray),
  (fun a => by
    obtain ⟨z, hz⟩ := h.ri a
    refine ⟨-z, ?_⟩
    have h1 : ((-z : Int) : Rat) = -(z : Rat) := by exact_mod_cast rfl
    rw [h1, ← hz]; grind),
  (h.tst)⟩
def cx_Sv {B : Type} [Zero B] [Add B] [Mul (cx_S B)] [One (cx_S B)] [Add (cx_S B)] [Zero (cx_S B)] [Inhabited (cx_Idx B)] (cx_dl v : B → Rat) : B → Prop := fun b => 0 < cx_dl b ∧ 0 ≤ v b
theorem cx_Sv.clo {B : Type} [Zero B] [Add B] [Mul (cx_S B)] [One (cx_S B)] [Add (cx_S B)] [Zero (cx_S B)] [Inhabited (cx_Idx B)] {cx_dl v : B → Rat} (hd : cx_Fun cx_dl) (hv : cx_Fun v) : cx_Clo (cx_Sv cx_dl v) := ⟨fun a b ha hb => by
  obtain ⟨h1, h2⟩ := ha
  obtain ⟨h3, h4⟩ := hb
  exact ⟨by rw [hd.add]; grind, by rw [hv.add]; grind⟩⟩
theorem cx_good_supp {B : Type} [Zero B] [Add B] [Mul (cx_S B)] [One (cx_S B)] [Add (cx_S B)] [Zero (cx_S B)] [Inhabited (cx_Idx B)] {M : Type} [Add M] [Inhabited (PLift (cx_MGl M))] [Inhabited (cx_Tord B M)] {g : M → cx_S B} (hg : cx_Good g) {T : B → Prop} (cT : cx_Clo T) (X : M → Prop) (hX : ∀ m, X m → ∀ b, b ≠ 0 → ¬ T b → g m b = 0)
    (hsep : ∀ b, b ≠ 0 → ¬ T b → (∃ m, X m ∧ cx_pr b m ≠ 0) ∨ ∀ m, g m b = 0) : cx_Sup T g := by
  classical
  have main : ∀ n, ∀ b : B, cx_deg b < n → b ≠ 0 → ¬ T b → ∀ m, g m b = 0 := by
    intro n
    induction n with
    | zero => intro b h; omega
    | succ n ih =>
      intro b hbn hb hT m
      rcases hsep b hb hT with ⟨k, hk, hne⟩ | h
      · have e := hg.poi m k b
        rw [cx_D_ends hb] at e
        · rw [hg.unit, hg.unit, hX k hk b hb hT] at e
          unfold cx_Om at e
          rw [cx_pr_zero, cx_skew b 0, cx_pr_zero] at e
          have e2 : cx_pr b k * g m b = 0 := by grind
          rcases Rat.mul_eq_zero.1 e2 with h | h
          · exact absurd h hne
          · exact h
        · intro u s hus hu hs
          have h := cx_deg_add u s
          rw [hus] at h
          have h1 : cx_deg u ≠ 0 := fun e => hu (cx_deg_pos u e)
          have h2 : cx_deg s ≠ 0 := fun e => hs (cx_deg_pos s e)
          by_cases hTu : T u
          · have hTs : ¬ T s := fun h => hT (hus ▸ cT.add u s hTu h)
            rw [ih s (by omega) hs hTs k]; grind
          · rw [ih u (by omega) hu hTu m]; grind
      · exact h m
  exact fun m b hb hT => main (cx_deg b + 1) b (Nat.lt_succ_self _) hb hT m
def cx_Rqd {B : Type} [Zero B] [Add B] [Mul (cx_S B)] [One (cx_S B)] [Add (cx_S B)] [Zero (cx_S B)] [Inhabited (cx_Idx B)] {M : Type} [Add M] [Inhabited (PLift (cx_MGl M))] [Inhabited (cx_Tord B M)] (k : B) (D0 : Nat) (f g : M → cx_S B) : Prop := ∀ m j, cx_deg (cx_nsm j k) ≤ D0 → f m (cx_nsm j k) = g m (cx_nsm j k)
theorem cx_Kd.split {B : Type} [Zero B] [Add B] [Mul (cx_S B)] [One (cx_S B)] [Add (cx_S B)] [Zero (cx_S B)] [Inhabited (cx_Idx B)] {M : Type} [Add M] [Inhabited (PLift (cx_MGl M))] [Inhabited (cx_Tord B M)] {k : B} {q : Rat} {v v2 cx_dl : B → Rat} (h : cx_Kd M k q v v2 cx_dl) {u s : B} {j : Nat} (e : u + s = cx_nsm j k) : ∃ i i', u = cx_nsm i k ∧ s = cx_nsm i' k := by
  have h1 := congrArg cx_dl e
  rw [h.fd.add, h.fd.nsm, h.dlk, Rat.mul_zero] at h1
  have h2 := h.dl0 u
  have h3 := h.dl0 s
  obtain ⟨i, hi⟩ := h.ray u (by grind)
  obtain ⟨i', hi'⟩ := h.ray s (by grind)
  exact ⟨i, i', hi, hi'⟩
theorem cx_Rqd.comp {B : Type} [Zero B] [Add B] [Mul (cx_S B)] [One (cx_S B)] [Add (cx_S B)] [Zero (cx_S B)] [Inhabited (cx_Idx B)] {M : Type} [Add M] [Inhabited (PLift (cx_MGl M))] [Inhabited (cx_Tord B M)] {k : B} {q : Rat} {v v2 cx_dl : B → Rat} (hk : cx_Kd M k q v v2 cx_dl) {D0 : Nat} {f f' g g' : M → cx_S B} (hf : cx_Rqd k D0 f f') (hg : cx_Rqd k D0 g g') : cx_Rqd k D0 (cx_comp f g) (cx_comp f' g') := by
  intro m j hd
  rw [cx_comp_def, cx_comp_def]
  refine cx_D_congr (fun u s hus => ?_)
  have hdeg := cx_deg_add u s
  rw [hus] at hdeg
  obtain ⟨i, i', rfl, rfl⟩ := hk.split hus
  rw [hf _ i' (by omega), hg _ i (by omega)]
theorem cx_E_off_ray {B : Type} [Zero B] [Add B] [Mul (cx_S B)] [One (cx_S B)] [Add (cx_S B)] [Zero (cx_S B)] [Inhabited (cx_Idx B)] {M : Type} [Add M] [Inhabited (PLift (cx_MGl M))] [Inhabited (cx_Tord B M)] {k : B} {q : Rat} {v v2 cx_dl : B → Rat} (hk : cx_Kd M k q v v2 cx_dl) {x : B} (hx : 0 < cx_dl x) (c : Rat) (D0 : Nat) : cx_Rqd k D0 (cx_E x c : M → cx_S B) cx_I := by
  classical
  intro m j _
  have hx0 : x ≠ 0 := fun e => by rw [e, hk.fd.zero] at hx; grind
  by_cases hj : cx_nsm j k = 0
  · rw [hj, (cx_E_good hx0 c).unit]; exact cx_one_zero.symm
  · show _ = (1 : cx_S B) _
    rw [cx_one_ne hj]
    refine cx_sub_off _ (fun i e => ?_)
    have h1 := congrArg cx_dl e
    rw [hk.fd.nsm, hk.fd.nsm, hk.dlk, Rat.mul_zero] at h1
    rcases Rat.mul_eq_zero.1 h1 with h | h
    · have : i = 0 := by exact_mod_cast h
      subst this
      exact hj e.symm
    · grind
theorem cx_ev_off_ray {B : Type} [Zero B] [Add B] [Mul (cx_S B)] [One (cx_S B)] [Add (cx_S B)] [Zero (cx_S B)] [Inhabited (cx_Idx B)] {M : Type} [Add M] [Inhabited (PLift (cx_MGl M))] [Inhabited (cx_Tord B M)] {k : B} {q : Rat} {v v2 cx_dl : B → Rat} (hk : cx_Kd M k q v v2 cx_dl) {w : List (B × Rat)} (hw : ∀ x ∈ w, 0 < cx_dl x.1) (D0 : Nat) : cx_Rqd k D0 (cx_ev w : M → cx_S B) cx_I := by
  induction w with
  | nil => exact fun _ _ _ => rfl
  | cons x w ih =>
    have h1 := cx_Rqd.comp hk (cx_E_off_ray hk (hw x (by simp)) x.2 D0) (ih (fun y hy => hw y (by simp [hy])))
    rw [cx_I_comp] at h1
    exact h1
noncomputable def cx_cj {B : Type} [Zero B] [Add B] [Mul (cx_S B)] [One (cx_S B)] [Add (cx_S B)] [Zero (cx_S B)] [Inhabited (cx_Idx B)] {M : Type} [Add M] [Inhabited (PLift (cx_MGl M))] [Inhabited (cx_Tord B M)] (k : B) (q : Rat) (f : M → cx_S B) : M → cx_S B := cx_comp (cx_E k q) (cx_comp f (cx_E k (-q)))
theorem cx_cj_test {B : Type} [Zero B] [Add B] [Mul (cx_S B)] [One (cx_S B)] [Add (cx_S B)] [Zero (cx_S B)] [Inhabited (cx_Idx B)] {M : Type} [Add M] [Inhabited (PLift (cx_MGl M))] [Inhabited (cx_Tord B M)] {k : B} (hk : k ≠ 0) (q : Rat) (f : M → cx_S B) {m : M} (hm : cx_pr k m = 0) : cx_cj k q f m = cx_lin (cx_E k q) m (f m) := by
  unfold cx_cj
  rw [cx_comp_lin, cx_comp_lin]
  have : (cx_E k (-q) : M → cx_S B) m = 1 := by
    show cx_sub k (cx_bin (-q * cx_pr k m)) = 1
    rw [hm, Rat.mul_zero, cx_sub_zero hk]
  rw [this, cx_one_act]
theorem cx_cj_good {B : Type} [Zero B] [Add B] [Mul (cx_S B)] [One (cx_S B)] [Add (cx_S B)] [Zero (cx_S B)] [Inhabited (cx_Idx B)] {M : Type} [Add M] [Inhabited (PLift (cx_MGl M))] [Inhabited (cx_Tord B M)] {k : B} (hk : k ≠ 0) (q : Rat) {f : M → cx_S B} (hf : cx_Good f) : cx_Good (cx_cj k q f) := (cx_E_good hk q).comp (hf.comp (cx_E_good hk (-q)))
theorem cx_conj_sup {B : Type} [Zero B] [Add B] [Mul (cx_S B)] [One (cx_S B)] [Add (cx_S B)] [Zero (cx_S B)] [Inhabited (cx_Idx B)] {M : Type} [Add M] [Inhabited (PLift (cx_MGl M))] [Inhabited (cx_Tord B M)] {k : B} {q : Rat} {v v2 cx_dl : B → Rat} (h : cx_Kd M k q v v2 cx_dl) {a : B} (ha : 0 < cx_dl a) (hv : 0 ≤ v a) (hr : 0 ≤ q * cx_pr k (cx_p a : M)) (c : Rat) :
    cx_Sup (cx_Sv cx_dl v2) (cx_cj k q (cx_E a c) : M → cx_S B) := by
  classical
  have ha0 : a ≠ 0 := fun e => by rw [e, h.fd.zero] at ha; grind
  refine cx_good_supp (cx_cj_good h.k0 q (cx_E_good ha0 c)) (cx_Sv.clo h.fd h.fv2) (fun m => cx_pr k m = 0) ?_ ?_
  · intro m hm b hb hT
    rw [cx_cj_test h.k0 q _ hm]
    show cx_D b (fun u s => cx_E a c m u * cx_E k q (m + cx_p u) s) = 0
    refine cx_D_zero (fun u s hus => ?_)
    by_cases hu : ∃ j, cx_nsm j a = u
    · obtain ⟨j, rfl⟩ := hu
      by_cases hs : ∃ i, cx_nsm i k = s
      · obtain ⟨i, rfl⟩ := hs
        obtain ⟨N, hN⟩ := cx_nat_of (h.ri a) hr
        have e1 : q * cx_pr k (m + cx_p (cx_nsm j a) : M) = ((j * N : Nat) : Rat) := by
          rw [cx_pr_addR, hm, cx_p_nsm, Rat.zero_add]
          have : ((j * N : Nat) : Rat) = (j : Rat) * (N : Rat) := by exact_mod_cast rfl
          rw [this, ← hN]; grind
        have e2 : cx_E k q (m + cx_p (cx_nsm j a)) (cx_nsm i k) = cx_bin ((j * N : Nat) : Rat) i := by
          show cx_sub k (cx_bin (q * cx_pr k (m + cx_p (cx_nsm j a)))) (cx_nsm i k) = _
          rw [cx_sub_at h.k0, e1]
        rw [e2]
        by_cases hi : j * N < i
        · rw [cx_bin_big _ _ hi, Rat.mul_zero]
        · exfalso
          have hj : j ≠ 0 := by
            intro hj
            subst hj
            have : i = 0 := by omega
            subst this
            exact hb (by rw [← hus]; show (0 : B) + 0 = 0; exact cx_addZ 0)
          apply hT
          have hj1 : (1 : Rat) ≤ (j : Rat) := by exact_mod_cast Nat.one_le_iff_ne_zero.2 hj
          refine ⟨?_, ?_⟩
          · rw [← hus, h.fd.add, h.fd.nsm, h.fd.nsm, h.dlk, Rat.mul_zero, Rat.add_zero]
            exact Rat.mul_pos (by grind) ha
          · rw [← hus, h.fv2.add, h.fv2.nsm, h.fv2.nsm, h.v2e a, h.flip.vk, hN]
            have h1 : (i : Rat) ≤ (j : Rat) * (N : Rat) := by
              have : ((j * N : Nat) : Rat) = (j : Rat) * (N : Rat) := by exact_mod_cast rfl
              rw [← this]; exact_mod_cast (by omega : i ≤ j * N)
            have h2 := Rat.mul_nonneg (by grind : 0 ≤ (j : Rat)) hv
            grind
      · rw [show (cx_E k q (m + cx_p (cx_nsm j a)) : cx_S B) s = 0 from cx_sub_off _ (fun i e => hs ⟨i, e⟩), Rat.mul_zero]
    · rw [show (cx_E a c m : cx_S B) u = 0 from cx_sub_off _ (fun i e => hu ⟨i, e⟩), Rat.zero_mul]
  · intro b hb hT
    by_cases hd : cx_dl b = 0
    · right
      intro m
      obtain ⟨j, rfl⟩ := h.ray b hd
      have h1 : cx_Rqd k (cx_deg (cx_nsm j k)) (cx_cj k q (cx_E a c) : M → cx_S B) (cx_comp (cx_E k q) (cx_comp cx_I (cx_E k (-q)))) :=
        cx_Rqd.comp h (fun _ _ _ => rfl) (cx_Rqd.comp h (cx_E_off_ray h ha c _) (fun _ _ _ => rfl))
      rw [h1 m j (Nat.le_refl _), cx_I_comp, cx_E_add h.k0, show q + -q = 0 by grind, cx_E_zero h.k0]
      exact cx_one_ne hb
    · left
      exact h.tst b hd
abbrev cx_Pair {B : Type} [Zero B] [Add B] [Mul (cx_S B)] [One (cx_S B)] [Add (cx_S B)] [Zero (cx_S B)] [Inhabited (cx_Idx B)] {M : Type} [Add M] [Inhabited (PLift (cx_MGl M))] [Inhabited (cx_Tord B M)] (k : B) (q : Rat) (v v2 cx_dl : B → Rat) (Z : M → Prop) (h h2 : M → cx_S B) : Prop := (cx_Good h) ∧ (cx_Good h2) ∧ (cx_Sup (cx_Sv cx_dl v) h) ∧ (cx_Sup (cx_Sv cx_dl v2) h2) ∧ (cx_comp (cx_E k q) h = cx_comp h2 (cx_E k q)) ∧ (∀ d, cx_Whole d Z h) ∧ (∀ d, cx_Whole d Z h2)
theorem cx_Pair.gh {B : Type} [Zero B] [Add B] [Mul (cx_S B)] [One (cx_S B)] [Add (cx_S B)] [Zero (cx_S B)] [Inhabited (cx_Idx B)] {M : Type} [Add M] [Inhabited (PLift (cx_MGl M))] [Inhabited (cx_Tord B M)] {k : B} {q : Rat} {v v2 cx_dl : B → Rat} {Z : M → Prop} {h h2 : M → cx_S B} (hh_ : cx_Pair k q v v2 cx_dl Z h h2) : cx_Good h := hh_.1
theorem cx_Pair.gh2 {B : Type} [Zero B] [Add B] [Mul (cx_S B)] [One (cx_S B)] [Add (cx_S B)] [Zero (cx_S B)] [Inhabited (cx_Idx B)] {M : Type} [Add M] [Inhabited (PLift (cx_MGl M))] [Inhabited (cx_Tord B M)] {k : B} {q : Rat} {v v2 cx_dl : B → Rat} {Z : M → Prop} {h h2 : M → cx_S B} (hh_ : cx_Pair k q v v2 cx_dl Z h h2) : cx_Good h2 := hh_.2.1
theorem cx_Pair.sh {B : Type} [Zero B] [Add B] [Mul (cx_S B)] [One (cx_S B)] [Add (cx_S B)] [Zero (cx_S B)] [Inhabited (cx_Idx B)] {M : Type} [Add M] [Inhabited (PLift (cx_MGl M))] [Inhabited (cx_Tord B M)] {k : B} {q : Rat} {v v2 cx_dl : B → Rat} {Z : M → Prop} {h h2 : M → cx_S B} (hh_ : cx_Pair k q v v2 cx_dl Z h h2) : cx_Sup (cx_Sv cx_dl v) h := hh_.2.2.1
theorem cx_Pair.sh2 {B : Type} [Zero B] [Add B] [Mul (cx_S B)] [One (cx_S B)] [Add (cx_S B)] [Zero (cx_S B)] [Inhabited (cx_Idx B)] {M : Type} [Add M] [Inhabited (PLift (cx_MGl M))] [Inhabited (cx_Tord B M)] {k : B} {q : Rat} {v v2 cx_dl : B → Rat} {Z : M → Prop} {h h2 : M → cx_S B} (hh_ : cx_Pair k q v v2 cx_dl Z h h2) : cx_Sup (cx_Sv cx_dl v2) h2 := hh_.2.2.2.1
theorem cx_Pair.cj {B : Type} [Zero B] [Add B] [Mul (cx_S B)] [One (cx_S B)] [Add (cx_S B)] [Zero (cx_S B)] [Inhabited (cx_Idx B)] {M : Type} [Add M] [Inhabited (PLift (cx_MGl M))] [Inhabited (cx_Tord B M)] {k : B} {q : Rat} {v v2 cx_dl : B → Rat} {Z : M → Prop} {h h2 : M → cx_S B} (hh_ : cx_Pair k q v v2 cx_dl Z h h2) : cx_comp (cx_E k q) h = cx_comp h2 (cx_E k q) := hh_.2.2.2.2.1
theorem cx_Pair.wh {B : Type} [Zero B] [Add B] [Mul (cx_S B)] [One (cx_S B)] [Add (cx_S B)] [Zero (cx_S B)] [Inhabited (cx_Idx B)] {M : Type} [Add M] [Inhabited (PLift (cx_MGl M))] [Inhabited (cx_Tord B M)] {k : B} {q : Rat} {v v2 cx_dl : B → Rat} {Z : M → Prop} {h h2 : M → cx_S B} (hh_ : cx_Pair k q v v2 cx_dl Z h h2) : ∀ d, cx_Whole d Z h := hh_.2.2.2.2.2.1
theorem cx_Pair.wh2 {B : Type} [Zero B] [Add B] [Mul (cx_S B)] [One (cx_S B)] [Add (cx_S B)] [Zero (cx_S B)] [Inhabited (cx_Idx B)] {M : Type} [Add M] [Inhabited (PLift (cx_MGl M))] [Inhabited (cx_Tord B M)] {k : B} {q : Rat} {v v2 cx_dl : B → Rat} {Z : M → Prop} {h h2 : M → cx_S B} (hh_ : cx_Pair k q v v2 cx_dl Z h h2) : ∀ d, cx_Whole d Z h2 := hh_.2.2.2.2.2.2
theorem cx_whole_comp {B : Type} [Zero B] [Add B] [Mul (cx_S B)] [One (cx_S B)] [Add (cx_S B)] [Zero (cx_S B)] [Inhabited (cx_Idx B)] {M : Type} [Add M] [Inhabited (PLift (cx_MGl M))] [Inhabited (cx_Tord B M)] {Z : M → Prop} (hZ : ∀ (m : M) (u : B), Z m → Z (m + cx_p u)) {d : Nat} {g h : M → cx_S B} (hg : cx_Whole d Z g) (hh : cx_Whole d Z h) : cx_Whole d Z (cx_comp g h) :=
  cx_Whole.comp (T := cx_All) (fun m u hm _ => hZ m u hm) hg hh (fun _ _ _ _ h => absurd trivial h)
theorem cx_Pair.comp {B : Type} [Zero B] [Add B] [Mul (cx_S B)] [One (cx_S B)] [Add (cx_S B)] [Zero (cx_S B)] [Inhabited (cx_Idx B)] {M : Type} [Add M] [Inhabited (PLift (cx_MGl M))] [Inhabited (cx_Tord B M)] {k : B} {q : Rat} {v v2 cx_dl : B → Rat} (hk : cx_Kd M k q v v2 cx_dl) {Z : M → Prop} (hZ : ∀ (m : M) (u : B), Z m → Z (m + cx_p u)) {h h2 u u2 : M → cx_S B}
    (a : cx_Pair k q v v2 cx_dl Z h h2) (b : cx_Pair k q v v2 cx_dl Z u u2) : cx_Pair k q v v2 cx_dl Z (cx_comp h u) (cx_comp h2 u2) := ⟨(a.gh.comp b.gh),
  (a.gh2.comp b.gh2),
  (a.sh.comp (cx_Sv.clo hk.fd hk.fv) b.sh),
  (a.sh2.comp (cx_Sv.clo hk.fd hk.fv2) b.sh2),
  (by rw [← cx_comp_assoc, a.cj, cx_comp_assoc, b.cj, cx_comp_assoc]),
  (fun d => cx_whole_comp hZ (a.wh d) (b.wh d)),
  (fun d => cx_whole_comp hZ (a.wh2 d) (b.wh2 d))⟩
theorem cx_I_whole {B : Type} [Zero B] [Add B] [Mul (cx_S B)] [One (cx_S B)] [Add (cx_S B)] [Zero (cx_S B)] [Inhabited (cx_Idx B)] {M : Type} [Add M] [Inhabited (PLift (cx_MGl M))] [Inhabited (cx_Tord B M)] (Z : M → Prop) (d : Nat) : cx_Whole d Z (cx_I : M → cx_S B) := by
  classical
  intro m _ b _
  show cx_IsI ((1 : cx_S B) b)
  by_cases hb : b = 0
  · rw [hb, cx_one_zero]; exact cx_IsI.one
  · rw [cx_one_ne hb]; exact cx_IsI.zero
theorem cx_Pair.one {B : Type} [Zero B] [Add B] [Mul (cx_S B)] [One (cx_S B)] [Add (cx_S B)] [Zero (cx_S B)] [Inhabited (cx_Idx B)] {M : Type} [Add M] [Inhabited (PLift (cx_MGl M))] [Inhabited (cx_Tord B M)] {k : B} {q : Rat} {v v2 cx_dl : B → Rat} {Z : M → Prop} : cx_Pair k q v v2 cx_dl Z (cx_I : M → cx_S B) cx_I := ⟨(cx_I_good),
  (cx_I_good),
  (cx_I_sup _),
  (cx_I_sup _),
  (by rw [cx_comp_I, cx_I_comp]),
  (cx_I_whole Z),
  (cx_I_whole Z)⟩
theorem cx_cj_lead {B : Type} [Zero B] [Add B] [Mul (cx_S B)] [One (cx_S B)] [Add (cx_S B)] [Zero (cx_S B)] [Inhabited (cx_Idx B)] {M : Type} [Add M] [Inhabited (PLift (cx_MGl M))] [Inhabited (cx_Tord B M)] {k : B} (hk : k ≠ 0) (q : Rat) {a : B} (ha : a ≠ 0) (c : Rat) : cx_Ld (cx_deg a) (cx_cj k q (cx_E a c) : M → cx_S B) (fun b => @ite _ (b = a) (Classical.propDecidable _) c 0) := by
  classical
  have hda : cx_deg a ≠ 0 := fun e => ha (cx_deg_pos a e)
  have key : ∀ (m : M) (b : B), cx_deg b ≤ cx_deg a → cx_cj k q (cx_E a c) m b = (1 : cx_S B) b + (if cx_deg b = cx_deg a then (if b = a then c else 0) * cx_pr b m else 0) := by
    intro m b hb
    unfold cx_cj
    rw [(cx_E_ld (M := M) ha c).mid (by omega) (cx_E_good hk q) (cx_E_good hk (-q)) m b hb, cx_E_add hk, show q + -q = 0 by grind, cx_E_zero hk]
    rfl
  refine ⟨(cx_cj_good hk q (cx_E_good ha c)).unit, fun m b hb hd => ?_, fun m b hd => ?_⟩
  · rw [key m b (by omega), cx_one_ne hb, if_neg (by omega)]; grind
  · have hb : b ≠ 0 := fun e => by rw [e, cx_deg_zero] at hd; omega
    rw [key m b (by omega), cx_one_ne hb, if_pos hd]; grind
theorem cx_wl_neg {B : Type} [Zero B] [Add B] [Mul (cx_S B)] [One (cx_S B)] [Add (cx_S B)] [Zero (cx_S B)] [Inhabited (cx_Idx B)] {M : Type} [Add M] [Inhabited (PLift (cx_MGl M))] [Inhabited (cx_Tord B M)] {Z : M → Prop} {x : B} {c : Rat} (h : cx_Wl Z (x, c)) : cx_Wl Z (x, -c) := by
  intro m hm
  obtain ⟨z, hz⟩ := h m hm
  refine ⟨-z, ?_⟩
  have h1 : ((-z : Int) : Rat) = -(z : Rat) := by exact_mod_cast rfl
  rw [h1, ← hz]; show -c * cx_pr x m = -(c * cx_pr x m); grind
theorem cx_pair_gen {B : Type} [Zero B] [Add B] [Mul (cx_S B)] [One (cx_S B)] [Add (cx_S B)] [Zero (cx_S B)] [Inhabited (cx_Idx B)] {M : Type} [Add M] [Inhabited (PLift (cx_MGl M))] [Inhabited (cx_Tord B M)] {k : B} {q : Rat} {v v2 cx_dl : B → Rat} (hk : cx_Kd M k q v v2 cx_dl) {Z : M → Prop} (hZ : ∀ (m : M) (u : B), Z m → Z (m + cx_p u)) (hkZ : cx_Wl Z (k, q))
    {a : B} (ha : 0 < cx_dl a) (h : (0 ≤ v a ∧ 0 ≤ q * cx_pr k (cx_p a : M)) ∨ (0 ≤ v2 a ∧ q * cx_pr k (cx_p a : M) ≤ 0)) {c : Rat} (hc : cx_Wl Z (a, c)) :
    ∃ u u2 : M → cx_S B, cx_Pair k q v v2 cx_dl Z u u2 ∧ cx_Ld (cx_deg a) u (fun b => @ite _ (b = a) (Classical.propDecidable _) c 0) ∧ cx_Ld (cx_deg a) u2 (fun b => @ite _ (b = a) (Classical.propDecidable _) c 0) := by
  have ha0 : a ≠ 0 := fun e => by rw [e, hk.fd.zero] at ha; grind
  have back : ∀ q, cx_comp (cx_cj k q (cx_E a c)) (cx_E k q) = (cx_comp (cx_E k q) (cx_E a c) : M → cx_S B) := by
    intro q
    unfold cx_cj
    rw [cx_comp_assoc, cx_comp_assoc, cx_E_add hk.k0, show -q + q = 0 by grind, cx_E_zero hk.k0, cx_comp_I]
  have back2 : cx_comp (cx_E k q) (cx_cj k (-q) (cx_E a c)) = (cx_comp (cx_E a c) (cx_E k q) : M → cx_S B) := by
    unfold cx_cj
    rw [← cx_comp_assoc, cx_E_add hk.k0, show q + -q = 0 by grind, cx_E_zero hk.k0, cx_I_comp, Rat.neg_neg]
  have wc : ∀ q, cx_Wl Z (k, q) → ∀ d, cx_Whole d Z (cx_cj k q (cx_E a c) : M → cx_S B) := fun q hq d =>
    cx_whole_comp hZ (cx_E_whole hq d) (cx_whole_comp hZ (cx_E_whole hc d) (cx_E_whole (cx_wl_neg hq) d))
  rcases h with ⟨h1, h2⟩ | ⟨h1, h2⟩
  · refine ⟨cx_E a c, cx_cj k q (cx_E a c), ⟨cx_E_good ha0 c, cx_cj_good hk.k0 q (cx_E_good ha0 c), cx_E_sup (cx_Sv.clo hk.fd hk.fv) ⟨ha, h1⟩ c, cx_conj_sup hk ha h1 h2 c, (back q).symm, fun d => cx_E_whole hc d, wc q hkZ⟩, cx_E_ld ha0 c, cx_cj_lead hk.k0 q ha0 c⟩
  · refine ⟨cx_cj k (-q) (cx_E a c), cx_E a c, ⟨cx_cj_good hk.k0 (-q) (cx_E_good ha0 c), cx_E_good ha0 c, cx_conj_sup hk.flip ha h1 (by grind) c, cx_E_sup (cx_Sv.clo hk.fd hk.fv2) ⟨ha, h1⟩ c, back2, wc (-q) (cx_wl_neg hkZ), fun d => cx_E_whole hc d⟩, cx_cj_lead hk.k0 (-q) ha0 c, cx_E_ld ha0 c⟩
end

section
def cx_IncTo {B : Type} [Zero B] [Add B] [Mul (cx_S B)] [One (cx_S B)] [Add (cx_S B)] [Zero (cx_S B)] [Inhabited (cx_Idx B)] {M : Type} [Add M] [Inhabited (PLift (cx_MGl M))] [Inhabited (cx_Tord B M)] (D0 : Nat) (g : M → cx_S B) (cx_std : B → Rat) : Prop := ∀ a, a ≠ 0 → cx_deg a ≤ D0 → ∀ t, cx_Gen (cx_Par a) (cx_deg a) t → cx_Cmp M a t → ∀ f, cx_Lam g a (cx_deg a) t f → f a = cx_std a
theorem cx_Lam.eqd {B : Type} [Zero B] [Add B] [Mul (cx_S B)] [One (cx_S B)] [Add (cx_S B)] [Zero (cx_S B)] [Inhabited (cx_Idx B)] {M : Type} [Add M] [Inhabited (PLift (cx_MGl M))] [Inhabited (cx_Tord B M)] {g g' : M → cx_S B} {a : B} {d : Nat} {t f : B → Rat} (l : cx_Lam g a d t f) (h : cx_Eqd d g g') : cx_Lam g' a d t f := by
  obtain ⟨ord, wp, wm, hr, hf⟩ := l
  exact ⟨ord, wp, wm, hr, ⟨hf.pos, hf.nul, hf.neg, h.symm.trans hf.eq⟩⟩
theorem cx_inc_unique {B : Type} [Zero B] [Add B] [Mul (cx_S B)] [One (cx_S B)] [Add (cx_S B)] [Zero (cx_S B)] [Inhabited (cx_Idx B)] {M : Type} [Add M] [Inhabited (PLift (cx_MGl M))] [Inhabited (cx_Tord B M)] {Z : M → Prop} {g g' : M → cx_S B} (h : cx_Wh Z g) (h' : cx_Wh Z g') {cx_std : B → Rat} (hi : cx_Inc g cx_std) (hi' : cx_Inc g' cx_std) : g = g' := by
  classical
  have main : ∀ n, ∀ b : B, cx_deg b < n → ∀ m, g m b = g' m b := by
    intro n
    induction n with
    | zero => intro b h; omega
    | succ n ih =>
      intro b hbn m
      by_cases hb : b = 0
      · rw [hb, h.good.unit, h'.good.unit]
      obtain ⟨t, gt, ct⟩ := cx_gen_cmp0 (M := M) hb (cx_deg b)
      obtain ⟨f, lf, _⟩ := cx_Lam.exists h gt
      obtain ⟨f', lf', _⟩ := cx_Lam.exists h' gt
      have e := cx_lam_shift hb gt lf lf' (fun m c hc => ih c (by omega) m) m
      rw [hi b hb t gt ct f lf, hi' b hb t gt ct f' lf'] at e
      grind
  funext m
  refine cx_S.ext (fun b => ?_)
  exact main (cx_deg b + 1) b (Nat.lt_succ_self _) m
theorem cx_nf_single {B : Type} [Zero B] [Add B] [Mul (cx_S B)] [One (cx_S B)] [Add (cx_S B)] [Zero (cx_S B)] [Inhabited (cx_Idx B)] {M : Type} [Add M] [Inhabited (PLift (cx_MGl M))] [Inhabited (cx_Tord B M)] {ord : List B} (hn : ord.Nodup) (h0 : ∀ x ∈ ord, x ≠ 0) {k : B} (hk : k ∈ ord) (q : Rat) :
    (cx_nf ord (fun x => @ite _ (x = k) (Classical.propDecidable _) q 0) : M → cx_S B) = cx_E k q := by
  classical
  induction ord with
  | nil => simp at hk
  | cons x l ih =>
    rw [List.nodup_cons] at hn
    rw [cx_nf_cons]
    by_cases hx : x = k
    · subst hx
      rw [if_pos rfl]
      have : (cx_nf l (fun y => if y = x then q else 0) : M → cx_S B) = cx_nf l (fun _ => 0) := cx_nf_congr (fun y hy => if_neg (fun e => by subst e; exact hn.1 hy))
      rw [this, cx_nf_zero (fun y hy => h0 y (by simp [hy])), cx_comp_I]
    · rw [if_neg hx, cx_E_zero (h0 x (by simp)), cx_I_comp]
      refine ih hn.2 (fun y hy => h0 y (by simp [hy])) ?_
      rcases List.mem_cons.1 hk with h | h
      · exact absurd h.symm hx
      · exact h
theorem cx_lam_none_ord {B : Type} [Zero B] [Add B] [Mul (cx_S B)] [One (cx_S B)] [Add (cx_S B)] [Zero (cx_S B)] [Inhabited (cx_Idx B)] {M : Type} [Add M] [Inhabited (PLift (cx_MGl M))] [Inhabited (cx_Tord B M)] {g : M → cx_S B} {a : B} {t : B → Rat} (gt : cx_Gen (cx_Par a) (cx_deg a) t) {wp wm : List (B × Rat)} (hf : cx_Fac t cx_All (cx_deg a) g wp [] wm) : cx_Lam g a (cx_deg a) t (fun _ => 0) := by
  obtain ⟨ord, hn, hm⟩ := cx_exists_list (B := B) (cx_deg a) (cx_Par a)
  refine ⟨ord, wp, wm, ⟨hn, hm⟩, hf.word ⟨fun x hx => ?_⟩ ?_⟩
  · obtain ⟨y, hy, rfl⟩ := List.mem_map.1 hx
    have := (hm y).1 hy
    exact ⟨this.1, ⟨trivial, (gt.z y this.1 this.2.1).2 this.2.2⟩, this.2.1⟩
  · have : (cx_ev (ord.map fun x => (x, (fun _ => (0 : Rat)) x)) : M → cx_S B) = cx_I := cx_nf_zero (fun x hx => ((hm x).1 hx).1)
    rw [this, cx_ev_nil]; exact cx_Eqd.rfl'
theorem cx_sup_fac {B : Type} [Zero B] [Add B] [Mul (cx_S B)] [One (cx_S B)] [Add (cx_S B)] [Zero (cx_S B)] [Inhabited (cx_Idx B)] {M : Type} [Add M] [Inhabited (PLift (cx_MGl M))] [Inhabited (cx_Tord B M)] {k : B} {q : Rat} {v v2 cx_dl : B → Rat} {Z : M → Prop} (hk : cx_Kd M k q v v2 cx_dl) (hZ : ∀ (m : M) (u : B), Z m → Z (m + cx_p u)) {h : M → cx_S B} (gh : cx_Good h) (cx_sh : cx_Sup (cx_Sv cx_dl v) h) (wh : ∀ d, cx_Whole d Z h)
    {a : B} (ha0 : a ≠ 0) (ha : ¬ (0 < cx_dl a ∧ 0 ≤ v a)) {t : B → Rat} (gt : cx_Gen (cx_Par a) (cx_deg a) t) :
    ∃ wp wm, cx_Lt (fun b => 0 < t b) (cx_deg a) wp ∧ cx_Lt (fun b => t b < 0) (cx_deg a) wm ∧ cx_Eqd (cx_deg a) h (cx_comp (cx_ev wp) (cx_ev wm)) := by
  obtain ⟨wp, w0, wm, hf, _⟩ := cx_Fac.exists (t := t) (cx_Sv.clo hk.fd hk.fv) (fun m u hm _ => hZ m u hm) gh cx_sh wh (cx_deg a)
  have h0 : w0 = [] := by
    cases w0 with
    | nil => rfl
    | cons x l =>
      exfalso
      have := hf.nul.all x (by simp)
      have hp := (gt.z x.1 this.1 this.2.2).1 this.2.1.2
      have h1 := this.2.1.1
      refine ha ⟨?_, ?_⟩
      · have e := hp cx_dl hk.fd
        by_cases h2 : 0 < cx_dl a
        · exact h2
        · have h3 : cx_dl a = 0 := by have := hk.dl0 a; grind
          rw [h3, Rat.zero_mul] at e
          have := Rat.mul_pos h1.1 (cx_dg_pos ha0)
          grind
      · have e := hp v hk.fv
        by_cases h2 : 0 ≤ v a
        · exact h2
        · have h3 := Rat.mul_pos (by grind : 0 < - v a) (cx_dg_pos this.1)
          have h4 := Rat.mul_nonneg h1.2 (by have := cx_dg_pos ha0; grind : 0 ≤ cx_dg a)
          grind
  subst h0
  refine ⟨wp, wm, hf.pos.mono (fun _ h => h.2) (Nat.le_refl _), hf.neg.mono (fun _ h => h.2) (Nat.le_refl _), ?_⟩
  have := hf.eq
  rw [cx_ev_nil, cx_I_comp] at this
  exact this
theorem cx_deg_ge {B : Type} [Zero B] [Add B] [Mul (cx_S B)] [One (cx_S B)] [Add (cx_S B)] [Zero (cx_S B)] [Inhabited (cx_Idx B)] {M : Type} [Add M] [Inhabited (PLift (cx_MGl M))] [Inhabited (cx_Tord B M)] {k : B} {q : Rat} {v v2 cx_dl : B → Rat} (hk : cx_Kd M k q v v2 cx_dl) {a : B} (ha : a ≠ 0) : cx_deg k ≤ cx_deg a := by
  have : cx_deg a ≠ 0 := fun e => ha (cx_deg_pos a e)
  rw [hk.dk]; omega
theorem cx_auto1 {B : Type} [Zero B] [Add B] [Mul (cx_S B)] [One (cx_S B)] [Add (cx_S B)] [Zero (cx_S B)] [Inhabited (cx_Idx B)] {M : Type} [Add M] [Inhabited (PLift (cx_MGl M))] [Inhabited (cx_Tord B M)] {k : B} {q : Rat} {v v2 cx_dl : B → Rat} {Z : M → Prop} (hk : cx_Kd M k q v v2 cx_dl) (hZ : ∀ (m : M) (u : B), Z m → Z (m + cx_p u)) {h h2 : M → cx_S B} (hp : cx_Pair k q v v2 cx_dl Z h h2)
    {a : B} (ha0 : a ≠ 0) (ha : ¬ (0 < cx_dl a ∧ 0 ≤ v a)) {t : B → Rat} (gt : cx_Gen (cx_Par a) (cx_deg a) t) (htk : 0 < t k) {f : B → Rat} (l : cx_Lam (cx_comp (cx_E k q) h) a (cx_deg a) t f) : f a = 0 := by
  obtain ⟨wp, wm, h1, h2, h3⟩ := cx_sup_fac hk hZ hp.gh hp.sh hp.wh ha0 ha gt
  have hf : cx_Fac t cx_All (cx_deg a) (cx_comp (cx_E k q) h) ((k, q) :: wp) [] wm := by
    refine ⟨⟨fun x hx => ?_⟩, ⟨fun x hx => by simp at hx⟩, h2.mono (fun _ h => ⟨trivial, h⟩) (Nat.le_refl _), ?_⟩
    · rcases List.mem_cons.1 hx with rfl | hx
      · exact ⟨hk.k0, ⟨trivial, htk⟩, cx_deg_ge hk ha0⟩
      · have := h1.all x hx; exact ⟨this.1, ⟨trivial, this.2.1⟩, this.2.2⟩
    · rw [cx_ev_nil, cx_I_comp, cx_ev_cons, cx_comp_assoc]
      exact cx_Eqd.comp cx_Eqd.rfl' h3
  exact l.unique ha0 gt.f (cx_lam_none_ord gt hf) cx_Eqd.rfl' a ha0 (Nat.le_refl _) (cx_Par.refl a)
theorem cx_auto2 {B : Type} [Zero B] [Add B] [Mul (cx_S B)] [One (cx_S B)] [Add (cx_S B)] [Zero (cx_S B)] [Inhabited (cx_Idx B)] {M : Type} [Add M] [Inhabited (PLift (cx_MGl M))] [Inhabited (cx_Tord B M)] {k : B} {q : Rat} {v v2 cx_dl : B → Rat} {Z : M → Prop} (hk : cx_Kd M k q v v2 cx_dl) (hZ : ∀ (m : M) (u : B), Z m → Z (m + cx_p u)) {h h2 : M → cx_S B} (hp : cx_Pair k q v v2 cx_dl Z h h2)
    {a : B} (ha0 : a ≠ 0) (ha : ¬ (0 < cx_dl a ∧ 0 ≤ v2 a)) {t : B → Rat} (gt : cx_Gen (cx_Par a) (cx_deg a) t) (htk : t k < 0) {f : B → Rat} (l : cx_Lam (cx_comp (cx_E k q) h) a (cx_deg a) t f) : f a = 0 := by
  obtain ⟨wp, wm, h1, h2, h3⟩ := cx_sup_fac hk.flip hZ hp.gh2 hp.sh2 hp.wh2 ha0 ha gt
  have hf : cx_Fac t cx_All (cx_deg a) (cx_comp (cx_E k q) h) wp [] (wm ++ [(k, q)]) := by
    refine ⟨h1.mono (fun _ h => ⟨trivial, h⟩) (Nat.le_refl _), ⟨fun x hx => by simp at hx⟩, ⟨fun x hx => ?_⟩, ?_⟩
    · rcases List.mem_append.1 hx with hx | hx
      · have := h2.all x hx; exact ⟨this.1, ⟨trivial, this.2.1⟩, this.2.2⟩
      · have : x = (k, q) := by simpa using hx
        subst this
        exact ⟨hk.k0, ⟨trivial, htk⟩, cx_deg_ge hk ha0⟩
    · rw [cx_ev_nil, cx_I_comp, cx_ev_append, cx_ev_one, hp.cj, ← cx_comp_assoc]
      exact cx_Eqd.comp h3 cx_Eqd.rfl'
  exact l.unique ha0 gt.f (cx_lam_none_ord gt hf) cx_Eqd.rfl' a ha0 (Nat.le_refl _) (cx_Par.refl a)
theorem cx_auto0 {B : Type} [Zero B] [Add B] [Mul (cx_S B)] [One (cx_S B)] [Add (cx_S B)] [Zero (cx_S B)] [Inhabited (cx_Idx B)] {M : Type} [Add M] [Inhabited (PLift (cx_MGl M))] [Inhabited (cx_Tord B M)] {k : B} {q : Rat} {v v2 cx_dl : B → Rat} {Z : M → Prop} (hk : cx_Kd M k q v v2 cx_dl) {h h2 : M → cx_S B} (hp : cx_Pair k q v v2 cx_dl Z h h2)
    {a : B} (ha0 : a ≠ 0) (ha : cx_dl a = 0) {t : B → Rat} (gt : cx_Gen (cx_Par a) (cx_deg a) t) {f : B → Rat} (l : cx_Lam (cx_comp (cx_E k q) h) a (cx_deg a) t f) : f a = @ite _ (a = k) (Classical.propDecidable _) q 0 := by
  classical
  obtain ⟨j, hj⟩ := hk.ray a ha
  have hj0 : (j : Rat) ≠ 0 := fun e => ha0 (by have : j = 0 := by exact_mod_cast e
                                               rw [hj, this]; rfl)
  have hpk : cx_Par a k := by
    intro w hw
    have e1 : w a = j * w k := by rw [hj]; exact hw.nsm j k
    have e2 : cx_dg a = j * cx_dg k := by rw [hj]; exact cx_fun_dg.nsm j k
    rw [e1, e2]; grind
  have ray_of : ∀ x, cx_Par a x → cx_dl x = 0 := fun x hx => hx.zero ha0 hk.fd ha
  have htk : t k = 0 := (gt.z k hk.k0 (cx_deg_ge hk ha0)).2 hpk
  obtain ⟨ord, wp, wm, hr, hf⟩ := l
  have off : ∀ x : B, t x ≠ 0 → 0 < cx_dl x := by
    intro x hx
    by_cases h1 : 0 < cx_dl x
    · exact h1
    · obtain ⟨i, hi⟩ := hk.ray x (by have := hk.dl0 x; grind)
      rw [hi, gt.f.nsm, htk, Rat.mul_zero] at hx
      exact absurd rfl hx
  have cx_rp : cx_Rqd k (cx_deg a) (cx_ev wp : M → cx_S B) cx_I := cx_ev_off_ray hk (fun x hx => off _ (by have := (hf.pos.all x hx).2.1.2; grind)) _
  have cx_rm : cx_Rqd k (cx_deg a) (cx_ev wm : M → cx_S B) cx_I := cx_ev_off_ray hk (fun x hx => off _ (by have := (hf.neg.all x hx).2.1.2; grind)) _
  have rh : cx_Rqd k (cx_deg a) h cx_I := by
    intro m i hi
    by_cases h0 : cx_nsm i k = 0
    · rw [h0, hp.gh.unit]; exact cx_one_zero.symm
    · rw [hp.sh m _ h0 (fun hs => by have := hs.1; rw [hk.fd.nsm, hk.dlk, Rat.mul_zero] at this; grind)]
      exact (cx_one_ne h0).symm
  have e0 : cx_Eqd (cx_deg a) (cx_nf ord f : M → cx_S B) (cx_E k q) := by
    intro m b hb
    by_cases hbr : cx_dl b = 0
    · obtain ⟨i, rfl⟩ := hk.ray b hbr
      have h1 := cx_Rqd.comp hk cx_rp (cx_Rqd.comp hk (fun _ _ _ => rfl : cx_Rqd k (cx_deg a) (cx_nf ord f : M → cx_S B) (cx_nf ord f)) cx_rm) m i hb
      rw [cx_I_comp, cx_comp_I] at h1
      rw [← h1]
      have h2 := hf.eq m (cx_nsm i k) hb
      have h3 : cx_comp (cx_ev wp) (cx_comp (cx_nf ord f) (cx_ev wm)) m (cx_nsm i k) = cx_comp (cx_E k q) h m (cx_nsm i k) := h2.symm
      rw [h3]
      have h4 := cx_Rqd.comp hk (fun _ _ _ => rfl : cx_Rqd k (cx_deg a) (cx_E k q : M → cx_S B) (cx_E k q)) rh m i hb
      rw [cx_comp_I] at h4
      exact h4
    · have hb0 : b ≠ 0 := fun e => hbr (by rw [e]; exact hk.fd.zero)
      have h1 : (cx_nf ord f : M → cx_S B) m b = 0 := cx_nf_sup (cx_Par.clo a) (fun x hx => ((hr.mem x).1 hx).2.2) f m b hb0 (fun h => hbr (ray_of b h))
      rw [h1]
      refine (cx_sub_off _ (fun i e => hbr ?_)).symm
      rw [← e, hk.fd.nsm, hk.dlk, Rat.mul_zero]
  have hnz : ∀ x ∈ ord, x ≠ 0 := fun x hx => ((hr.mem x).1 hx).1
  rw [← cx_nf_single hr.nodup hnz ((hr.mem k).2 ⟨hk.k0, cx_deg_ge hk ha0, hpk⟩) q] at e0
  have := cx_nf_unique (M := M) hr.nodup hnz e0 a ((hr.mem a).2 ⟨ha0, Nat.le_refl _, cx_Par.refl a⟩) (Nat.le_refl _)
  exact this
abbrev cx_Std {B : Type} [Zero B] [Add B] [Mul (cx_S B)] [One (cx_S B)] [Add (cx_S B)] [Zero (cx_S B)] [Inhabited (cx_Idx B)] (M : Type) [Add M] [Inhabited (PLift (cx_MGl M))] [Inhabited (cx_Tord B M)] (k : B) (q : Rat) (v v2 cx_dl : B → Rat) (Z : M → Prop) (cx_std : B → Rat) : Prop := (∀ a, a ≠ 0 → cx_dl a = 0 → cx_std a = @ite _ (a = k) (Classical.propDecidable _) q 0) ∧ (∀ a, 0 < cx_dl a → cx_std a ≠ 0 → 0 ≤ v a ∧ 0 ≤ v2 a) ∧ (∀ a, cx_Wl Z (a, cx_std a)) ∧ (∀ (m : M) (u : B), Z m → Z (m + cx_p u)) ∧ (∀ u : B, Z (cx_p u)) ∧ (cx_Wl Z (k, q)) ∧ (0 < q)
theorem cx_Std.ray {B : Type} [Zero B] [Add B] [Mul (cx_S B)] [One (cx_S B)] [Add (cx_S B)] [Zero (cx_S B)] [Inhabited (cx_Idx B)] {M : Type} [Add M] [Inhabited (PLift (cx_MGl M))] [Inhabited (cx_Tord B M)] {k : B} {q : Rat} {v v2 cx_dl : B → Rat} {Z : M → Prop} {cx_std : B → Rat} (hh_ : cx_Std M k q v v2 cx_dl Z cx_std) : ∀ a, a ≠ 0 → cx_dl a = 0 → cx_std a = @ite _ (a = k) (Classical.propDecidable _) q 0 := hh_.1
theorem cx_Std.off {B : Type} [Zero B] [Add B] [Mul (cx_S B)] [One (cx_S B)] [Add (cx_S B)] [Zero (cx_S B)] [Inhabited (cx_Idx B)] {M : Type} [Add M] [Inhabited (PLift (cx_MGl M))] [Inhabited (cx_Tord B M)] {k : B} {q : Rat} {v v2 cx_dl : B → Rat} {Z : M → Prop} {cx_std : B → Rat} (hh_ : cx_Std M k q v v2 cx_dl Z cx_std) : ∀ a, 0 < cx_dl a → cx_std a ≠ 0 → 0 ≤ v a ∧ 0 ≤ v2 a := hh_.2.1
theorem cx_Std.wl {B : Type} [Zero B] [Add B] [Mul (cx_S B)] [One (cx_S B)] [Add (cx_S B)] [Zero (cx_S B)] [Inhabited (cx_Idx B)] {M : Type} [Add M] [Inhabited (PLift (cx_MGl M))] [Inhabited (cx_Tord B M)] {k : B} {q : Rat} {v v2 cx_dl : B → Rat} {Z : M → Prop} {cx_std : B → Rat} (hh_ : cx_Std M k q v v2 cx_dl Z cx_std) : ∀ a, cx_Wl Z (a, cx_std a) := hh_.2.2.1
theorem cx_Std.hZ {B : Type} [Zero B] [Add B] [Mul (cx_S B)] [One (cx_S B)] [Add (cx_S B)] [Zero (cx_S B)] [Inhabited (cx_Idx B)] {M : Type} [Add M] [Inhabited (PLift (cx_MGl M))] [Inhabited (cx_Tord B M)] {k : B} {q : Rat} {v v2 cx_dl : B → Rat} {Z : M → Prop} {cx_std : B → Rat} (hh_ : cx_Std M k q v v2 cx_dl Z cx_std) : ∀ (m : M) (u : B), Z m → Z (m + cx_p u) := hh_.2.2.2.1
theorem cx_Std.hp {B : Type} [Zero B] [Add B] [Mul (cx_S B)] [One (cx_S B)] [Add (cx_S B)] [Zero (cx_S B)] [Inhabited (cx_Idx B)] {M : Type} [Add M] [Inhabited (PLift (cx_MGl M))] [Inhabited (cx_Tord B M)] {k : B} {q : Rat} {v v2 cx_dl : B → Rat} {Z : M → Prop} {cx_std : B → Rat} (hh_ : cx_Std M k q v v2 cx_dl Z cx_std) : ∀ u : B, Z (cx_p u) := hh_.2.2.2.2.1
theorem cx_Std.hk {B : Type} [Zero B] [Add B] [Mul (cx_S B)] [One (cx_S B)] [Add (cx_S B)] [Zero (cx_S B)] [Inhabited (cx_Idx B)] {M : Type} [Add M] [Inhabited (PLift (cx_MGl M))] [Inhabited (cx_Tord B M)] {k : B} {q : Rat} {v v2 cx_dl : B → Rat} {Z : M → Prop} {cx_std : B → Rat} (hh_ : cx_Std M k q v v2 cx_dl Z cx_std) : cx_Wl Z (k, q) := hh_.2.2.2.2.2.1
theorem cx_Std.q0 {B : Type} [Zero B] [Add B] [Mul (cx_S B)] [One (cx_S B)] [Add (cx_S B)] [Zero (cx_S B)] [Inhabited (cx_Idx B)] {M : Type} [Add M] [Inhabited (PLift (cx_MGl M))] [Inhabited (cx_Tord B M)] {k : B} {q : Rat} {v v2 cx_dl : B → Rat} {Z : M → Prop} {cx_std : B → Rat} (hh_ : cx_Std M k q v v2 cx_dl Z cx_std) : 0 < q := hh_.2.2.2.2.2.2
theorem cx_pair_wh {B : Type} [Zero B] [Add B] [Mul (cx_S B)] [One (cx_S B)] [Add (cx_S B)] [Zero (cx_S B)] [Inhabited (cx_Idx B)] {M : Type} [Add M] [Inhabited (PLift (cx_MGl M))] [Inhabited (cx_Tord B M)] {k : B} {q : Rat} {v v2 cx_dl : B → Rat} {Z : M → Prop} {cx_std : B → Rat} (hs : cx_Std M k q v v2 cx_dl Z cx_std) (hk : cx_Kd M k q v v2 cx_dl) {h h2 : M → cx_S B} (hp : cx_Pair k q v v2 cx_dl Z h h2) : cx_Wh Z (cx_comp (cx_E k q) h) :=
  ⟨(cx_E_good hk.k0 q).comp hp.gh, hs.hZ, hs.hp, fun d => cx_whole_comp hs.hZ (cx_E_whole hs.hk d) (hp.wh d)⟩
theorem cx_pair_step {B : Type} [Zero B] [Add B] [Mul (cx_S B)] [One (cx_S B)] [Add (cx_S B)] [Zero (cx_S B)] [Inhabited (cx_Idx B)] {M : Type} [Add M] [Inhabited (PLift (cx_MGl M))] [Inhabited (cx_Tord B M)] {k : B} {q : Rat} {v v2 cx_dl : B → Rat} {Z : M → Prop} {cx_std : B → Rat} (hs : cx_Std M k q v v2 cx_dl Z cx_std) (hk : cx_Kd M k q v v2 cx_dl) {h h2 : M → cx_S B} (hp : cx_Pair k q v v2 cx_dl Z h h2) {D0 : Nat} (hi : cx_IncTo D0 (cx_comp (cx_E k q) h) cx_std) :
    ∃ h' h2', cx_Pair k q v v2 cx_dl Z h' h2' ∧ cx_Eqd D0 h h' ∧ cx_Eqd D0 h2 h2' ∧ cx_IncTo (D0 + 1) (cx_comp (cx_E k q) h') cx_std := by
  classical
  have hw := cx_pair_wh hs hk hp
  generalize hg : cx_comp (cx_E k q) h = g at hi hw

  have ex : ∀ b : B, ∃ c : Rat, b ≠ 0 → cx_Wl Z (b, c) ∧ ∀ t, cx_Gen (cx_Par b) (cx_deg b) t → cx_Cmp M b t → ∀ f, cx_Lam g b (cx_deg b) t f → f b = c := by
    intro b
    by_cases hb : b = 0
    · exact ⟨0, fun h => absurd hb h⟩
    obtain ⟨t, gt, ct⟩ := cx_gen_cmp0 (M := M) hb (cx_deg b)
    obtain ⟨f, lf, wf⟩ := cx_Lam.exists hw gt
    exact ⟨f b, fun _ => ⟨wf b hb (Nat.le_refl _) (cx_Par.refl b), fun t' gt' ct' f' lf' => cx_indep hw hb gt ct lf t' gt' ct' f' lf'⟩⟩
  obtain ⟨lam, hlam⟩ := Classical.axiomOfChoice ex
  let c : B → Rat := fun b => cx_std b - lam b
  have gen : ∀ b, b ≠ 0 → c b ≠ 0 → 0 < cx_dl b ∧ ((0 ≤ v b ∧ 0 ≤ q * cx_pr k (cx_p b : M)) ∨ (0 ≤ v2 b ∧ q * cx_pr k (cx_p b : M) ≤ 0)) := by
    intro b hb hc
    have hl := (hlam b hb).2
    by_cases hd : cx_dl b = 0
    · exfalso
      apply hc
      obtain ⟨t, gt, ct⟩ := cx_gen_cmp0 (M := M) hb (cx_deg b)
      obtain ⟨f, lf, _⟩ := cx_Lam.exists hw gt
      have h1 := hl t gt ct f lf
      rw [← hg] at lf
      have h2 := cx_auto0 hk hp hb hd gt lf
      show cx_std b - lam b = 0
      rw [hs.ray b hb hd, ← h1, h2]; grind
    · have hd' : 0 < cx_dl b := by have := hk.dl0 b; grind
      refine ⟨hd', ?_⟩
      have hnp : ¬ cx_Par b k := fun h => hd (by
        have e := h cx_dl hk.fd
        rw [hk.dlk, Rat.zero_mul] at e
        rcases Rat.mul_eq_zero.1 e.symm with h | h
        · exact h
        · have := cx_dg_pos hk.k0; grind)
      by_cases hr : 0 ≤ cx_pr k (cx_p b : M)
      · by_cases hv : 0 ≤ v b
        · exact .inl ⟨hv, Rat.mul_nonneg (by have := hs.q0; grind) hr⟩
        · exfalso
          apply hc
          have hlz : lam b = 0 := by
            obtain ⟨t, gt, ct, tk⟩ := cx_gen_cmp (M := M) hb (cx_deg b) k hnp 1 (.inl rfl) (by grind)
            obtain ⟨f, lf, _⟩ := cx_Lam.exists hw gt
            rw [← hl t gt ct f lf]
            rw [← hg] at lf
            exact cx_auto1 hk hs.hZ hp hb (fun h => hv h.2) gt (by grind) lf
          have hsz : cx_std b = 0 := Classical.byContradiction (fun h => hv (hs.off b hd' h).1)
          show cx_std b - lam b = 0
          rw [hlz, hsz]; grind
      · by_cases hv : 0 ≤ v2 b
        · refine .inr ⟨hv, ?_⟩
          have := Rat.mul_pos hs.q0 (by grind : 0 < - cx_pr k (cx_p b : M)); grind
        · exfalso
          apply hc
          have hlz : lam b = 0 := by
            obtain ⟨t, gt, ct, tk⟩ := cx_gen_cmp (M := M) hb (cx_deg b) k hnp (-1) (.inr rfl) (by grind)
            obtain ⟨f, lf, _⟩ := cx_Lam.exists hw gt
            rw [← hl t gt ct f lf]
            rw [← hg] at lf
            exact cx_auto2 hk hs.hZ hp hb (fun h => hv h.2) gt (by grind) lf
          have hsz : cx_std b = 0 := Classical.byContradiction (fun h => hv (hs.off b hd' h).2)
          show cx_std b - lam b = 0
          rw [hlz, hsz]; grind
  have wlc : ∀ b, b ≠ 0 → cx_Wl Z (b, c b) := by
    intro b hb
    have h1 := cx_Wl.add (hs.wl b) (cx_wl_neg (hlam b hb).1)
    have : c b = cx_std b + - lam b := by show cx_std b - lam b = _; grind
    rw [this]; exact h1

  have put : ∀ l : List B, l.Nodup → (∀ b ∈ l, cx_deg b = D0 + 1) → ∃ h' h2' : M → cx_S B, cx_Pair k q v v2 cx_dl Z h' h2' ∧ cx_Eqd D0 h h' ∧ cx_Eqd D0 h2 h2' ∧
      ∀ (m : M) (b : B), cx_deg b = D0 + 1 → h' m b = h m b + (if b ∈ l then c b else 0) * cx_pr b m := by
    intro l
    induction l with
    | nil => intro _ _; exact ⟨h, h2, hp, cx_Eqd.rfl', cx_Eqd.rfl', fun m b _ => by simp; grind⟩
    | cons x l ih =>
      intro hn hl
      rw [List.nodup_cons] at hn
      obtain ⟨h1, h3, hp1, he1, he3, hc1⟩ := ih hn.2 (fun b hb => hl b (by simp [hb]))
      have hdx := hl x (by simp)
      have hx : x ≠ 0 := fun e => by rw [e, cx_deg_zero] at hdx; omega
      by_cases hcx : c x = 0
      · refine ⟨h1, h3, hp1, he1, he3, fun m b hb => ?_⟩
        rw [hc1 m b hb]
        by_cases hbx : b = x
        · subst hbx
          rw [if_neg hn.1, if_pos (by simp), hcx]
        · by_cases hbl : b ∈ l
          · rw [if_pos hbl, if_pos (by simp [hbl])]
          · rw [if_neg hbl, if_neg (by simp [hbx, hbl])]
      · obtain ⟨hd, hg2⟩ := gen x hx hcx
        obtain ⟨u, u2, hpu, lu, lu2⟩ := cx_pair_gen hk hs.hZ hs.hk hd hg2 (wlc x hx)
        rw [hdx] at lu lu2
        refine ⟨cx_comp h1 u, cx_comp h3 u2, hp1.comp hk hs.hZ hpu, ?_, ?_, ?_⟩
        · intro m b hb
          rw [lu.right (by omega) hp1.gh m b (by omega), if_neg (by omega), he1 m b hb]; grind
        · intro m b hb
          rw [lu2.right (by omega) hp1.gh2 m b (by omega), if_neg (by omega), he3 m b hb]; grind
        · intro m b hb
          rw [lu.right (by omega) hp1.gh m b (by omega), if_pos hb, hc1 m b hb]
          by_cases hbx : b = x
          · subst hbx
            rw [if_pos rfl, if_neg hn.1, if_pos (by simp)]; grind
          · rw [if_neg hbx]
            by_cases hbl : b ∈ l
            · rw [if_pos hbl, if_pos (by simp [hbl])]; grind
            · rw [if_neg hbl, if_neg (by simp [hbx, hbl])]; grind
  obtain ⟨h', h2', hp', he, he2, hc'⟩ := put (cx_lev (D0 + 1)) (cx_nodup_lev _) (fun b hb => (cx_mem_lev _ b).1 hb)
  refine ⟨h', h2', hp', he, he2, ?_⟩
  have hw' := cx_pair_wh hs hk hp'
  have heg : cx_Eqd D0 g (cx_comp (cx_E k q) h') := by rw [← hg]; exact cx_Eqd.comp cx_Eqd.rfl' he
  intro a ha hda t gt ct f lf
  by_cases hlow : cx_deg a ≤ D0
  · exact hi a ha hlow t gt ct f (lf.eqd (heg.mono hlow).symm)
  · have hda : cx_deg a = D0 + 1 := by omega
    obtain ⟨f0, lf0, _⟩ := cx_Lam.exists hw gt
    have h1 := (hlam a ha).2 t gt ct f0 lf0
    obtain ⟨m, hm⟩ := cx_sep (M := M) a ha
    have e := cx_lam_shift ha gt lf lf0 (fun m b hb => (heg m b (by omega)).symm) m
    have e2 : cx_comp (cx_E k q) h' m a - g m a = c a * cx_pr a m := by
      rw [← hg, cx_comp_top (fun _ _ _ => rfl) (fun m b hb => (he m b (by omega)).symm) (cx_E_good hk.k0 q).unit (cx_E_good hk.k0 q).unit hp'.gh.unit hp.gh.unit ha hda m, hc' m a hda, if_pos ((cx_mem_lev _ a).2 hda)]
      grind
    rw [e2, hm, h1] at e
    have : c a = cx_std a - lam a := rfl
    grind
theorem cx_good_lim {B : Type} [Zero B] [Add B] [Mul (cx_S B)] [One (cx_S B)] [Add (cx_S B)] [Zero (cx_S B)] [Inhabited (cx_Idx B)] {M : Type} [Add M] [Inhabited (PLift (cx_MGl M))] [Inhabited (cx_Tord B M)] {g : M → cx_S B} (h : ∀ d, ∃ g', cx_Good g' ∧ cx_Eqd d g g') : cx_Good g := ⟨(fun m k => by
    refine cx_S.ext (fun b => ?_)
    obtain ⟨g', gg, he⟩ := h (cx_deg b)
    rw [he _ b (Nat.le_refl _), gg.hom, cx_mul_D, cx_mul_D]
    refine cx_D_congr (fun u s hus => ?_)
    have hd := cx_deg_add u s
    rw [hus] at hd
    rw [he m u (by omega), he k s (by omega)]),
  (fun m => by
    obtain ⟨g', gg, he⟩ := h 0
    rw [he m 0 (by rw [cx_deg_zero]; omega), gg.unit]),
  (fun m k b => by
    obtain ⟨g', gg, he⟩ := h (cx_deg b)
    rw [← gg.poi m k b]
    refine cx_D_congr (fun u s hus => ?_)
    have hd := cx_deg_add u s
    rw [hus] at hd
    rw [he m u (by omega), he k s (by omega)])⟩
theorem cx_eqd_all {B : Type} [Zero B] [Add B] [Mul (cx_S B)] [One (cx_S B)] [Add (cx_S B)] [Zero (cx_S B)] [Inhabited (cx_Idx B)] {M : Type} [Add M] [Inhabited (PLift (cx_MGl M))] [Inhabited (cx_Tord B M)] {g g' : M → cx_S B} (h : ∀ d, cx_Eqd d g g') : g = g' := by
  funext m
  refine cx_S.ext (fun b => ?_)
  exact h (cx_deg b) m b (Nat.le_refl _)
theorem cx_pair_exists {B : Type} [Zero B] [Add B] [Mul (cx_S B)] [One (cx_S B)] [Add (cx_S B)] [Zero (cx_S B)] [Inhabited (cx_Idx B)] {M : Type} [Add M] [Inhabited (PLift (cx_MGl M))] [Inhabited (cx_Tord B M)] {k : B} {q : Rat} {v v2 cx_dl : B → Rat} {Z : M → Prop} {cx_std : B → Rat} (hs : cx_Std M k q v v2 cx_dl Z cx_std) (hk : cx_Kd M k q v v2 cx_dl) :
    ∃ h h2 : M → cx_S B, cx_Pair k q v v2 cx_dl Z h h2 ∧ cx_Inc (cx_comp (cx_E k q) h) cx_std := by
  classical
  let P : Nat → Type := fun d => { x : (M → cx_S B) × (M → cx_S B) // cx_Pair k q v v2 cx_dl Z x.1 x.2 ∧ cx_IncTo d (cx_comp (cx_E k q) x.1) cx_std }
  have nxt : ∀ d (x : P d), ∃ y : P (d + 1), cx_Eqd d x.1.1 y.1.1 ∧ cx_Eqd d x.1.2 y.1.2 := by
    intro d x
    obtain ⟨h', h2', h1, h3, h4, h5⟩ := cx_pair_step hs hk x.2.1 x.2.2
    exact ⟨⟨(h', h2'), h1, h5⟩, h3, h4⟩
  let start : P 0 := ⟨(cx_I, cx_I), cx_Pair.one, fun a ha hd => by
    exfalso; exact ha (cx_deg_pos a (by omega))⟩
  let sq : (d : Nat) → P d := fun d => Nat.rec (motive := P) start (fun d x => Classical.choose (nxt d x)) d
  have hstep : ∀ d, cx_Eqd d (sq d).1.1 (sq (d + 1)).1.1 ∧ cx_Eqd d (sq d).1.2 (sq (d + 1)).1.2 := fun d => Classical.choose_spec (nxt d (sq d))
  have stable : ∀ d e, cx_Eqd d (sq d).1.1 (sq (d + e)).1.1 ∧ cx_Eqd d (sq d).1.2 (sq (d + e)).1.2 := by
    intro d e
    induction e with
    | zero => exact ⟨cx_Eqd.rfl', cx_Eqd.rfl'⟩
    | succ e ih => exact ⟨ih.1.trans ((hstep (d + e)).1.mono (by omega)), ih.2.trans ((hstep (d + e)).2.mono (by omega))⟩
  let h : M → cx_S B := fun m b => (sq (cx_deg b)).1.1 m b
  let h2 : M → cx_S B := fun m b => (sq (cx_deg b)).1.2 m b
  have e1 : ∀ d, cx_Eqd d h (sq d).1.1 := by
    intro d m b hb
    have := (stable (cx_deg b) (d - cx_deg b)).1 m b (Nat.le_refl _)
    rw [show cx_deg b + (d - cx_deg b) = d by omega] at this
    exact this
  have e2 : ∀ d, cx_Eqd d h2 (sq d).1.2 := by
    intro d m b hb
    have := (stable (cx_deg b) (d - cx_deg b)).2 m b (Nat.le_refl _)
    rw [show cx_deg b + (d - cx_deg b) = d by omega] at this
    exact this
  refine ⟨h, h2, ⟨cx_good_lim (fun d => ⟨_, (sq d).2.1.gh, e1 d⟩), cx_good_lim (fun d => ⟨_, (sq d).2.1.gh2, e2 d⟩), fun m b hb hn => ?_, fun m b hb hn => ?_, ?_, ?_, ?_⟩, ?_⟩
  · exact (sq (cx_deg b)).2.1.sh m b hb hn
  · exact (sq (cx_deg b)).2.1.sh2 m b hb hn
  · refine cx_eqd_all (fun d => ?_)
    refine (cx_Eqd.comp cx_Eqd.rfl' (e1 d)).trans ?_
    rw [(sq d).2.1.cj]
    exact (cx_Eqd.comp (e2 d) cx_Eqd.rfl').symm
  · intro d m hm b hb
    rw [e1 d m b hb]; exact (sq d).2.1.wh d m hm b hb
  · intro d m hm b hb
    rw [e2 d m b hb]; exact (sq d).2.1.wh2 d m hm b hb
  · intro a ha t gt ct f lf
    exact (sq (cx_deg a)).2.2 a ha (Nat.le_refl _) t gt ct f (lf.eqd (cx_Eqd.comp cx_Eqd.rfl' (e1 (cx_deg a))))
end

section
theorem cx_sm_filter {α : Type} (l : List α) (P : α → Bool) (f : α → Rat) (h : ∀ a ∈ l, P a = false → f a = 0) : cx_sm l f = cx_sm (l.filter P) f := by
  induction l with
  | nil => rfl
  | cons x l ih =>
    have ih := ih (fun a ha => h a (by simp [ha]))
    by_cases hx : P x = true
    · rw [List.filter_cons_of_pos hx, cx_sm_cons, cx_sm_cons, ih]
    · rw [List.filter_cons_of_neg hx, cx_sm_cons, h x (by simp) (by simpa using hx), ih, Rat.zero_add]
theorem cx_comp_unit {B : Type} [Zero B] [Add B] [Mul (cx_S B)] [One (cx_S B)] [Add (cx_S B)] [Zero (cx_S B)] [Inhabited (cx_Idx B)] {M : Type} [Add M] [Inhabited (PLift (cx_MGl M))] [Inhabited (cx_Tord B M)] {f g : M → cx_S B} (hf : ∀ m, f m 0 = 1) (hg : ∀ m, g m 0 = 1) (m : M) : cx_comp f g m 0 = 1 := by
  rw [cx_comp_def, cx_D_right]
  · rw [hg, hf, Rat.mul_one]
  · intro u v h0 hv
    have := cx_deg_add u v
    rw [h0, cx_deg_zero] at this
    exact absurd (cx_deg_pos v (by omega)) hv
abbrev cx_Trn {B : Type} [Zero B] [Add B] [Mul (cx_S B)] [One (cx_S B)] [Add (cx_S B)] [Zero (cx_S B)] [Inhabited (cx_Idx B)] {M : Type} [Add M] [Inhabited (PLift (cx_MGl M))] [Inhabited (cx_Tord B M)] {B' : Type} [Zero B'] [Add B'] [Mul (cx_S B')] [One (cx_S B')] [Add (cx_S B')] [Zero (cx_S B')] [Inhabited (cx_Idx B')] {M' : Type} [Add M'] [Inhabited (PLift (cx_MGl M'))] [Inhabited (cx_Tord B' M')] (T : B → Prop) (T' : B' → Prop) (θ : B → B') (θ' : B' → B) (μ : M → M') (μ' : M' → M) : Prop := (θ 0 = 0) ∧ (θ' 0 = 0) ∧ (∀ b, T b → T' (θ b)) ∧ (∀ b, T' b → T (θ' b)) ∧ (∀ b, T b → θ' (θ b) = b) ∧ (∀ b, T' b → θ (θ' b) = b) ∧ (∀ a b, T a → T b → θ (a + b) = θ a + θ b) ∧ (cx_Clo T) ∧ (cx_Clo T') ∧ (∀ b, T b → b ≠ 0) ∧ (∀ b, T' b → b ≠ 0) ∧ (∀ m, μ' (μ m) = m) ∧ (∀ m, μ (μ' m) = m) ∧ (∀ a m, T a → cx_pr (θ a) (μ m) = cx_pr a m) ∧ (∀ a m, T a → μ (m + cx_p a) = μ m + cx_p (θ a))
theorem cx_Trn.z0 {B : Type} [Zero B] [Add B] [Mul (cx_S B)] [One (cx_S B)] [Add (cx_S B)] [Zero (cx_S B)] [Inhabited (cx_Idx B)] {M : Type} [Add M] [Inhabited (PLift (cx_MGl M))] [Inhabited (cx_Tord B M)] {B' : Type} [Zero B'] [Add B'] [Mul (cx_S B')] [One (cx_S B')] [Add (cx_S B')] [Zero (cx_S B')] [Inhabited (cx_Idx B')] {M' : Type} [Add M'] [Inhabited (PLift (cx_MGl M'))] [Inhabited (cx_Tord B' M')] {T : B → Prop} {T' : B' → Prop} {θ : B → B'} {θ' : B' → B} {μ : M → M'} {μ' : M' → M} (hh_ : cx_Trn T T' θ θ' μ μ') : θ 0 = 0 := hh_.1
theorem cx_Trn.z0' {B : Type} [Zero B] [Add B] [Mul (cx_S B)] [One (cx_S B)] [Add (cx_S B)] [Zero (cx_S B)] [Inhabited (cx_Idx B)] {M : Type} [Add M] [Inhabited (PLift (cx_MGl M))] [Inhabited (cx_Tord B M)] {B' : Type} [Zero B'] [Add B'] [Mul (cx_S B')] [One (cx_S B')] [Add (cx_S B')] [Zero (cx_S B')] [Inhabited (cx_Idx B')] {M' : Type} [Add M'] [Inhabited (PLift (cx_MGl M'))] [Inhabited (cx_Tord B' M')] {T : B → Prop} {T' : B' → Prop} {θ : B → B'} {θ' : B' → B} {μ : M → M'} {μ' : M' → M} (hh_ : cx_Trn T T' θ θ' μ μ') : θ' 0 = 0 := hh_.2.1
theorem cx_Trn.to {B : Type} [Zero B] [Add B] [Mul (cx_S B)] [One (cx_S B)] [Add (cx_S B)] [Zero (cx_S B)] [Inhabited (cx_Idx B)] {M : Type} [Add M] [Inhabited (PLift (cx_MGl M))] [Inhabited (cx_Tord B M)] {B' : Type} [Zero B'] [Add B'] [Mul (cx_S B')] [One (cx_S B')] [Add (cx_S B')] [Zero (cx_S B')] [Inhabited (cx_Idx B')] {M' : Type} [Add M'] [Inhabited (PLift (cx_MGl M'))] [Inhabited (cx_Tord B' M')] {T : B → Prop} {T' : B' → Prop} {θ : B → B'} {θ' : B' → B} {μ : M → M'} {μ' : M' → M} (hh_ : cx_Trn T T' θ θ' μ μ') : ∀ b, T b → T' (θ b) := hh_.2.2.1
theorem cx_Trn.fro {B : Type} [Zero B] [Add B] [Mul (cx_S B)] [One (cx_S B)] [Add (cx_S B)] [Zero (cx_S B)] [Inhabited (cx_Idx B)] {M : Type} [Add M] [Inhabited (PLift (cx_MGl M))] [Inhabited (cx_Tord B M)] {B' : Type} [Zero B'] [Add B'] [Mul (cx_S B')] [One (cx_S B')] [Add (cx_S B')] [Zero (cx_S B')] [Inhabited (cx_Idx B')] {M' : Type} [Add M'] [Inhabited (PLift (cx_MGl M'))] [Inhabited (cx_Tord B' M')] {T : B → Prop} {T' : B' → Prop} {θ : B → B'} {θ' : B' → B} {μ : M → M'} {μ' : M' → M} (hh_ : cx_Trn T T' θ θ' μ μ') : ∀ b, T' b → T (θ' b) := hh_.2.2.2.1
theorem cx_Trn.l {B : Type} [Zero B] [Add B] [Mul (cx_S B)] [One (cx_S B)] [Add (cx_S B)] [Zero (cx_S B)] [Inhabited (cx_Idx B)] {M : Type} [Add M] [Inhabited (PLift (cx_MGl M))] [Inhabited (cx_Tord B M)] {B' : Type} [Zero B'] [Add B'] [Mul (cx_S B')] [One (cx_S B')] [Add (cx_S B')] [Zero (cx_S B')] [Inhabited (cx_Idx B')] {M' : Type} [Add M'] [Inhabited (PLift (cx_MGl M'))] [Inhabited (cx_Tord B' M')] {T : B → Prop} {T' : B' → Prop} {θ : B → B'} {θ' : B' → B} {μ : M → M'} {μ' : M' → M} (hh_ : cx_Trn T T' θ θ' μ μ') : ∀ b, T b → θ' (θ b) = b := hh_.2.2.2.2.1
theorem cx_Trn.r {B : Type} [Zero B] [Add B] [Mul (cx_S B)] [One (cx_S B)] [Add (cx_S B)] [Zero (cx_S B)] [Inhabited (cx_Idx B)] {M : Type} [Add M] [Inhabited (PLift (cx_MGl M))] [Inhabited (cx_Tord B M)] {B' : Type} [Zero B'] [Add B'] [Mul (cx_S B')] [One (cx_S B')] [Add (cx_S B')] [Zero (cx_S B')] [Inhabited (cx_Idx B')] {M' : Type} [Add M'] [Inhabited (PLift (cx_MGl M'))] [Inhabited (cx_Tord B' M')] {T : B → Prop} {T' : B' → Prop} {θ : B → B'} {θ' : B' → B} {μ : M → M'} {μ' : M' → M} (hh_ : cx_Trn T T' θ θ' μ μ') : ∀ b, T' b → θ (θ' b) = b := hh_.2.2.2.2.2.1
theorem cx_Trn.add {B : Type} [Zero B] [Add B] [Mul (cx_S B)] [One (cx_S B)] [Add (cx_S B)] [Zero (cx_S B)] [Inhabited (cx_Idx B)] {M : Type} [Add M] [Inhabited (PLift (cx_MGl M))] [Inhabited (cx_Tord B M)] {B' : Type} [Zero B'] [Add B'] [Mul (cx_S B')] [One (cx_S B')] [Add (cx_S B')] [Zero (cx_S B')] [Inhabited (cx_Idx B')] {M' : Type} [Add M'] [Inhabited (PLift (cx_MGl M'))] [Inhabited (cx_Tord B' M')] {T : B → Prop} {T' : B' → Prop} {θ : B → B'} {θ' : B' → B} {μ : M → M'} {μ' : M' → M} (hh_ : cx_Trn T T' θ θ' μ μ') : ∀ a b, T a → T b → θ (a + b) = θ a + θ b := hh_.2.2.2.2.2.2.1
theorem cx_Trn.c {B : Type} [Zero B] [Add B] [Mul (cx_S B)] [One (cx_S B)] [Add (cx_S B)] [Zero (cx_S B)] [Inhabited (cx_Idx B)] {M : Type} [Add M] [Inhabited (PLift (cx_MGl M))] [Inhabited (cx_Tord B M)] {B' : Type} [Zero B'] [Add B'] [Mul (cx_S B')] [One (cx_S B')] [Add (cx_S B')] [Zero (cx_S B')] [Inhabited (cx_Idx B')] {M' : Type} [Add M'] [Inhabited (PLift (cx_MGl M'))] [Inhabited (cx_Tord B' M')] {T : B → Prop} {T' : B' → Prop} {θ : B → B'} {θ' : B' → B} {μ : M → M'} {μ' : M' → M} (hh_ : cx_Trn T T' θ θ' μ μ') : cx_Clo T := hh_.2.2.2.2.2.2.2.1
theorem cx_Trn.c' {B : Type} [Zero B] [Add B] [Mul (cx_S B)] [One (cx_S B)] [Add (cx_S B)] [Zero (cx_S B)] [Inhabited (cx_Idx B)] {M : Type} [Add M] [Inhabited (PLift (cx_MGl M))] [Inhabited (cx_Tord B M)] {B' : Type} [Zero B'] [Add B'] [Mul (cx_S B')] [One (cx_S B')] [Add (cx_S B')] [Zero (cx_S B')] [Inhabited (cx_Idx B')] {M' : Type} [Add M'] [Inhabited (PLift (cx_MGl M'))] [Inhabited (cx_Tord B' M')] {T : B → Prop} {T' : B' → Prop} {θ : B → B'} {θ' : B' → B} {μ : M → M'} {μ' : M' → M} (hh_ : cx_Trn T T' θ θ' μ μ') : cx_Clo T' := hh_.2.2.2.2.2.2.2.2.1
theorem cx_Trn.nz {B : Type} [Zero B] [Add B] [Mul (cx_S B)] [One (cx_S B)] [Add (cx_S B)] [Zero (cx_S B)] [Inhabited (cx_Idx B)] {M : Type} [Add M] [Inhabited (PLift (cx_MGl M))] [Inhabited (cx_Tord B M)] {B' : Type} [Zero B'] [Add B'] [Mul (cx_S B')] [One (cx_S B')] [Add (cx_S B')] [Zero (cx_S B')] [Inhabited (cx_Idx B')] {M' : Type} [Add M'] [Inhabited (PLift (cx_MGl M'))] [Inhabited (cx_Tord B' M')] {T : B → Prop} {T' : B' → Prop} {θ : B → B'} {θ' : B' → B} {μ : M → M'} {μ' : M' → M} (hh_ : cx_Trn T T' θ θ' μ μ') : ∀ b, T b → b ≠ 0 := hh_.2.2.2.2.2.2.2.2.2.1
theorem cx_Trn.nz' {B : Type} [Zero B] [Add B] [Mul (cx_S B)] [One (cx_S B)] [Add (cx_S B)] [Zero (cx_S B)] [Inhabited (cx_Idx B)] {M : Type} [Add M] [Inhabited (PLift (cx_MGl M))] [Inhabited (cx_Tord B M)] {B' : Type} [Zero B'] [Add B'] [Mul (cx_S B')] [One (cx_S B')] [Add (cx_S B')] [Zero (cx_S B')] [Inhabited (cx_Idx B')] {M' : Type} [Add M'] [Inhabited (PLift (cx_MGl M'))] [Inhabited (cx_Tord B' M')] {T : B → Prop} {T' : B' → Prop} {θ : B → B'} {θ' : B' → B} {μ : M → M'} {μ' : M' → M} (hh_ : cx_Trn T T' θ θ' μ μ') : ∀ b, T' b → b ≠ 0 := hh_.2.2.2.2.2.2.2.2.2.2.1
theorem cx_Trn.ml {B : Type} [Zero B] [Add B] [Mul (cx_S B)] [One (cx_S B)] [Add (cx_S B)] [Zero (cx_S B)] [Inhabited (cx_Idx B)] {M : Type} [Add M] [Inhabited (PLift (cx_MGl M))] [Inhabited (cx_Tord B M)] {B' : Type} [Zero B'] [Add B'] [Mul (cx_S B')] [One (cx_S B')] [Add (cx_S B')] [Zero (cx_S B')] [Inhabited (cx_Idx B')] {M' : Type} [Add M'] [Inhabited (PLift (cx_MGl M'))] [Inhabited (cx_Tord B' M')] {T : B → Prop} {T' : B' → Prop} {θ : B → B'} {θ' : B' → B} {μ : M → M'} {μ' : M' → M} (hh_ : cx_Trn T T' θ θ' μ μ') : ∀ m, μ' (μ m) = m := hh_.2.2.2.2.2.2.2.2.2.2.2.1
theorem cx_Trn.mr {B : Type} [Zero B] [Add B] [Mul (cx_S B)] [One (cx_S B)] [Add (cx_S B)] [Zero (cx_S B)] [Inhabited (cx_Idx B)] {M : Type} [Add M] [Inhabited (PLift (cx_MGl M))] [Inhabited (cx_Tord B M)] {B' : Type} [Zero B'] [Add B'] [Mul (cx_S B')] [One (cx_S B')] [Add (cx_S B')] [Zero (cx_S B')] [Inhabited (cx_Idx B')] {M' : Type} [Add M'] [Inhabited (PLift (cx_MGl M'))] [Inhabited (cx_Tord B' M')] {T : B → Prop} {T' : B' → Prop} {θ : B → B'} {θ' : B' → B} {μ : M → M'} {μ' : M' → M} (hh_ : cx_Trn T T' θ θ' μ μ') : ∀ m, μ (μ' m) = m := hh_.2.2.2.2.2.2.2.2.2.2.2.2.1
theorem cx_Trn.pr_ {B : Type} [Zero B] [Add B] [Mul (cx_S B)] [One (cx_S B)] [Add (cx_S B)] [Zero (cx_S B)] [Inhabited (cx_Idx B)] {M : Type} [Add M] [Inhabited (PLift (cx_MGl M))] [Inhabited (cx_Tord B M)] {B' : Type} [Zero B'] [Add B'] [Mul (cx_S B')] [One (cx_S B')] [Add (cx_S B')] [Zero (cx_S B')] [Inhabited (cx_Idx B')] {M' : Type} [Add M'] [Inhabited (PLift (cx_MGl M'))] [Inhabited (cx_Tord B' M')] {T : B → Prop} {T' : B' → Prop} {θ : B → B'} {θ' : B' → B} {μ : M → M'} {μ' : M' → M} (hh_ : cx_Trn T T' θ θ' μ μ') : ∀ a m, T a → cx_pr (θ a) (μ m) = cx_pr a m := hh_.2.2.2.2.2.2.2.2.2.2.2.2.2.1
theorem cx_Trn.p_ {B : Type} [Zero B] [Add B] [Mul (cx_S B)] [One (cx_S B)] [Add (cx_S B)] [Zero (cx_S B)] [Inhabited (cx_Idx B)] {M : Type} [Add M] [Inhabited (PLift (cx_MGl M))] [Inhabited (cx_Tord B M)] {B' : Type} [Zero B'] [Add B'] [Mul (cx_S B')] [One (cx_S B')] [Add (cx_S B')] [Zero (cx_S B')] [Inhabited (cx_Idx B')] {M' : Type} [Add M'] [Inhabited (PLift (cx_MGl M'))] [Inhabited (cx_Tord B' M')] {T : B → Prop} {T' : B' → Prop} {θ : B → B'} {θ' : B' → B} {μ : M → M'} {μ' : M' → M} (hh_ : cx_Trn T T' θ θ' μ μ') : ∀ a m, T a → μ (m + cx_p a) = μ m + cx_p (θ a) := hh_.2.2.2.2.2.2.2.2.2.2.2.2.2.2
theorem cx_Trn.p' {B : Type} [Zero B] [Add B] [Mul (cx_S B)] [One (cx_S B)] [Add (cx_S B)] [Zero (cx_S B)] [Inhabited (cx_Idx B)] {M : Type} [Add M] [Inhabited (PLift (cx_MGl M))] [Inhabited (cx_Tord B M)] {B' : Type} [Zero B'] [Add B'] [Mul (cx_S B')] [One (cx_S B')] [Add (cx_S B')] [Zero (cx_S B')] [Inhabited (cx_Idx B')] {M' : Type} [Add M'] [Inhabited (PLift (cx_MGl M'))] [Inhabited (cx_Tord B' M')] {T : B → Prop} {T' : B' → Prop} {θ : B → B'} {θ' : B' → B} {μ : M → M'} {μ' : M' → M} (h : cx_Trn T T' θ θ' μ μ') (a : B') (m : M') (ha : T' a) : μ' (m + cx_p a) = μ' m + cx_p (θ' a) := by
  have h1 := h.p_ (θ' a) (μ' m) (h.fro a ha)
  rw [h.mr, h.r a ha] at h1
  rw [← h1, h.ml]
theorem cx_Trn.addz {B : Type} [Zero B] [Add B] [Mul (cx_S B)] [One (cx_S B)] [Add (cx_S B)] [Zero (cx_S B)] [Inhabited (cx_Idx B)] {M : Type} [Add M] [Inhabited (PLift (cx_MGl M))] [Inhabited (cx_Tord B M)] {B' : Type} [Zero B'] [Add B'] [Mul (cx_S B')] [One (cx_S B')] [Add (cx_S B')] [Zero (cx_S B')] [Inhabited (cx_Idx B')] {M' : Type} [Add M'] [Inhabited (PLift (cx_MGl M'))] [Inhabited (cx_Tord B' M')] {T : B → Prop} {T' : B' → Prop} {θ : B → B'} {θ' : B' → B} {μ : M → M'} {μ' : M' → M} (h : cx_Trn T T' θ θ' μ μ') {a b : B} (ha : a = 0 ∨ T a) (hb : b = 0 ∨ T b) : θ (a + b) = θ a + θ b := by
  rcases ha with rfl | ha
  · rw [cx_zadd, h.z0, cx_zadd]
  · rcases hb with rfl | hb
    · rw [cx_addZ, h.z0, cx_addZ]
    · exact h.add a b ha hb
theorem cx_Trn.symm {B : Type} [Zero B] [Add B] [Mul (cx_S B)] [One (cx_S B)] [Add (cx_S B)] [Zero (cx_S B)] [Inhabited (cx_Idx B)] {M : Type} [Add M] [Inhabited (PLift (cx_MGl M))] [Inhabited (cx_Tord B M)] {B' : Type} [Zero B'] [Add B'] [Mul (cx_S B')] [One (cx_S B')] [Add (cx_S B')] [Zero (cx_S B')] [Inhabited (cx_Idx B')] {M' : Type} [Add M'] [Inhabited (PLift (cx_MGl M'))] [Inhabited (cx_Tord B' M')] {T : B → Prop} {T' : B' → Prop} {θ : B → B'} {θ' : B' → B} {μ : M → M'} {μ' : M' → M} (h : cx_Trn T T' θ θ' μ μ') : cx_Trn T' T θ' θ μ' μ := ⟨(h.z0'),
  (h.z0),
  (h.fro),
  (h.to),
  (h.r),
  (h.l),
  (fun a b ha hb => by
    have h1 := h.add (θ' a) (θ' b) (h.fro a ha) (h.fro b hb)
    rw [h.r a ha, h.r b hb] at h1
    rw [← h1, h.l _ (h.c.add _ _ (h.fro a ha) (h.fro b hb))]),
  (h.c'),
  (h.c),
  (h.nz'),
  (h.nz),
  (h.mr),
  (h.ml),
  (fun a m ha => by
    have := h.pr_ (θ' a) (μ' m) (h.fro a ha)
    rw [h.r a ha, h.mr] at this
    exact this.symm),
  (fun a m ha => h.p' a m ha)⟩
noncomputable def cx_tr {B : Type} [Zero B] [Add B] [Mul (cx_S B)] [One (cx_S B)] [Add (cx_S B)] [Zero (cx_S B)] [Inhabited (cx_Idx B)] {M : Type} [Add M] [Inhabited (PLift (cx_MGl M))] [Inhabited (cx_Tord B M)] {B' : Type} [Zero B'] [Add B'] [Mul (cx_S B')] [One (cx_S B')] [Add (cx_S B')] [Zero (cx_S B')] [Inhabited (cx_Idx B')] {M' : Type} [Add M'] [Inhabited (PLift (cx_MGl M'))] [Inhabited (cx_Tord B' M')] (T' : B' → Prop) (θ' : B' → B) (μ' : M' → M) (f : M → cx_S B) : M' → cx_S B' :=
  fun m b => @ite _ (b = 0) (Classical.propDecidable _) 1 (@ite _ (T' b) (Classical.propDecidable _) (f (μ' m) (θ' b)) 0)
theorem cx_tr_zero {B : Type} [Zero B] [Add B] [Mul (cx_S B)] [One (cx_S B)] [Add (cx_S B)] [Zero (cx_S B)] [Inhabited (cx_Idx B)] {M : Type} [Add M] [Inhabited (PLift (cx_MGl M))] [Inhabited (cx_Tord B M)] {B' : Type} [Zero B'] [Add B'] [Mul (cx_S B')] [One (cx_S B')] [Add (cx_S B')] [Zero (cx_S B')] [Inhabited (cx_Idx B')] {M' : Type} [Add M'] [Inhabited (PLift (cx_MGl M'))] [Inhabited (cx_Tord B' M')] {T' : B' → Prop} {θ' : B' → B} {μ' : M' → M} (f : M → cx_S B) (m : M') : cx_tr T' θ' μ' f m 0 = 1 := by unfold cx_tr; rw [if_pos rfl]
theorem cx_tr_in {B : Type} [Zero B] [Add B] [Mul (cx_S B)] [One (cx_S B)] [Add (cx_S B)] [Zero (cx_S B)] [Inhabited (cx_Idx B)] {M : Type} [Add M] [Inhabited (PLift (cx_MGl M))] [Inhabited (cx_Tord B M)] {B' : Type} [Zero B'] [Add B'] [Mul (cx_S B')] [One (cx_S B')] [Add (cx_S B')] [Zero (cx_S B')] [Inhabited (cx_Idx B')] {M' : Type} [Add M'] [Inhabited (PLift (cx_MGl M'))] [Inhabited (cx_Tord B' M')] {T : B → Prop} {T' : B' → Prop} {θ : B → B'} {θ' : B' → B} {μ : M → M'} {μ' : M' → M} (h : cx_Trn T T' θ θ' μ μ') (f : M → cx_S B) (m : M') {b : B'} (hb : T' b) : cx_tr T' θ' μ' f m b = f (μ' m) (θ' b) := by
  unfold cx_tr; rw [if_neg (h.nz' b hb), if_pos hb]
theorem cx_tr_out {B : Type} [Zero B] [Add B] [Mul (cx_S B)] [One (cx_S B)] [Add (cx_S B)] [Zero (cx_S B)] [Inhabited (cx_Idx B)] {M : Type} [Add M] [Inhabited (PLift (cx_MGl M))] [Inhabited (cx_Tord B M)] {B' : Type} [Zero B'] [Add B'] [Mul (cx_S B')] [One (cx_S B')] [Add (cx_S B')] [Zero (cx_S B')] [Inhabited (cx_Idx B')] {M' : Type} [Add M'] [Inhabited (PLift (cx_MGl M'))] [Inhabited (cx_Tord B' M')] {T' : B' → Prop} {θ' : B' → B} {μ' : M' → M} (f : M → cx_S B) (m : M') {b : B'} (h0 : b ≠ 0) (hb : ¬ T' b) : cx_tr T' θ' μ' f m b = 0 := by
  unfold cx_tr; rw [if_neg h0, if_neg hb]
theorem cx_tr_ok {B : Type} [Zero B] [Add B] [Mul (cx_S B)] [One (cx_S B)] [Add (cx_S B)] [Zero (cx_S B)] [Inhabited (cx_Idx B)] {M : Type} [Add M] [Inhabited (PLift (cx_MGl M))] [Inhabited (cx_Tord B M)] {B' : Type} [Zero B'] [Add B'] [Mul (cx_S B')] [One (cx_S B')] [Add (cx_S B')] [Zero (cx_S B')] [Inhabited (cx_Idx B')] {M' : Type} [Add M'] [Inhabited (PLift (cx_MGl M'))] [Inhabited (cx_Tord B' M')] {T : B → Prop} {T' : B' → Prop} {θ : B → B'} {θ' : B' → B} {μ : M → M'} {μ' : M' → M} (h : cx_Trn T T' θ θ' μ μ') {f : M → cx_S B} (hf : ∀ m, f m 0 = 1) (m : M') {b : B'} (hb : b = 0 ∨ T' b) : cx_tr T' θ' μ' f m b = f (μ' m) (θ' b) := by
  rcases hb with rfl | hb
  · rw [cx_tr_zero, h.z0', hf]
  · exact cx_tr_in h f m hb
theorem cx_tr_sup {B : Type} [Zero B] [Add B] [Mul (cx_S B)] [One (cx_S B)] [Add (cx_S B)] [Zero (cx_S B)] [Inhabited (cx_Idx B)] {M : Type} [Add M] [Inhabited (PLift (cx_MGl M))] [Inhabited (cx_Tord B M)] {B' : Type} [Zero B'] [Add B'] [Mul (cx_S B')] [One (cx_S B')] [Add (cx_S B')] [Zero (cx_S B')] [Inhabited (cx_Idx B')] {M' : Type} [Add M'] [Inhabited (PLift (cx_MGl M'))] [Inhabited (cx_Tord B' M')] {T' : B' → Prop} {θ' : B' → B} {μ' : M' → M} (f : M → cx_S B) : cx_Sup T' (cx_tr T' θ' μ' f) := fun m b h0 hb => cx_tr_out f m h0 hb
theorem cx_D_tr {B : Type} [Zero B] [Add B] [Mul (cx_S B)] [One (cx_S B)] [Add (cx_S B)] [Zero (cx_S B)] [Inhabited (cx_Idx B)] {M : Type} [Add M] [Inhabited (PLift (cx_MGl M))] [Inhabited (cx_Tord B M)] {B' : Type} [Zero B'] [Add B'] [Mul (cx_S B')] [One (cx_S B')] [Add (cx_S B')] [Zero (cx_S B')] [Inhabited (cx_Idx B')] {M' : Type} [Add M'] [Inhabited (PLift (cx_MGl M'))] [Inhabited (cx_Tord B' M')] {T : B → Prop} {T' : B' → Prop} {θ : B → B'} {θ' : B' → B} {μ : M → M'} {μ' : M' → M} (h : cx_Trn T T' θ θ' μ μ') {b : B'} (hb : T' b) (F : B → B → Rat) (F' : B' → B' → Rat)
    (h0 : ∀ u s, ¬ ((u = 0 ∨ T u) ∧ (s = 0 ∨ T s)) → F u s = 0) (h0' : ∀ u s, ¬ ((u = 0 ∨ T' u) ∧ (s = 0 ∨ T' s)) → F' u s = 0)
    (he : ∀ u s, (u = 0 ∨ T' u) → (s = 0 ∨ T' s) → F' u s = F (θ' u) (θ' s)) : cx_D b F' = cx_D (θ' b) F := by
  classical
  let P : B × B → Bool := fun x => decide ((x.1 = 0 ∨ T x.1) ∧ (x.2 = 0 ∨ T x.2))
  let P' : B' × B' → Bool := fun x => decide ((x.1 = 0 ∨ T' x.1) ∧ (x.2 = 0 ∨ T' x.2))
  have ok : ∀ u : B', (u = 0 ∨ T' u) → (θ' u = 0 ∨ T (θ' u)) ∧ θ (θ' u) = u := by
    rintro u (rfl | hu)
    · exact ⟨.inl h.z0', by rw [h.z0', h.z0]⟩
    · exact ⟨.inr (h.fro u hu), h.r u hu⟩
  have ok2 : ∀ u : B, (u = 0 ∨ T u) → (θ u = 0 ∨ T' (θ u)) ∧ θ' (θ u) = u := by
    rintro u (rfl | hu)
    · exact ⟨.inl h.z0, by rw [h.z0, h.z0']⟩
    · exact ⟨.inr (h.to u hu), h.l u hu⟩
  have e1 : cx_D b F' = cx_sm ((cx_dec b).filter P') (fun x => F' x.1 x.2) := cx_sm_filter _ P' _ (fun x _ hx => h0' x.1 x.2 (by simpa [P'] using hx))
  have e2 : cx_D (θ' b) F = cx_sm ((cx_dec (θ' b)).filter P) (fun x => F x.1 x.2) := cx_sm_filter _ P _ (fun x _ hx => h0 x.1 x.2 (by simpa [P] using hx))
  have hP' : ∀ x, x ∈ (cx_dec b).filter P' ↔ x.1 + x.2 = b ∧ (x.1 = 0 ∨ T' x.1) ∧ (x.2 = 0 ∨ T' x.2) := by
    rintro ⟨u, s⟩
    rw [List.mem_filter, cx_mem_dec]; simp [P']
  have hP : ∀ x, x ∈ (cx_dec (θ' b)).filter P ↔ x.1 + x.2 = θ' b ∧ (x.1 = 0 ∨ T x.1) ∧ (x.2 = 0 ∨ T x.2) := by
    rintro ⟨u, s⟩
    rw [List.mem_filter, cx_mem_dec]; simp [P]
  have hp : ((cx_dec (θ' b)).filter P).Perm (((cx_dec b).filter P').map fun x => (θ' x.1, θ' x.2)) := by
    refine cx_perm_of ((cx_nodup_dec _).sublist List.filter_sublist) ?_ ?_
    · have hn := (cx_nodup_dec b).sublist (show List.Sublist ((cx_dec b).filter P') (cx_dec b) from List.filter_sublist)
      rw [List.nodup_iff_pairwise_ne] at hn ⊢
      rw [List.pairwise_map]
      refine (List.Pairwise.and_mem.1 hn).imp ?_
      rintro ⟨u, s⟩ ⟨u', s'⟩ ⟨hx, hy, hne⟩ e
      have hx := (hP' _).1 hx
      have hy := (hP' _).1 hy
      simp only [Prod.mk.injEq] at e
      apply hne
      rw [← (ok u hx.2.1).2, ← (ok s hx.2.2).2, ← (ok u' hy.2.1).2, ← (ok s' hy.2.2).2, e.1, e.2]
    · rintro ⟨u, s⟩
      rw [hP, List.mem_map]
      constructor
      · rintro ⟨h1, h2, h3⟩
        refine ⟨(θ u, θ s), (hP' _).2 ⟨?_, (ok2 u h2).1, (ok2 s h3).1⟩, by rw [(ok2 u h2).2, (ok2 s h3).2]⟩
        show θ u + θ s = b
        rw [← h.addz h2 h3]
        have h1 : u + s = θ' b := h1
        rw [h1, h.r b hb]
      · rintro ⟨⟨u', s'⟩, hx, e⟩
        have hx := (hP' _).1 hx
        simp only [Prod.mk.injEq] at e
        obtain ⟨rfl, rfl⟩ := e
        refine ⟨?_, (ok u' hx.2.1).1, (ok s' hx.2.2).1⟩
        show θ' u' + θ' s' = θ' b
        rw [← h.symm.addz hx.2.1 hx.2.2]
        have h1 : u' + s' = b := hx.1
        rw [h1]
  rw [e1, e2, cx_sm_perm hp, cx_sm_map]
  exact cx_sm_congr (fun x hx => by have hx := (hP' x).1 hx; exact he x.1 x.2 hx.2.1 hx.2.2)
theorem cx_tr_comp {B : Type} [Zero B] [Add B] [Mul (cx_S B)] [One (cx_S B)] [Add (cx_S B)] [Zero (cx_S B)] [Inhabited (cx_Idx B)] {M : Type} [Add M] [Inhabited (PLift (cx_MGl M))] [Inhabited (cx_Tord B M)] {B' : Type} [Zero B'] [Add B'] [Mul (cx_S B')] [One (cx_S B')] [Add (cx_S B')] [Zero (cx_S B')] [Inhabited (cx_Idx B')] {M' : Type} [Add M'] [Inhabited (PLift (cx_MGl M'))] [Inhabited (cx_Tord B' M')] {T : B → Prop} {T' : B' → Prop} {θ : B → B'} {θ' : B' → B} {μ : M → M'} {μ' : M' → M} (h : cx_Trn T T' θ θ' μ μ') {f g : M → cx_S B} (hf : cx_Sup T f) (hg : cx_Sup T g) (uf : ∀ m, f m 0 = 1) (ug : ∀ m, g m 0 = 1) :
    cx_tr T' θ' μ' (cx_comp f g) = cx_comp (cx_tr T' θ' μ' f) (cx_tr T' θ' μ' g) := by
  classical
  funext m
  refine cx_S.ext (fun b => ?_)
  by_cases hb0 : b = 0
  · subst hb0
    rw [cx_tr_zero, cx_comp_unit (fun m => cx_tr_zero f m) (fun m => cx_tr_zero g m)]
  by_cases hb : T' b
  · rw [cx_tr_in h _ m hb, cx_comp_def, cx_comp_def]
    symm
    refine cx_D_tr h hb (fun u s => g (μ' m) u * f (μ' m + cx_p u) s) _ ?_ ?_ ?_
    · intro u s hn
      by_cases hu : u = 0 ∨ T u
      · have hs : ¬ (s = 0 ∨ T s) := fun hs => hn ⟨hu, hs⟩
        rw [hf _ s (fun e => hs (.inl e)) (fun e => hs (.inr e)), Rat.mul_zero]
      · rw [hg _ u (fun e => hu (.inl e)) (fun e => hu (.inr e)), Rat.zero_mul]
    · intro u s hn
      by_cases hu : u = 0 ∨ T' u
      · have hs : ¬ (s = 0 ∨ T' s) := fun hs => hn ⟨hu, hs⟩
        rw [cx_tr_out f _ (fun e => hs (.inl e)) (fun e => hs (.inr e)), Rat.mul_zero]
      · rw [cx_tr_out g _ (fun e => hu (.inl e)) (fun e => hu (.inr e)), Rat.zero_mul]
    · intro u s hu hs
      rw [cx_tr_ok h ug m hu, cx_tr_ok h uf _ hs]
      rcases hu with rfl | hu
      · rw [h.z0', cx_p_zero, cx_p_zero]
      · rw [h.p' u m hu]
  · rw [cx_tr_out _ m hb0 hb, cx_comp_def]
    symm
    refine cx_D_zero (fun u s hus => ?_)
    by_cases hu : u = 0 ∨ T' u
    · by_cases hs : s = 0 ∨ T' s
      · exfalso
        rcases hu with rfl | hu
        · rw [cx_zadd] at hus
          subst hus
          rcases hs with hs | hs
          · exact hb0 hs
          · exact hb hs
        · rcases hs with rfl | hs
          · rw [cx_addZ] at hus; subst hus; exact hb hu
          · exact hb (hus ▸ h.c'.add u s hu hs)
      · rw [cx_tr_out f _ (fun e => hs (.inl e)) (fun e => hs (.inr e)), Rat.mul_zero]
    · rw [cx_tr_out g _ (fun e => hu (.inl e)) (fun e => hu (.inr e)), Rat.zero_mul]
theorem cx_tr_nsm {B : Type} [Zero B] [Add B] [Mul (cx_S B)] [One (cx_S B)] [Add (cx_S B)] [Zero (cx_S B)] [Inhabited (cx_Idx B)] {M : Type} [Add M] [Inhabited (PLift (cx_MGl M))] [Inhabited (cx_Tord B M)] {B' : Type} [Zero B'] [Add B'] [Mul (cx_S B')] [One (cx_S B')] [Add (cx_S B')] [Zero (cx_S B')] [Inhabited (cx_Idx B')] {M' : Type} [Add M'] [Inhabited (PLift (cx_MGl M'))] [Inhabited (cx_Tord B' M')] {T : B → Prop} {T' : B' → Prop} {θ : B → B'} {θ' : B' → B} {μ : M → M'} {μ' : M' → M} (h : cx_Trn T T' θ θ' μ μ') {a : B} (ha : T a) (j : Nat) : θ (cx_nsm j a) = cx_nsm j (θ a) := by
  induction j with
  | zero => exact h.z0
  | succ j ih =>
    show θ (cx_nsm j a + a) = cx_nsm j (θ a) + θ a
    rw [h.addz ?_ (.inr ha), ih]
    cases j with
    | zero => exact .inl rfl
    | succ j => exact .inr (h.c.nsm ha j)
theorem cx_tr_E {B : Type} [Zero B] [Add B] [Mul (cx_S B)] [One (cx_S B)] [Add (cx_S B)] [Zero (cx_S B)] [Inhabited (cx_Idx B)] {M : Type} [Add M] [Inhabited (PLift (cx_MGl M))] [Inhabited (cx_Tord B M)] {B' : Type} [Zero B'] [Add B'] [Mul (cx_S B')] [One (cx_S B')] [Add (cx_S B')] [Zero (cx_S B')] [Inhabited (cx_Idx B')] {M' : Type} [Add M'] [Inhabited (PLift (cx_MGl M'))] [Inhabited (cx_Tord B' M')] {T : B → Prop} {T' : B' → Prop} {θ : B → B'} {θ' : B' → B} {μ : M → M'} {μ' : M' → M} (h : cx_Trn T T' θ θ' μ μ') {a : B} (ha : T a) (c : Rat) : cx_tr T' θ' μ' (cx_E a c : M → cx_S B) = cx_E (θ a) c := by
  classical
  funext m
  refine cx_S.ext (fun b => ?_)
  have ha' := h.to a ha
  have hpr : cx_pr (θ a) m = cx_pr a (μ' m) := by
    have := h.pr_ a (μ' m) ha
    rw [h.mr] at this
    exact this
  by_cases hb : ∃ j, cx_nsm j (θ a) = b
  · obtain ⟨j, rfl⟩ := hb
    have e1 : (cx_E (θ a) c : M' → cx_S B') m (cx_nsm j (θ a)) = cx_bin (c * cx_pr a (μ' m)) j := by
      show cx_sub (θ a) (cx_bin (c * cx_pr (θ a) m)) _ = _
      rw [cx_sub_at (h.nz' _ ha'), hpr]
    rw [e1]
    cases j with
    | zero => exact cx_tr_zero _ m
    | succ j =>
      rw [cx_tr_in h _ m (h.c'.nsm ha' j), ← cx_tr_nsm h ha, h.l _ (h.c.nsm ha j)]
      show cx_sub a (cx_bin (c * cx_pr a (μ' m))) _ = _
      rw [cx_sub_at (h.nz _ ha)]
  · have e1 : (cx_E (θ a) c : M' → cx_S B') m b = 0 := cx_sub_off _ (fun j e => hb ⟨j, e⟩)
    rw [e1]
    have hb0 : b ≠ 0 := fun e => hb ⟨0, e.symm⟩
    by_cases hT : T' b
    · rw [cx_tr_in h _ m hT]
      refine cx_sub_off _ (fun j e => hb ⟨j, ?_⟩)
      rw [← cx_tr_nsm h ha, e, h.r b hT]
    · exact cx_tr_out _ m hb0 hT
theorem cx_tr_I {B : Type} [Zero B] [Add B] [Mul (cx_S B)] [One (cx_S B)] [Add (cx_S B)] [Zero (cx_S B)] [Inhabited (cx_Idx B)] {M : Type} [Add M] [Inhabited (PLift (cx_MGl M))] [Inhabited (cx_Tord B M)] {B' : Type} [Zero B'] [Add B'] [Mul (cx_S B')] [One (cx_S B')] [Add (cx_S B')] [Zero (cx_S B')] [Inhabited (cx_Idx B')] {M' : Type} [Add M'] [Inhabited (PLift (cx_MGl M'))] [Inhabited (cx_Tord B' M')] {T : B → Prop} {T' : B' → Prop} {θ : B → B'} {θ' : B' → B} {μ : M → M'} {μ' : M' → M} (h : cx_Trn T T' θ θ' μ μ') : cx_tr T' θ' μ' (cx_I : M → cx_S B) = cx_I := by
  classical
  funext m
  refine cx_S.ext (fun b => ?_)
  show _ = (1 : cx_S B') b
  by_cases hb0 : b = 0
  · rw [hb0, cx_tr_zero, cx_one_zero]
  · rw [cx_one_ne hb0]
    by_cases hT : T' b
    · rw [cx_tr_in h _ m hT]; exact cx_one_ne (h.nz _ (h.fro b hT))
    · exact cx_tr_out _ m hb0 hT
def cx_mapw {B : Type} [Zero B] [Add B] [Mul (cx_S B)] [One (cx_S B)] [Add (cx_S B)] [Zero (cx_S B)] [Inhabited (cx_Idx B)] {B' : Type} [Zero B'] [Add B'] [Mul (cx_S B')] [One (cx_S B')] [Add (cx_S B')] [Zero (cx_S B')] [Inhabited (cx_Idx B')] (θ : B → B') (w : List (B × Rat)) : List (B' × Rat) := w.map fun x => (θ x.1, x.2)
theorem cx_tr_ev {B : Type} [Zero B] [Add B] [Mul (cx_S B)] [One (cx_S B)] [Add (cx_S B)] [Zero (cx_S B)] [Inhabited (cx_Idx B)] {M : Type} [Add M] [Inhabited (PLift (cx_MGl M))] [Inhabited (cx_Tord B M)] {B' : Type} [Zero B'] [Add B'] [Mul (cx_S B')] [One (cx_S B')] [Add (cx_S B')] [Zero (cx_S B')] [Inhabited (cx_Idx B')] {M' : Type} [Add M'] [Inhabited (PLift (cx_MGl M'))] [Inhabited (cx_Tord B' M')] {T : B → Prop} {T' : B' → Prop} {θ : B → B'} {θ' : B' → B} {μ : M → M'} {μ' : M' → M} (h : cx_Trn T T' θ θ' μ μ') {w : List (B × Rat)} (hw : ∀ x ∈ w, T x.1) : cx_tr T' θ' μ' (cx_ev w : M → cx_S B) = cx_ev (cx_mapw θ w) := by
  induction w with
  | nil => exact cx_tr_I h
  | cons x w ih =>
    have hx := hw x (by simp)
    have hw' : ∀ y ∈ w, T y.1 := fun y hy => hw y (by simp [hy])
    rw [cx_ev_cons, cx_tr_comp h (cx_E_sup h.c hx x.2) (cx_ev_sup h.c hw') (cx_E_good (h.nz _ hx) x.2).unit (cx_ev_good (fun y hy => h.nz _ (hw' y hy))).unit, cx_tr_E h hx, ih hw']
    rfl
theorem cx_tr_eqd {B : Type} [Zero B] [Add B] [Mul (cx_S B)] [One (cx_S B)] [Add (cx_S B)] [Zero (cx_S B)] [Inhabited (cx_Idx B)] {M : Type} [Add M] [Inhabited (PLift (cx_MGl M))] [Inhabited (cx_Tord B M)] {B' : Type} [Zero B'] [Add B'] [Mul (cx_S B')] [One (cx_S B')] [Add (cx_S B')] [Zero (cx_S B')] [Inhabited (cx_Idx B')] {M' : Type} [Add M'] [Inhabited (PLift (cx_MGl M'))] [Inhabited (cx_Tord B' M')] {T : B → Prop} {T' : B' → Prop} {θ : B → B'} {θ' : B' → B} {μ : M → M'} {μ' : M' → M} (h : cx_Trn T T' θ θ' μ μ') {d d' : Nat} (hd : ∀ b, T' b → cx_deg b ≤ d' → cx_deg (θ' b) ≤ d) {f g : M → cx_S B} (he : cx_Eqd d f g) : cx_Eqd d' (cx_tr T' θ' μ' f) (cx_tr T' θ' μ' g) := by
  classical
  intro m b hb
  by_cases hb0 : b = 0
  · rw [hb0, cx_tr_zero, cx_tr_zero]
  · by_cases hT : T' b
    · rw [cx_tr_in h _ m hT, cx_tr_in h _ m hT]; exact he _ _ (hd b hT hb)
    · rw [cx_tr_out _ m hb0 hT, cx_tr_out _ m hb0 hT]
theorem cx_word_approx {B : Type} [Zero B] [Add B] [Mul (cx_S B)] [One (cx_S B)] [Add (cx_S B)] [Zero (cx_S B)] [Inhabited (cx_Idx B)] {M : Type} [Add M] [Inhabited (PLift (cx_MGl M))] [Inhabited (cx_Tord B M)] {T : B → Prop} {f : M → cx_S B} (hf : cx_Good f) (hT : cx_Clo T) (hs : cx_Sup T f) (d : Nat) : ∃ w : List (B × Rat), (∀ x ∈ w, x.1 ≠ 0 ∧ T x.1) ∧ cx_Eqd d f (cx_ev w) := by
  obtain ⟨wp, w0, wm, h, _⟩ := cx_Fac.exists (t := fun _ => 0) hT (Z := fun _ => False) (fun _ _ h _ => h) hf hs (fun _ _ h => h.elim) d
  refine ⟨wp ++ (w0 ++ wm), fun x hx => ?_, by rw [cx_ev_append, cx_ev_append]; exact h.eq⟩
  rcases List.mem_append.1 hx with hx | hx
  · have := h.pos.all x hx; exact ⟨this.1, this.2.1.1⟩
  · rcases List.mem_append.1 hx with hx | hx
    · have := h.nul.all x hx; exact ⟨this.1, this.2.1.1⟩
    · have := h.neg.all x hx; exact ⟨this.1, this.2.1.1⟩
def cx_Bnd {B : Type} [Zero B] [Add B] [Mul (cx_S B)] [One (cx_S B)] [Add (cx_S B)] [Zero (cx_S B)] [Inhabited (cx_Idx B)] {B' : Type} [Zero B'] [Add B'] [Mul (cx_S B')] [One (cx_S B')] [Add (cx_S B')] [Zero (cx_S B')] [Inhabited (cx_Idx B')] (T' : B' → Prop) (θ' : B' → B) : Prop := ∀ d', ∃ d, ∀ b, T' b → cx_deg b ≤ d' → cx_deg (θ' b) ≤ d
theorem cx_tr_good {B : Type} [Zero B] [Add B] [Mul (cx_S B)] [One (cx_S B)] [Add (cx_S B)] [Zero (cx_S B)] [Inhabited (cx_Idx B)] {M : Type} [Add M] [Inhabited (PLift (cx_MGl M))] [Inhabited (cx_Tord B M)] {B' : Type} [Zero B'] [Add B'] [Mul (cx_S B')] [One (cx_S B')] [Add (cx_S B')] [Zero (cx_S B')] [Inhabited (cx_Idx B')] {M' : Type} [Add M'] [Inhabited (PLift (cx_MGl M'))] [Inhabited (cx_Tord B' M')] {T : B → Prop} {T' : B' → Prop} {θ : B → B'} {θ' : B' → B} {μ : M → M'} {μ' : M' → M} (h : cx_Trn T T' θ θ' μ μ') (hb : cx_Bnd T' θ') {f : M → cx_S B} (hf : cx_Good f) (hs : cx_Sup T f) : cx_Good (cx_tr T' θ' μ' f) := by
  refine cx_good_lim (fun d' => ?_)
  obtain ⟨d, hd⟩ := hb d'
  obtain ⟨w, hw, he⟩ := cx_word_approx hf h.c hs d
  have e := cx_tr_eqd h hd he
  rw [cx_tr_ev h (fun x hx => (hw x hx).2)] at e
  refine ⟨_, cx_ev_good (fun x hx => ?_), e⟩
  obtain ⟨y, hy, rfl⟩ := List.mem_map.1 hx
  exact h.nz' _ (h.to _ (hw y hy).2)
theorem cx_tr_whole {B : Type} [Zero B] [Add B] [Mul (cx_S B)] [One (cx_S B)] [Add (cx_S B)] [Zero (cx_S B)] [Inhabited (cx_Idx B)] {M : Type} [Add M] [Inhabited (PLift (cx_MGl M))] [Inhabited (cx_Tord B M)] {B' : Type} [Zero B'] [Add B'] [Mul (cx_S B')] [One (cx_S B')] [Add (cx_S B')] [Zero (cx_S B')] [Inhabited (cx_Idx B')] {M' : Type} [Add M'] [Inhabited (PLift (cx_MGl M'))] [Inhabited (cx_Tord B' M')] {T : B → Prop} {T' : B' → Prop} {θ : B → B'} {θ' : B' → B} {μ : M → M'} {μ' : M' → M} (h : cx_Trn T T' θ θ' μ μ') {Z : M → Prop} {Z' : M' → Prop} (hZ : ∀ m, Z' m → Z (μ' m)) {f : M → cx_S B} (hw : ∀ d, cx_Whole d Z f) (d : Nat) : cx_Whole d Z' (cx_tr T' θ' μ' f) := by
  classical
  intro m hm b _
  by_cases hb0 : b = 0
  · rw [hb0, cx_tr_zero]; exact cx_IsI.one
  · by_cases hT : T' b
    · rw [cx_tr_in h _ m hT]; exact hw (cx_deg (θ' b)) _ (hZ m hm) _ (Nat.le_refl _)
    · rw [cx_tr_out _ m hb0 hT]; exact cx_IsI.zero
theorem cx_tr_fac {B : Type} [Zero B] [Add B] [Mul (cx_S B)] [One (cx_S B)] [Add (cx_S B)] [Zero (cx_S B)] [Inhabited (cx_Idx B)] {M : Type} [Add M] [Inhabited (PLift (cx_MGl M))] [Inhabited (cx_Tord B M)] {B' : Type} [Zero B'] [Add B'] [Mul (cx_S B')] [One (cx_S B')] [Add (cx_S B')] [Zero (cx_S B')] [Inhabited (cx_Idx B')] {M' : Type} [Add M'] [Inhabited (PLift (cx_MGl M'))] [Inhabited (cx_Tord B' M')] {T : B → Prop} {T' : B' → Prop} {θ : B → B'} {θ' : B' → B} {μ : M → M'} {μ' : M' → M} (h : cx_Trn T T' θ θ' μ μ') {d d' : Nat} (hd : ∀ b, T' b → cx_deg b ≤ d' → cx_deg (θ' b) ≤ d) {t : B → Rat} {t' : B' → Rat} (ht : ∀ b, T b → t' (θ b) = t b)
    {f : M → cx_S B} {wp w0 wm : List (B × Rat)} (hf : cx_Fac t T d f wp w0 wm) : cx_Fac t' T' d' (cx_tr T' θ' μ' f) (cx_cut d' (cx_mapw θ wp)) (cx_cut d' (cx_mapw θ w0)) (cx_cut d' (cx_mapw θ wm)) := by
  have key : ∀ {w : List (B × Rat)} {P : Rat → Prop}, cx_Lt (fun b => T b ∧ P (t b)) d w → cx_Lt (fun b => T' b ∧ P (t' b)) d' (cx_cut d' (cx_mapw θ w)) := by
    intro w P hl
    refine ⟨fun x hx => ?_⟩
    have hx := List.mem_filter.1 hx
    obtain ⟨y, hy, rfl⟩ := List.mem_map.1 hx.1
    have := hl.all y hy
    exact ⟨h.nz' _ (h.to _ this.2.1.1), ⟨h.to _ this.2.1.1, by rw [ht _ this.2.1.1]; exact this.2.1.2⟩, by simpa using hx.2⟩
  have nz : ∀ {w : List (B × Rat)} {P : Rat → Prop}, cx_Lt (fun b => T b ∧ P (t b)) d w → cx_NZ (cx_mapw θ w) := by
    intro w P hl x hx
    obtain ⟨y, hy, rfl⟩ := List.mem_map.1 hx
    exact h.nz' _ (h.to _ (hl.all y hy).2.1.1)
  have inT : ∀ {w : List (B × Rat)} {P : Rat → Prop}, cx_Lt (fun b => T b ∧ P (t b)) d w → ∀ x ∈ w, T x.1 := fun hl x hx => (hl.all x hx).2.1.1
  refine ⟨key (P := fun r => 0 < r) hf.pos, key (P := fun r => r = 0) hf.nul, key (P := fun r => r < 0) hf.neg, ?_⟩
  have e := cx_tr_eqd h hd hf.eq
  have tp := inT (P := fun r => 0 < r) hf.pos
  have t0 := inT (P := fun r => r = 0) hf.nul
  have tm := inT (P := fun r => r < 0) hf.neg
  have gp := (cx_ev_good (M := M) hf.pos.nz).unit
  have g0 := (cx_ev_good (M := M) hf.nul.nz).unit
  have gm := (cx_ev_good (M := M) hf.neg.nz).unit
  rw [cx_tr_comp h (cx_ev_sup h.c tp) ((cx_ev_sup h.c t0).comp h.c (cx_ev_sup h.c tm)) gp (cx_comp_unit g0 gm), cx_tr_comp h (cx_ev_sup h.c t0) (cx_ev_sup h.c tm) g0 gm,
    cx_tr_ev h tp, cx_tr_ev h t0, cx_tr_ev h tm] at e
  exact e.trans (cx_Eqd.comp (cx_ev_cut (nz (P := fun r => 0 < r) hf.pos)) (cx_Eqd.comp (cx_ev_cut (nz (P := fun r => r = 0) hf.nul)) (cx_ev_cut (nz (P := fun r => r < 0) hf.neg))))
end

section
abbrev cx_Ex (n : Nat) := Fin n → Nat
theorem cx_Ex.ext {n : Nat} {a b : cx_Ex n} (h : ∀ i, a i = b i) : a = b := funext h
def cx_boxes : (n : Nat) → (Fin n → Nat) → List (Fin n → Nat)
  | 0, _ => [fun i => i.elim0]
  | n + 1, b => (List.range (b 0 + 1)).flatMap fun i => (cx_boxes n (fun j => b j.succ)).map fun f => fun x => Fin.cases (motive := fun _ => Nat) i f x
theorem cx_mem_boxes {n : Nat} (b u : Fin n → Nat) : u ∈ cx_boxes n b ↔ ∀ i, u i ≤ b i := by
  induction n with
  | zero =>
    simp only [cx_boxes, List.mem_singleton]
    constructor
    · intro _ i; exact i.elim0
    · intro _; funext i; exact i.elim0
  | succ n ih =>
    simp only [cx_boxes, List.mem_flatMap, List.mem_range, List.mem_map]
    constructor
    · rintro ⟨i, hi, f, hf, rfl⟩ x
      have := (ih _ f).1 hf
      refine Fin.cases ?_ (fun j => ?_) x
      · show i ≤ b 0; omega
      · exact this j
    · intro h
      refine ⟨u 0, by have := h 0; omega, fun j => u j.succ, (ih _ _).2 (fun j => h j.succ), ?_⟩
      funext x
      refine Fin.cases ?_ (fun j => ?_) x <;> rfl
theorem cx_nodup_boxes {n : Nat} (b : Fin n → Nat) : (cx_boxes n b).Nodup := by
  induction n with
  | zero => simp [cx_boxes]
  | succ n ih =>
    simp only [cx_boxes]
    generalize hl : List.range (b 0 + 1) = l
    have hn : l.Nodup := hl ▸ List.nodup_range
    clear hl
    induction l with
    | nil => simp
    | cons i l ihl =>
      rw [List.nodup_cons] at hn
      rw [List.flatMap_cons, List.nodup_append]
      refine ⟨?_, ihl hn.2, ?_⟩
      · have h1 := ih (fun j => b j.succ)
        rw [List.nodup_iff_pairwise_ne] at h1 ⊢
        rw [List.pairwise_map]
        refine h1.imp (fun {f g} hne e => hne ?_)
        funext j
        exact congrFun e j.succ
      · intro f hf g hg e
        subst e
        obtain ⟨f1, _, rfl⟩ := List.mem_map.1 hf
        obtain ⟨i2, hi2, hg⟩ := List.mem_flatMap.1 hg
        obtain ⟨f2, _, e⟩ := List.mem_map.1 hg
        have := congrFun e 0
        have : i2 = i := this
        subst this
        exact hn.1 hi2
def cx_nsum {n : Nat} (f : Fin n → Nat) : Nat := (List.finRange n).foldr (fun i s => f i + s) 0
theorem cx_nsum_list_add {α : Type} (l : List α) (f g : α → Nat) : l.foldr (fun i s => (f i + g i) + s) 0 = l.foldr (fun i s => f i + s) 0 + l.foldr (fun i s => g i + s) 0 := by
  induction l with
  | nil => rfl
  | cons x l ih => simp only [List.foldr_cons, ih]; omega
theorem cx_nsum_add {n : Nat} (f g : Fin n → Nat) : cx_nsum (fun i => f i + g i) = cx_nsum f + cx_nsum g := cx_nsum_list_add _ f g
theorem cx_nsum_le {α : Type} (l : List α) (f : α → Nat) (x : α) (hx : x ∈ l) : f x ≤ l.foldr (fun i s => f i + s) 0 := by
  induction l with
  | nil => simp at hx
  | cons y l ih =>
    simp only [List.foldr_cons]
    rcases List.mem_cons.1 hx with rfl | h
    · omega
    · have := ih h; omega
theorem cx_nsum_ge {n : Nat} (f : Fin n → Nat) (i : Fin n) : f i ≤ cx_nsum f := cx_nsum_le _ f i (List.mem_finRange i)
theorem cx_nsum_cast {n : Nat} (f : Fin n → Nat) : ((cx_nsum f : Nat) : Rat) = cx_sm (List.finRange n) (fun i => (f i : Rat)) := by
  unfold cx_nsum
  generalize List.finRange n = l
  induction l with
  | nil => rfl
  | cons x l ih =>
    rw [cx_sm_cons, ← ih, List.foldr_cons]
    exact_mod_cast rfl
theorem cx_nsum_zero {n : Nat} {f : Fin n → Nat} (h : ∀ i, f i = 0) : cx_nsum f = 0 := by
  unfold cx_nsum
  generalize List.finRange n = l
  induction l with
  | nil => rfl
  | cons x l ih => rw [List.foldr_cons, ih, h x]
abbrev cx_Exl (n : Nat) [Zero (cx_Ex n)] [Add (cx_Ex n)] [Mul (cx_S (cx_Ex n))] [One (cx_S (cx_Ex n))] [Add (cx_S (cx_Ex n))] [Zero (cx_S (cx_Ex n))] [Inhabited (cx_Idx (cx_Ex n))] : Prop := (∀ (a b : cx_Ex n) (i : Fin n), (a + b) i = a i + b i) ∧ (∀ i : Fin n, (0 : cx_Ex n) i = 0) ∧ ∀ a : cx_Ex n, cx_deg a = cx_nsum a
theorem cx_ex_add {n : Nat} [Zero (cx_Ex n)] [Add (cx_Ex n)] [Mul (cx_S (cx_Ex n))] [One (cx_S (cx_Ex n))] [Add (cx_S (cx_Ex n))] [Zero (cx_S (cx_Ex n))] [Inhabited (cx_Idx (cx_Ex n))] [Inhabited (PLift (cx_Exl n))] (a b : cx_Ex n) (i : Fin n) : (a + b) i = a i + b i := (default : PLift (cx_Exl n)).down.1 a b i
theorem cx_ex_zero {n : Nat} [Zero (cx_Ex n)] [Add (cx_Ex n)] [Mul (cx_S (cx_Ex n))] [One (cx_S (cx_Ex n))] [Add (cx_S (cx_Ex n))] [Zero (cx_S (cx_Ex n))] [Inhabited (cx_Idx (cx_Ex n))] [Inhabited (PLift (cx_Exl n))] (i : Fin n) : (0 : cx_Ex n) i = 0 := (default : PLift (cx_Exl n)).down.2.1 i
theorem cx_ex_deg {n : Nat} [Zero (cx_Ex n)] [Add (cx_Ex n)] [Mul (cx_S (cx_Ex n))] [One (cx_S (cx_Ex n))] [Add (cx_S (cx_Ex n))] [Zero (cx_S (cx_Ex n))] [Inhabited (cx_Idx (cx_Ex n))] [Inhabited (PLift (cx_Exl n))] (a : cx_Ex n) : cx_deg a = cx_nsum a := (default : PLift (cx_Exl n)).down.2.2 a
def cx_ee {n : Nat} [Zero (cx_Ex n)] [Add (cx_Ex n)] [Mul (cx_S (cx_Ex n))] [One (cx_S (cx_Ex n))] [Add (cx_S (cx_Ex n))] [Zero (cx_S (cx_Ex n))] [Inhabited (cx_Idx (cx_Ex n))] [Inhabited (PLift (cx_Exl n))] (k : Fin n) : cx_Ex n := fun i => if i = k then 1 else 0
theorem cx_ee_self {n : Nat} [Zero (cx_Ex n)] [Add (cx_Ex n)] [Mul (cx_S (cx_Ex n))] [One (cx_S (cx_Ex n))] [Add (cx_S (cx_Ex n))] [Zero (cx_S (cx_Ex n))] [Inhabited (cx_Idx (cx_Ex n))] [Inhabited (PLift (cx_Exl n))] (k : Fin n) : cx_ee k k = 1 := if_pos rfl
theorem cx_ee_ne {n : Nat} [Zero (cx_Ex n)] [Add (cx_Ex n)] [Mul (cx_S (cx_Ex n))] [One (cx_S (cx_Ex n))] [Add (cx_S (cx_Ex n))] [Zero (cx_S (cx_Ex n))] [Inhabited (cx_Idx (cx_Ex n))] [Inhabited (PLift (cx_Exl n))] {k i : Fin n} (h : i ≠ k) : cx_ee k i = 0 := if_neg h
theorem cx_ee_nz {n : Nat} [Zero (cx_Ex n)] [Add (cx_Ex n)] [Mul (cx_S (cx_Ex n))] [One (cx_S (cx_Ex n))] [Add (cx_S (cx_Ex n))] [Zero (cx_S (cx_Ex n))] [Inhabited (cx_Idx (cx_Ex n))] [Inhabited (PLift (cx_Exl n))] (k : Fin n) : cx_ee k ≠ 0 := fun e => by
  have := congrFun e k
  rw [cx_ee_self] at this
  rw [cx_ex_zero] at this
  omega
theorem cx_nsm_at {n : Nat} [Zero (cx_Ex n)] [Add (cx_Ex n)] [Mul (cx_S (cx_Ex n))] [One (cx_S (cx_Ex n))] [Add (cx_S (cx_Ex n))] [Zero (cx_S (cx_Ex n))] [Inhabited (cx_Idx (cx_Ex n))] [Inhabited (PLift (cx_Exl n))] (j : Nat) (a : cx_Ex n) (i : Fin n) : (cx_nsm j a) i = j * a i := by
  induction j with
  | zero => show (0 : cx_Ex n) i = 0 * a i; rw [cx_ex_zero]; omega
  | succ j ih => show (cx_nsm j a + a) i = _; rw [cx_ex_add, ih, Nat.succ_mul]
theorem cx_sm_single {n : Nat} [Zero (cx_Ex n)] [Add (cx_Ex n)] [Mul (cx_S (cx_Ex n))] [One (cx_S (cx_Ex n))] [Add (cx_S (cx_Ex n))] [Zero (cx_S (cx_Ex n))] [Inhabited (cx_Idx (cx_Ex n))] [Inhabited (PLift (cx_Exl n))] {l : List (Fin n)} (hn : l.Nodup) (k : Fin n) (hk : k ∈ l) (f : Fin n → Rat) : cx_sm l f = f k + cx_sm l (fun i => if i = k then 0 else f i) := by
  induction l with
  | nil => simp at hk
  | cons x l ih =>
    rw [List.nodup_cons] at hn
    rw [cx_sm_cons, cx_sm_cons]
    by_cases hx : x = k
    · subst hx
      rw [if_pos rfl, Rat.zero_add]
      congr 1
      exact cx_sm_congr (fun i hi => by rw [if_neg (fun e : i = x => hn.1 (by rw [← e]; exact hi))])
    · rw [if_neg hx, ih hn.2 (by rcases List.mem_cons.1 hk with h | h; exact absurd h.symm hx; exact h)]; grind
def cx_fr (n : Nat) : List (Fin n) := List.finRange n
theorem cx_fr_split {n : Nat} [Zero (cx_Ex n)] [Add (cx_Ex n)] [Mul (cx_S (cx_Ex n))] [One (cx_S (cx_Ex n))] [Add (cx_S (cx_Ex n))] [Zero (cx_S (cx_Ex n))] [Inhabited (cx_Idx (cx_Ex n))] [Inhabited (PLift (cx_Exl n))] (k : Fin n) (f : Fin n → Rat) : cx_sm (cx_fr n) f = f k + cx_sm (cx_fr n) (fun i => if i = k then 0 else f i) := cx_sm_single (List.nodup_finRange n) k (List.mem_finRange k) f
theorem cx_fr_only {n : Nat} [Zero (cx_Ex n)] [Add (cx_Ex n)] [Mul (cx_S (cx_Ex n))] [One (cx_S (cx_Ex n))] [Add (cx_S (cx_Ex n))] [Zero (cx_S (cx_Ex n))] [Inhabited (cx_Idx (cx_Ex n))] [Inhabited (PLift (cx_Exl n))] (k : Fin n) (f : Fin n → Rat) (h : ∀ i, i ≠ k → f i = 0) : cx_sm (cx_fr n) f = f k := by
  rw [cx_fr_split k, cx_sm_zero (fun i _ => by by_cases hi : i = k; rw [if_pos hi]; rw [if_neg hi, h i hi]), Rat.add_zero]
theorem cx_sm_comm {α : Type} {β : Type} (l : List α) (k : List β) (f : α → β → Rat) : cx_sm l (fun i => cx_sm k (fun j => f i j)) = cx_sm k (fun j => cx_sm l (fun i => f i j)) := by
  induction l with
  | nil => exact (cx_sm_zero (fun _ _ => rfl)).symm
  | cons x l ih => rw [cx_sm_cons, ih, ← cx_sm_add]; rfl
def cx_dt {n : Nat} [Zero (cx_Ex n)] [Add (cx_Ex n)] [Mul (cx_S (cx_Ex n))] [One (cx_S (cx_Ex n))] [Add (cx_S (cx_Ex n))] [Zero (cx_S (cx_Ex n))] [Inhabited (cx_Idx (cx_Ex n))] [Inhabited (PLift (cx_Exl n))] (τ : Fin n → Rat) (b : cx_Ex n) : Rat := cx_sm (cx_fr n) (fun i => τ i * (b i : Rat))
theorem cx_dt_fun {n : Nat} [Zero (cx_Ex n)] [Add (cx_Ex n)] [Mul (cx_S (cx_Ex n))] [One (cx_S (cx_Ex n))] [Add (cx_S (cx_Ex n))] [Zero (cx_S (cx_Ex n))] [Inhabited (cx_Idx (cx_Ex n))] [Inhabited (PLift (cx_Exl n))] (τ : Fin n → Rat) : cx_Fun (cx_dt τ) := ⟨fun a b => by
  unfold cx_dt
  rw [← cx_sm_add]
  refine cx_sm_congr (fun i _ => ?_)
  rw [cx_ex_add]
  have : ((a i + b i : Nat) : Rat) = (a i : Rat) + (b i : Rat) := by exact_mod_cast rfl
  rw [this]; grind⟩
theorem cx_coord_fun {n : Nat} [Zero (cx_Ex n)] [Add (cx_Ex n)] [Mul (cx_S (cx_Ex n))] [One (cx_S (cx_Ex n))] [Add (cx_S (cx_Ex n))] [Zero (cx_S (cx_Ex n))] [Inhabited (cx_Idx (cx_Ex n))] [Inhabited (PLift (cx_Exl n))] (i : Fin n) : cx_Fun (fun b : cx_Ex n => (b i : Rat)) := ⟨fun a b => by
  show (((a + b) i : Nat) : Rat) = (a i : Rat) + (b i : Rat); rw [cx_ex_add]; exact_mod_cast rfl⟩
theorem cx_fun_dt {n : Nat} [Zero (cx_Ex n)] [Add (cx_Ex n)] [Mul (cx_S (cx_Ex n))] [One (cx_S (cx_Ex n))] [Add (cx_S (cx_Ex n))] [Zero (cx_S (cx_Ex n))] [Inhabited (cx_Idx (cx_Ex n))] [Inhabited (PLift (cx_Exl n))] {t : cx_Ex n → Rat} (ht : cx_Fun t) (b : cx_Ex n) : t b = cx_dt (fun i => t (cx_ee i)) b := by
  have main : ∀ l : List (Fin n), l.Nodup → t (fun i => if i ∈ l then b i else 0) = cx_sm l (fun i => t (cx_ee i) * (b i : Rat)) := by
    intro l
    induction l with
    | nil =>
      intro _
      rw [cx_sm_nil]
      have e0 : (fun i => if i ∈ ([] : List (Fin n)) then b i else 0 : cx_Ex n) = 0 := funext fun i => by rw [cx_ex_zero]; exact if_neg (by simp)
      rw [e0]; exact ht.zero
    | cons x l ih =>
      intro hn
      rw [List.nodup_cons] at hn
      rw [cx_sm_cons, ← ih hn.2]
      have e : (fun i => if i ∈ x :: l then b i else 0 : cx_Ex n) = (cx_nsm (b x) (cx_ee x) : cx_Ex n) + (show cx_Ex n from fun i => if i ∈ l then b i else 0) := by
        funext i
        rw [cx_ex_add, cx_nsm_at]
        by_cases hi : i = x
        · subst hi
          rw [if_pos (by simp), if_neg hn.1, cx_ee_self]; omega
        · rw [cx_ee_ne hi]
          by_cases hl : i ∈ l
          · rw [if_pos (by simp [hl]), if_pos hl]; omega
          · rw [if_neg (by simp [hi, hl]), if_neg hl]; omega
      rw [e, ht.add, ht.nsm]; grind
  have := main (List.finRange n) (List.nodup_finRange n)
  have e : (fun i => if i ∈ List.finRange n then b i else 0 : cx_Ex n) = b := funext fun i => if_pos (List.mem_finRange i)
  rw [e] at this
  exact this
theorem cx_dt_ee {n : Nat} [Zero (cx_Ex n)] [Add (cx_Ex n)] [Mul (cx_S (cx_Ex n))] [One (cx_S (cx_Ex n))] [Add (cx_S (cx_Ex n))] [Zero (cx_S (cx_Ex n))] [Inhabited (cx_Idx (cx_Ex n))] [Inhabited (PLift (cx_Exl n))] (τ : Fin n → Rat) (i : Fin n) : cx_dt τ (cx_ee i) = τ i := by
  unfold cx_dt
  rw [cx_fr_only i _ (fun j hj => by rw [cx_ee_ne hj]; show _ * ((0 : Nat) : Rat) = 0; rw [show ((0 : Nat) : Rat) = 0 from rfl, Rat.mul_zero]), cx_ee_self]
  show _ * ((1 : Nat) : Rat) = _
  rw [show ((1 : Nat) : Rat) = 1 from rfl, Rat.mul_one]
theorem cx_ee_deg {n : Nat} [Zero (cx_Ex n)] [Add (cx_Ex n)] [Mul (cx_S (cx_Ex n))] [One (cx_S (cx_Ex n))] [Add (cx_S (cx_Ex n))] [Zero (cx_S (cx_Ex n))] [Inhabited (cx_Idx (cx_Ex n))] [Inhabited (PLift (cx_Exl n))] (k : Fin n) : cx_deg (cx_ee k) = 1 := by
  have h : ((cx_deg (cx_ee k) : Nat) : Rat) = ((1 : Nat) : Rat) := by
    rw [cx_ex_deg, cx_nsum_cast]
    show cx_sm (cx_fr n) _ = _
    rw [cx_fr_only k _ (fun j hj => by rw [cx_ee_ne hj]; rfl), cx_ee_self]
  exact_mod_cast h
abbrev cx_Sd (n : Nat) : Type := {x : (Fin n → Fin n → Int) × (Fin n → Nat) // (∀ i, 0 < x.2 i) ∧ ∀ i j, (x.2 i : Int) * x.1 i j = - ((x.2 j : Int) * x.1 j i)}
def cx_Sd.b {n : Nat} (s : cx_Sd n) : Fin n → Fin n → Int := s.1.1
def cx_Sd.d {n : Nat} (s : cx_Sd n) : Fin n → Nat := s.1.2
theorem cx_Sd.dpos {n : Nat} (s : cx_Sd n) : ∀ i, 0 < s.d i := s.2.1
theorem cx_Sd.sk {n : Nat} (s : cx_Sd n) : ∀ i j, (s.d i : Int) * s.b i j = - ((s.d j : Int) * s.b j i) := s.2.2
abbrev cx_MM {n : Nat} (s : cx_Sd n) : Type := {x : Fin n → Rat // s = s}
def cx_MM.v {n : Nat} {s : cx_Sd n} (m : cx_MM s) : Fin n → Rat := m.1
theorem cx_Sd.self {n : Nat} (s : cx_Sd n) (k : Fin n) : s.b k k = 0 := by
  have := s.sk k k
  have h1 := s.dpos k
  have h2 : (s.d k : Int) * s.b k k = 0 := by omega
  rcases Int.mul_eq_zero.1 h2 with h | h
  · omega
  · exact h
theorem cx_MM.ext {n : Nat} {s : cx_Sd n} {m k : cx_MM s} (h : ∀ i, m.v i = k.v i) : m = k := Subtype.ext (funext h)

def cx_prS {n : Nat} [Zero (cx_Ex n)] [Add (cx_Ex n)] [Mul (cx_S (cx_Ex n))] [One (cx_S (cx_Ex n))] [Add (cx_S (cx_Ex n))] [Zero (cx_S (cx_Ex n))] [Inhabited (cx_Idx (cx_Ex n))] [Inhabited (PLift (cx_Exl n))] (s : cx_Sd n) (a : cx_Ex n) (m : cx_MM s) : Rat := cx_sm (cx_fr n) (fun i => (a i : Rat) * (s.d i : Rat) * m.v i)
def cx_pS {n : Nat} (s : cx_Sd n) (a : cx_Ex n) : cx_MM s := ⟨fun i => cx_sm (cx_fr n) (fun j => (s.b i j : Rat) * (a j : Rat)), rfl⟩
theorem cx_castR (a b : Nat) : ((a + b : Nat) : Rat) = (a : Rat) + (b : Rat) := by exact_mod_cast rfl
theorem cx_d_pos {n : Nat} [Zero (cx_Ex n)] [Add (cx_Ex n)] [Mul (cx_S (cx_Ex n))] [One (cx_S (cx_Ex n))] [Add (cx_S (cx_Ex n))] [Zero (cx_S (cx_Ex n))] [Inhabited (cx_Idx (cx_Ex n))] [Inhabited (PLift (cx_Exl n))] (s : cx_Sd n) (i : Fin n) : (0 : Rat) < (s.d i : Rat) := by exact_mod_cast s.dpos i
theorem cx_skR {n : Nat} [Zero (cx_Ex n)] [Add (cx_Ex n)] [Mul (cx_S (cx_Ex n))] [One (cx_S (cx_Ex n))] [Add (cx_S (cx_Ex n))] [Zero (cx_S (cx_Ex n))] [Inhabited (cx_Idx (cx_Ex n))] [Inhabited (PLift (cx_Exl n))] (s : cx_Sd n) (i j : Fin n) : (s.d i : Rat) * (s.b i j : Rat) = - ((s.d j : Rat) * (s.b j i : Rat)) := by
  have h := s.sk i j
  have h1 : (((s.d i : Int) * s.b i j : Int) : Rat) = ((-((s.d j : Int) * s.b j i) : Int) : Rat) := by rw [h]
  have e1 : (((s.d i : Int) * s.b i j : Int) : Rat) = (s.d i : Rat) * (s.b i j : Rat) := by exact_mod_cast rfl
  have e2 : ((-((s.d j : Int) * s.b j i) : Int) : Rat) = - ((s.d j : Rat) * (s.b j i : Rat)) := by exact_mod_cast rfl
  rw [e1, e2] at h1
  exact h1
abbrev cx_MMl (n : Nat) [Zero (cx_Ex n)] [Add (cx_Ex n)] [Mul (cx_S (cx_Ex n))] [One (cx_S (cx_Ex n))] [Add (cx_S (cx_Ex n))] [Zero (cx_S (cx_Ex n))] [Inhabited (cx_Idx (cx_Ex n))] [Inhabited (PLift (cx_Exl n))] [∀ s : cx_Sd n, Add (cx_MM s)] [∀ s : cx_Sd n, Inhabited (PLift (cx_MGl (cx_MM s)))] [∀ s : cx_Sd n, Inhabited (cx_Tord (cx_Ex n) (cx_MM s))] : Prop := ∀ s : cx_Sd n, (∀ (m k : cx_MM s) (i : Fin n), (m + k).v i = m.v i + k.v i) ∧ (∀ (a : cx_Ex n) (m : cx_MM s), cx_pr a m = cx_prS s a m) ∧ (∀ a : cx_Ex n, (cx_p a : cx_MM s) = cx_pS s a) ∧ ∀ (m : cx_MM s) (i : Fin n), (cx_neg (B := cx_Ex n) m).v i = - m.v i
theorem cx_mm_add {n : Nat} [Zero (cx_Ex n)] [Add (cx_Ex n)] [Mul (cx_S (cx_Ex n))] [One (cx_S (cx_Ex n))] [Add (cx_S (cx_Ex n))] [Zero (cx_S (cx_Ex n))] [Inhabited (cx_Idx (cx_Ex n))] [Inhabited (PLift (cx_Exl n))] [∀ s : cx_Sd n, Add (cx_MM s)] [∀ s : cx_Sd n, Inhabited (PLift (cx_MGl (cx_MM s)))] [∀ s : cx_Sd n, Inhabited (cx_Tord (cx_Ex n) (cx_MM s))] [Inhabited (PLift (cx_MMl n))] (s : cx_Sd n) (m k : cx_MM s) (i : Fin n) : (m + k).v i = m.v i + k.v i := ((default : PLift (cx_MMl n)).down s).1 m k i
theorem cx_pr_def {n : Nat} [Zero (cx_Ex n)] [Add (cx_Ex n)] [Mul (cx_S (cx_Ex n))] [One (cx_S (cx_Ex n))] [Add (cx_S (cx_Ex n))] [Zero (cx_S (cx_Ex n))] [Inhabited (cx_Idx (cx_Ex n))] [Inhabited (PLift (cx_Exl n))] [∀ s : cx_Sd n, Add (cx_MM s)] [∀ s : cx_Sd n, Inhabited (PLift (cx_MGl (cx_MM s)))] [∀ s : cx_Sd n, Inhabited (cx_Tord (cx_Ex n) (cx_MM s))] [Inhabited (PLift (cx_MMl n))] (s : cx_Sd n) (a : cx_Ex n) (m : cx_MM s) : cx_pr a m = cx_sm (cx_fr n) (fun i => (a i : Rat) * (s.d i : Rat) * m.v i) := ((default : PLift (cx_MMl n)).down s).2.1 a m
theorem cx_p_def {n : Nat} [Zero (cx_Ex n)] [Add (cx_Ex n)] [Mul (cx_S (cx_Ex n))] [One (cx_S (cx_Ex n))] [Add (cx_S (cx_Ex n))] [Zero (cx_S (cx_Ex n))] [Inhabited (cx_Idx (cx_Ex n))] [Inhabited (PLift (cx_Exl n))] [∀ s : cx_Sd n, Add (cx_MM s)] [∀ s : cx_Sd n, Inhabited (PLift (cx_MGl (cx_MM s)))] [∀ s : cx_Sd n, Inhabited (cx_Tord (cx_Ex n) (cx_MM s))] [Inhabited (PLift (cx_MMl n))] (s : cx_Sd n) (a : cx_Ex n) (i : Fin n) : (cx_p a : cx_MM s).v i = cx_sm (cx_fr n) (fun j => (s.b i j : Rat) * (a j : Rat)) := by rw [((default : PLift (cx_MMl n)).down s).2.2.1 a]; rfl
theorem cx_pr_ee {n : Nat} [Zero (cx_Ex n)] [Add (cx_Ex n)] [Mul (cx_S (cx_Ex n))] [One (cx_S (cx_Ex n))] [Add (cx_S (cx_Ex n))] [Zero (cx_S (cx_Ex n))] [Inhabited (cx_Idx (cx_Ex n))] [Inhabited (PLift (cx_Exl n))] [∀ s : cx_Sd n, Add (cx_MM s)] [∀ s : cx_Sd n, Inhabited (PLift (cx_MGl (cx_MM s)))] [∀ s : cx_Sd n, Inhabited (cx_Tord (cx_Ex n) (cx_MM s))] [Inhabited (PLift (cx_MMl n))] (s : cx_Sd n) (k : Fin n) (m : cx_MM s) : cx_pr (cx_ee k) m = (s.d k : Rat) * m.v k := by
  rw [cx_pr_def, cx_fr_only k _ (fun j hj => by rw [cx_ee_ne hj, show ((0 : Nat) : Rat) = 0 from rfl]; grind), cx_ee_self, show ((1 : Nat) : Rat) = 1 from rfl]; grind
def cx_ZZ {n : Nat} [Zero (cx_Ex n)] [Add (cx_Ex n)] [Mul (cx_S (cx_Ex n))] [One (cx_S (cx_Ex n))] [Add (cx_S (cx_Ex n))] [Zero (cx_S (cx_Ex n))] [Inhabited (cx_Idx (cx_Ex n))] [Inhabited (PLift (cx_Exl n))] [∀ s : cx_Sd n, Add (cx_MM s)] [∀ s : cx_Sd n, Inhabited (PLift (cx_MGl (cx_MM s)))] [∀ s : cx_Sd n, Inhabited (cx_Tord (cx_Ex n) (cx_MM s))] [Inhabited (PLift (cx_MMl n))] (s : cx_Sd n) (m : cx_MM s) : Prop := ∀ i, cx_IsI (m.v i)
theorem cx_ZZ_p {n : Nat} [Zero (cx_Ex n)] [Add (cx_Ex n)] [Mul (cx_S (cx_Ex n))] [One (cx_S (cx_Ex n))] [Add (cx_S (cx_Ex n))] [Zero (cx_S (cx_Ex n))] [Inhabited (cx_Idx (cx_Ex n))] [Inhabited (PLift (cx_Exl n))] [∀ s : cx_Sd n, Add (cx_MM s)] [∀ s : cx_Sd n, Inhabited (PLift (cx_MGl (cx_MM s)))] [∀ s : cx_Sd n, Inhabited (cx_Tord (cx_Ex n) (cx_MM s))] [Inhabited (PLift (cx_MMl n))] (s : cx_Sd n) (u : cx_Ex n) : cx_ZZ s (cx_p u) := fun i => by
  rw [cx_p_def]
  refine cx_IsI.sm (fun j _ => cx_IsI.mul ⟨s.b i j, rfl⟩ ⟨(u j : Int), by exact_mod_cast rfl⟩)
theorem cx_ZZ_add {n : Nat} [Zero (cx_Ex n)] [Add (cx_Ex n)] [Mul (cx_S (cx_Ex n))] [One (cx_S (cx_Ex n))] [Add (cx_S (cx_Ex n))] [Zero (cx_S (cx_Ex n))] [Inhabited (cx_Idx (cx_Ex n))] [Inhabited (PLift (cx_Exl n))] [∀ s : cx_Sd n, Add (cx_MM s)] [∀ s : cx_Sd n, Inhabited (PLift (cx_MGl (cx_MM s)))] [∀ s : cx_Sd n, Inhabited (cx_Tord (cx_Ex n) (cx_MM s))] [Inhabited (PLift (cx_MMl n))] (s : cx_Sd n) (m : cx_MM s) (u : cx_Ex n) (hm : cx_ZZ s m) : cx_ZZ s (m + cx_p u) := fun i => by
  rw [cx_mm_add]; exact (hm i).add (cx_ZZ_p s u i)
end

section
def cx_pos (x : Int) : Nat := x.toNat
theorem cx_pos_sub (x : Int) : (cx_pos x : Rat) = (cx_pos (-x) : Rat) + (x : Rat) := by
  have h : ((cx_pos x : Nat) : Int) = ((cx_pos (-x) : Nat) : Int) + x := by unfold cx_pos; omega
  have h2 : (((cx_pos x : Nat) : Int) : Rat) = ((((cx_pos (-x) : Nat) : Int) + x : Int) : Rat) := by rw [h]
  have e1 : (((cx_pos x : Nat) : Int) : Rat) = (cx_pos x : Rat) := by exact_mod_cast rfl
  have e2 : ((((cx_pos (-x) : Nat) : Int) + x : Int) : Rat) = (cx_pos (-x) : Rat) + (x : Rat) := by exact_mod_cast rfl
  rw [e1, e2] at h2
  exact h2
def cx_rw_ {n : Nat} [Zero (cx_Ex n)] [Add (cx_Ex n)] [Mul (cx_S (cx_Ex n))] [One (cx_S (cx_Ex n))] [Add (cx_S (cx_Ex n))] [Zero (cx_S (cx_Ex n))] [Inhabited (cx_Idx (cx_Ex n))] [Inhabited (PLift (cx_Exl n))] [∀ s : cx_Sd n, Add (cx_MM s)] [∀ s : cx_Sd n, Inhabited (PLift (cx_MGl (cx_MM s)))] [∀ s : cx_Sd n, Inhabited (cx_Tord (cx_Ex n) (cx_MM s))] [Inhabited (PLift (cx_MMl n))] (ρ : Fin n → Nat) (b : cx_Ex n) : Nat := cx_nsum (fun i => ρ i * b i)
theorem cx_rw_add {n : Nat} [Zero (cx_Ex n)] [Add (cx_Ex n)] [Mul (cx_S (cx_Ex n))] [One (cx_S (cx_Ex n))] [Add (cx_S (cx_Ex n))] [Zero (cx_S (cx_Ex n))] [Inhabited (cx_Idx (cx_Ex n))] [Inhabited (PLift (cx_Exl n))] [∀ s : cx_Sd n, Add (cx_MM s)] [∀ s : cx_Sd n, Inhabited (PLift (cx_MGl (cx_MM s)))] [∀ s : cx_Sd n, Inhabited (cx_Tord (cx_Ex n) (cx_MM s))] [Inhabited (PLift (cx_MMl n))] (ρ : Fin n → Nat) (a b : cx_Ex n) : cx_rw_ ρ (a + b) = cx_rw_ ρ a + cx_rw_ ρ b := by
  unfold cx_rw_
  rw [← cx_nsum_add]
  congr 1
  funext i
  rw [cx_ex_add, Nat.mul_add]
theorem cx_rw_cast {n : Nat} [Zero (cx_Ex n)] [Add (cx_Ex n)] [Mul (cx_S (cx_Ex n))] [One (cx_S (cx_Ex n))] [Add (cx_S (cx_Ex n))] [Zero (cx_S (cx_Ex n))] [Inhabited (cx_Idx (cx_Ex n))] [Inhabited (PLift (cx_Exl n))] [∀ s : cx_Sd n, Add (cx_MM s)] [∀ s : cx_Sd n, Inhabited (PLift (cx_MGl (cx_MM s)))] [∀ s : cx_Sd n, Inhabited (cx_Tord (cx_Ex n) (cx_MM s))] [Inhabited (PLift (cx_MMl n))] (ρ : Fin n → Nat) (b : cx_Ex n) : ((cx_rw_ ρ b : Nat) : Rat) = cx_sm (cx_fr n) (fun i => (ρ i : Rat) * (b i : Rat)) := by
  unfold cx_rw_
  rw [cx_nsum_cast]
  exact cx_sm_congr (fun i _ => by exact_mod_cast rfl)
def cx_vv {n : Nat} [Zero (cx_Ex n)] [Add (cx_Ex n)] [Mul (cx_S (cx_Ex n))] [One (cx_S (cx_Ex n))] [Add (cx_S (cx_Ex n))] [Zero (cx_S (cx_Ex n))] [Inhabited (cx_Idx (cx_Ex n))] [Inhabited (PLift (cx_Exl n))] [∀ s : cx_Sd n, Add (cx_MM s)] [∀ s : cx_Sd n, Inhabited (PLift (cx_MGl (cx_MM s)))] [∀ s : cx_Sd n, Inhabited (cx_Tord (cx_Ex n) (cx_MM s))] [Inhabited (PLift (cx_MMl n))] (ρ : Fin n → Nat) (k : Fin n) (b : cx_Ex n) : Rat := (cx_rw_ ρ b : Rat) + (-1) * (b k : Rat)
theorem cx_vv_fun {n : Nat} [Zero (cx_Ex n)] [Add (cx_Ex n)] [Mul (cx_S (cx_Ex n))] [One (cx_S (cx_Ex n))] [Add (cx_S (cx_Ex n))] [Zero (cx_S (cx_Ex n))] [Inhabited (cx_Idx (cx_Ex n))] [Inhabited (PLift (cx_Exl n))] [∀ s : cx_Sd n, Add (cx_MM s)] [∀ s : cx_Sd n, Inhabited (PLift (cx_MGl (cx_MM s)))] [∀ s : cx_Sd n, Inhabited (cx_Tord (cx_Ex n) (cx_MM s))] [Inhabited (PLift (cx_MMl n))] (ρ : Fin n → Nat) (k : Fin n) : cx_Fun (cx_vv ρ k) := ⟨fun a b => by
  unfold cx_vv
  rw [cx_rw_add, cx_ex_add, cx_castR, cx_castR]; grind⟩
def cx_dl {n : Nat} [Zero (cx_Ex n)] [Add (cx_Ex n)] [Mul (cx_S (cx_Ex n))] [One (cx_S (cx_Ex n))] [Add (cx_S (cx_Ex n))] [Zero (cx_S (cx_Ex n))] [Inhabited (cx_Idx (cx_Ex n))] [Inhabited (PLift (cx_Exl n))] [∀ s : cx_Sd n, Add (cx_MM s)] [∀ s : cx_Sd n, Inhabited (PLift (cx_MGl (cx_MM s)))] [∀ s : cx_Sd n, Inhabited (cx_Tord (cx_Ex n) (cx_MM s))] [Inhabited (PLift (cx_MMl n))] (k : Fin n) (b : cx_Ex n) : Rat := cx_dg b + (-1) * (b k : Rat)
theorem cx_dl_fun {n : Nat} [Zero (cx_Ex n)] [Add (cx_Ex n)] [Mul (cx_S (cx_Ex n))] [One (cx_S (cx_Ex n))] [Add (cx_S (cx_Ex n))] [Zero (cx_S (cx_Ex n))] [Inhabited (cx_Idx (cx_Ex n))] [Inhabited (PLift (cx_Exl n))] [∀ s : cx_Sd n, Add (cx_MM s)] [∀ s : cx_Sd n, Inhabited (PLift (cx_MGl (cx_MM s)))] [∀ s : cx_Sd n, Inhabited (cx_Tord (cx_Ex n) (cx_MM s))] [Inhabited (PLift (cx_MMl n))] (k : Fin n) : cx_Fun (cx_dl k) := cx_fun_dg.plus (cx_coord_fun k) (-1)
theorem cx_dg_sm {n : Nat} [Zero (cx_Ex n)] [Add (cx_Ex n)] [Mul (cx_S (cx_Ex n))] [One (cx_S (cx_Ex n))] [Add (cx_S (cx_Ex n))] [Zero (cx_S (cx_Ex n))] [Inhabited (cx_Idx (cx_Ex n))] [Inhabited (PLift (cx_Exl n))] [∀ s : cx_Sd n, Add (cx_MM s)] [∀ s : cx_Sd n, Inhabited (PLift (cx_MGl (cx_MM s)))] [∀ s : cx_Sd n, Inhabited (cx_Tord (cx_Ex n) (cx_MM s))] [Inhabited (PLift (cx_MMl n))] (b : cx_Ex n) : cx_dg b = cx_sm (cx_fr n) (fun i => (b i : Rat)) := by
  show ((cx_deg b : Nat) : Rat) = _
  rw [cx_ex_deg, cx_nsum_cast]; rfl
theorem cx_dl_sm {n : Nat} [Zero (cx_Ex n)] [Add (cx_Ex n)] [Mul (cx_S (cx_Ex n))] [One (cx_S (cx_Ex n))] [Add (cx_S (cx_Ex n))] [Zero (cx_S (cx_Ex n))] [Inhabited (cx_Idx (cx_Ex n))] [Inhabited (PLift (cx_Exl n))] [∀ s : cx_Sd n, Add (cx_MM s)] [∀ s : cx_Sd n, Inhabited (PLift (cx_MGl (cx_MM s)))] [∀ s : cx_Sd n, Inhabited (cx_Tord (cx_Ex n) (cx_MM s))] [Inhabited (PLift (cx_MMl n))] (k : Fin n) (b : cx_Ex n) : cx_dl k b = cx_sm (cx_fr n) (fun i => if i = k then 0 else (b i : Rat)) := by
  unfold cx_dl
  rw [cx_dg_sm, cx_fr_split k]; grind
theorem cx_rw_ee {n : Nat} [Zero (cx_Ex n)] [Add (cx_Ex n)] [Mul (cx_S (cx_Ex n))] [One (cx_S (cx_Ex n))] [Add (cx_S (cx_Ex n))] [Zero (cx_S (cx_Ex n))] [Inhabited (cx_Idx (cx_Ex n))] [Inhabited (PLift (cx_Exl n))] [∀ s : cx_Sd n, Add (cx_MM s)] [∀ s : cx_Sd n, Inhabited (PLift (cx_MGl (cx_MM s)))] [∀ s : cx_Sd n, Inhabited (cx_Tord (cx_Ex n) (cx_MM s))] [Inhabited (PLift (cx_MMl n))] (ρ : Fin n → Nat) (i : Fin n) : cx_rw_ ρ (cx_ee i) = ρ i := by
  have h : ((cx_rw_ ρ (cx_ee i) : Nat) : Rat) = ((ρ i : Nat) : Rat) := by
    rw [cx_rw_cast]
    have := cx_dt_ee (fun i => (ρ i : Rat)) i
    exact this
  exact_mod_cast h
theorem cx_natR_nonneg (x : Nat) : (0 : Rat) ≤ (x : Rat) := by exact_mod_cast Nat.zero_le x
theorem cx_sm_nonneg_zero {α : Type} {l : List α} {f : α → Rat} (h : ∀ a ∈ l, 0 ≤ f a) (hz : cx_sm l f = 0) : ∀ a ∈ l, f a = 0 := by
  induction l with
  | nil => intro a ha; simp at ha
  | cons x l ih =>
    rw [cx_sm_cons] at hz
    have h1 := h x (by simp)
    have h2 := cx_sm_nonneg (fun a ha => h a (List.mem_cons_of_mem x ha))
    intro a ha
    rcases List.mem_cons.1 ha with rfl | ha
    · grind
    · exact ih (fun a ha => h a (by simp [ha])) (by grind) a ha
def cx_rm {n : Nat} [Zero (cx_Ex n)] [Add (cx_Ex n)] [Mul (cx_S (cx_Ex n))] [One (cx_S (cx_Ex n))] [Add (cx_S (cx_Ex n))] [Zero (cx_S (cx_Ex n))] [Inhabited (cx_Idx (cx_Ex n))] [Inhabited (PLift (cx_Exl n))] [∀ s : cx_Sd n, Add (cx_MM s)] [∀ s : cx_Sd n, Inhabited (PLift (cx_MGl (cx_MM s)))] [∀ s : cx_Sd n, Inhabited (cx_Tord (cx_Ex n) (cx_MM s))] [Inhabited (PLift (cx_MMl n))] (s : cx_Sd n) (k : Fin n) : Fin n → Nat := fun i => cx_pos (- s.b k i)
def cx_rp {n : Nat} [Zero (cx_Ex n)] [Add (cx_Ex n)] [Mul (cx_S (cx_Ex n))] [One (cx_S (cx_Ex n))] [Add (cx_S (cx_Ex n))] [Zero (cx_S (cx_Ex n))] [Inhabited (cx_Idx (cx_Ex n))] [Inhabited (PLift (cx_Exl n))] [∀ s : cx_Sd n, Add (cx_MM s)] [∀ s : cx_Sd n, Inhabited (PLift (cx_MGl (cx_MM s)))] [∀ s : cx_Sd n, Inhabited (cx_Tord (cx_Ex n) (cx_MM s))] [Inhabited (PLift (cx_MMl n))] (s : cx_Sd n) (k : Fin n) : Fin n → Nat := fun i => cx_pos (s.b k i)
noncomputable def cx_qq {n : Nat} [Zero (cx_Ex n)] [Add (cx_Ex n)] [Mul (cx_S (cx_Ex n))] [One (cx_S (cx_Ex n))] [Add (cx_S (cx_Ex n))] [Zero (cx_S (cx_Ex n))] [Inhabited (cx_Idx (cx_Ex n))] [Inhabited (PLift (cx_Exl n))] [∀ s : cx_Sd n, Add (cx_MM s)] [∀ s : cx_Sd n, Inhabited (PLift (cx_MGl (cx_MM s)))] [∀ s : cx_Sd n, Inhabited (cx_Tord (cx_Ex n) (cx_MM s))] [Inhabited (PLift (cx_MMl n))] (s : cx_Sd n) (k : Fin n) : Rat := (s.d k : Rat)⁻¹
theorem cx_qq_d {n : Nat} [Zero (cx_Ex n)] [Add (cx_Ex n)] [Mul (cx_S (cx_Ex n))] [One (cx_S (cx_Ex n))] [Add (cx_S (cx_Ex n))] [Zero (cx_S (cx_Ex n))] [Inhabited (cx_Idx (cx_Ex n))] [Inhabited (PLift (cx_Exl n))] [∀ s : cx_Sd n, Add (cx_MM s)] [∀ s : cx_Sd n, Inhabited (PLift (cx_MGl (cx_MM s)))] [∀ s : cx_Sd n, Inhabited (cx_Tord (cx_Ex n) (cx_MM s))] [Inhabited (PLift (cx_MMl n))] (s : cx_Sd n) (k : Fin n) : cx_qq s k * (s.d k : Rat) = 1 := Rat.inv_mul_cancel _ (by have := cx_d_pos s k; grind)
theorem cx_qq_pr {n : Nat} [Zero (cx_Ex n)] [Add (cx_Ex n)] [Mul (cx_S (cx_Ex n))] [One (cx_S (cx_Ex n))] [Add (cx_S (cx_Ex n))] [Zero (cx_S (cx_Ex n))] [Inhabited (cx_Idx (cx_Ex n))] [Inhabited (PLift (cx_Exl n))] [∀ s : cx_Sd n, Add (cx_MM s)] [∀ s : cx_Sd n, Inhabited (PLift (cx_MGl (cx_MM s)))] [∀ s : cx_Sd n, Inhabited (cx_Tord (cx_Ex n) (cx_MM s))] [Inhabited (PLift (cx_MMl n))] (s : cx_Sd n) (k : Fin n) (m : cx_MM s) : cx_qq s k * cx_pr (cx_ee k) m = m.v k := by
  rw [cx_pr_ee]
  have := cx_qq_d s k
  grind
theorem cx_kd {n : Nat} [Zero (cx_Ex n)] [Add (cx_Ex n)] [Mul (cx_S (cx_Ex n))] [One (cx_S (cx_Ex n))] [Add (cx_S (cx_Ex n))] [Zero (cx_S (cx_Ex n))] [Inhabited (cx_Idx (cx_Ex n))] [Inhabited (PLift (cx_Exl n))] [∀ s : cx_Sd n, Add (cx_MM s)] [∀ s : cx_Sd n, Inhabited (PLift (cx_MGl (cx_MM s)))] [∀ s : cx_Sd n, Inhabited (cx_Tord (cx_Ex n) (cx_MM s))] [Inhabited (PLift (cx_MMl n))] (s : cx_Sd n) (k : Fin n) : cx_Kd (cx_MM s) (cx_ee k) (cx_qq s k) (cx_vv (cx_rm s k) k) (cx_vv (cx_rp s k) k) (cx_dl k) := ⟨(cx_ee_nz k),
  (cx_ee_deg k),
  (cx_vv_fun _ k),
  (cx_vv_fun _ k),
  (cx_dl_fun k),
  (fun a => by
    rw [cx_qq_pr, cx_p_def]
    unfold cx_vv
    rw [cx_rw_cast, cx_rw_cast]
    have : cx_sm (cx_fr n) (fun i => (cx_rp s k i : Rat) * (a i : Rat)) = cx_sm (cx_fr n) (fun i => (cx_rm s k i : Rat) * (a i : Rat)) + cx_sm (cx_fr n) (fun j => (s.b k j : Rat) * (a j : Rat)) := by
      rw [← cx_sm_add]
      refine cx_sm_congr (fun i _ => ?_)
      have := cx_pos_sub (s.b k i)
      unfold cx_rp cx_rm
      grind
    rw [this]; grind),
  (by
    unfold cx_vv
    rw [cx_rw_ee, cx_ee_self]
    have : cx_rm s k k = 0 := by unfold cx_rm cx_pos; rw [s.self k]; rfl
    rw [this, show ((0 : Nat) : Rat) = 0 from rfl, show ((1 : Nat) : Rat) = 1 from rfl]; grind),
  (by
    unfold cx_dl
    have : cx_dg (cx_ee k) = 1 := by show ((cx_deg (cx_ee k) : Nat) : Rat) = 1; rw [cx_ee_deg]; rfl
    rw [this, cx_ee_self, show ((1 : Nat) : Rat) = 1 from rfl]; grind),
  (fun a => by
    rw [cx_dl_sm]
    refine cx_sm_nonneg (fun i _ => ?_)
    by_cases h : i = k
    · rw [if_pos h]; grind
    · rw [if_neg h]; exact cx_natR_nonneg _),
  (fun a h => by
    rw [cx_dl_sm] at h
    have h1 := cx_sm_nonneg_zero (fun i _ => by
      by_cases h : i = k
      · rw [if_pos h]; grind
      · rw [if_neg h]; exact cx_natR_nonneg _) h
    refine ⟨a k, funext fun i => ?_⟩
    rw [cx_nsm_at]
    by_cases hi : i = k
    · subst hi; rw [cx_ee_self]; omega
    · rw [cx_ee_ne hi]
      have := h1 i (List.mem_finRange i)
      rw [if_neg hi] at this
      have h2 : a i = 0 := by exact_mod_cast this
      rw [h2]; omega),
  (fun a => by rw [cx_qq_pr]; exact cx_ZZ_p s a k),
  (fun a h => by
    rw [cx_dl_sm] at h
    have : ∃ i, i ≠ k ∧ a i ≠ 0 := by
      refine Classical.byContradiction (fun hno => h (cx_sm_zero (fun i _ => ?_)))
      by_cases hi : i = k
      · rw [if_pos hi]
      · rw [if_neg hi]
        have : a i = 0 := Classical.byContradiction (fun h => hno ⟨i, hi, h⟩)
        rw [this]; rfl
    obtain ⟨i, hi, hai⟩ := this
    refine ⟨⟨fun j => if j = i then 1 else 0, rfl⟩, ?_, ?_⟩
    · rw [cx_pr_ee]
      show _ * (if k = i then (1 : Rat) else 0) = 0
      rw [if_neg (fun e => hi e.symm), Rat.mul_zero]
    · rw [cx_pr_def]
      have e := cx_fr_only i (fun j => (a j : Rat) * (s.d j : Rat) * (if j = i then (1 : Rat) else 0)) (fun j hj => by rw [if_neg hj, Rat.mul_zero])
      have e2 : cx_sm (cx_fr n) (fun j => (a j : Rat) * (s.d j : Rat) * cx_MM.v (s := s) ⟨fun j => if j = i then (1 : Rat) else 0, rfl⟩ j) = (a i : Rat) * (s.d i : Rat) := by
        refine Eq.trans e ?_
        rw [if_pos rfl, Rat.mul_one]
      rw [e2]
      have h1 : (0 : Rat) < (a i : Rat) := by exact_mod_cast Nat.pos_of_ne_zero hai
      have := Rat.mul_pos h1 (cx_d_pos s i)
      grind)⟩
noncomputable def cx_sd {n : Nat} [Zero (cx_Ex n)] [Add (cx_Ex n)] [Mul (cx_S (cx_Ex n))] [One (cx_S (cx_Ex n))] [Add (cx_S (cx_Ex n))] [Zero (cx_S (cx_Ex n))] [Inhabited (cx_Idx (cx_Ex n))] [Inhabited (PLift (cx_Exl n))] [∀ s : cx_Sd n, Add (cx_MM s)] [∀ s : cx_Sd n, Inhabited (PLift (cx_MGl (cx_MM s)))] [∀ s : cx_Sd n, Inhabited (cx_Tord (cx_Ex n) (cx_MM s))] [Inhabited (PLift (cx_MMl n))] (s : cx_Sd n) (a : cx_Ex n) : Rat := @dite _ (∃ i, a = cx_ee i) (Classical.propDecidable _) (fun h => (s.d (Classical.choose h) : Rat)⁻¹) (fun _ => 0)
theorem cx_ee_inj {n : Nat} [Zero (cx_Ex n)] [Add (cx_Ex n)] [Mul (cx_S (cx_Ex n))] [One (cx_S (cx_Ex n))] [Add (cx_S (cx_Ex n))] [Zero (cx_S (cx_Ex n))] [Inhabited (cx_Idx (cx_Ex n))] [Inhabited (PLift (cx_Exl n))] [∀ s : cx_Sd n, Add (cx_MM s)] [∀ s : cx_Sd n, Inhabited (PLift (cx_MGl (cx_MM s)))] [∀ s : cx_Sd n, Inhabited (cx_Tord (cx_Ex n) (cx_MM s))] [Inhabited (PLift (cx_MMl n))] {i j : Fin n} (h : cx_ee i = cx_ee j) : i = j := by
  have := congrFun h i
  rw [cx_ee_self] at this
  by_cases hij : i = j
  · exact hij
  · rw [cx_ee_ne hij] at this; omega
theorem cx_sd_ee {n : Nat} [Zero (cx_Ex n)] [Add (cx_Ex n)] [Mul (cx_S (cx_Ex n))] [One (cx_S (cx_Ex n))] [Add (cx_S (cx_Ex n))] [Zero (cx_S (cx_Ex n))] [Inhabited (cx_Idx (cx_Ex n))] [Inhabited (PLift (cx_Exl n))] [∀ s : cx_Sd n, Add (cx_MM s)] [∀ s : cx_Sd n, Inhabited (PLift (cx_MGl (cx_MM s)))] [∀ s : cx_Sd n, Inhabited (cx_Tord (cx_Ex n) (cx_MM s))] [Inhabited (PLift (cx_MMl n))] (s : cx_Sd n) (i : Fin n) : cx_sd s (cx_ee i) = (s.d i : Rat)⁻¹ := by
  unfold cx_sd
  have h : ∃ j, (cx_ee i : cx_Ex n) = cx_ee j := ⟨i, rfl⟩
  rw [dif_pos h]
  have := Classical.choose_spec h
  rw [← cx_ee_inj this]
theorem cx_sd_no {n : Nat} [Zero (cx_Ex n)] [Add (cx_Ex n)] [Mul (cx_S (cx_Ex n))] [One (cx_S (cx_Ex n))] [Add (cx_S (cx_Ex n))] [Zero (cx_S (cx_Ex n))] [Inhabited (cx_Idx (cx_Ex n))] [Inhabited (PLift (cx_Exl n))] [∀ s : cx_Sd n, Add (cx_MM s)] [∀ s : cx_Sd n, Inhabited (PLift (cx_MGl (cx_MM s)))] [∀ s : cx_Sd n, Inhabited (cx_Tord (cx_Ex n) (cx_MM s))] [Inhabited (PLift (cx_MMl n))] (s : cx_Sd n) {a : cx_Ex n} (h : ∀ i, a ≠ cx_ee i) : cx_sd s a = 0 := by
  unfold cx_sd
  rw [dif_neg (fun ⟨i, e⟩ => h i e)]
theorem cx_sd_nonneg {n : Nat} [Zero (cx_Ex n)] [Add (cx_Ex n)] [Mul (cx_S (cx_Ex n))] [One (cx_S (cx_Ex n))] [Add (cx_S (cx_Ex n))] [Zero (cx_S (cx_Ex n))] [Inhabited (cx_Idx (cx_Ex n))] [Inhabited (PLift (cx_Exl n))] [∀ s : cx_Sd n, Add (cx_MM s)] [∀ s : cx_Sd n, Inhabited (PLift (cx_MGl (cx_MM s)))] [∀ s : cx_Sd n, Inhabited (cx_Tord (cx_Ex n) (cx_MM s))] [Inhabited (PLift (cx_MMl n))] (s : cx_Sd n) (a : cx_Ex n) : 0 ≤ cx_sd s a := by
  by_cases h : ∃ i, a = cx_ee i
  · obtain ⟨i, rfl⟩ := h
    rw [cx_sd_ee]
    have := Rat.inv_pos.2 (cx_d_pos s i)
    grind
  · rw [cx_sd_no s (fun i e => h ⟨i, e⟩)]; grind
theorem cx_std {n : Nat} [Zero (cx_Ex n)] [Add (cx_Ex n)] [Mul (cx_S (cx_Ex n))] [One (cx_S (cx_Ex n))] [Add (cx_S (cx_Ex n))] [Zero (cx_S (cx_Ex n))] [Inhabited (cx_Idx (cx_Ex n))] [Inhabited (PLift (cx_Exl n))] [∀ s : cx_Sd n, Add (cx_MM s)] [∀ s : cx_Sd n, Inhabited (PLift (cx_MGl (cx_MM s)))] [∀ s : cx_Sd n, Inhabited (cx_Tord (cx_Ex n) (cx_MM s))] [Inhabited (PLift (cx_MMl n))] (s : cx_Sd n) (k : Fin n) : cx_Std (cx_MM s) (cx_ee k) (cx_qq s k) (cx_vv (cx_rm s k) k) (cx_vv (cx_rp s k) k) (cx_dl k) (cx_ZZ s) (cx_sd s) := ⟨(fun a ha hd => by
    obtain ⟨j, rfl⟩ := (cx_kd s k).ray a hd
    by_cases h : cx_nsm j (cx_ee k) = cx_ee k
    · rw [if_pos h, h, cx_sd_ee]; rfl
    · rw [if_neg h]
      refine cx_sd_no s (fun i e => h ?_)
      by_cases hik : i = k
      · rw [e, hik]
      · exfalso
        have := congrFun e i
        rw [cx_nsm_at, cx_ee_self, cx_ee_ne hik] at this
        omega),
  (fun a hd h => by
    have : ∃ i, a = cx_ee i := Classical.byContradiction (fun hno => h (cx_sd_no s (fun i e => hno ⟨i, e⟩)))
    obtain ⟨i, rfl⟩ := this
    have hik : i ≠ k := fun e => by subst e; rw [(cx_kd s i).dlk] at hd; grind
    unfold cx_vv
    rw [cx_rw_ee, cx_rw_ee, cx_ee_ne (fun e => hik e.symm)]
    have h1 := cx_natR_nonneg (cx_rm s k i)
    have h2 := cx_natR_nonneg (cx_rp s k i)
    have h3 : ((0 : Nat) : Rat) = 0 := rfl
    constructor <;> grind),
  (fun a => by
    intro m hm
    show cx_IsI (cx_sd s a * cx_pr a m)
    by_cases h : ∃ i, a = cx_ee i
    · obtain ⟨i, rfl⟩ := h
      rw [cx_sd_ee]
      have := cx_qq_pr s i m
      unfold cx_qq at this
      rw [this]; exact hm i
    · rw [cx_sd_no s (fun i e => h ⟨i, e⟩), Rat.zero_mul]; exact cx_IsI.zero),
  (cx_ZZ_add s),
  (cx_ZZ_p s),
  (by
    intro m hm
    show cx_IsI (cx_qq s k * cx_pr (cx_ee k) m)
    rw [cx_qq_pr]; exact hm k),
  (Rat.inv_pos.2 (cx_d_pos s k))⟩
def cx_turnB {n : Nat} [Zero (cx_Ex n)] [Add (cx_Ex n)] [Mul (cx_S (cx_Ex n))] [One (cx_S (cx_Ex n))] [Add (cx_S (cx_Ex n))] [Zero (cx_S (cx_Ex n))] [Inhabited (cx_Idx (cx_Ex n))] [Inhabited (PLift (cx_Exl n))] [∀ s : cx_Sd n, Add (cx_MM s)] [∀ s : cx_Sd n, Inhabited (PLift (cx_MGl (cx_MM s)))] [∀ s : cx_Sd n, Inhabited (cx_Tord (cx_Ex n) (cx_MM s))] [Inhabited (PLift (cx_MMl n))] (s : cx_Sd n) (k : Fin n) (i j : Fin n) : Int := if i = k ∨ j = k then - s.b i j else s.b i j + ((cx_pos (s.b i k) : Int) * s.b k j + s.b i k * (cx_pos (- s.b k j) : Int))
theorem cx_pos_mul (c : Nat) (x : Int) : (cx_pos ((c : Int) * x) : Int) = (c : Int) * (cx_pos x : Int) := by
  unfold cx_pos
  by_cases h : 0 ≤ x
  · have h1 := Int.mul_nonneg (Int.natCast_nonneg c) h
    rw [Int.toNat_of_nonneg h1, Int.toNat_of_nonneg h]
  · have h2 : x.toNat = 0 := by omega
    have h3 : 0 ≤ (c : Int) * (-x) := Int.mul_nonneg (Int.natCast_nonneg c) (by omega)
    have h4 : (c : Int) * (-x) = -((c : Int) * x) := by rw [Int.mul_neg]
    have h5 : ((c : Int) * x).toNat = 0 := by omega
    rw [h2, h5]; simp
theorem cx_pos_sk {n : Nat} [Zero (cx_Ex n)] [Add (cx_Ex n)] [Mul (cx_S (cx_Ex n))] [One (cx_S (cx_Ex n))] [Add (cx_S (cx_Ex n))] [Zero (cx_S (cx_Ex n))] [Inhabited (cx_Idx (cx_Ex n))] [Inhabited (PLift (cx_Exl n))] [∀ s : cx_Sd n, Add (cx_MM s)] [∀ s : cx_Sd n, Inhabited (PLift (cx_MGl (cx_MM s)))] [∀ s : cx_Sd n, Inhabited (cx_Tord (cx_Ex n) (cx_MM s))] [Inhabited (PLift (cx_MMl n))] (s : cx_Sd n) (i k : Fin n) : (s.d i : Int) * (cx_pos (s.b i k) : Int) = (s.d k : Int) * (cx_pos (- s.b k i) : Int) := by
  rw [← cx_pos_mul, ← cx_pos_mul, s.sk i k, Int.mul_neg]
theorem cx_pos_sk' {n : Nat} [Zero (cx_Ex n)] [Add (cx_Ex n)] [Mul (cx_S (cx_Ex n))] [One (cx_S (cx_Ex n))] [Add (cx_S (cx_Ex n))] [Zero (cx_S (cx_Ex n))] [Inhabited (cx_Idx (cx_Ex n))] [Inhabited (PLift (cx_Exl n))] [∀ s : cx_Sd n, Add (cx_MM s)] [∀ s : cx_Sd n, Inhabited (PLift (cx_MGl (cx_MM s)))] [∀ s : cx_Sd n, Inhabited (cx_Tord (cx_Ex n) (cx_MM s))] [Inhabited (PLift (cx_MMl n))] (s : cx_Sd n) (i k : Fin n) : (s.d i : Int) * (cx_pos (- s.b i k) : Int) = (s.d k : Int) * (cx_pos (s.b k i) : Int) := by
  rw [← cx_pos_mul, ← cx_pos_mul, Int.mul_neg, s.sk i k, Int.neg_neg]
theorem cx_posI (x : Int) : (cx_pos x : Int) = (cx_pos (-x) : Int) + x := by unfold cx_pos; omega
def cx_turn {n : Nat} [Zero (cx_Ex n)] [Add (cx_Ex n)] [Mul (cx_S (cx_Ex n))] [One (cx_S (cx_Ex n))] [Add (cx_S (cx_Ex n))] [Zero (cx_S (cx_Ex n))] [Inhabited (cx_Idx (cx_Ex n))] [Inhabited (PLift (cx_Exl n))] [∀ s : cx_Sd n, Add (cx_MM s)] [∀ s : cx_Sd n, Inhabited (PLift (cx_MGl (cx_MM s)))] [∀ s : cx_Sd n, Inhabited (cx_Tord (cx_Ex n) (cx_MM s))] [Inhabited (PLift (cx_MMl n))] (s : cx_Sd n) (k : Fin n) : cx_Sd n := ⟨(cx_turnB s k, s.d), s.dpos, fun i j => by
    show (s.d i : Int) * cx_turnB s k i j = - ((s.d j : Int) * cx_turnB s k j i)
    unfold cx_turnB
    by_cases h : i = k ∨ j = k
    · rw [if_pos h, if_pos (by rcases h with h | h; exact .inr h; exact .inl h)]
      have := s.sk i j
      rw [Int.mul_neg, Int.mul_neg, this]
    · rw [if_neg h, if_neg (fun h2 => h (by rcases h2 with h2 | h2; exact .inr h2; exact .inl h2))]
      have e1 := s.sk i j
      have e2 := s.sk i k
      have e3 := s.sk j k
      have e4 := cx_pos_sk s i k
      have e5 := cx_pos_sk s j k
      have e6 := cx_posI (s.b k i)
      have e7 := cx_posI (s.b k j)

      have f1 : (s.d i : Int) * ((cx_pos (s.b i k) : Int) * s.b k j) = (s.d k : Int) * ((cx_pos (- s.b k i) : Int) * s.b k j) := by
        rw [← Int.mul_assoc, e4, Int.mul_assoc]
      have f2 : (s.d i : Int) * (s.b i k * (cx_pos (- s.b k j) : Int)) = - ((s.d k : Int) * (s.b k i * (cx_pos (- s.b k j) : Int))) := by
        rw [← Int.mul_assoc, e2, Int.neg_mul, Int.mul_assoc]
      have f3 : (s.d j : Int) * ((cx_pos (s.b j k) : Int) * s.b k i) = (s.d k : Int) * ((cx_pos (- s.b k j) : Int) * s.b k i) := by
        rw [← Int.mul_assoc, e5, Int.mul_assoc]
      have f4 : (s.d j : Int) * (s.b j k * (cx_pos (- s.b k i) : Int)) = - ((s.d k : Int) * (s.b k j * (cx_pos (- s.b k i) : Int))) := by
        rw [← Int.mul_assoc, e3, Int.neg_mul, Int.mul_assoc]
      rw [Int.mul_add, Int.mul_add, Int.mul_add, Int.mul_add, f1, f2, f3, f4, e1]
      rw [Int.mul_comm (cx_pos (- s.b k i) : Int) (s.b k j), Int.mul_comm (cx_pos (- s.b k j) : Int) (s.b k i)]
      omega⟩
theorem cx_turn_d {n : Nat} [Zero (cx_Ex n)] [Add (cx_Ex n)] [Mul (cx_S (cx_Ex n))] [One (cx_S (cx_Ex n))] [Add (cx_S (cx_Ex n))] [Zero (cx_S (cx_Ex n))] [Inhabited (cx_Idx (cx_Ex n))] [Inhabited (PLift (cx_Exl n))] [∀ s : cx_Sd n, Add (cx_MM s)] [∀ s : cx_Sd n, Inhabited (PLift (cx_MGl (cx_MM s)))] [∀ s : cx_Sd n, Inhabited (cx_Tord (cx_Ex n) (cx_MM s))] [Inhabited (PLift (cx_MMl n))] (s : cx_Sd n) (k : Fin n) : (cx_turn s k).d = s.d := rfl
theorem cx_turn_row {n : Nat} [Zero (cx_Ex n)] [Add (cx_Ex n)] [Mul (cx_S (cx_Ex n))] [One (cx_S (cx_Ex n))] [Add (cx_S (cx_Ex n))] [Zero (cx_S (cx_Ex n))] [Inhabited (cx_Idx (cx_Ex n))] [Inhabited (PLift (cx_Exl n))] [∀ s : cx_Sd n, Add (cx_MM s)] [∀ s : cx_Sd n, Inhabited (PLift (cx_MGl (cx_MM s)))] [∀ s : cx_Sd n, Inhabited (cx_Tord (cx_Ex n) (cx_MM s))] [Inhabited (PLift (cx_MMl n))] (s : cx_Sd n) (k j : Fin n) : (cx_turn s k).b k j = - s.b k j := if_pos (.inl rfl)
theorem cx_turn_col {n : Nat} [Zero (cx_Ex n)] [Add (cx_Ex n)] [Mul (cx_S (cx_Ex n))] [One (cx_S (cx_Ex n))] [Add (cx_S (cx_Ex n))] [Zero (cx_S (cx_Ex n))] [Inhabited (cx_Idx (cx_Ex n))] [Inhabited (PLift (cx_Exl n))] [∀ s : cx_Sd n, Add (cx_MM s)] [∀ s : cx_Sd n, Inhabited (PLift (cx_MGl (cx_MM s)))] [∀ s : cx_Sd n, Inhabited (cx_Tord (cx_Ex n) (cx_MM s))] [Inhabited (PLift (cx_MMl n))] (s : cx_Sd n) (k i : Fin n) : (cx_turn s k).b i k = - s.b i k := if_pos (.inr rfl)
theorem cx_rm_turn {n : Nat} [Zero (cx_Ex n)] [Add (cx_Ex n)] [Mul (cx_S (cx_Ex n))] [One (cx_S (cx_Ex n))] [Add (cx_S (cx_Ex n))] [Zero (cx_S (cx_Ex n))] [Inhabited (cx_Idx (cx_Ex n))] [Inhabited (PLift (cx_Exl n))] [∀ s : cx_Sd n, Add (cx_MM s)] [∀ s : cx_Sd n, Inhabited (PLift (cx_MGl (cx_MM s)))] [∀ s : cx_Sd n, Inhabited (cx_Tord (cx_Ex n) (cx_MM s))] [Inhabited (PLift (cx_MMl n))] (s : cx_Sd n) (k : Fin n) : cx_rm (cx_turn s k) k = cx_rp s k := by
  funext i; unfold cx_rm cx_rp; rw [cx_turn_row, Int.neg_neg]
theorem cx_rp_turn {n : Nat} [Zero (cx_Ex n)] [Add (cx_Ex n)] [Mul (cx_S (cx_Ex n))] [One (cx_S (cx_Ex n))] [Add (cx_S (cx_Ex n))] [Zero (cx_S (cx_Ex n))] [Inhabited (cx_Idx (cx_Ex n))] [Inhabited (PLift (cx_Exl n))] [∀ s : cx_Sd n, Add (cx_MM s)] [∀ s : cx_Sd n, Inhabited (PLift (cx_MGl (cx_MM s)))] [∀ s : cx_Sd n, Inhabited (cx_Tord (cx_Ex n) (cx_MM s))] [Inhabited (PLift (cx_MMl n))] (s : cx_Sd n) (k : Fin n) : cx_rp (cx_turn s k) k = cx_rm s k := by
  funext i; unfold cx_rm cx_rp; rw [cx_turn_row]
theorem cx_turn_turn {n : Nat} [Zero (cx_Ex n)] [Add (cx_Ex n)] [Mul (cx_S (cx_Ex n))] [One (cx_S (cx_Ex n))] [Add (cx_S (cx_Ex n))] [Zero (cx_S (cx_Ex n))] [Inhabited (cx_Idx (cx_Ex n))] [Inhabited (PLift (cx_Exl n))] [∀ s : cx_Sd n, Add (cx_MM s)] [∀ s : cx_Sd n, Inhabited (PLift (cx_MGl (cx_MM s)))] [∀ s : cx_Sd n, Inhabited (cx_Tord (cx_Ex n) (cx_MM s))] [Inhabited (PLift (cx_MMl n))] (s : cx_Sd n) (k : Fin n) : cx_turn (cx_turn s k) k = s := by
  have hb : (cx_turn (cx_turn s k) k).b = s.b := by
    funext i j
    show cx_turnB (cx_turn s k) k i j = s.b i j
    unfold cx_turnB
    by_cases h : i = k ∨ j = k
    · rw [if_pos h]
      show - cx_turnB s k i j = _
      unfold cx_turnB
      rw [if_pos h, Int.neg_neg]
    · rw [if_neg h, cx_turn_col, cx_turn_row]
      show cx_turnB s k i j + _ = _
      unfold cx_turnB
      rw [if_neg h, Int.neg_neg]
      have e1 := cx_posI (s.b i k)
      have e2 := cx_posI (s.b k j)
      generalize (cx_pos (s.b i k) : Int) = A at *
      generalize (cx_pos (- s.b i k) : Int) = A' at *
      generalize (cx_pos (s.b k j) : Int) = C at *
      generalize (cx_pos (- s.b k j) : Int) = C' at *
      generalize s.b i k = x at *
      generalize s.b k j = y at *
      subst e1; subst e2
      grind
  exact Subtype.ext (Prod.ext hb rfl)
end

section
abbrev cx_Natl [Mul (cx_S Nat)] [One (cx_S Nat)] [Add (cx_S Nat)] [Zero (cx_S Nat)] [Inhabited (cx_Idx Nat)] : Prop := ∀ j : Nat, cx_dec j = (List.range (j + 1)).map fun i => (j - i, i)
def cx_bs [Mul (cx_S Nat)] [One (cx_S Nat)] [Add (cx_S Nat)] [Zero (cx_S Nat)] [Inhabited (cx_Idx Nat)] [Inhabited (PLift cx_Natl)]  (x : Rat) : cx_S Nat := cx_bin x
theorem cx_nat_mul [Mul (cx_S Nat)] [One (cx_S Nat)] [Add (cx_S Nat)] [Zero (cx_S Nat)] [Inhabited (cx_Idx Nat)] [Inhabited (PLift cx_Natl)]  (X Y : cx_S Nat) (j : Nat) : (X * Y) j = cx_sm (List.range (j + 1)) (fun i => X (j - i) * Y i) := by
  rw [cx_mul_def, (default : PLift cx_Natl).down j, cx_sm_map]
theorem cx_bs_mul [Mul (cx_S Nat)] [One (cx_S Nat)] [Add (cx_S Nat)] [Zero (cx_S Nat)] [Inhabited (cx_Idx Nat)] [Inhabited (PLift cx_Natl)]  (x y : Rat) : cx_bs x * cx_bs y = cx_bs (x + y) := by
  refine cx_S.ext (fun k => ?_)
  rw [cx_mulC, cx_nat_mul]
  show _ = cx_bin (x + y) k
  rw [← cx_vand x y k]
  show _ = cx_sm (List.range (k + 1)) _
  exact cx_sm_congr (fun i _ => Rat.mul_comm _ _)
theorem cx_bs_zero [Mul (cx_S Nat)] [One (cx_S Nat)] [Add (cx_S Nat)] [Zero (cx_S Nat)] [Inhabited (cx_Idx Nat)] [Inhabited (PLift cx_Natl)]  : cx_bs 0 = 1 := by
  refine cx_S.ext (fun k => ?_)
  cases k with
  | zero => exact (cx_one_zero (B := Nat)).symm
  | succ k => show cx_bin 0 (k + 1) = _; rw [cx_bin_z]; exact (cx_one_ne (B := Nat) (by omega : k + 1 ≠ 0)).symm
theorem cx_bs_one [Mul (cx_S Nat)] [One (cx_S Nat)] [Add (cx_S Nat)] [Zero (cx_S Nat)] [Inhabited (cx_Idx Nat)] [Inhabited (PLift cx_Natl)]  (X : cx_S Nat) (j : Nat) : (X * cx_bs 1) j = X j + (if j = 0 then 0 else X (j - 1)) := by
  rw [cx_nat_mul]
  have big : ∀ i, 2 ≤ i → cx_bs 1 i = 0 := by
    intro i hi
    have := cx_bin_big 1 i (by omega)
    rw [show ((1 : Nat) : Rat) = 1 from rfl] at this
    exact this
  have b0 : cx_bs 1 0 = 1 := rfl
  have b1 : cx_bs 1 1 = 1 := cx_bin_one 1
  cases j with
  | zero =>
    show X 0 * cx_bs 1 0 + 0 = _
    rw [if_pos rfl, b0]; grind
  | succ j =>
    rw [if_neg (by omega), List.range_succ_eq_map, cx_sm_cons, cx_sm_map, List.range_succ_eq_map, cx_sm_cons, cx_sm_map, cx_sm_zero (fun i _ => by rw [big _ (by omega), Rat.mul_zero])]
    show X (j + 1 - 0) * cx_bs 1 0 + (X (j + 1 - (0 + 1)) * cx_bs 1 (0 + 1) + 0) = _
    rw [b0, show cx_bs 1 (0 + 1) = 1 from b1, show j + 1 - 0 = j + 1 by omega, show j + 1 - (0 + 1) = j by omega]
    show X (j + 1) * 1 + (X j * 1 + 0) = X (j + 1) + X j
    grind
def cx_rv [Mul (cx_S Nat)] [One (cx_S Nat)] [Add (cx_S Nat)] [Zero (cx_S Nat)] [Inhabited (cx_Idx Nat)] [Inhabited (PLift cx_Natl)]  (T : Nat) (X : cx_S Nat) : cx_S Nat := fun j => if j ≤ T then X (T - j) else 0
theorem cx_rv_step [Mul (cx_S Nat)] [One (cx_S Nat)] [Add (cx_S Nat)] [Zero (cx_S Nat)] [Inhabited (cx_Idx Nat)] [Inhabited (PLift cx_Natl)]  (T : Nat) (X : cx_S Nat) (h : ∀ j, T < j → X j = 0) : cx_rv (T + 1) (X * cx_bs 1) = cx_rv T X * cx_bs 1 := by
  refine cx_S.ext (fun j => ?_)
  rw [cx_bs_one]
  unfold cx_rv
  by_cases h1 : j ≤ T + 1
  · rw [if_pos h1, cx_bs_one]
    by_cases h2 : j ≤ T
    · rw [if_pos h2, if_neg (by omega)]
      by_cases h0 : j = 0
      · subst h0
        rw [if_pos rfl, h _ (by omega : T < T + 1 - 0), show T + 1 - 0 - 1 = T - 0 by omega]; grind
      · rw [if_neg h0, if_pos (by omega), show T - (j - 1) = T + 1 - j by omega, show T + 1 - j - 1 = T - j by omega]; grind
    · rw [if_neg h2, if_pos (by omega), if_neg (by omega), if_pos (by omega), show T - (j - 1) = T + 1 - j by omega]; grind
  · rw [if_neg h1, if_neg (by omega), if_neg (by omega), if_neg (by omega)]; grind
theorem cx_rv_mul [Mul (cx_S Nat)] [One (cx_S Nat)] [Add (cx_S Nat)] [Zero (cx_S Nat)] [Inhabited (cx_Idx Nat)] [Inhabited (PLift cx_Natl)]  (N T : Nat) (X : cx_S Nat) (h : ∀ j, T < j → X j = 0) : cx_rv (T + N) (X * cx_bs (N : Rat)) = cx_rv T X * cx_bs (N : Rat) ∧ ∀ j, T + N < j → (X * cx_bs (N : Rat)) j = 0 := by
  induction N with
  | zero =>
    rw [show ((0 : Nat) : Rat) = 0 from rfl, cx_bs_zero, cx_mul1, cx_mul1]
    exact ⟨rfl, h⟩
  | succ N ih =>
    have e : cx_bs ((N + 1 : Nat) : Rat) = cx_bs (N : Rat) * cx_bs 1 := by rw [cx_bs_mul, cx_castR]; rfl
    rw [e, ← cx_mulA, ← cx_mulA]
    refine ⟨?_, fun j hj => ?_⟩
    · rw [show T + (N + 1) = T + N + 1 by omega, cx_rv_step (T + N) _ ih.2, ih.1]
    · rw [cx_bs_one, ih.2 j (by omega), if_neg (by omega), ih.2 (j - 1) (by omega)]; grind
theorem cx_rv_rv [Mul (cx_S Nat)] [One (cx_S Nat)] [Add (cx_S Nat)] [Zero (cx_S Nat)] [Inhabited (cx_Idx Nat)] [Inhabited (PLift cx_Natl)]  (T : Nat) (X : cx_S Nat) (h : ∀ j, T < j → X j = 0) : cx_rv T (cx_rv T X) = X := by
  refine cx_S.ext (fun j => ?_)
  unfold cx_rv
  by_cases h1 : j ≤ T
  · rw [if_pos h1, if_pos (by omega), show T - (T - j) = j by omega]
  · rw [if_neg h1, h j (by omega)]
theorem cx_rev_main [Mul (cx_S Nat)] [One (cx_S Nat)] [Add (cx_S Nat)] [Zero (cx_S Nat)] [Inhabited (cx_Idx Nat)] [Inhabited (PLift cx_Natl)]  {r : Rat} (hr : cx_IsI r) {top top2 : Nat} (ht : (top2 : Rat) = (top : Rat) + r) {X Y : cx_S Nat} (hX : ∀ j, top < j → X j = 0) (hY : ∀ j, top2 < j → Y j = 0)
    (h : Y = X * cx_bs r) : cx_rv top2 Y * cx_bs (-r) = cx_rv top X := by
  by_cases h0 : 0 ≤ r
  · obtain ⟨N, rfl⟩ := cx_nat_of hr h0
    have e : top2 = top + N := by
      have : ((top2 : Nat) : Rat) = ((top + N : Nat) : Rat) := by rw [ht, cx_castR]
      exact_mod_cast this
    subst e
    rw [h, (cx_rv_mul N top X hX).1, cx_mulA, cx_bs_mul, show (N : Rat) + - (N : Rat) = 0 by grind, cx_bs_zero, cx_mul1]
  · have hr' : cx_IsI (-r) := by
      obtain ⟨z, hz⟩ := hr
      refine ⟨-z, ?_⟩
      have h1 : ((-z : Int) : Rat) = -(z : Rat) := by exact_mod_cast rfl
      rw [h1, ← hz]
    obtain ⟨N, hN⟩ := cx_nat_of hr' (by grind)
    have e : top = top2 + N := by
      have : ((top : Nat) : Rat) = ((top2 + N : Nat) : Rat) := by rw [cx_castR, ← hN]; grind
      exact_mod_cast this
    subst e
    have hXY : X = Y * cx_bs (-r) := by rw [h, cx_mulA, cx_bs_mul, show r + -r = 0 by grind, cx_bs_zero, cx_mul1]
    rw [hXY, hN, (cx_rv_mul N top2 Y hY).1]
def cx_dn [Mul (cx_S Nat)] [One (cx_S Nat)] [Add (cx_S Nat)] [Zero (cx_S Nat)] [Inhabited (cx_Idx Nat)] [Inhabited (PLift cx_Natl)] {n : Nat} [Zero (cx_Ex n)] [Add (cx_Ex n)] [Mul (cx_S (cx_Ex n))] [One (cx_S (cx_Ex n))] [Add (cx_S (cx_Ex n))] [Zero (cx_S (cx_Ex n))] [Inhabited (cx_Idx (cx_Ex n))] [Inhabited (PLift (cx_Exl n))] [∀ s : cx_Sd n, Add (cx_MM s)] [∀ s : cx_Sd n, Inhabited (PLift (cx_MGl (cx_MM s)))] [∀ s : cx_Sd n, Inhabited (cx_Tord (cx_Ex n) (cx_MM s))] [Inhabited (PLift (cx_MMl n))] (b : cx_Ex n) (k : Fin n) (j : Nat) : cx_Ex n := fun i => if i = k then j else b i
theorem cx_dn_k [Mul (cx_S Nat)] [One (cx_S Nat)] [Add (cx_S Nat)] [Zero (cx_S Nat)] [Inhabited (cx_Idx Nat)] [Inhabited (PLift cx_Natl)] {n : Nat} [Zero (cx_Ex n)] [Add (cx_Ex n)] [Mul (cx_S (cx_Ex n))] [One (cx_S (cx_Ex n))] [Add (cx_S (cx_Ex n))] [Zero (cx_S (cx_Ex n))] [Inhabited (cx_Idx (cx_Ex n))] [Inhabited (PLift (cx_Exl n))] [∀ s : cx_Sd n, Add (cx_MM s)] [∀ s : cx_Sd n, Inhabited (PLift (cx_MGl (cx_MM s)))] [∀ s : cx_Sd n, Inhabited (cx_Tord (cx_Ex n) (cx_MM s))] [Inhabited (PLift (cx_MMl n))] (b : cx_Ex n) (k : Fin n) (j : Nat) : cx_dn b k j k = j := if_pos rfl
theorem cx_dn_ne [Mul (cx_S Nat)] [One (cx_S Nat)] [Add (cx_S Nat)] [Zero (cx_S Nat)] [Inhabited (cx_Idx Nat)] [Inhabited (PLift cx_Natl)] {n : Nat} [Zero (cx_Ex n)] [Add (cx_Ex n)] [Mul (cx_S (cx_Ex n))] [One (cx_S (cx_Ex n))] [Add (cx_S (cx_Ex n))] [Zero (cx_S (cx_Ex n))] [Inhabited (cx_Idx (cx_Ex n))] [Inhabited (PLift (cx_Exl n))] [∀ s : cx_Sd n, Add (cx_MM s)] [∀ s : cx_Sd n, Inhabited (PLift (cx_MGl (cx_MM s)))] [∀ s : cx_Sd n, Inhabited (cx_Tord (cx_Ex n) (cx_MM s))] [Inhabited (PLift (cx_MMl n))] (b : cx_Ex n) {k i : Fin n} (j : Nat) (h : i ≠ k) : cx_dn b k j i = b i := if_neg h
theorem cx_dn_self [Mul (cx_S Nat)] [One (cx_S Nat)] [Add (cx_S Nat)] [Zero (cx_S Nat)] [Inhabited (cx_Idx Nat)] [Inhabited (PLift cx_Natl)] {n : Nat} [Zero (cx_Ex n)] [Add (cx_Ex n)] [Mul (cx_S (cx_Ex n))] [One (cx_S (cx_Ex n))] [Add (cx_S (cx_Ex n))] [Zero (cx_S (cx_Ex n))] [Inhabited (cx_Idx (cx_Ex n))] [Inhabited (PLift (cx_Exl n))] [∀ s : cx_Sd n, Add (cx_MM s)] [∀ s : cx_Sd n, Inhabited (PLift (cx_MGl (cx_MM s)))] [∀ s : cx_Sd n, Inhabited (cx_Tord (cx_Ex n) (cx_MM s))] [Inhabited (PLift (cx_MMl n))] (b : cx_Ex n) (k : Fin n) : cx_dn b k (b k) = b := funext fun i => by
  by_cases h : i = k
  · subst h; exact cx_dn_k _ _ _
  · exact cx_dn_ne _ _ h
theorem cx_dn_dn [Mul (cx_S Nat)] [One (cx_S Nat)] [Add (cx_S Nat)] [Zero (cx_S Nat)] [Inhabited (cx_Idx Nat)] [Inhabited (PLift cx_Natl)] {n : Nat} [Zero (cx_Ex n)] [Add (cx_Ex n)] [Mul (cx_S (cx_Ex n))] [One (cx_S (cx_Ex n))] [Add (cx_S (cx_Ex n))] [Zero (cx_S (cx_Ex n))] [Inhabited (cx_Idx (cx_Ex n))] [Inhabited (PLift (cx_Exl n))] [∀ s : cx_Sd n, Add (cx_MM s)] [∀ s : cx_Sd n, Inhabited (PLift (cx_MGl (cx_MM s)))] [∀ s : cx_Sd n, Inhabited (cx_Tord (cx_Ex n) (cx_MM s))] [Inhabited (PLift (cx_MMl n))] (b : cx_Ex n) (k : Fin n) (j j' : Nat) : cx_dn (cx_dn b k j) k j' = cx_dn b k j' := funext fun i => by
  by_cases h : i = k
  · subst h; rw [cx_dn_k, cx_dn_k]
  · rw [cx_dn_ne _ _ h, cx_dn_ne _ _ h, cx_dn_ne _ _ h]
theorem cx_ray_at [Mul (cx_S Nat)] [One (cx_S Nat)] [Add (cx_S Nat)] [Zero (cx_S Nat)] [Inhabited (cx_Idx Nat)] [Inhabited (PLift cx_Natl)] {n : Nat} [Zero (cx_Ex n)] [Add (cx_Ex n)] [Mul (cx_S (cx_Ex n))] [One (cx_S (cx_Ex n))] [Add (cx_S (cx_Ex n))] [Zero (cx_S (cx_Ex n))] [Inhabited (cx_Idx (cx_Ex n))] [Inhabited (PLift (cx_Exl n))] [∀ s : cx_Sd n, Add (cx_MM s)] [∀ s : cx_Sd n, Inhabited (PLift (cx_MGl (cx_MM s)))] [∀ s : cx_Sd n, Inhabited (cx_Tord (cx_Ex n) (cx_MM s))] [Inhabited (PLift (cx_MMl n))] (i : Nat) (k j : Fin n) : (cx_nsm i (cx_ee k) : cx_Ex n) j = if j = k then i else 0 := by
  rw [cx_nsm_at]
  by_cases h : j = k
  · subst h; rw [cx_ee_self, if_pos rfl]; omega
  · rw [cx_ee_ne h, if_neg h]; omega
theorem cx_D_ray [Mul (cx_S Nat)] [One (cx_S Nat)] [Add (cx_S Nat)] [Zero (cx_S Nat)] [Inhabited (cx_Idx Nat)] [Inhabited (PLift cx_Natl)] {n : Nat} [Zero (cx_Ex n)] [Add (cx_Ex n)] [Mul (cx_S (cx_Ex n))] [One (cx_S (cx_Ex n))] [Add (cx_S (cx_Ex n))] [Zero (cx_S (cx_Ex n))] [Inhabited (cx_Idx (cx_Ex n))] [Inhabited (PLift (cx_Exl n))] [∀ s : cx_Sd n, Add (cx_MM s)] [∀ s : cx_Sd n, Inhabited (PLift (cx_MGl (cx_MM s)))] [∀ s : cx_Sd n, Inhabited (cx_Tord (cx_Ex n) (cx_MM s))] [Inhabited (PLift (cx_MMl n))] (k : Fin n) (b : cx_Ex n) (F : cx_Ex n → cx_Ex n → Rat) (h : ∀ u s, (∀ i, cx_nsm i (cx_ee k) ≠ s) → F u s = 0) :
    cx_D b F = cx_sm (List.range (b k + 1)) (fun i => F (cx_dn b k (b k - i)) (cx_nsm i (cx_ee k))) := by
  classical
  let P : cx_Ex n × cx_Ex n → Bool := fun x => decide (∃ i, cx_nsm i (cx_ee k) = x.2)
  have e1 : cx_D b F = cx_sm ((cx_dec b).filter P) (fun x => F x.1 x.2) := cx_sm_filter _ P _ (fun x _ hx => h x.1 x.2 (fun i e => by
    have : ¬ ∃ i, cx_nsm i (cx_ee k) = x.2 := by simpa [P] using hx
    exact this ⟨i, e⟩))
  have hp : ((cx_dec b).filter P).Perm ((List.range (b k + 1)).map fun i => (cx_dn b k (b k - i), cx_nsm i (cx_ee k))) := by
    refine cx_perm_of ((cx_nodup_dec _).sublist List.filter_sublist) ?_ ?_
    · have h1 : (List.range (b k + 1)).Nodup := List.nodup_range
      rw [List.nodup_iff_pairwise_ne] at h1 ⊢
      rw [List.pairwise_map]
      refine h1.imp (fun {i j} hne e => hne ?_)
      simp only [Prod.mk.injEq] at e
      exact cx_nsm_inj (cx_ee_nz k) e.2
    · rintro ⟨u, s⟩
      rw [List.mem_filter, cx_mem_dec, List.mem_map]
      simp only [P, decide_eq_true_eq]
      constructor
      · rintro ⟨hus, i, rfl⟩
        have hk := congrFun hus k
        rw [cx_ex_add, cx_ray_at, if_pos rfl] at hk
        refine ⟨i, List.mem_range.2 (by omega), ?_⟩
        simp only [Prod.mk.injEq, and_true]
        funext j
        have hj := congrFun hus j
        rw [cx_ex_add, cx_ray_at] at hj
        by_cases hjk : j = k
        · subst hjk; rw [cx_dn_k]; omega
        · rw [cx_dn_ne _ _ hjk]
          rw [if_neg hjk] at hj
          omega
      · rintro ⟨i, hi, e⟩
        rw [List.mem_range] at hi
        simp only [Prod.mk.injEq] at e
        obtain ⟨rfl, rfl⟩ := e
        refine ⟨funext fun j => ?_, i, rfl⟩
        rw [cx_ex_add, cx_ray_at]
        by_cases hjk : j = k
        · subst hjk; rw [cx_dn_k, if_pos rfl]; omega
        · rw [cx_dn_ne _ _ hjk, if_neg hjk]; omega
  rw [e1, cx_sm_perm hp, cx_sm_map]
abbrev cx_Rho [Mul (cx_S Nat)] [One (cx_S Nat)] [Add (cx_S Nat)] [Zero (cx_S Nat)] [Inhabited (cx_Idx Nat)] [Inhabited (PLift cx_Natl)] {n : Nat} [Zero (cx_Ex n)] [Add (cx_Ex n)] [Mul (cx_S (cx_Ex n))] [One (cx_S (cx_Ex n))] [Add (cx_S (cx_Ex n))] [Zero (cx_S (cx_Ex n))] [Inhabited (cx_Idx (cx_Ex n))] [Inhabited (PLift (cx_Exl n))] [∀ s : cx_Sd n, Add (cx_MM s)] [∀ s : cx_Sd n, Inhabited (PLift (cx_MGl (cx_MM s)))] [∀ s : cx_Sd n, Inhabited (cx_Tord (cx_Ex n) (cx_MM s))] [Inhabited (PLift (cx_MMl n))] (s : cx_Sd n) (k : Fin n) (ρ : Fin n → Nat) : Prop := (ρ k = 0) ∧ (∀ i j, i ≠ k → j ≠ k → ((cx_turn s k).b i j : Rat) = (s.b i j : Rat) + (ρ i : Rat) * (s.d k : Rat) * (s.d i : Rat)⁻¹ * (s.b k j : Rat) + (s.b i k : Rat) * (ρ j : Rat))
theorem cx_Rho.k0 [Mul (cx_S Nat)] [One (cx_S Nat)] [Add (cx_S Nat)] [Zero (cx_S Nat)] [Inhabited (cx_Idx Nat)] [Inhabited (PLift cx_Natl)] {n : Nat} [Zero (cx_Ex n)] [Add (cx_Ex n)] [Mul (cx_S (cx_Ex n))] [One (cx_S (cx_Ex n))] [Add (cx_S (cx_Ex n))] [Zero (cx_S (cx_Ex n))] [Inhabited (cx_Idx (cx_Ex n))] [Inhabited (PLift (cx_Exl n))] [∀ s : cx_Sd n, Add (cx_MM s)] [∀ s : cx_Sd n, Inhabited (PLift (cx_MGl (cx_MM s)))] [∀ s : cx_Sd n, Inhabited (cx_Tord (cx_Ex n) (cx_MM s))] [Inhabited (PLift (cx_MMl n))] {s : cx_Sd n} {k : Fin n} {ρ : Fin n → Nat} (hh_ : cx_Rho s k ρ) : ρ k = 0 := hh_.1
theorem cx_Rho.b' [Mul (cx_S Nat)] [One (cx_S Nat)] [Add (cx_S Nat)] [Zero (cx_S Nat)] [Inhabited (cx_Idx Nat)] [Inhabited (PLift cx_Natl)] {n : Nat} [Zero (cx_Ex n)] [Add (cx_Ex n)] [Mul (cx_S (cx_Ex n))] [One (cx_S (cx_Ex n))] [Add (cx_S (cx_Ex n))] [Zero (cx_S (cx_Ex n))] [Inhabited (cx_Idx (cx_Ex n))] [Inhabited (PLift (cx_Exl n))] [∀ s : cx_Sd n, Add (cx_MM s)] [∀ s : cx_Sd n, Inhabited (PLift (cx_MGl (cx_MM s)))] [∀ s : cx_Sd n, Inhabited (cx_Tord (cx_Ex n) (cx_MM s))] [Inhabited (PLift (cx_MMl n))] {s : cx_Sd n} {k : Fin n} {ρ : Fin n → Nat} (hh_ : cx_Rho s k ρ) : ∀ i j, i ≠ k → j ≠ k → ((cx_turn s k).b i j : Rat) = (s.b i j : Rat) + (ρ i : Rat) * (s.d k : Rat) * (s.d i : Rat)⁻¹ * (s.b k j : Rat) + (s.b i k : Rat) * (ρ j : Rat) := hh_.2
theorem cx_nat_int [Mul (cx_S Nat)] [One (cx_S Nat)] [Add (cx_S Nat)] [Zero (cx_S Nat)] [Inhabited (cx_Idx Nat)] [Inhabited (PLift cx_Natl)]  (x : Nat) : (((x : Nat) : Int) : Rat) = (x : Rat) := by exact_mod_cast rfl
theorem cx_turn_bR [Mul (cx_S Nat)] [One (cx_S Nat)] [Add (cx_S Nat)] [Zero (cx_S Nat)] [Inhabited (cx_Idx Nat)] [Inhabited (PLift cx_Natl)] {n : Nat} [Zero (cx_Ex n)] [Add (cx_Ex n)] [Mul (cx_S (cx_Ex n))] [One (cx_S (cx_Ex n))] [Add (cx_S (cx_Ex n))] [Zero (cx_S (cx_Ex n))] [Inhabited (cx_Idx (cx_Ex n))] [Inhabited (PLift (cx_Exl n))] [∀ s : cx_Sd n, Add (cx_MM s)] [∀ s : cx_Sd n, Inhabited (PLift (cx_MGl (cx_MM s)))] [∀ s : cx_Sd n, Inhabited (cx_Tord (cx_Ex n) (cx_MM s))] [Inhabited (PLift (cx_MMl n))] (s : cx_Sd n) {k i j : Fin n} (hi : i ≠ k) (hj : j ≠ k) :
    ((cx_turn s k).b i j : Rat) = (s.b i j : Rat) + ((cx_pos (s.b i k) : Rat) * (s.b k j : Rat) + (s.b i k : Rat) * (cx_pos (- s.b k j) : Rat)) := by
  show ((cx_turnB s k i j : Int) : Rat) = _
  unfold cx_turnB
  rw [if_neg (fun h => by rcases h with h | h; exact hi h; exact hj h)]
  exact_mod_cast rfl
theorem cx_posR [Mul (cx_S Nat)] [One (cx_S Nat)] [Add (cx_S Nat)] [Zero (cx_S Nat)] [Inhabited (cx_Idx Nat)] [Inhabited (PLift cx_Natl)] {n : Nat} [Zero (cx_Ex n)] [Add (cx_Ex n)] [Mul (cx_S (cx_Ex n))] [One (cx_S (cx_Ex n))] [Add (cx_S (cx_Ex n))] [Zero (cx_S (cx_Ex n))] [Inhabited (cx_Idx (cx_Ex n))] [Inhabited (PLift (cx_Exl n))] [∀ s : cx_Sd n, Add (cx_MM s)] [∀ s : cx_Sd n, Inhabited (PLift (cx_MGl (cx_MM s)))] [∀ s : cx_Sd n, Inhabited (cx_Tord (cx_Ex n) (cx_MM s))] [Inhabited (PLift (cx_MMl n))] (s : cx_Sd n) (i k : Fin n) : (cx_rm s k i : Rat) * (s.d k : Rat) * (s.d i : Rat)⁻¹ = (cx_pos (s.b i k) : Rat) := by
  have h := cx_pos_sk s i k
  have h1 : (((s.d i : Int) * (cx_pos (s.b i k) : Int) : Int) : Rat) = (((s.d k : Int) * (cx_pos (- s.b k i) : Int) : Int) : Rat) := by rw [h]
  have e1 : (((s.d i : Int) * (cx_pos (s.b i k) : Int) : Int) : Rat) = (s.d i : Rat) * (cx_pos (s.b i k) : Rat) := by exact_mod_cast rfl
  have e2 : (((s.d k : Int) * (cx_pos (- s.b k i) : Int) : Int) : Rat) = (s.d k : Rat) * (cx_pos (- s.b k i) : Rat) := by exact_mod_cast rfl
  rw [e1, e2] at h1
  have h2 : (s.d i : Rat)⁻¹ * (s.d i : Rat) = 1 := Rat.inv_mul_cancel _ (by have := cx_d_pos s i; grind)
  unfold cx_rm
  generalize (cx_pos (s.b i k) : Rat) = A at *
  generalize (cx_pos (- s.b k i) : Rat) = C at *
  have : C * (s.d k : Rat) * (s.d i : Rat)⁻¹ = (s.d i : Rat) * A * (s.d i : Rat)⁻¹ := by rw [h1]; grind
  rw [this]; grind
theorem cx_posR' [Mul (cx_S Nat)] [One (cx_S Nat)] [Add (cx_S Nat)] [Zero (cx_S Nat)] [Inhabited (cx_Idx Nat)] [Inhabited (PLift cx_Natl)] {n : Nat} [Zero (cx_Ex n)] [Add (cx_Ex n)] [Mul (cx_S (cx_Ex n))] [One (cx_S (cx_Ex n))] [Add (cx_S (cx_Ex n))] [Zero (cx_S (cx_Ex n))] [Inhabited (cx_Idx (cx_Ex n))] [Inhabited (PLift (cx_Exl n))] [∀ s : cx_Sd n, Add (cx_MM s)] [∀ s : cx_Sd n, Inhabited (PLift (cx_MGl (cx_MM s)))] [∀ s : cx_Sd n, Inhabited (cx_Tord (cx_Ex n) (cx_MM s))] [Inhabited (PLift (cx_MMl n))] (s : cx_Sd n) (i k : Fin n) : (cx_rp s k i : Rat) * (s.d k : Rat) * (s.d i : Rat)⁻¹ = (cx_pos (- s.b i k) : Rat) := by
  have h := cx_pos_sk' s i k
  have h1 : (((s.d i : Int) * (cx_pos (- s.b i k) : Int) : Int) : Rat) = (((s.d k : Int) * (cx_pos (s.b k i) : Int) : Int) : Rat) := by rw [h]
  have e1 : (((s.d i : Int) * (cx_pos (- s.b i k) : Int) : Int) : Rat) = (s.d i : Rat) * (cx_pos (- s.b i k) : Rat) := by exact_mod_cast rfl
  have e2 : (((s.d k : Int) * (cx_pos (s.b k i) : Int) : Int) : Rat) = (s.d k : Rat) * (cx_pos (s.b k i) : Rat) := by exact_mod_cast rfl
  rw [e1, e2] at h1
  have h2 : (s.d i : Rat)⁻¹ * (s.d i : Rat) = 1 := Rat.inv_mul_cancel _ (by have := cx_d_pos s i; grind)
  unfold cx_rp
  generalize (cx_pos (- s.b i k) : Rat) = A at *
  generalize (cx_pos (s.b k i) : Rat) = C at *
  have : C * (s.d k : Rat) * (s.d i : Rat)⁻¹ = (s.d i : Rat) * A * (s.d i : Rat)⁻¹ := by rw [h1]; grind
  rw [this]; grind
theorem cx_rho_m [Mul (cx_S Nat)] [One (cx_S Nat)] [Add (cx_S Nat)] [Zero (cx_S Nat)] [Inhabited (cx_Idx Nat)] [Inhabited (PLift cx_Natl)] {n : Nat} [Zero (cx_Ex n)] [Add (cx_Ex n)] [Mul (cx_S (cx_Ex n))] [One (cx_S (cx_Ex n))] [Add (cx_S (cx_Ex n))] [Zero (cx_S (cx_Ex n))] [Inhabited (cx_Idx (cx_Ex n))] [Inhabited (PLift (cx_Exl n))] [∀ s : cx_Sd n, Add (cx_MM s)] [∀ s : cx_Sd n, Inhabited (PLift (cx_MGl (cx_MM s)))] [∀ s : cx_Sd n, Inhabited (cx_Tord (cx_Ex n) (cx_MM s))] [Inhabited (PLift (cx_MMl n))] (s : cx_Sd n) (k : Fin n) : cx_Rho s k (cx_rm s k) := ⟨(by unfold cx_rm cx_pos; rw [s.self k]; rfl),
  (fun i j hi hj => by
    rw [cx_turn_bR s hi hj, cx_posR]; unfold cx_rm; grind)⟩
theorem cx_rho_p [Mul (cx_S Nat)] [One (cx_S Nat)] [Add (cx_S Nat)] [Zero (cx_S Nat)] [Inhabited (cx_Idx Nat)] [Inhabited (PLift cx_Natl)] {n : Nat} [Zero (cx_Ex n)] [Add (cx_Ex n)] [Mul (cx_S (cx_Ex n))] [One (cx_S (cx_Ex n))] [Add (cx_S (cx_Ex n))] [Zero (cx_S (cx_Ex n))] [Inhabited (cx_Idx (cx_Ex n))] [Inhabited (PLift (cx_Exl n))] [∀ s : cx_Sd n, Add (cx_MM s)] [∀ s : cx_Sd n, Inhabited (PLift (cx_MGl (cx_MM s)))] [∀ s : cx_Sd n, Inhabited (cx_Tord (cx_Ex n) (cx_MM s))] [Inhabited (PLift (cx_MMl n))] (s : cx_Sd n) (k : Fin n) : cx_Rho s k (cx_rp s k) := ⟨(by unfold cx_rp cx_pos; rw [s.self k]; rfl),
  (fun i j hi hj => by
    rw [cx_turn_bR s hi hj, cx_posR']
    have h1 := cx_pos_sub (s.b i k)
    have h2 := cx_pos_sub (s.b k j)
    unfold cx_rp
    rw [h2, h1]; grind)⟩
def cx_th [Mul (cx_S Nat)] [One (cx_S Nat)] [Add (cx_S Nat)] [Zero (cx_S Nat)] [Inhabited (cx_Idx Nat)] [Inhabited (PLift cx_Natl)] {n : Nat} [Zero (cx_Ex n)] [Add (cx_Ex n)] [Mul (cx_S (cx_Ex n))] [One (cx_S (cx_Ex n))] [Add (cx_S (cx_Ex n))] [Zero (cx_S (cx_Ex n))] [Inhabited (cx_Idx (cx_Ex n))] [Inhabited (PLift (cx_Exl n))] [∀ s : cx_Sd n, Add (cx_MM s)] [∀ s : cx_Sd n, Inhabited (PLift (cx_MGl (cx_MM s)))] [∀ s : cx_Sd n, Inhabited (cx_Tord (cx_Ex n) (cx_MM s))] [Inhabited (PLift (cx_MMl n))] (ρ : Fin n → Nat) (k : Fin n) (b : cx_Ex n) : cx_Ex n := cx_dn b k (cx_rw_ ρ b - b k)
noncomputable def cx_cc [Mul (cx_S Nat)] [One (cx_S Nat)] [Add (cx_S Nat)] [Zero (cx_S Nat)] [Inhabited (cx_Idx Nat)] [Inhabited (PLift cx_Natl)] {n : Nat} [Zero (cx_Ex n)] [Add (cx_Ex n)] [Mul (cx_S (cx_Ex n))] [One (cx_S (cx_Ex n))] [Add (cx_S (cx_Ex n))] [Zero (cx_S (cx_Ex n))] [Inhabited (cx_Idx (cx_Ex n))] [Inhabited (PLift (cx_Exl n))] [∀ s : cx_Sd n, Add (cx_MM s)] [∀ s : cx_Sd n, Inhabited (PLift (cx_MGl (cx_MM s)))] [∀ s : cx_Sd n, Inhabited (cx_Tord (cx_Ex n) (cx_MM s))] [Inhabited (PLift (cx_MMl n))] (s : cx_Sd n) (k : Fin n) (ρ : Fin n → Nat) (i : Fin n) : Rat := (ρ i : Rat) * (s.d k : Rat) * (s.d i : Rat)⁻¹
noncomputable def cx_mu [Mul (cx_S Nat)] [One (cx_S Nat)] [Add (cx_S Nat)] [Zero (cx_S Nat)] [Inhabited (cx_Idx Nat)] [Inhabited (PLift cx_Natl)] {n : Nat} [Zero (cx_Ex n)] [Add (cx_Ex n)] [Mul (cx_S (cx_Ex n))] [One (cx_S (cx_Ex n))] [Add (cx_S (cx_Ex n))] [Zero (cx_S (cx_Ex n))] [Inhabited (cx_Idx (cx_Ex n))] [Inhabited (PLift (cx_Exl n))] [∀ s : cx_Sd n, Add (cx_MM s)] [∀ s : cx_Sd n, Inhabited (PLift (cx_MGl (cx_MM s)))] [∀ s : cx_Sd n, Inhabited (cx_Tord (cx_Ex n) (cx_MM s))] [Inhabited (PLift (cx_MMl n))] (s s2 : cx_Sd n) (k : Fin n) (ρ : Fin n → Nat) (m : cx_MM s) : cx_MM s2 := ⟨fun i => if i = k then - m.v k else m.v i + cx_cc s k ρ i * m.v k, rfl⟩
theorem cx_mu_k [Mul (cx_S Nat)] [One (cx_S Nat)] [Add (cx_S Nat)] [Zero (cx_S Nat)] [Inhabited (cx_Idx Nat)] [Inhabited (PLift cx_Natl)] {n : Nat} [Zero (cx_Ex n)] [Add (cx_Ex n)] [Mul (cx_S (cx_Ex n))] [One (cx_S (cx_Ex n))] [Add (cx_S (cx_Ex n))] [Zero (cx_S (cx_Ex n))] [Inhabited (cx_Idx (cx_Ex n))] [Inhabited (PLift (cx_Exl n))] [∀ s : cx_Sd n, Add (cx_MM s)] [∀ s : cx_Sd n, Inhabited (PLift (cx_MGl (cx_MM s)))] [∀ s : cx_Sd n, Inhabited (cx_Tord (cx_Ex n) (cx_MM s))] [Inhabited (PLift (cx_MMl n))] (s s2 : cx_Sd n) (k : Fin n) (ρ : Fin n → Nat) (m : cx_MM s) : (cx_mu s s2 k ρ m).v k = - m.v k := if_pos rfl
theorem cx_mu_ne [Mul (cx_S Nat)] [One (cx_S Nat)] [Add (cx_S Nat)] [Zero (cx_S Nat)] [Inhabited (cx_Idx Nat)] [Inhabited (PLift cx_Natl)] {n : Nat} [Zero (cx_Ex n)] [Add (cx_Ex n)] [Mul (cx_S (cx_Ex n))] [One (cx_S (cx_Ex n))] [Add (cx_S (cx_Ex n))] [Zero (cx_S (cx_Ex n))] [Inhabited (cx_Idx (cx_Ex n))] [Inhabited (PLift (cx_Exl n))] [∀ s : cx_Sd n, Add (cx_MM s)] [∀ s : cx_Sd n, Inhabited (PLift (cx_MGl (cx_MM s)))] [∀ s : cx_Sd n, Inhabited (cx_Tord (cx_Ex n) (cx_MM s))] [Inhabited (PLift (cx_MMl n))] (s s2 : cx_Sd n) {k i : Fin n} (h : i ≠ k) (ρ : Fin n → Nat) (m : cx_MM s) : (cx_mu s s2 k ρ m).v i = m.v i + cx_cc s k ρ i * m.v k := if_neg h
theorem cx_rw_dn [Mul (cx_S Nat)] [One (cx_S Nat)] [Add (cx_S Nat)] [Zero (cx_S Nat)] [Inhabited (cx_Idx Nat)] [Inhabited (PLift cx_Natl)] {n : Nat} [Zero (cx_Ex n)] [Add (cx_Ex n)] [Mul (cx_S (cx_Ex n))] [One (cx_S (cx_Ex n))] [Add (cx_S (cx_Ex n))] [Zero (cx_S (cx_Ex n))] [Inhabited (cx_Idx (cx_Ex n))] [Inhabited (PLift (cx_Exl n))] [∀ s : cx_Sd n, Add (cx_MM s)] [∀ s : cx_Sd n, Inhabited (PLift (cx_MGl (cx_MM s)))] [∀ s : cx_Sd n, Inhabited (cx_Tord (cx_Ex n) (cx_MM s))] [Inhabited (PLift (cx_MMl n))] {ρ : Fin n → Nat} {k : Fin n} (h : ρ k = 0) (b : cx_Ex n) (j : Nat) : cx_rw_ ρ (cx_dn b k j) = cx_rw_ ρ b := by
  unfold cx_rw_
  congr 1
  funext i
  by_cases hi : i = k
  · subst hi; rw [h]; omega
  · rw [cx_dn_ne _ _ hi]
theorem cx_dl_dn [Mul (cx_S Nat)] [One (cx_S Nat)] [Add (cx_S Nat)] [Zero (cx_S Nat)] [Inhabited (cx_Idx Nat)] [Inhabited (PLift cx_Natl)] {n : Nat} [Zero (cx_Ex n)] [Add (cx_Ex n)] [Mul (cx_S (cx_Ex n))] [One (cx_S (cx_Ex n))] [Add (cx_S (cx_Ex n))] [Zero (cx_S (cx_Ex n))] [Inhabited (cx_Idx (cx_Ex n))] [Inhabited (PLift (cx_Exl n))] [∀ s : cx_Sd n, Add (cx_MM s)] [∀ s : cx_Sd n, Inhabited (PLift (cx_MGl (cx_MM s)))] [∀ s : cx_Sd n, Inhabited (cx_Tord (cx_Ex n) (cx_MM s))] [Inhabited (PLift (cx_MMl n))] (k : Fin n) (b : cx_Ex n) (j : Nat) : cx_dl k (cx_dn b k j) = cx_dl k b := by
  rw [cx_dl_sm, cx_dl_sm]
  refine cx_sm_congr (fun i _ => ?_)
  by_cases hi : i = k
  · rw [if_pos hi, if_pos hi]
  · rw [if_neg hi, if_neg hi, cx_dn_ne _ _ hi]
theorem cx_sv_iff [Mul (cx_S Nat)] [One (cx_S Nat)] [Add (cx_S Nat)] [Zero (cx_S Nat)] [Inhabited (cx_Idx Nat)] [Inhabited (PLift cx_Natl)] {n : Nat} [Zero (cx_Ex n)] [Add (cx_Ex n)] [Mul (cx_S (cx_Ex n))] [One (cx_S (cx_Ex n))] [Add (cx_S (cx_Ex n))] [Zero (cx_S (cx_Ex n))] [Inhabited (cx_Idx (cx_Ex n))] [Inhabited (PLift (cx_Exl n))] [∀ s : cx_Sd n, Add (cx_MM s)] [∀ s : cx_Sd n, Inhabited (PLift (cx_MGl (cx_MM s)))] [∀ s : cx_Sd n, Inhabited (cx_Tord (cx_Ex n) (cx_MM s))] [Inhabited (PLift (cx_MMl n))] (ρ : Fin n → Nat) (k : Fin n) (b : cx_Ex n) : cx_Sv (cx_dl k) (cx_vv ρ k) b ↔ 0 < cx_dl k b ∧ b k ≤ cx_rw_ ρ b := by
  unfold cx_Sv cx_vv
  constructor
  · rintro ⟨h1, h2⟩
    refine ⟨h1, ?_⟩
    have : ((b k : Nat) : Rat) ≤ ((cx_rw_ ρ b : Nat) : Rat) := by grind
    exact_mod_cast this
  · rintro ⟨h1, h2⟩
    refine ⟨h1, ?_⟩
    have : ((b k : Nat) : Rat) ≤ ((cx_rw_ ρ b : Nat) : Rat) := by exact_mod_cast h2
    grind
theorem cx_d_inv [Mul (cx_S Nat)] [One (cx_S Nat)] [Add (cx_S Nat)] [Zero (cx_S Nat)] [Inhabited (cx_Idx Nat)] [Inhabited (PLift cx_Natl)] {n : Nat} [Zero (cx_Ex n)] [Add (cx_Ex n)] [Mul (cx_S (cx_Ex n))] [One (cx_S (cx_Ex n))] [Add (cx_S (cx_Ex n))] [Zero (cx_S (cx_Ex n))] [Inhabited (cx_Idx (cx_Ex n))] [Inhabited (PLift (cx_Exl n))] [∀ s : cx_Sd n, Add (cx_MM s)] [∀ s : cx_Sd n, Inhabited (PLift (cx_MGl (cx_MM s)))] [∀ s : cx_Sd n, Inhabited (cx_Tord (cx_Ex n) (cx_MM s))] [Inhabited (PLift (cx_MMl n))] (s : cx_Sd n) (i : Fin n) : (s.d i : Rat)⁻¹ * (s.d i : Rat) = 1 := Rat.inv_mul_cancel _ (by have := cx_d_pos s i; grind)
theorem cx_cc_d [Mul (cx_S Nat)] [One (cx_S Nat)] [Add (cx_S Nat)] [Zero (cx_S Nat)] [Inhabited (cx_Idx Nat)] [Inhabited (PLift cx_Natl)] {n : Nat} [Zero (cx_Ex n)] [Add (cx_Ex n)] [Mul (cx_S (cx_Ex n))] [One (cx_S (cx_Ex n))] [Add (cx_S (cx_Ex n))] [Zero (cx_S (cx_Ex n))] [Inhabited (cx_Idx (cx_Ex n))] [Inhabited (PLift (cx_Exl n))] [∀ s : cx_Sd n, Add (cx_MM s)] [∀ s : cx_Sd n, Inhabited (PLift (cx_MGl (cx_MM s)))] [∀ s : cx_Sd n, Inhabited (cx_Tord (cx_Ex n) (cx_MM s))] [Inhabited (PLift (cx_MMl n))] (s : cx_Sd n) (k : Fin n) (ρ : Fin n → Nat) (i : Fin n) : cx_cc s k ρ i * (s.d i : Rat) = (ρ i : Rat) * (s.d k : Rat) := by
  unfold cx_cc
  have := cx_d_inv s i
  grind
theorem cx_dn_zero [Mul (cx_S Nat)] [One (cx_S Nat)] [Add (cx_S Nat)] [Zero (cx_S Nat)] [Inhabited (cx_Idx Nat)] [Inhabited (PLift cx_Natl)] {n : Nat} [Zero (cx_Ex n)] [Add (cx_Ex n)] [Mul (cx_S (cx_Ex n))] [One (cx_S (cx_Ex n))] [Add (cx_S (cx_Ex n))] [Zero (cx_S (cx_Ex n))] [Inhabited (cx_Idx (cx_Ex n))] [Inhabited (PLift (cx_Exl n))] [∀ s : cx_Sd n, Add (cx_MM s)] [∀ s : cx_Sd n, Inhabited (PLift (cx_MGl (cx_MM s)))] [∀ s : cx_Sd n, Inhabited (cx_Tord (cx_Ex n) (cx_MM s))] [Inhabited (PLift (cx_MMl n))] (k : Fin n) : cx_dn (0 : cx_Ex n) k 0 = 0 := funext fun i => by
  by_cases h : i = k
  · subst h; rw [cx_dn_k, cx_ex_zero]
  · rw [cx_dn_ne _ _ h]
theorem cx_rw_zero [Mul (cx_S Nat)] [One (cx_S Nat)] [Add (cx_S Nat)] [Zero (cx_S Nat)] [Inhabited (cx_Idx Nat)] [Inhabited (PLift cx_Natl)] {n : Nat} [Zero (cx_Ex n)] [Add (cx_Ex n)] [Mul (cx_S (cx_Ex n))] [One (cx_S (cx_Ex n))] [Add (cx_S (cx_Ex n))] [Zero (cx_S (cx_Ex n))] [Inhabited (cx_Idx (cx_Ex n))] [Inhabited (PLift (cx_Exl n))] [∀ s : cx_Sd n, Add (cx_MM s)] [∀ s : cx_Sd n, Inhabited (PLift (cx_MGl (cx_MM s)))] [∀ s : cx_Sd n, Inhabited (cx_Tord (cx_Ex n) (cx_MM s))] [Inhabited (PLift (cx_MMl n))] (ρ : Fin n → Nat) : cx_rw_ ρ (0 : cx_Ex n) = 0 := by
  unfold cx_rw_
  exact cx_nsum_zero (fun i => by rw [cx_ex_zero]; omega)
theorem cx_th_th [Mul (cx_S Nat)] [One (cx_S Nat)] [Add (cx_S Nat)] [Zero (cx_S Nat)] [Inhabited (cx_Idx Nat)] [Inhabited (PLift cx_Natl)] {n : Nat} [Zero (cx_Ex n)] [Add (cx_Ex n)] [Mul (cx_S (cx_Ex n))] [One (cx_S (cx_Ex n))] [Add (cx_S (cx_Ex n))] [Zero (cx_S (cx_Ex n))] [Inhabited (cx_Idx (cx_Ex n))] [Inhabited (PLift (cx_Exl n))] [∀ s : cx_Sd n, Add (cx_MM s)] [∀ s : cx_Sd n, Inhabited (PLift (cx_MGl (cx_MM s)))] [∀ s : cx_Sd n, Inhabited (cx_Tord (cx_Ex n) (cx_MM s))] [Inhabited (PLift (cx_MMl n))] {ρ : Fin n → Nat} {k : Fin n} (h : ρ k = 0) {b : cx_Ex n} (hb : b k ≤ cx_rw_ ρ b) : cx_th ρ k (cx_th ρ k b) = b := by
  unfold cx_th
  rw [cx_rw_dn h, cx_dn_dn, cx_dn_k, show cx_rw_ ρ b - (cx_rw_ ρ b - b k) = b k by omega, cx_dn_self]
theorem cx_th_sv [Mul (cx_S Nat)] [One (cx_S Nat)] [Add (cx_S Nat)] [Zero (cx_S Nat)] [Inhabited (cx_Idx Nat)] [Inhabited (PLift cx_Natl)] {n : Nat} [Zero (cx_Ex n)] [Add (cx_Ex n)] [Mul (cx_S (cx_Ex n))] [One (cx_S (cx_Ex n))] [Add (cx_S (cx_Ex n))] [Zero (cx_S (cx_Ex n))] [Inhabited (cx_Idx (cx_Ex n))] [Inhabited (PLift (cx_Exl n))] [∀ s : cx_Sd n, Add (cx_MM s)] [∀ s : cx_Sd n, Inhabited (PLift (cx_MGl (cx_MM s)))] [∀ s : cx_Sd n, Inhabited (cx_Tord (cx_Ex n) (cx_MM s))] [Inhabited (PLift (cx_MMl n))] {ρ : Fin n → Nat} {k : Fin n} (h : ρ k = 0) {b : cx_Ex n} (hb : cx_Sv (cx_dl k) (cx_vv ρ k) b) : cx_Sv (cx_dl k) (cx_vv ρ k) (cx_th ρ k b) := by
  rw [cx_sv_iff] at hb ⊢
  unfold cx_th
  rw [cx_dl_dn, cx_rw_dn h, cx_dn_k]
  exact ⟨hb.1, by omega⟩
theorem cx_trn [Mul (cx_S Nat)] [One (cx_S Nat)] [Add (cx_S Nat)] [Zero (cx_S Nat)] [Inhabited (cx_Idx Nat)] [Inhabited (PLift cx_Natl)] {n : Nat} [Zero (cx_Ex n)] [Add (cx_Ex n)] [Mul (cx_S (cx_Ex n))] [One (cx_S (cx_Ex n))] [Add (cx_S (cx_Ex n))] [Zero (cx_S (cx_Ex n))] [Inhabited (cx_Idx (cx_Ex n))] [Inhabited (PLift (cx_Exl n))] [∀ s : cx_Sd n, Add (cx_MM s)] [∀ s : cx_Sd n, Inhabited (PLift (cx_MGl (cx_MM s)))] [∀ s : cx_Sd n, Inhabited (cx_Tord (cx_Ex n) (cx_MM s))] [Inhabited (PLift (cx_MMl n))] {s : cx_Sd n} {k : Fin n} {ρ : Fin n → Nat} (h : cx_Rho s k ρ) :
    cx_Trn (M := cx_MM s) (M' := cx_MM (cx_turn s k)) (cx_Sv (cx_dl k) (cx_vv ρ k)) (cx_Sv (cx_dl k) (cx_vv ρ k)) (cx_th ρ k) (cx_th ρ k) (cx_mu s (cx_turn s k) k ρ) (cx_mu (cx_turn s k) s k ρ) := ⟨(by unfold cx_th; rw [cx_rw_zero, cx_ex_zero, Nat.sub_zero, cx_dn_zero]),
  (by unfold cx_th; rw [cx_rw_zero, cx_ex_zero, Nat.sub_zero, cx_dn_zero]),
  (fun b hb => cx_th_sv h.k0 hb),
  (fun b hb => cx_th_sv h.k0 hb),
  (fun b hb => cx_th_th h.k0 ((cx_sv_iff ρ k b).1 hb).2),
  (fun b hb => cx_th_th h.k0 ((cx_sv_iff ρ k b).1 hb).2),
  (fun a b ha hb => by
    have h1 := ((cx_sv_iff ρ k a).1 ha).2
    have h2 := ((cx_sv_iff ρ k b).1 hb).2
    unfold cx_th
    funext i
    refine Eq.trans ?_ (cx_ex_add _ _ i).symm
    by_cases hi : i = k
    · subst hi
      rw [cx_dn_k, cx_dn_k, cx_dn_k, cx_rw_add, cx_ex_add]; omega
    · rw [cx_dn_ne _ _ hi, cx_dn_ne _ _ hi, cx_dn_ne _ _ hi, cx_ex_add]),
  (cx_Sv.clo (cx_dl_fun k) (cx_vv_fun ρ k)),
  (cx_Sv.clo (cx_dl_fun k) (cx_vv_fun ρ k)),
  (fun b hb e => by have := hb.1; rw [e, (cx_dl_fun k).zero] at this; grind),
  (fun b hb e => by have := hb.1; rw [e, (cx_dl_fun k).zero] at this; grind),
  (fun m => cx_MM.ext fun i => by
    by_cases hi : i = k
    · subst hi; rw [cx_mu_k, cx_mu_k]; grind
    · rw [cx_mu_ne _ _ hi, cx_mu_ne _ _ hi, cx_mu_k]
      show m.v i + cx_cc s k ρ i * m.v k + cx_cc s k ρ i * - m.v k = m.v i
      grind),
  (fun m => cx_MM.ext fun i => by
    by_cases hi : i = k
    · subst hi; rw [cx_mu_k, cx_mu_k]; grind
    · rw [cx_mu_ne _ _ hi, cx_mu_ne _ _ hi, cx_mu_k]
      show m.v i + cx_cc s k ρ i * m.v k + cx_cc s k ρ i * - m.v k = m.v i
      grind),
  (fun a m ha => by
    have h1 := ((cx_sv_iff ρ k a).1 ha).2
    rw [cx_pr_def, cx_pr_def, cx_fr_split k, cx_fr_split k (fun i => (a i : Rat) * (s.d i : Rat) * m.v i)]
    have e0 : ((cx_th ρ k a) k : Rat) = (cx_rw_ ρ a : Rat) - (a k : Rat) := by
      unfold cx_th; rw [cx_dn_k]
      have : ((cx_rw_ ρ a - a k + a k : Nat) : Rat) = (cx_rw_ ρ a : Rat) := by rw [Nat.sub_add_cancel h1]
      rw [cx_castR] at this
      grind
    have e1 : cx_sm (cx_fr n) (fun i => if i = k then 0 else (cx_th ρ k a i : Rat) * ((cx_turn s k).d i : Rat) * (cx_mu s (cx_turn s k) k ρ m).v i)
        = cx_sm (cx_fr n) (fun i => if i = k then 0 else (a i : Rat) * (s.d i : Rat) * m.v i) + cx_sm (cx_fr n) (fun i => (ρ i : Rat) * (a i : Rat)) * ((s.d k : Rat) * m.v k) := by
      rw [← cx_sm_mulR, ← cx_sm_add]
      refine cx_sm_congr (fun i _ => ?_)
      by_cases hi : i = k
      · subst hi; rw [if_pos rfl, if_pos rfl, h.k0, show ((0 : Nat) : Rat) = 0 from rfl]; grind
      · rw [if_neg hi, if_neg hi, cx_mu_ne _ _ hi]
        have e2 : cx_th ρ k a i = a i := cx_dn_ne _ _ hi
        rw [e2]
        have := cx_cc_d s k ρ i
        show (a i : Rat) * (s.d i : Rat) * (m.v i + cx_cc s k ρ i * m.v k) = _
        grind
    rw [e1, cx_mu_k, ← cx_rw_cast, e0]
    show ((cx_rw_ ρ a : Rat) - (a k : Rat)) * (s.d k : Rat) * - m.v k + _ = _
    grind),
  (fun a m ha => cx_MM.ext fun i => by
    have h1 := ((cx_sv_iff ρ k a).1 ha).2
    have e0 : ((cx_th ρ k a) k : Rat) = (cx_rw_ ρ a : Rat) - (a k : Rat) := by
      unfold cx_th; rw [cx_dn_k]
      have : ((cx_rw_ ρ a - a k + a k : Nat) : Rat) = (cx_rw_ ρ a : Rat) := by rw [Nat.sub_add_cancel h1]
      rw [cx_castR] at this
      grind
    have ek : (cx_p a : cx_MM s).v k = cx_sm (cx_fr n) (fun j => if j = k then 0 else (s.b k j : Rat) * (a j : Rat)) := by
      rw [cx_p_def, cx_fr_split k, s.self k, show ((0 : Int) : Rat) = 0 from rfl]; grind
    rw [cx_mm_add, cx_p_def]
    by_cases hi : i = k
    · subst hi
      rw [cx_mu_k, cx_mu_k, cx_mm_add, ek, cx_fr_split i (fun j => ((cx_turn s i).b i j : Rat) * (cx_th ρ i a j : Rat)), cx_turn_col, s.self i]
      have : cx_sm (cx_fr n) (fun j => if j = i then 0 else ((cx_turn s i).b i j : Rat) * (cx_th ρ i a j : Rat)) = (-1) * cx_sm (cx_fr n) (fun j => if j = i then 0 else (s.b i j : Rat) * (a j : Rat)) := by
        rw [← cx_sm_mulL]
        refine cx_sm_congr (fun j _ => ?_)
        by_cases hj : j = i
        · rw [if_pos hj, if_pos hj]; grind
        · rw [if_neg hj, if_neg hj, cx_turn_row]
          have e2 : cx_th ρ i a j = a j := cx_dn_ne _ _ hj
          have e3 : ((- s.b i j : Int) : Rat) = - (s.b i j : Rat) := by exact_mod_cast rfl
          rw [e2, e3]; grind
      rw [this, show ((-0 : Int) : Rat) = 0 from rfl]; grind
    · rw [cx_mu_ne _ _ hi, cx_mu_ne _ _ hi, cx_mm_add, cx_mm_add, ek, cx_p_def, cx_fr_split k (fun j => (s.b i j : Rat) * (a j : Rat)), cx_fr_split k (fun j => ((cx_turn s k).b i j : Rat) * (cx_th ρ k a j : Rat)), cx_turn_col, e0, cx_rw_cast]
      have : cx_sm (cx_fr n) (fun j => if j = k then 0 else ((cx_turn s k).b i j : Rat) * (cx_th ρ k a j : Rat))
          = cx_sm (cx_fr n) (fun j => if j = k then 0 else (s.b i j : Rat) * (a j : Rat)) + cx_cc s k ρ i * cx_sm (cx_fr n) (fun j => if j = k then 0 else (s.b k j : Rat) * (a j : Rat))
            + (s.b i k : Rat) * cx_sm (cx_fr n) (fun j => (ρ j : Rat) * (a j : Rat)) := by
        rw [← cx_sm_mulL, ← cx_sm_mulL, ← cx_sm_add, ← cx_sm_add]
        refine cx_sm_congr (fun j _ => ?_)
        by_cases hj : j = k
        · subst hj; rw [if_pos rfl, if_pos rfl, if_pos rfl, h.k0, show ((0 : Nat) : Rat) = 0 from rfl]; grind
        · rw [if_neg hj, if_neg hj, if_neg hj, h.b' i j hi hj]
          have e2 : cx_th ρ k a j = a j := cx_dn_ne _ _ hj
          rw [e2]
          unfold cx_cc
          grind
      have e3 : ((- s.b i k : Int) : Rat) = - (s.b i k : Rat) := by exact_mod_cast rfl
      rw [this, e3]; grind)⟩
theorem cx_nsum_mono [Mul (cx_S Nat)] [One (cx_S Nat)] [Add (cx_S Nat)] [Zero (cx_S Nat)] [Inhabited (cx_Idx Nat)] [Inhabited (PLift cx_Natl)] {n : Nat} [Zero (cx_Ex n)] [Add (cx_Ex n)] [Mul (cx_S (cx_Ex n))] [One (cx_S (cx_Ex n))] [Add (cx_S (cx_Ex n))] [Zero (cx_S (cx_Ex n))] [Inhabited (cx_Idx (cx_Ex n))] [Inhabited (PLift (cx_Exl n))] [∀ s : cx_Sd n, Add (cx_MM s)] [∀ s : cx_Sd n, Inhabited (PLift (cx_MGl (cx_MM s)))] [∀ s : cx_Sd n, Inhabited (cx_Tord (cx_Ex n) (cx_MM s))] [Inhabited (PLift (cx_MMl n))] {f g : Fin n → Nat} (h : ∀ i, f i ≤ g i) : cx_nsum f ≤ cx_nsum g := by
  unfold cx_nsum
  generalize List.finRange n = l
  induction l with
  | nil => exact Nat.le_refl _
  | cons x l ih => rw [List.foldr_cons, List.foldr_cons]; have := h x; omega
theorem cx_nsum_mulR [Mul (cx_S Nat)] [One (cx_S Nat)] [Add (cx_S Nat)] [Zero (cx_S Nat)] [Inhabited (cx_Idx Nat)] [Inhabited (PLift cx_Natl)] {n : Nat} [Zero (cx_Ex n)] [Add (cx_Ex n)] [Mul (cx_S (cx_Ex n))] [One (cx_S (cx_Ex n))] [Add (cx_S (cx_Ex n))] [Zero (cx_S (cx_Ex n))] [Inhabited (cx_Idx (cx_Ex n))] [Inhabited (PLift (cx_Exl n))] [∀ s : cx_Sd n, Add (cx_MM s)] [∀ s : cx_Sd n, Inhabited (PLift (cx_MGl (cx_MM s)))] [∀ s : cx_Sd n, Inhabited (cx_Tord (cx_Ex n) (cx_MM s))] [Inhabited (PLift (cx_MMl n))] (f : Fin n → Nat) (c : Nat) : cx_nsum (fun i => f i * c) = cx_nsum f * c := by
  unfold cx_nsum
  generalize List.finRange n = l
  induction l with
  | nil => simp
  | cons x l ih => rw [List.foldr_cons, List.foldr_cons, ih, Nat.add_mul]
theorem cx_rw_le [Mul (cx_S Nat)] [One (cx_S Nat)] [Add (cx_S Nat)] [Zero (cx_S Nat)] [Inhabited (cx_Idx Nat)] [Inhabited (PLift cx_Natl)] {n : Nat} [Zero (cx_Ex n)] [Add (cx_Ex n)] [Mul (cx_S (cx_Ex n))] [One (cx_S (cx_Ex n))] [Add (cx_S (cx_Ex n))] [Zero (cx_S (cx_Ex n))] [Inhabited (cx_Idx (cx_Ex n))] [Inhabited (PLift (cx_Exl n))] [∀ s : cx_Sd n, Add (cx_MM s)] [∀ s : cx_Sd n, Inhabited (PLift (cx_MGl (cx_MM s)))] [∀ s : cx_Sd n, Inhabited (cx_Tord (cx_Ex n) (cx_MM s))] [Inhabited (PLift (cx_MMl n))] (ρ : Fin n → Nat) (b : cx_Ex n) : cx_rw_ ρ b ≤ cx_nsum ρ * cx_deg b := by
  unfold cx_rw_
  rw [← cx_nsum_mulR]
  exact cx_nsum_mono (fun i => Nat.mul_le_mul_left _ (by rw [cx_ex_deg]; exact cx_nsum_ge b i))
theorem cx_th_deg [Mul (cx_S Nat)] [One (cx_S Nat)] [Add (cx_S Nat)] [Zero (cx_S Nat)] [Inhabited (cx_Idx Nat)] [Inhabited (PLift cx_Natl)] {n : Nat} [Zero (cx_Ex n)] [Add (cx_Ex n)] [Mul (cx_S (cx_Ex n))] [One (cx_S (cx_Ex n))] [Add (cx_S (cx_Ex n))] [Zero (cx_S (cx_Ex n))] [Inhabited (cx_Idx (cx_Ex n))] [Inhabited (PLift (cx_Exl n))] [∀ s : cx_Sd n, Add (cx_MM s)] [∀ s : cx_Sd n, Inhabited (PLift (cx_MGl (cx_MM s)))] [∀ s : cx_Sd n, Inhabited (cx_Tord (cx_Ex n) (cx_MM s))] [Inhabited (PLift (cx_MMl n))] (ρ : Fin n → Nat) (k : Fin n) (b : cx_Ex n) : cx_deg (cx_th ρ k b) ≤ cx_deg b + cx_nsum ρ * cx_deg b := by
  have h1 : cx_deg (cx_th ρ k b) ≤ cx_deg (b + cx_nsm (cx_rw_ ρ b) (cx_ee k)) := by
    rw [cx_ex_deg, cx_ex_deg]
    refine cx_nsum_mono (fun i => ?_)
    rw [cx_ex_add, cx_ray_at]
    unfold cx_th
    by_cases hi : i = k
    · subst hi; rw [cx_dn_k, if_pos rfl]; omega
    · rw [cx_dn_ne _ _ hi]; omega
  have h2 := cx_rw_le ρ b
  rw [cx_deg_add, cx_nsm_deg, cx_ee_deg] at h1
  omega
theorem cx_th_bnd [Mul (cx_S Nat)] [One (cx_S Nat)] [Add (cx_S Nat)] [Zero (cx_S Nat)] [Inhabited (cx_Idx Nat)] [Inhabited (PLift cx_Natl)] {n : Nat} [Zero (cx_Ex n)] [Add (cx_Ex n)] [Mul (cx_S (cx_Ex n))] [One (cx_S (cx_Ex n))] [Add (cx_S (cx_Ex n))] [Zero (cx_S (cx_Ex n))] [Inhabited (cx_Idx (cx_Ex n))] [Inhabited (PLift (cx_Exl n))] [∀ s : cx_Sd n, Add (cx_MM s)] [∀ s : cx_Sd n, Inhabited (PLift (cx_MGl (cx_MM s)))] [∀ s : cx_Sd n, Inhabited (cx_Tord (cx_Ex n) (cx_MM s))] [Inhabited (PLift (cx_MMl n))] (ρ : Fin n → Nat) (k : Fin n) (T : cx_Ex n → Prop) : cx_Bnd T (cx_th ρ k) := fun d' => ⟨d' + cx_nsum ρ * d', fun b _ hb => by
  have h1 := cx_th_deg ρ k b
  have h2 := Nat.mul_le_mul_left (cx_nsum ρ) hb
  omega⟩
end
