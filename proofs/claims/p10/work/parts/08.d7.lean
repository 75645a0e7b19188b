def cx_IncTo {B : Type} [Zero B] [Add B] [Mul (cx_S B)] [One (cx_S B)] [Add (cx_S B)] [Zero (cx_S B)] [Inhabited (cx_Idx B)] {M : Type} [Add M] [Inhabited (PLift (cx_MGl M))] [Inhabited (cx_Tord B M)] (D0 : Nat) (g : M → cx_S B) (cx_std : B → Rat) : Prop := ∀ a, a ≠ 0 → cx_deg a ≤ D0 → ∀ t, cx_Gen (cx_Par a) (cx_deg a) t → cx_Cmp M a t → ∀ f, cx_Lam g a (cx_deg a) t f → f a = cx_std a
theorem cx_Lam.eqd {B : Type} [Zero B] [Add B] [Mul (cx_S B)] [One (cx_S B)] [Add (cx_S B)] [Zero (cx_S B)] [Inhabited (cx_Idx B)] {M : Type} [Add M] [Inhabited (PLift (cx_MGl M))] [Inhabited (cx_Tord B M)] {g g' : M → cx_S B} {a : B} {d : Nat} {t f : B → Rat} (l : cx_Lam g a d t f) (h : cx_Eqd d g g') : cx_Lam g' a d t f := by
  obtain ⟨ord, wp, wm, hr, hf⟩ := l
  exact ⟨ord, wp, wm, hr, ⟨hf.pos, hf.nul, hf.neg, h.symm.trans hf.eq⟩⟩
theorem cx_inc_unique {B : Type} [Zero B] [Add B] [Mul (cx_S B)] [One (cx_S B)] [Add (cx_S B)] [Zero (cx_S B)] [Inhabited (cx_Idx B)] {M : Type} [Add M] [Inhabited (PLift (cx_MGl M))] [Inhabited (cx_Tord B M)] {Z : M → Prop} {g g' : M → cx_S B} (h : cx_Wh Z g) (h' : cx_Wh Z g') {cx_std : B → Rat} (hi : cx_Inc g cx_std) (hi' : cx_Inc g' cx_std) : g = g' := by
  classical
  have main : ∀ n, ∀ b : B, cx_deg b < n → ∀ m, g m b = g' m b := by
    intro n
    induction n with
    | zero => intro b h; omega
    | succ n ih =>
      intro b hbn m
      by_cases hb : b = 0
      · rw [hb, h.good.unit, h'.good.unit]
      obtain ⟨t, gt, ct⟩ := cx_gen_cmp0 (M := M) hb (cx_deg b)
      obtain ⟨f, lf, _⟩ := cx_Lam.exists h gt
      obtain ⟨f', lf', _⟩ := cx_Lam.exists h' gt
      have e := cx_lam_shift hb gt lf lf' (fun m c hc => ih c (by omega) m) m
      rw [hi b hb t gt ct f lf, hi' b hb t gt ct f' lf'] at e
      grind
  funext m
  refine cx_S.ext (fun b => ?_)
  exact main (cx_deg b + 1) b (Nat.lt_succ_self _) m
theorem cx_nf_single {B : Type} [Zero B] [Add B] [Mul (cx_S B)] [One (cx_S B)] [Add (cx_S B)] [Zero (cx_S B)] [Inhabited (cx_Idx B)] {M : Type} [Add M] [Inhabited (PLift (cx_MGl M))] [Inhabited (cx_Tord B M)] {ord : List B} (hn : ord.Nodup) (h0 : ∀ x ∈ ord, x ≠ 0) {k : B} (hk : k ∈ ord) (q : Rat) :
    (cx_nf ord (fun x => @ite _ (x = k) (Classical.propDecidable _) q 0) : M → cx_S B) = cx_E k q := by
  classical
  induction ord with
  | nil => simp at hk
  | cons x l ih =>
    rw [List.nodup_cons] at hn
    rw [cx_nf_cons]
    by_cases hx : x = k
    · subst hx
      rw [if_pos rfl]
      have : (cx_nf l (fun y => if y = x then q else 0) : M → cx_S B) = cx_nf l (fun _ => 0) := cx_nf_congr (fun y hy => if_neg (fun e => by subst e; exact hn.1 hy))
      rw [this, cx_nf_zero (fun y hy => h0 y (by simp [hy])), cx_comp_I]
    · rw [if_neg hx, cx_E_zero (h0 x (by simp)), cx_I_comp]
      refine ih hn.2 (fun y hy => h0 y (by simp [hy])) ?_
      rcases List.mem_cons.1 hk with h | h
      · exact absurd h.symm hx
      · exact h
theorem cx_lam_none_ord {B : Type} [Zero B] [Add B] [Mul (cx_S B)] [One (cx_S B)] [Add (cx_S B)] [Zero (cx_S B)] [Inhabited (cx_Idx B)] {M : Type} [Add M] [Inhabited (PLift (cx_MGl M))] [Inhabited (cx_Tord B M)] {g : M → cx_S B} {a : B} {t : B → Rat} (gt : cx_Gen (cx_Par a) (cx_deg a) t) {wp wm : List (B × Rat)} (hf : cx_Fac t cx_All (cx_deg a) g wp [] wm) : cx_Lam g a (cx_deg a) t (fun _ => 0) := by
  obtain ⟨ord, hn, hm⟩ := cx_exists_list (B := B) (cx_deg a) (cx_Par a)
  refine ⟨ord, wp, wm, ⟨hn, hm⟩, hf.word ⟨fun x hx => ?_⟩ ?_⟩
  · obtain ⟨y, hy, rfl⟩ := List.mem_map.1 hx
    have := (hm y).1 hy
    exact ⟨this.1, ⟨trivial, (gt.z y this.1 this.2.1).2 this.2.2⟩, this.2.1⟩
  · have : (cx_ev (ord.map fun x => (x, (fun _ => (0 : Rat)) x)) : M → cx_S B) = cx_I := cx_nf_zero (fun x hx => ((hm x).1 hx).1)
    rw [this, cx_ev_nil]; exact cx_Eqd.rfl'
theorem cx_sup_fac {B : Type} [Zero B] [Add B] [Mul (cx_S B)] [One (cx_S B)] [Add (cx_S B)] [Zero (cx_S B)] [Inhabited (cx_Idx B)] {M : Type} [Add M] [Inhabited (PLift (cx_MGl M))] [Inhabited (cx_Tord B M)] {k : B} {q : Rat} {v v2 cx_dl : B → Rat} {Z : M → Prop} (hk : cx_Kd M k q v v2 cx_dl) (hZ : ∀ (m : M) (u : B), Z m → Z (m + cx_p u)) {h : M → cx_S B} (gh : cx_Good h) (cx_sh : cx_Sup (cx_Sv cx_dl v) h) (wh : ∀ d, cx_Whole d Z h)
    {a : B} (ha0 : a ≠ 0) (ha : ¬ (0 < cx_dl a ∧ 0 ≤ v a)) {t : B → Rat} (gt : cx_Gen (cx_Par a) (cx_deg a) t) :
    ∃ wp wm, cx_Lt (fun b => 0 < t b) (cx_deg a) wp ∧ cx_Lt (fun b => t b < 0) (cx_deg a) wm ∧ cx_Eqd (cx_deg a) h (cx_comp (cx_ev wp) (cx_ev wm)) := by
  obtain ⟨wp, w0, wm, hf, _⟩ := cx_Fac.exists (t := t) (cx_Sv.clo hk.fd hk.fv) (fun m u hm _ => hZ m u hm) gh cx_sh wh (cx_deg a)
  have h0 : w0 = [] := by
    cases w0 with
    | nil => rfl
    | cons x l =>
      exfalso
      have := hf.nul.all x (by simp)
      have hp := (gt.z x.1 this.1 this.2.2).1 this.2.1.2
      have h1 := this.2.1.1
      refine ha ⟨?_, ?_⟩
      · have e := hp cx_dl hk.fd
        by_cases h2 : 0 < cx_dl a
        · exact h2
        · have h3 : cx_dl a = 0 := by have := hk.dl0 a; grind
          rw [h3, Rat.zero_mul] at e
          have := Rat.mul_pos h1.1 (cx_dg_pos ha0)
          grind
      · have e := hp v hk.fv
        by_cases h2 : 0 ≤ v a
        · exact h2
        · have h3 := Rat.mul_pos (by grind : 0 < - v a) (cx_dg_pos this.1)
          have h4 := Rat.mul_nonneg h1.2 (by have := cx_dg_pos ha0; grind : 0 ≤ cx_dg a)
          grind
  subst h0
  refine ⟨wp, wm, hf.pos.mono (fun _ h => h.2) (Nat.le_refl _), hf.neg.mono (fun _ h => h.2) (Nat.le_refl _), ?_⟩
  have := hf.eq
  rw [cx_ev_nil, cx_I_comp] at this
  exact this
theorem cx_deg_ge {B : Type} [Zero B] [Add B] [Mul (cx_S B)] [One (cx_S B)] [Add (cx_S B)] [Zero (cx_S B)] [Inhabited (cx_Idx B)] {M : Type} [Add M] [Inhabited (PLift (cx_MGl M))] [Inhabited (cx_Tord B M)] {k : B} {q : Rat} {v v2 cx_dl : B → Rat} (hk : cx_Kd M k q v v2 cx_dl) {a : B} (ha : a ≠ 0) : cx_deg k ≤ cx_deg a := by
  have : cx_deg a ≠ 0 := fun e => ha (cx_deg_pos a e)
  rw [hk.dk]; omega
theorem cx_auto1 {B : Type} [Zero B] [Add B] [Mul (cx_S B)] [One (cx_S B)] [Add (cx_S B)] [Zero (cx_S B)] [Inhabited (cx_Idx B)] {M : Type} [Add M] [Inhabited (PLift (cx_MGl M))] [Inhabited (cx_Tord B M)] {k : B} {q : Rat} {v v2 cx_dl : B → Rat} {Z : M → Prop} (hk : cx_Kd M k q v v2 cx_dl) (hZ : ∀ (m : M) (u : B), Z m → Z (m + cx_p u)) {h h2 : M → cx_S B} (hp : cx_Pair k q v v2 cx_dl Z h h2)
    {a : B} (ha0 : a ≠ 0) (ha : ¬ (0 < cx_dl a ∧ 0 ≤ v a)) {t : B → Rat} (gt : cx_Gen (cx_Par a) (cx_deg a) t) (htk : 0 < t k) {f : B → Rat} (l : cx_Lam (cx_comp (cx_E k q) h) a (cx_deg a) t f) : f a = 0 := by
  obtain ⟨wp, wm, h1, h2, h3⟩ := cx_sup_fac hk hZ hp.gh hp.sh hp.wh ha0 ha gt
  have hf : cx_Fac t cx_All (cx_deg a) (cx_comp (cx_E k q) h) ((k, q) :: wp) [] wm := by
    refine ⟨⟨fun x hx => ?_⟩, ⟨fun x hx => by simp at hx⟩, h2.mono (fun _ h => ⟨trivial, h⟩) (Nat.le_refl _), ?_⟩
    · rcases List.mem_cons.1 hx with rfl | hx
      · exact ⟨hk.k0, ⟨trivial, htk⟩, cx_deg_ge hk ha0⟩
      · have := h1.all x hx; exact ⟨this.1, ⟨trivial, this.2.1⟩, this.2.2⟩
    · rw [cx_ev_nil, cx_I_comp, cx_ev_cons, cx_comp_assoc]
      exact cx_Eqd.comp cx_Eqd.rfl' h3
  exact l.unique ha0 gt.f (cx_lam_none_ord gt hf) cx_Eqd.rfl' a ha0 (Nat.le_refl _) (cx_Par.refl a)
theorem cx_auto2 {B : Type} [Zero B] [Add B] [Mul (cx_S B)] [One (cx_S B)] [Add (cx_S B)] [Zero (cx_S B)] [Inhabited (cx_Idx B)] {M : Type} [Add M] [Inhabited (PLift (cx_MGl M))] [Inhabited (cx_Tord B M)] {k : B} {q : Rat} {v v2 cx_dl : B → Rat} {Z : M → Prop} (hk : cx_Kd M k q v v2 cx_dl) (hZ : ∀ (m : M) (u : B), Z m → Z (m + cx_p u)) {h h2 : M → cx_S B} (hp : cx_Pair k q v v2 cx_dl Z h h2)
    {a : B} (ha0 : a ≠ 0) (ha : ¬ (0 < cx_dl a ∧ 0 ≤ v2 a)) {t : B → Rat} (gt : cx_Gen (cx_Par a) (cx_deg a) t) (htk : t k < 0) {f : B → Rat} (l : cx_Lam (cx_comp (cx_E k q) h) a (cx_deg a) t f) : f a = 0 := by
  obtain ⟨wp, wm, h1, h2, h3⟩ := cx_sup_fac hk.flip hZ hp.gh2 hp.sh2 hp.wh2 ha0 ha gt
  have hf : cx_Fac t cx_All (cx_deg a) (cx_comp (cx_E k q) h) wp [] (wm ++ [(k, q)]) := by
    refine ⟨h1.mono (fun _ h => ⟨trivial, h⟩) (Nat.le_refl _), ⟨fun x hx => by simp at hx⟩, ⟨fun x hx => ?_⟩, ?_⟩
    · rcases List.mem_append.1 hx with hx | hx
      · have := h2.all x hx; exact ⟨this.1, ⟨trivial, this.2.1⟩, this.2.2⟩
      · have : x = (k, q) := by simpa using hx
        subst this
        exact ⟨hk.k0, ⟨trivial, htk⟩, cx_deg_ge hk ha0⟩
    · rw [cx_ev_nil, cx_I_comp, cx_ev_append, cx_ev_one, hp.cj, ← cx_comp_assoc]
      exact cx_Eqd.comp h3 cx_Eqd.rfl'
  exact l.unique ha0 gt.f (cx_lam_none_ord gt hf) cx_Eqd.rfl' a ha0 (Nat.le_refl _) (cx_Par.refl a)
theorem cx_auto0 {B : Type} [Zero B] [Add B] [Mul (cx_S B)] [One (cx_S B)] [Add (cx_S B)] [Zero (cx_S B)] [Inhabited (cx_Idx B)] {M : Type} [Add M] [Inhabited (PLift (cx_MGl M))] [Inhabited (cx_Tord B M)] {k : B} {q : Rat} {v v2 cx_dl : B → Rat} {Z : M → Prop} (hk : cx_Kd M k q v v2 cx_dl) {h h2 : M → cx_S B} (hp : cx_Pair k q v v2 cx_dl Z h h2)
    {a : B} (ha0 : a ≠ 0) (ha : cx_dl a = 0) {t : B → Rat} (gt : cx_Gen (cx_Par a) (cx_deg a) t) {f : B → Rat} (l : cx_Lam (cx_comp (cx_E k q) h) a (cx_deg a) t f) : f a = @ite _ (a = k) (Classical.propDecidable _) q 0 := by
  classical
  obtain ⟨j, hj⟩ := hk.ray a ha
  have hj0 : (j : Rat) ≠ 0 := fun e => ha0 (by have : j = 0 := by exact_mod_cast e
                                               rw [hj, this]; rfl)
  have hpk : cx_Par a k := by
    intro w hw
    have e1 : w a = j * w k := by rw [hj]; exact hw.nsm j k
    have e2 : cx_dg a = j * cx_dg k := by rw [hj]; exact cx_fun_dg.nsm j k
    rw [e1, e2]; grind
  have ray_of : ∀ x, cx_Par a x → cx_dl x = 0 := fun x hx => hx.zero ha0 hk.fd ha
  have htk : t k = 0 := (gt.z k hk.k0 (cx_deg_ge hk ha0)).2 hpk
  obtain ⟨ord, wp, wm, hr, hf⟩ := l
  have off : ∀ x : B, t x ≠ 0 → 0 < cx_dl x := by
    intro x hx
    by_cases h1 : 0 < cx_dl x
    · exact h1
    · obtain ⟨i, hi⟩ := hk.ray x (by have := hk.dl0 x; grind)
      rw [hi, gt.f.nsm, htk, Rat.mul_zero] at hx
      exact absurd rfl hx
  have cx_rp : cx_Rqd k (cx_deg a) (cx_ev wp : M → cx_S B) cx_I := cx_ev_off_ray hk (fun x hx => off _ (by have := (hf.pos.all x hx).2.1.2; grind)) _
  have cx_rm : cx_Rqd k (cx_deg a) (cx_ev wm : M → cx_S B) cx_I := cx_ev_off_ray hk (fun x hx => off _ (by have := (hf.neg.all x hx).2.1.2; grind)) _
  have rh : cx_Rqd k (cx_deg a) h cx_I := by
    intro m i hi
    by_cases h0 : cx_nsm i k = 0
    · rw [h0, hp.gh.unit]; exact cx_one_zero.symm
    · rw [hp.sh m _ h0 (fun hs => by have := hs.1; rw [hk.fd.nsm, hk.dlk, Rat.mul_zero] at this; grind)]
      exact (cx_one_ne h0).symm
  have e0 : cx_Eqd (cx_deg a) (cx_nf ord f : M → cx_S B) (cx_E k q) := by
    intro m b hb
    by_cases hbr : cx_dl b = 0
    · obtain ⟨i, rfl⟩ := hk.ray b hbr
      have h1 := cx_Rqd.comp hk cx_rp (cx_Rqd.comp hk (fun _ _ _ => rfl : cx_Rqd k (cx_deg a) (cx_nf ord f : M → cx_S B) (cx_nf ord f)) cx_rm) m i hb
      rw [cx_I_comp, cx_comp_I] at h1
      rw [← h1]
      have h2 := hf.eq m (cx_nsm i k) hb
      have h3 : cx_comp (cx_ev wp) (cx_comp (cx_nf ord f) (cx_ev wm)) m (cx_nsm i k) = cx_comp (cx_E k q) h m (cx_nsm i k) := h2.symm
      rw [h3]
      have h4 := cx_Rqd.comp hk (fun _ _ _ => rfl : cx_Rqd k (cx_deg a) (cx_E k q : M → cx_S B) (cx_E k q)) rh m i hb
      rw [cx_comp_I] at h4
      exact h4
    · have hb0 : b ≠ 0 := fun e => hbr (by rw [e]; exact hk.fd.zero)
      have h1 : (cx_nf ord f : M → cx_S B) m b = 0 := cx_nf_sup (cx_Par.clo a) (fun x hx => ((hr.mem x).1 hx).2.2) f m b hb0 (fun h => hbr (ray_of b h))
      rw [h1]
      refine (cx_sub_off _ (fun i e => hbr ?_)).symm
      rw [← e, hk.fd.nsm, hk.dlk, Rat.mul_zero]
  have hnz : ∀ x ∈ ord, x ≠ 0 := fun x hx => ((hr.mem x).1 hx).1
  rw [← cx_nf_single hr.nodup hnz ((hr.mem k).2 ⟨hk.k0, cx_deg_ge hk ha0, hpk⟩) q] at e0
  have := cx_nf_unique (M := M) hr.nodup hnz e0 a ((hr.mem a).2 ⟨ha0, Nat.le_refl _, cx_Par.refl a⟩) (Nat.le_refl _)
  exact this
abbrev cx_Std {B : Type} [Zero B] [Add B] [Mul (cx_S B)] [One (cx_S B)] [Add (cx_S B)] [Zero (cx_S B)] [Inhabited (cx_Idx B)] (M : Type) [Add M] [Inhabited (PLift (cx_MGl M))] [Inhabited (cx_Tord B M)] (k : B) (q : Rat) (v v2 cx_dl : B → Rat) (Z : M → Prop) (cx_std : B → Rat) : Prop := (∀ a, a ≠ 0 → cx_dl a = 0 → cx_std a = @ite _ (a = k) (Classical.propDecidable _) q 0) ∧ (∀ a, 0 < cx_dl a → cx_std a ≠ 0 → 0 ≤ v a ∧ 0 ≤ v2 a) ∧ (∀ a, cx_Wl Z (a, cx_std a)) ∧ (∀ (m : M) (u : B), Z m → Z (m + cx_p u)) ∧ (∀ u : B, Z (cx_p u)) ∧ (cx_Wl Z (k, q)) ∧ (0 < q)
theorem cx_Std.ray {B : Type} [Zero B] [Add B] [Mul (cx_S B)] [One (cx_S B)] [Add (cx_S B)] [Zero (cx_S B)] [Inhabited (cx_Idx B)] {M : Type} [Add M] [Inhabited (PLift (cx_MGl M))] [Inhabited (cx_Tord B M)] {k : B} {q : Rat} {v v2 cx_dl : B → Rat} {Z : M → Prop} {cx_std : B → Rat} (hh_ : cx_Std M k q v v2 cx_dl Z cx_std) : ∀ a, a ≠ 0 → cx_dl a = 0 → cx_std a = @ite _ (a = k) (Classical.propDecidable _) q 0 := hh_.1
theorem cx_Std.off {B : Type} [Zero B] [Add B] [Mul (cx_S B)] [One (cx_S B)] [Add (cx_S B)] [Zero (cx_S B)] [Inhabited (cx_Idx B)] {M : Type} [Add M] [Inhabited (PLift (cx_MGl M))] [Inhabited (cx_Tord B M)] {k : B} {q : Rat} {v v2 cx_dl : B → Rat} {Z : M → Prop} {cx_std : B → Rat} (hh_ : cx_Std M k q v v2 cx_dl Z cx_std) : ∀ a, 0 < cx_dl a → cx_std a ≠ 0 → 0 ≤ v a ∧ 0 ≤ v2 a := hh_.2.1
theorem cx_Std.wl {B : Type} [Zero B] [Add B] [Mul (cx_S B)] [One (cx_S B)] [Add (cx_S B)] [Zero (cx_S B)] [Inhabited (cx_Idx B)] {M : Type} [Add M] [Inhabited (PLift (cx_MGl M))] [Inhabited (cx_Tord B M)] {k : B} {q : Rat} {v v2 cx_dl : B → Rat} {Z : M → Prop} {cx_std : B → Rat} (hh_ : cx_Std M k q v v2 cx_dl Z cx_std) : ∀ a, cx_Wl Z (a, cx_std a) := hh_.2.2.1
theorem cx_Std.hZ {B : Type} [Zero B] [Add B] [Mul (cx_S B)] [One (cx_S B)] [Add (cx_S B)] [Zero (cx_S B)] [Inhabited (cx_Idx B)] {M : Type} [Add M] [Inhabited (PLift (cx_MGl M))] [Inhabited (cx_Tord B M)] {k : B} {q : Rat} {v v2 cx_dl : B → Rat} {Z : M → Prop} {cx_std : B → Rat} (hh_ : cx_Std M k q v v2 cx_dl Z cx_std) : ∀ (m : M) (u : B), Z m → Z (m + cx_p u) := hh_.2.2.2.1
theorem cx_Std.hp {B : Type} [Zero B] [Add B] [Mul (cx_S B)] [One (cx_S B)] [Add (cx_S B)] [Zero (cx_S B)] [Inhabited (cx_Idx B)] {M : Type} [Add M] [Inhabited (PLift (cx_MGl M))] [Inhabited (cx_Tord B M)] {k : B} {q : Rat} {v v2 cx_dl : B → Rat} {Z : M → Prop} {cx_std : B → Rat} (hh_ : cx_Std M k q v v2 cx_dl Z cx_std) : ∀ u : B, Z (cx_p u) := hh_.2.2.2.2.1
theorem cx_Std.hk {B : Type} [Zero B] [Add B] [Mul (cx_S B)] [One (cx_S B)] [Add (cx_S B)] [Zero (cx_S B)] [Inhabited (cx_Idx B)] {M : Type} [Add M] [Inhabited (PLift (cx_MGl M))] [Inhabited (cx_Tord B M)] {k : B} {q : Rat} {v v2 cx_dl : B → Rat} {Z : M → Prop} {cx_std : B → Rat} (hh_ : cx_Std M k q v v2 cx_dl Z cx_std) : cx_Wl Z (k, q) := hh_.2.2.2.2.2.1
theorem cx_Std.q0 {B : Type} [Zero B] [Add B] [Mul (cx_S B)] [One (cx_S B)] [Add (cx_S B)] [Zero (cx_S B)] [Inhabited (cx_Idx B)] {M : Type} [Add M] [Inhabited (PLift (cx_MGl M))] [Inhabited (cx_Tord B M)] {k : B} {q : Rat} {v v2 cx_dl : B → Rat} {Z : M → Prop} {cx_std : B → Rat} (hh_ : cx_Std M k q v v2 cx_dl Z cx_std) : 0 < q := hh_.2.2.2.2.2.2
theorem cx_pair_wh {B : Type} [Zero B] [Add B] [Mul (cx_S B)] [One (cx_S B)] [Add (cx_S B)] [Zero (cx_S B)] [Inhabited (cx_Idx B)] {M : Type} [Add M] [Inhabited (PLift (cx_MGl M))] [Inhabited (cx_Tord B M)] {k : B} {q : Rat} {v v2 cx_dl : B → Rat} {Z : M → Prop} {cx_std : B → Rat} (hs : cx_Std M k q v v2 cx_dl Z cx_std) (hk : cx_Kd M k q v v2 cx_dl) {h h2 : M → cx_S B} (hp : cx_Pair k q v v2 cx_dl Z h h2) : cx_Wh Z (cx_comp (cx_E k q) h) :=
  ⟨(cx_E_good hk.k0 q).comp hp.gh, hs.hZ, hs.hp, fun d => cx_whole_comp hs.hZ (cx_E_whole hs.hk d) (hp.wh d)⟩
theorem cx_pair_step {B : Type} [Zero B] [Add B] [Mul (cx_S B)] [One (cx_S B)] [Add (cx_S B)] [Zero (cx_S B)] [Inhabited (cx_Idx B)] {M : Type} [Add M] [Inhabited (PLift (cx_MGl M))] [Inhabited (cx_Tord B M)] {k : B} {q : Rat} {v v2 cx_dl : B → Rat} {Z : M → Prop} {cx_std : B → Rat} (hs : cx_Std M k q v v2 cx_dl Z cx_std) (hk : cx_Kd M k q v v2 cx_dl) {h h2 : M → cx_S B} (hp : cx_Pair k q v v2 cx_dl Z h h2) {D0 : Nat} (hi : cx_IncTo D0 (cx_comp (cx_E k q) h) cx_std) :
    ∃ h' h2', cx_Pair k q v v2 cx_dl Z h' h2' ∧ cx_Eqd D0 h h' ∧ cx_Eqd D0 h2 h2' ∧ cx_IncTo (D0 + 1) (cx_comp (cx_E k q) h') cx_std := by
  classical
  have hw := cx_pair_wh hs hk hp
  generalize hg : cx_comp (cx_E k q) h = g at hi hw

  have ex : ∀ b : B, ∃ c : Rat, b ≠ 0 → cx_Wl Z (b, c) ∧ ∀ t, cx_Gen (cx_Par b) (cx_deg b) t → cx_Cmp M b t → ∀ f, cx_Lam g b (cx_deg b) t f → f b = c := by
    intro b
    by_cases hb : b = 0
    · exact ⟨0, fun h => absurd hb h⟩
    obtain ⟨t, gt, ct⟩ := cx_gen_cmp0 (M := M) hb (cx_deg b)
    obtain ⟨f, lf, wf⟩ := cx_Lam.exists hw gt
    exact ⟨f b, fun _ => ⟨wf b hb (Nat.le_refl _) (cx_Par.refl b), fun t' gt' ct' f' lf' => cx_indep hw hb gt ct lf t' gt' ct' f' lf'⟩⟩
  obtain ⟨lam, hlam⟩ := Classical.axiomOfChoice ex
  let c : B → Rat := fun b => cx_std b - lam b
  have gen : ∀ b, b ≠ 0 → c b ≠ 0 → 0 < cx_dl b ∧ ((0 ≤ v b ∧ 0 ≤ q * cx_pr k (cx_p b : M)) ∨ (0 ≤ v2 b ∧ q * cx_pr k (cx_p b : M) ≤ 0)) := by
    intro b hb hc
    have hl := (hlam b hb).2
    by_cases hd : cx_dl b = 0
    · exfalso
      apply hc
      obtain ⟨t, gt, ct⟩ := cx_gen_cmp0 (M := M) hb (cx_deg b)
      obtain ⟨f, lf, _⟩ := cx_Lam.exists hw gt
      have h1 := hl t gt ct f lf
      rw [← hg] at lf
      have h2 := cx_auto0 hk hp hb hd gt lf
      show cx_std b - lam b = 0
      rw [hs.ray b hb hd, ← h1, h2]; grind
    · have hd' : 0 < cx_dl b := by have := hk.dl0 b; grind
      refine ⟨hd', ?_⟩
      have hnp : ¬ cx_Par b k := fun h => hd (by
        have e := h cx_dl hk.fd
        rw [hk.dlk, Rat.zero_mul] at e
        rcases Rat.mul_eq_zero.1 e.symm with h | h
        · exact h
        · have := cx_dg_pos hk.k0; grind)
      by_cases hr : 0 ≤ cx_pr k (cx_p b : M)
      · by_cases hv : 0 ≤ v b
        · exact .inl ⟨hv, Rat.mul_nonneg (by have := hs.q0; grind) hr⟩
        · exfalso
          apply hc
          have hlz : lam b = 0 := by
            obtain ⟨t, gt, ct, tk⟩ := cx_gen_cmp (M := M) hb (cx_deg b) k hnp 1 (.inl rfl) (by grind)
            obtain ⟨f, lf, _⟩ := cx_Lam.exists hw gt
            rw [← hl t gt ct f lf]
            rw [← hg] at lf
            exact cx_auto1 hk hs.hZ hp hb (fun h => hv h.2) gt (by grind) lf
          have hsz : cx_std b = 0 := Classical.byContradiction (fun h => hv (hs.off b hd' h).1)
          show cx_std b - lam b = 0
          rw [hlz, hsz]; grind
      · by_cases hv : 0 ≤ v2 b
        · refine .inr ⟨hv, ?_⟩
          have := Rat.mul_pos hs.q0 (by grind : 0 < - cx_pr k (cx_p b : M)); grind
        · exfalso
          apply hc
          have hlz : lam b = 0 := by
            obtain ⟨t, gt, ct, tk⟩ := cx_gen_cmp (M := M) hb (cx_deg b) k hnp (-1) (.inr rfl) (by grind)
            obtain ⟨f, lf, _⟩ := cx_Lam.exists hw gt
            rw [← hl t gt ct f lf]
            rw [← hg] at lf
            exact cx_auto2 hk hs.hZ hp hb (fun h => hv h.2) gt (by grind) lf
          have hsz : cx_std b = 0 := Classical.byContradiction (fun h => hv (hs.off b hd' h).2)
          show cx_std b - lam b = 0
          rw [hlz, hsz]; grind
  have wlc : ∀ b, b ≠ 0 → cx_Wl Z (b, c b) := by
    intro b hb
    have h1 := cx_Wl.add (hs.wl b) (cx_wl_neg (hlam b hb).1)
    have : c b = cx_std b + - lam b := by show cx_std b - lam b = _; grind
    rw [this]; exact h1

  have put : ∀ l : List B, l.Nodup → (∀ b ∈ l, cx_deg b = D0 + 1) → ∃ h' h2' : M → cx_S B, cx_Pair k q v v2 cx_dl Z h' h2' ∧ cx_Eqd D0 h h' ∧ cx_Eqd D0 h2 h2' ∧
      ∀ (m : M) (b : B), cx_deg b = D0 + 1 → h' m b = h m b + (if b ∈ l then c b else 0) * cx_pr b m := by
    intro l
    induction l with
    | nil => intro _ _; exact ⟨h, h2, hp, cx_Eqd.rfl', cx_Eqd.rfl', fun m b _ => by simp; grind⟩
    | cons x l ih =>
      intro hn hl
      rw [List.nodup_cons] at hn
      obtain ⟨h1, h3, hp1, he1, he3, hc1⟩ := ih hn.2 (fun b hb => hl b (by simp [hb]))
      have hdx := hl x (by simp)
      have hx : x ≠ 0 := fun e => by rw [e, cx_deg_zero] at hdx; omega
      by_cases hcx : c x = 0
      · refine ⟨h1, h3, hp1, he1, he3, fun m b hb => ?_⟩
        rw [hc1 m b hb]
        by_cases hbx : b = x
        · subst hbx
          rw [if_neg hn.1, if_pos (by simp), hcx]
        · by_cases hbl : b ∈ l
          · rw [if_pos hbl, if_pos (by simp [hbl])]
          · rw [if_neg hbl, if_neg (by simp [hbx, hbl])]
      · obtain ⟨hd, hg2⟩ := gen x hx hcx
        obtain ⟨u, u2, hpu, lu, lu2⟩ := cx_pair_gen hk hs.hZ hs.hk hd hg2 (wlc x hx)
        rw [hdx] at lu lu2
        refine ⟨cx_comp h1 u, cx_comp h3 u2, hp1.comp hk hs.hZ hpu, ?_, ?_, ?_⟩
        · intro m b hb
          rw [lu.right (by omega) hp1.gh m b (by omega), if_neg (by omega), he1 m b hb]; grind
        · intro m b hb
          rw [lu2.right (by omega) hp1.gh2 m b (by omega), if_neg (by omega), he3 m b hb]; grind
        · intro m b hb
          rw [lu.right (by omega) hp1.gh m b (by omega), if_pos hb, hc1 m b hb]
          by_cases hbx : b = x
          · subst hbx
            rw [if_pos rfl, if_neg hn.1, if_pos (by simp)]; grind
          · rw [if_neg hbx]
            by_cases hbl : b ∈ l
            · rw [if_pos hbl, if_pos (by simp [hbl])]; grind
            · rw [if_neg hbl, if_neg (by simp [hbx, hbl])]; grind
  obtain ⟨h', h2', hp', he, he2, hc'⟩ := put (cx_lev (D0 + 1)) (cx_nodup_lev _) (fun b hb => (cx_mem_lev _ b).1 hb)
  refine ⟨h', h2', hp', he, he2, ?_⟩
  have hw' := cx_pair_wh hs hk hp'
  have heg : cx_Eqd D0 g (cx_comp (cx_E k q) h') := by rw [← hg]; exact cx_Eqd.comp cx_Eqd.rfl' he
  intro a ha hda t gt ct f lf
  by_cases hlow : cx_deg a ≤ D0
  · exact hi a ha hlow t gt ct f (lf.eqd (heg.mono hlow).symm)
  · have hda : cx_deg a = D0 + 1 := by omega
    obtain ⟨f0, lf0, _⟩ := cx_Lam.exists hw gt
    have h1 := (hlam a ha).2 t gt ct f0 lf0
    obtain ⟨m, hm⟩ := cx_sep (M := M) a ha
    have e := cx_lam_shift ha gt lf lf0 (fun m b hb => (heg m b (by omega)).symm) m
    have e2 : cx_comp (cx_E k q) h' m a - g m a = c a * cx_pr a m := by
      rw [← hg, cx_comp_top (fun _ _ _ => rfl) (fun m b hb => (he m b (by omega)).symm) (cx_E_good hk.k0 q).unit (cx_E_good hk.k0 q).unit hp'.gh.unit hp.gh.unit ha hda m, hc' m a hda, if_pos ((cx_mem_lev _ a).2 hda)]
      grind
    rw [e2, hm, h1] at e
    have : c a = cx_std a - lam a := rfl
    grind
theorem cx_good_lim {B : Type} [Zero B] [Add B] [Mul (cx_S B)] [One (cx_S B)] [Add (cx_S B)] [Zero (cx_S B)] [Inhabited (cx_Idx B)] {M : Type} [Add M] [Inhabited (PLift (cx_MGl M))] [Inhabited (cx_Tord B M)] {g : M → cx_S B} (h : ∀ d, ∃ g', cx_Good g' ∧ cx_Eqd d g g') : cx_Good g := ⟨(fun m k => by
    refine cx_S.ext (fun b => ?_)
    obtain ⟨g', gg, he⟩ := h (cx_deg b)
    rw [he _ b (Nat.le_refl _), gg.hom, cx_mul_D, cx_mul_D]
    refine cx_D_congr (fun u s hus => ?_)
    have hd := cx_deg_add u s
    rw [hus] at hd
    rw [he m u (by omega), he k s (by omega)]),
  (fun m => by
    obtain ⟨g', gg, he⟩ := h 0
    rw [he m 0 (by rw [cx_deg_zero]; omega), gg.unit]),
  (fun m k b => by
    obtain ⟨g', gg, he⟩ := h (cx_deg b)
    rw [← gg.poi m k b]
    refine cx_D_congr (fun u s hus => ?_)
    have hd := cx_deg_add u s
    rw [hus] at hd
    rw [he m u (by omega), he k s (by omega)])⟩
theorem cx_eqd_all {B : Type} [Zero B] [Add B] [Mul (cx_S B)] [One (cx_S B)] [Add (cx_S B)] [Zero (cx_S B)] [Inhabited (cx_Idx B)] {M : Type} [Add M] [Inhabited (PLift (cx_MGl M))] [Inhabited (cx_Tord B M)] {g g' : M → cx_S B} (h : ∀ d, cx_Eqd d g g') : g = g' := by
  funext m
  refine cx_S.ext (fun b => ?_)
  exact h (cx_deg b) m b (Nat.le_refl _)
theorem cx_pair_exists {B : Type} [Zero B] [Add B] [Mul (cx_S B)] [One (cx_S B)] [Add (cx_S B)] [Zero (cx_S B)] [Inhabited (cx_Idx B)] {M : Type} [Add M] [Inhabited (PLift (cx_MGl M))] [Inhabited (cx_Tord B M)] {k : B} {q : Rat} {v v2 cx_dl : B → Rat} {Z : M → Prop} {cx_std : B → Rat} (hs : cx_Std M k q v v2 cx_dl Z cx_std) (hk : cx_Kd M k q v v2 cx_dl) :
    ∃ h h2 : M → cx_S B, cx_Pair k q v v2 cx_dl Z h h2 ∧ cx_Inc (cx_comp (cx_E k q) h) cx_std := by
  classical
  let P : Nat → Type := fun d => { x : (M → cx_S B) × (M → cx_S B) // cx_Pair k q v v2 cx_dl Z x.1 x.2 ∧ cx_IncTo d (cx_comp (cx_E k q) x.1) cx_std }
  have nxt : ∀ d (x : P d), ∃ y : P (d + 1), cx_Eqd d x.1.1 y.1.1 ∧ cx_Eqd d x.1.2 y.1.2 := by
    intro d x
    obtain ⟨h', h2', h1, h3, h4, h5⟩ := cx_pair_step hs hk x.2.1 x.2.2
    exact ⟨⟨(h', h2'), h1, h5⟩, h3, h4⟩
  let start : P 0 := ⟨(cx_I, cx_I), cx_Pair.one, fun a ha hd => by
    exfalso; exact ha (cx_deg_pos a (by omega))⟩
  let sq : (d : Nat) → P d := fun d => Nat.rec (motive := P) start (fun d x => Classical.choose (nxt d x)) d
  have hstep : ∀ d, cx_Eqd d (sq d).1.1 (sq (d + 1)).1.1 ∧ cx_Eqd d (sq d).1.2 (sq (d + 1)).1.2 := fun d => Classical.choose_spec (nxt d (sq d))
  have stable : ∀ d e, cx_Eqd d (sq d).1.1 (sq (d + e)).1.1 ∧ cx_Eqd d (sq d).1.2 (sq (d + e)).1.2 := by
    intro d e
    induction e with
    | zero => exact ⟨cx_Eqd.rfl', cx_Eqd.rfl'⟩
    | succ e ih => exact ⟨ih.1.trans ((hstep (d + e)).1.mono (by omega)), ih.2.trans ((hstep (d + e)).2.mono (by omega))⟩
  let h : M → cx_S B := fun m b => (sq (cx_deg b)).1.1 m b
  let h2 : M → cx_S B := fun m b => (sq (cx_deg b)).1.2 m b
  have e1 : ∀ d, cx_Eqd d h (sq d).1.1 := by
    intro d m b hb
    have := (stable (cx_deg b) (d - cx_deg b)).1 m b (Nat.le_refl _)
    rw [show cx_deg b + (d - cx_deg b) = d by omega] at this
    exact this
  have e2 : ∀ d, cx_Eqd d h2 (sq d).1.2 := by
    intro d m b hb
    have := (stable (cx_deg b) (d - cx_deg b)).2 m b (Nat.le_refl _)
    rw [show cx_deg b + (d - cx_deg b) = d by omega] at this
    exact this
  refine ⟨h, h2, ⟨cx_good_lim (fun d => ⟨_, (sq d).2.1.gh, e1 d⟩), cx_good_lim (fun d => ⟨_, (sq d).2.1.gh2, e2 d⟩), fun m b hb hn => ?_, fun m b hb hn => ?_, ?_, ?_, ?_⟩, ?_⟩
  · exact (sq (cx_deg b)).2.1.sh m b hb hn
  · exact (sq (cx_deg b)).2.1.sh2 m b hb hn
  · refine cx_eqd_all (fun d => ?_)
    refine (cx_Eqd.comp cx_Eqd.rfl' (e1 d)).trans ?_
    rw [(sq d).2.1.cj]
    exact (cx_Eqd.comp (e2 d) cx_Eqd.rfl').symm
  · intro d m hm b hb
    rw [e1 d m b hb]; exact (sq d).2.1.wh d m hm b hb
  · intro d m hm b hb
    rw [e2 d m b hb]; exact (sq d).2.1.wh2 d m hm b hb
  · intro a ha t gt ct f lf
    exact (sq (cx_deg a)).2.2 a ha (Nat.le_refl _) t gt ct f (lf.eqd (cx_Eqd.comp cx_Eqd.rfl' (e1 (cx_deg a))))
