theorem cx_Par.pr {B : Type} [Zero B] [Add B] [Mul (cx_S B)] [One (cx_S B)] [Add (cx_S B)] [Zero (cx_S B)] [Inhabited (cx_Idx B)] {M : Type} [Add M] [Inhabited (PLift (cx_MGl M))] [Inhabited (cx_Tord B M)] {a x : B} (h : cx_Par a x) (m : M) : cx_pr x m * cx_dg a = cx_pr a m * cx_dg x := h _ (cx_fun_pr m)
theorem cx_par_nonneg {B : Type} [Zero B] [Add B] [Mul (cx_S B)] [One (cx_S B)] [Add (cx_S B)] [Zero (cx_S B)] [Inhabited (cx_Idx B)] {M : Type} [Add M] [Inhabited (PLift (cx_MGl M))] [Inhabited (cx_Tord B M)] {a : B} (ha : a ≠ 0) {Z : M → Prop} (hZ : ∀ (m : M) (u : B), Z m → Z (m + cx_p u)) {w : List (B × Rat)} (sgn : Rat)
    (hw : ∀ x ∈ w, x.1 ≠ 0 ∧ cx_Par a x.1 ∧ cx_Wl Z x ∧ 0 ≤ sgn * x.2) (m : M) (hm : Z m) (h0 : 0 ≤ sgn * cx_pr a m) (hs : sgn * sgn = 1) (b : B) : 0 ≤ (cx_ev w : M → cx_S B) m b := by
  classical
  induction w generalizing b with
  | nil =>
    show 0 ≤ (1 : cx_S B) b
    by_cases hb : b = 0
    · rw [hb, cx_one_zero]; grind
    · rw [cx_one_ne hb]; grind
  | cons x w ih =>
    have ih := ih (fun y hy => hw y (by simp [hy]))
    have sw : cx_Sup (cx_Par a) (cx_ev w : M → cx_S B) := cx_ev_sup (cx_Par.clo a) (fun y hy => (hw y (by simp [hy])).2.1)
    have hx := hw x (by simp)
    rw [cx_ev_cons, cx_comp_def]
    refine cx_D_nonneg (fun u s _ => ?_)
    have key : ∀ m', Z m' → cx_pr a m' = cx_pr a m → 0 ≤ (cx_E x.1 x.2 : M → cx_S B) m' s := by
      intro m' hm' hpr
      refine cx_E_nonneg (hx.2.2.1 m' hm') ?_ s
      have h1 := hx.2.1.pr m'
      have h2 : 0 ≤ (sgn * x.2) * (sgn * cx_pr a m) := Rat.mul_nonneg hx.2.2.2 h0
      have h3 : (sgn * x.2) * (sgn * cx_pr a m) = (sgn * sgn) * (x.2 * cx_pr a m) := by grind
      rw [h3, hs, Rat.one_mul] at h2
      have h4 : 0 ≤ (x.2 * cx_pr a m) * cx_dg x.1 := Rat.mul_nonneg h2 (by have := cx_dg_pos hx.1; grind)
      rw [hpr] at h1
      have h5 : (x.2 * cx_pr x.1 m') * cx_dg a = (x.2 * cx_pr a m) * cx_dg x.1 := by grind
      by_cases h6 : 0 ≤ x.2 * cx_pr x.1 m'
      · exact h6
      · have := Rat.mul_pos (by grind : 0 < -(x.2 * cx_pr x.1 m')) (cx_dg_pos ha); grind
    by_cases hu : u = 0
    · rw [hu, cx_p_zero]
      exact Rat.mul_nonneg (ih 0) (key m hm rfl)
    · by_cases hr : cx_Par a u
      · refine Rat.mul_nonneg (ih u) (key _ (hZ m u hm) ?_)
        rw [cx_pr_addR, (cx_Par.refl a).form ha hr, Rat.add_zero]
      · rw [sw m u hu hr, Rat.zero_mul]; grind
theorem cx_crossP {B : Type} [Zero B] [Add B] [Mul (cx_S B)] [One (cx_S B)] [Add (cx_S B)] [Zero (cx_S B)] [Inhabited (cx_Idx B)] {M : Type} [Add M] [Inhabited (PLift (cx_MGl M))] [Inhabited (cx_Tord B M)] {a : B} (ha : a ≠ 0) {Z : M → Prop} (hZ : ∀ (m : M) (u : B), Z m → Z (m + cx_p u)) {w : List (B × Rat)} (sgn : Rat) (hs : sgn * sgn = 1)
    (hw : ∀ x ∈ w, x.1 ≠ 0 ∧ cx_Par a x.1 ∧ cx_Wl Z x ∧ 0 ≤ sgn * x.2) {f : M → cx_S B} {m : M} (hm : Z m) {b : B} (h0 : 0 ≤ sgn * cx_pr a (m + cx_p b))
    (hf : ∀ u, cx_deg u < cx_deg b → 0 ≤ f m u) : f m b ≤ cx_comp (cx_ev w) f m b := by
  classical
  have sw : cx_Sup (cx_Par a) (cx_ev w : M → cx_S B) := cx_ev_sup (cx_Par.clo a) (fun y hy => (hw y hy).2.1)
  have cx_one : ∀ m : M, (cx_ev w : M → cx_S B) m 0 = 1 := (cx_ev_good (fun x hx => (hw x hx).1)).unit
  rw [cx_comp_def]
  have e1 : cx_D b (fun u s => f m u * cx_ev w (m + cx_p u) s) = cx_D b (fun u s => (if s = 0 then f m u else 0) + (if s = 0 then 0 else f m u * cx_ev w (m + cx_p u) s)) := by
    refine cx_D_congr (fun u s _ => ?_)
    by_cases hs0 : s = 0
    · rw [if_pos hs0, if_pos hs0, hs0, cx_one]; grind
    · rw [if_neg hs0, if_neg hs0]; grind
  rw [e1, cx_D_add, cx_D_right b (fun u s => if s = 0 then f m u else 0) (fun u s _ h => if_neg h), if_pos rfl]
  have : 0 ≤ cx_D b (fun u s => if s = 0 then 0 else f m u * cx_ev w (m + cx_p u) s) := by
    refine cx_D_nonneg (fun u s hus => ?_)
    by_cases hs0 : s = 0
    · rw [if_pos hs0]; grind
    · rw [if_neg hs0]
      by_cases hr : cx_Par a s
      · have hd := cx_deg_add u s
        rw [hus] at hd
        have : cx_deg s ≠ 0 := fun e => hs0 (cx_deg_pos s e)
        refine Rat.mul_nonneg (hf u (by omega)) (cx_par_nonneg ha hZ sgn hw _ (hZ m u hm) ?_ hs s)
        rw [← hus, cx_p_add, cx_pr_addR, cx_pr_addR, (cx_Par.refl a).form ha hr, Rat.add_zero, ← cx_pr_addR] at h0
        exact h0
      · rw [sw _ s hs0 hr, Rat.mul_zero]; grind
  grind
def cx_cut {B : Type} [Zero B] [Add B] [Mul (cx_S B)] [One (cx_S B)] [Add (cx_S B)] [Zero (cx_S B)] [Inhabited (cx_Idx B)] (d : Nat) (w : List (B × Rat)) : List (B × Rat) := w.filter (fun x => decide (cx_deg x.1 ≤ d))
theorem cx_ev_cut {B : Type} [Zero B] [Add B] [Mul (cx_S B)] [One (cx_S B)] [Add (cx_S B)] [Zero (cx_S B)] [Inhabited (cx_Idx B)] {M : Type} [Add M] [Inhabited (PLift (cx_MGl M))] [Inhabited (cx_Tord B M)] {d : Nat} {w : List (B × Rat)} (hw : cx_NZ w) : cx_Eqd d (cx_ev w : M → cx_S B) (cx_ev (cx_cut d w)) := by
  induction w with
  | nil => exact cx_Eqd.rfl'
  | cons x w ih =>
    have ih := ih (fun y hy => hw y (by simp [hy]))
    by_cases hx : cx_deg x.1 ≤ d
    · have : cx_cut d (x :: w) = x :: cx_cut d w := List.filter_cons_of_pos (by simpa using hx)
      rw [this, cx_ev_cons, cx_ev_cons]
      exact cx_Eqd.comp cx_Eqd.rfl' ih
    · have : cx_cut d (x :: w) = cx_cut d w := List.filter_cons_of_neg (by simpa using hx)
      rw [this, cx_ev_cons]
      have h1 := cx_Eqd.comp (cx_E_far (M := M) (hw x (by simp)) x.2 (by omega : d < cx_deg x.1)) ih
      rw [cx_I_comp] at h1
      exact h1
theorem cx_Lt.cut {B : Type} [Zero B] [Add B] [Mul (cx_S B)] [One (cx_S B)] [Add (cx_S B)] [Zero (cx_S B)] [Inhabited (cx_Idx B)] {T : B → Prop} {d d' : Nat} {w : List (B × Rat)} (h : cx_Lt T d w) : cx_Lt T d' (cx_cut d' w) := ⟨fun x hx => by
  have := List.mem_filter.1 hx
  have h1 := h.all x this.1
  exact ⟨h1.1, h1.2.1, by simpa using this.2⟩⟩
theorem cx_Fac.cut {B : Type} [Zero B] [Add B] [Mul (cx_S B)] [One (cx_S B)] [Add (cx_S B)] [Zero (cx_S B)] [Inhabited (cx_Idx B)] {M : Type} [Add M] [Inhabited (PLift (cx_MGl M))] [Inhabited (cx_Tord B M)] {t : B → Rat} {T : B → Prop} {d d' : Nat} (hd : d' ≤ d) {g : M → cx_S B} {wp w0 wm : List (B × Rat)} (f : cx_Fac t T d g wp w0 wm) :
    cx_Fac t T d' g (cx_cut d' wp) (cx_cut d' w0) (cx_cut d' wm) := ⟨(f.pos.cut),
  (f.nul.cut),
  (f.neg.cut),
  ((f.eq.mono hd).trans (cx_Eqd.comp (cx_ev_cut f.pos.nz) (cx_Eqd.comp (cx_ev_cut f.nul.nz) (cx_ev_cut f.neg.nz))))⟩
theorem cx_Fac.sgn {B : Type} [Zero B] [Add B] [Mul (cx_S B)] [One (cx_S B)] [Add (cx_S B)] [Zero (cx_S B)] [Inhabited (cx_Idx B)] {M : Type} [Add M] [Inhabited (PLift (cx_MGl M))] [Inhabited (cx_Tord B M)] {t t' : B → Rat} {T : B → Prop} {d : Nat} (h : cx_Sgn d t t') {g : M → cx_S B} {wp w0 wm : List (B × Rat)} (f : cx_Fac t T d g wp w0 wm) : cx_Fac t' T d g wp w0 wm := ⟨(⟨fun x hx => by have := f.pos.all x hx; exact ⟨this.1, ⟨this.2.1.1, (h _ this.2.2).1.1 this.2.1.2⟩, this.2.2⟩⟩),
  (⟨fun x hx => by have := f.nul.all x hx; exact ⟨this.1, ⟨this.2.1.1, (h.zero this.2.2).1 this.2.1.2⟩, this.2.2⟩⟩),
  (⟨fun x hx => by have := f.neg.all x hx; exact ⟨this.1, ⟨this.2.1.1, (h _ this.2.2).2.1 this.2.1.2⟩, this.2.2⟩⟩),
  (f.eq)⟩
theorem cx_Fac.word {B : Type} [Zero B] [Add B] [Mul (cx_S B)] [One (cx_S B)] [Add (cx_S B)] [Zero (cx_S B)] [Inhabited (cx_Idx B)] {M : Type} [Add M] [Inhabited (PLift (cx_MGl M))] [Inhabited (cx_Tord B M)] {t : B → Rat} {T : B → Prop} {d : Nat} {g : M → cx_S B} {wp w0 wm w0' : List (B × Rat)} (f : cx_Fac t T d g wp w0 wm)
    (h : cx_Lt (fun b => T b ∧ t b = 0) d w0') (he : cx_Eqd d (cx_ev w0 : M → cx_S B) (cx_ev w0')) : cx_Fac t T d g wp w0' wm := ⟨(f.pos),
  (h),
  (f.neg),
  (f.eq.trans (cx_Eqd.comp cx_Eqd.rfl' (cx_Eqd.comp he cx_Eqd.rfl')))⟩
theorem cx_nf_append {B : Type} [Zero B] [Add B] [Mul (cx_S B)] [One (cx_S B)] [Add (cx_S B)] [Zero (cx_S B)] [Inhabited (cx_Idx B)] {M : Type} [Add M] [Inhabited (PLift (cx_MGl M))] [Inhabited (cx_Tord B M)] (A C : List B) (c : B → Rat) : (cx_nf (A ++ C) c : M → cx_S B) = cx_comp (cx_nf A c) (cx_nf C c) := by
  unfold cx_nf; rw [List.map_append, cx_ev_append]
theorem cx_nf_perm {B : Type} [Zero B] [Add B] [Mul (cx_S B)] [One (cx_S B)] [Add (cx_S B)] [Zero (cx_S B)] [Inhabited (cx_Idx B)] {M : Type} [Add M] [Inhabited (PLift (cx_MGl M))] [Inhabited (cx_Tord B M)] {ord ord' : List B} (h : ord.Perm ord') (hc : ∀ x ∈ ord, ∀ y ∈ ord, cx_pr x (cx_p y : M) = 0) (c : B → Rat) : (cx_nf ord c : M → cx_S B) = cx_nf ord' c := by
  induction h with
  | nil => rfl
  | cons x _ ih => rw [cx_nf_cons, cx_nf_cons, ih (fun x hx y hy => hc x (by simp [hx]) y (by simp [hy]))]
  | swap x y l =>
    rw [cx_nf_cons, cx_nf_cons, cx_nf_cons, cx_nf_cons, ← cx_comp_assoc, ← cx_comp_assoc, cx_E_comm (hc y (by simp) x (by simp))]
  | trans h1 h2 ih1 ih2 =>
    rw [ih1 hc, ih2 (fun x hx y hy => hc x (h1.mem_iff.2 hx) y (h1.mem_iff.2 hy))]
abbrev cx_Rl {B : Type} [Zero B] [Add B] [Mul (cx_S B)] [One (cx_S B)] [Add (cx_S B)] [Zero (cx_S B)] [Inhabited (cx_Idx B)] (a : B) (d : Nat) (ord : List B) : Prop := (ord.Nodup) ∧ (∀ x, x ∈ ord ↔ x ≠ 0 ∧ cx_deg x ≤ d ∧ cx_Par a x)
theorem cx_Rl.nodup {B : Type} [Zero B] [Add B] [Mul (cx_S B)] [One (cx_S B)] [Add (cx_S B)] [Zero (cx_S B)] [Inhabited (cx_Idx B)] {a : B} {d : Nat} {ord : List B} (hh_ : cx_Rl a d ord) : ord.Nodup := hh_.1
theorem cx_Rl.mem {B : Type} [Zero B] [Add B] [Mul (cx_S B)] [One (cx_S B)] [Add (cx_S B)] [Zero (cx_S B)] [Inhabited (cx_Idx B)] {a : B} {d : Nat} {ord : List B} (hh_ : cx_Rl a d ord) : ∀ x, x ∈ ord ↔ x ≠ 0 ∧ cx_deg x ≤ d ∧ cx_Par a x := hh_.2
theorem cx_Rl.perm {B : Type} [Zero B] [Add B] [Mul (cx_S B)] [One (cx_S B)] [Add (cx_S B)] [Zero (cx_S B)] [Inhabited (cx_Idx B)] {a : B} {d : Nat} {ord ord' : List B} (h : cx_Rl a d ord) (h' : cx_Rl a d ord') : ord.Perm ord' :=
  cx_perm_of h.nodup h'.nodup (fun x => by rw [h.mem, h'.mem])
theorem cx_Rl.comm {B : Type} [Zero B] [Add B] [Mul (cx_S B)] [One (cx_S B)] [Add (cx_S B)] [Zero (cx_S B)] [Inhabited (cx_Idx B)] {M : Type} [Add M] [Inhabited (PLift (cx_MGl M))] [Inhabited (cx_Tord B M)] {a : B} (ha : a ≠ 0) {d : Nat} {ord : List B} (h : cx_Rl a d ord) : ∀ x ∈ ord, ∀ y ∈ ord, cx_pr x (cx_p y : M) = 0 :=
  fun x hx y hy => ((h.mem x).1 hx).2.2.form ha ((h.mem y).1 hy).2.2
def cx_Lam {B : Type} [Zero B] [Add B] [Mul (cx_S B)] [One (cx_S B)] [Add (cx_S B)] [Zero (cx_S B)] [Inhabited (cx_Idx B)] {M : Type} [Add M] [Inhabited (PLift (cx_MGl M))] [Inhabited (cx_Tord B M)] (g : M → cx_S B) (a : B) (d : Nat) (t f : B → Rat) : Prop := ∃ ord wp wm, cx_Rl a d ord ∧ cx_Fac t cx_All d g wp (ord.map fun x => (x, f x)) wm
theorem cx_Lam.sgn {B : Type} [Zero B] [Add B] [Mul (cx_S B)] [One (cx_S B)] [Add (cx_S B)] [Zero (cx_S B)] [Inhabited (cx_Idx B)] {M : Type} [Add M] [Inhabited (PLift (cx_MGl M))] [Inhabited (cx_Tord B M)] {g : M → cx_S B} {a : B} {d : Nat} {t t' f : B → Rat} (h : cx_Sgn d t t') (l : cx_Lam g a d t f) : cx_Lam g a d t' f := by
  obtain ⟨ord, wp, wm, hr, hf⟩ := l; exact ⟨ord, wp, wm, hr, hf.sgn h⟩
theorem cx_Lam.unique {B : Type} [Zero B] [Add B] [Mul (cx_S B)] [One (cx_S B)] [Add (cx_S B)] [Zero (cx_S B)] [Inhabited (cx_Idx B)] {M : Type} [Add M] [Inhabited (PLift (cx_MGl M))] [Inhabited (cx_Tord B M)] {g g' : M → cx_S B} {a : B} (ha : a ≠ 0) {d : Nat} {t f f' : B → Rat} (ht : cx_Fun t) (l : cx_Lam g a d t f) (l' : cx_Lam g' a d t f') (he : cx_Eqd d g g') :
    ∀ x, x ≠ 0 → cx_deg x ≤ d → cx_Par a x → f x = f' x := by
  obtain ⟨ord, wp, wm, hr, hf⟩ := l
  obtain ⟨ord', wp', wm', hr', hf'⟩ := l'
  have h := (hf.unique ht hf' he).2.1
  have e1 : (cx_ev (ord'.map fun x => (x, f' x)) : M → cx_S B) = cx_nf ord f' := (cx_nf_perm (hr.perm hr') (hr.comm ha) f').symm
  rw [e1] at h
  intro x hx hd hp
  exact cx_nf_unique (M := M) hr.nodup (fun y hy => ((hr.mem y).1 hy).1) h x ((hr.mem x).2 ⟨hx, hd, hp⟩) hd
theorem cx_Rl.cut {B : Type} [Zero B] [Add B] [Mul (cx_S B)] [One (cx_S B)] [Add (cx_S B)] [Zero (cx_S B)] [Inhabited (cx_Idx B)] {a : B} {d d' : Nat} (hd : d' ≤ d) {ord : List B} (h : cx_Rl a d ord) : cx_Rl a d' (ord.filter fun x => decide (cx_deg x ≤ d')) := ⟨(h.nodup.sublist List.filter_sublist),
  (fun x => by
    rw [List.mem_filter, h.mem, decide_eq_true_eq]
    constructor
    · rintro ⟨⟨h1, _, h3⟩, h4⟩; exact ⟨h1, h4, h3⟩
    · rintro ⟨h1, h2, h3⟩; exact ⟨⟨h1, by omega, h3⟩, h2⟩)⟩
theorem cx_Lam.cut {B : Type} [Zero B] [Add B] [Mul (cx_S B)] [One (cx_S B)] [Add (cx_S B)] [Zero (cx_S B)] [Inhabited (cx_Idx B)] {M : Type} [Add M] [Inhabited (PLift (cx_MGl M))] [Inhabited (cx_Tord B M)] {g : M → cx_S B} {a : B} {d d' : Nat} (hd : d' ≤ d) {t f : B → Rat} (l : cx_Lam g a d t f) : cx_Lam g a d' t f := by
  obtain ⟨ord, wp, wm, hr, hf⟩ := l
  refine ⟨_, cx_cut d' wp, cx_cut d' wm, hr.cut hd, ?_⟩
  have h := hf.cut hd
  have : cx_cut d' (ord.map fun x => (x, f x)) = (ord.filter fun x => decide (cx_deg x ≤ d')).map fun x => (x, f x) := by
    unfold cx_cut
    rw [List.filter_map]; rfl
  rw [this] at h
  exact h
theorem cx_Rl.par {B : Type} [Zero B] [Add B] [Mul (cx_S B)] [One (cx_S B)] [Add (cx_S B)] [Zero (cx_S B)] [Inhabited (cx_Idx B)] {a x : B} (ha : a ≠ 0) (hx : x ≠ 0) (h : cx_Par a x) {d : Nat} {ord : List B} (r : cx_Rl a d ord) : cx_Rl x d ord := ⟨(r.nodup),
  (fun y => by
    rw [r.mem]
    constructor
    · rintro ⟨h1, h2, h3⟩; exact ⟨h1, h2, cx_Par.trans ha h.symm h3⟩
    · rintro ⟨h1, h2, h3⟩; exact ⟨h1, h2, cx_Par.trans hx h h3⟩)⟩
theorem cx_Lam.par {B : Type} [Zero B] [Add B] [Mul (cx_S B)] [One (cx_S B)] [Add (cx_S B)] [Zero (cx_S B)] [Inhabited (cx_Idx B)] {M : Type} [Add M] [Inhabited (PLift (cx_MGl M))] [Inhabited (cx_Tord B M)] {g : M → cx_S B} {a x : B} (ha : a ≠ 0) (hx : x ≠ 0) (h : cx_Par a x) {d : Nat} {t f : B → Rat} (l : cx_Lam g a d t f) : cx_Lam g x d t f := by
  obtain ⟨ord, wp, wm, hr, hf⟩ := l
  exact ⟨ord, wp, wm, hr.par ha hx h, hf⟩
theorem cx_Gen.par {B : Type} [Zero B] [Add B] [Mul (cx_S B)] [One (cx_S B)] [Add (cx_S B)] [Zero (cx_S B)] [Inhabited (cx_Idx B)] {a x : B} (ha : a ≠ 0) (hx : x ≠ 0) (h : cx_Par a x) {d d' : Nat} (hd : d' ≤ d) {t : B → Rat} (r : cx_Gen (cx_Par a) d t) : cx_Gen (cx_Par x) d' t := ⟨(r.f),
  (fun b hb hdb => by
    rw [r.z b hb (by omega)]
    exact ⟨fun h3 => cx_Par.trans ha h.symm h3, fun h3 => cx_Par.trans hx h h3⟩)⟩
theorem cx_Van.par {B : Type} [Zero B] [Add B] [Mul (cx_S B)] [One (cx_S B)] [Add (cx_S B)] [Zero (cx_S B)] [Inhabited (cx_Idx B)] {a : B} (ha : a ≠ 0) {t : B → Rat} (ht : cx_Fun t) (h : t a = 0) : cx_Van (cx_Par a) t := ⟨ht, fun _ hx => hx.zero ha ht h⟩
theorem cx_Gen.van {B : Type} [Zero B] [Add B] [Mul (cx_S B)] [One (cx_S B)] [Add (cx_S B)] [Zero (cx_S B)] [Inhabited (cx_Idx B)] {a : B} (ha : a ≠ 0) {d : Nat} (hd : cx_deg a ≤ d) {t : B → Rat} (h : cx_Gen (cx_Par a) d t) : cx_Van (cx_Par a) t :=
  cx_Van.par ha h.f ((h.z a ha hd).2 (cx_Par.refl a))
theorem cx_exists_list {B : Type} [Zero B] [Add B] [Mul (cx_S B)] [One (cx_S B)] [Add (cx_S B)] [Zero (cx_S B)] [Inhabited (cx_Idx B)] (d : Nat) (P : B → Prop) : ∃ ord : List B, ord.Nodup ∧ ∀ x, x ∈ ord ↔ x ≠ 0 ∧ cx_deg x ≤ d ∧ P x := by
  classical
  refine ⟨(cx_lst d).filter (fun x => decide (x ≠ 0 ∧ P x)), (cx_nodup_lst d).sublist List.filter_sublist, fun x => ?_⟩
  rw [List.mem_filter, cx_mem_lst, decide_eq_true_eq]
  constructor
  · rintro ⟨h1, h2, h3⟩; exact ⟨h2, h1, h3⟩
  · rintro ⟨h1, h2, h3⟩; exact ⟨h2, h1, h3⟩
abbrev cx_Wh {B : Type} [Zero B] [Add B] [Mul (cx_S B)] [One (cx_S B)] [Add (cx_S B)] [Zero (cx_S B)] [Inhabited (cx_Idx B)] {M : Type} [Add M] [Inhabited (PLift (cx_MGl M))] [Inhabited (cx_Tord B M)] (Z : M → Prop) (g : M → cx_S B) : Prop := (cx_Good g) ∧ (∀ (m : M) (u : B), Z m → Z (m + cx_p u)) ∧ (∀ u : B, Z (cx_p u)) ∧ (∀ d, cx_Whole d Z g)
theorem cx_Wh.good {B : Type} [Zero B] [Add B] [Mul (cx_S B)] [One (cx_S B)] [Add (cx_S B)] [Zero (cx_S B)] [Inhabited (cx_Idx B)] {M : Type} [Add M] [Inhabited (PLift (cx_MGl M))] [Inhabited (cx_Tord B M)] {Z : M → Prop} {g : M → cx_S B} (hh_ : cx_Wh Z g) : cx_Good g := hh_.1
theorem cx_Wh.hZ {B : Type} [Zero B] [Add B] [Mul (cx_S B)] [One (cx_S B)] [Add (cx_S B)] [Zero (cx_S B)] [Inhabited (cx_Idx B)] {M : Type} [Add M] [Inhabited (PLift (cx_MGl M))] [Inhabited (cx_Tord B M)] {Z : M → Prop} {g : M → cx_S B} (hh_ : cx_Wh Z g) : ∀ (m : M) (u : B), Z m → Z (m + cx_p u) := hh_.2.1
theorem cx_Wh.hp {B : Type} [Zero B] [Add B] [Mul (cx_S B)] [One (cx_S B)] [Add (cx_S B)] [Zero (cx_S B)] [Inhabited (cx_Idx B)] {M : Type} [Add M] [Inhabited (PLift (cx_MGl M))] [Inhabited (cx_Tord B M)] {Z : M → Prop} {g : M → cx_S B} (hh_ : cx_Wh Z g) : ∀ u : B, Z (cx_p u) := hh_.2.2.1
theorem cx_Wh.whole {B : Type} [Zero B] [Add B] [Mul (cx_S B)] [One (cx_S B)] [Add (cx_S B)] [Zero (cx_S B)] [Inhabited (cx_Idx B)] {M : Type} [Add M] [Inhabited (PLift (cx_MGl M))] [Inhabited (cx_Tord B M)] {Z : M → Prop} {g : M → cx_S B} (hh_ : cx_Wh Z g) : ∀ d, cx_Whole d Z g := hh_.2.2.2
theorem cx_Wh.fac {B : Type} [Zero B] [Add B] [Mul (cx_S B)] [One (cx_S B)] [Add (cx_S B)] [Zero (cx_S B)] [Inhabited (cx_Idx B)] {M : Type} [Add M] [Inhabited (PLift (cx_MGl M))] [Inhabited (cx_Tord B M)] {Z : M → Prop} {g : M → cx_S B} (h : cx_Wh Z g) (t : B → Rat) (d : Nat) : ∃ wp w0 wm : List (B × Rat), cx_Fac t cx_All d g wp w0 wm ∧ ∀ x ∈ wp ++ w0 ++ wm, cx_Wl Z x :=
  cx_Fac.exists (T := cx_All) ⟨fun _ _ _ _ => trivial⟩ (fun m u hm _ => h.hZ m u hm) h.good (fun _ _ _ h => absurd trivial h) h.whole d
theorem cx_zero_nf {B : Type} [Zero B] [Add B] [Mul (cx_S B)] [One (cx_S B)] [Add (cx_S B)] [Zero (cx_S B)] [Inhabited (cx_Idx B)] {M : Type} [Add M] [Inhabited (PLift (cx_MGl M))] [Inhabited (cx_Tord B M)] {Z : M → Prop} {g : M → cx_S B} (h : cx_Wh Z g) {t : B → Rat} {d : Nat} {wp w0 wm : List (B × Rat)} (f : cx_Fac t cx_All d g wp w0 wm) (hw : ∀ x ∈ w0, cx_Wl Z x)
    {T : B → Prop} (hT : cx_Clo T) (hTt : ∀ b, b ≠ 0 → cx_deg b ≤ d → t b = 0 → T b) {ord : List B} (hn : ord.Nodup) (hm : ∀ x, x ∈ ord ↔ x ≠ 0 ∧ cx_deg x ≤ d ∧ T x) :
    ∃ c : B → Rat, cx_Eqd d (cx_ev w0 : M → cx_S B) (cx_nf ord c) ∧ ∀ x ∈ ord, cx_Wl Z (x, c x) := by
  have hT0 : ∀ x ∈ w0, T x.1 := fun x hx => by have := f.nul.all x hx; exact hTt _ this.1 this.2.2 this.2.1.2
  obtain ⟨c, h1, _, h3⟩ := cx_nf_exists (e := d) hT (fun m u hm _ => h.hZ m u hm) hn (fun x hx => ⟨((hm x).1 hx).1, ((hm x).1 hx).2.2⟩)
    (fun b h1 h2 h3 => (hm b).2 ⟨h1, h2, h3⟩) (cx_ev_good (M := M) f.nul.nz) ((cx_ev_sup hT hT0).upto d) (cx_ev_whole hT (fun m u hm _ => h.hZ m u hm) (fun x hx => ⟨hT0 x hx, hw x hx⟩)) d (Nat.le_refl d)
  exact ⟨c, h1, h3⟩
theorem cx_Lam.exists {B : Type} [Zero B] [Add B] [Mul (cx_S B)] [One (cx_S B)] [Add (cx_S B)] [Zero (cx_S B)] [Inhabited (cx_Idx B)] {M : Type} [Add M] [Inhabited (PLift (cx_MGl M))] [Inhabited (cx_Tord B M)] {Z : M → Prop} {g : M → cx_S B} (h : cx_Wh Z g) {a : B} {d : Nat} {t : B → Rat} (ht : cx_Gen (cx_Par a) d t) :
    ∃ f : B → Rat, cx_Lam g a d t f ∧ ∀ x, x ≠ 0 → cx_deg x ≤ d → cx_Par a x → cx_Wl Z (x, f x) := by
  obtain ⟨ord, hn, hm⟩ := cx_exists_list (B := B) d (cx_Par a)
  obtain ⟨wp, w0, wm, hf, hw⟩ := h.fac t d
  obtain ⟨c, hc, hcw⟩ := cx_zero_nf h hf (fun x hx => hw x (by simp [hx])) (cx_Par.clo a) (fun b h1 h2 h3 => (ht.z b h1 h2).1 h3) hn hm
  refine ⟨c, ⟨ord, wp, wm, ⟨hn, hm⟩, hf.word ⟨fun x hx => ?_⟩ hc⟩, fun x h1 h2 h3 => hcw x ((hm x).2 ⟨h1, h2, h3⟩)⟩
  obtain ⟨y, hy, rfl⟩ := List.mem_map.1 hx
  have := (hm y).1 hy
  exact ⟨this.1, ⟨trivial, (ht.z y this.1 this.2.1).2 this.2.2⟩, this.2.1⟩
theorem cx_joint_lam {B : Type} [Zero B] [Add B] [Mul (cx_S B)] [One (cx_S B)] [Add (cx_S B)] [Zero (cx_S B)] [Inhabited (cx_Idx B)] {M : Type} [Add M] [Inhabited (PLift (cx_MGl M))] [Inhabited (cx_Tord B M)] {g : M → cx_S B} {t1 t' u : B → Rat} {d : Nat} {wp w0 wm : List (B × Rat)} (f : cx_Fac t1 cx_All d g wp w0 wm)
    {A O C : List B} {c : B → Rat} (hz : ∀ x ∈ A ++ O ++ C, x ≠ 0 ∧ cx_deg x ≤ d ∧ t1 x = 0) (he : cx_Eqd d (cx_ev w0 : M → cx_S B) (cx_nf (A ++ O ++ C) c))
    (hA : ∀ x ∈ A, 0 < u x) (hO : ∀ x ∈ O, u x = 0) (hC : ∀ x ∈ C, u x < 0) (hn : cx_Near cx_All d t1 u t') {x : B} (hr : cx_Rl x d O) : cx_Lam g x d t' c := by
  refine ⟨O, _, _, hr, cx_Fac.near (vp := A.map fun x => (x, c x)) (vm := C.map fun x => (x, c x)) hn f ?_⟩
  refine ⟨⟨fun y hy => ?_⟩, ⟨fun y hy => ?_⟩, ⟨fun y hy => ?_⟩, ?_⟩
  · obtain ⟨z, hz', rfl⟩ := List.mem_map.1 hy
    have := hz z (by simp [hz'])
    exact ⟨this.1, ⟨⟨trivial, this.2.2⟩, hA z hz'⟩, this.2.1⟩
  · obtain ⟨z, hz', rfl⟩ := List.mem_map.1 hy
    have := hz z (by simp [hz'])
    exact ⟨this.1, ⟨⟨trivial, this.2.2⟩, hO z hz'⟩, this.2.1⟩
  · obtain ⟨z, hz', rfl⟩ := List.mem_map.1 hy
    have := hz z (by simp [hz'])
    exact ⟨this.1, ⟨⟨trivial, this.2.2⟩, hC z hz'⟩, this.2.1⟩
  · refine he.trans ?_
    rw [cx_nf_append, cx_nf_append, cx_comp_assoc]
    exact cx_Eqd.rfl'
