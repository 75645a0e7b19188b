def cx_Lin1 [Mul (cx_S Nat)] [One (cx_S Nat)] [Add (cx_S Nat)] [Zero (cx_S Nat)] [Inhabited (cx_Idx Nat)] [Inhabited (PLift cx_Natl)] {B : Type} [Zero B] [Add B] [Mul (cx_S B)] [One (cx_S B)] [Add (cx_S B)] [Zero (cx_S B)] [Inhabited (cx_Idx B)] (l : (B → Rat) → Rat) : Prop := ∀ (u v : B → Rat) (e : Rat), l (fun b => u b + e * v b) = l u + e * l v
theorem cx_gen_lin [Mul (cx_S Nat)] [One (cx_S Nat)] [Add (cx_S Nat)] [Zero (cx_S Nat)] [Inhabited (cx_Idx Nat)] [Inhabited (PLift cx_Natl)] {B : Type} [Zero B] [Add B] [Mul (cx_S B)] [One (cx_S B)] [Add (cx_S B)] [Zero (cx_S B)] [Inhabited (cx_Idx B)] (V : (B → Rat) → Prop) (hV : ∀ u v, V u → V v → ∀ e : Rat, V (fun b => u b + e * v b)) (h0 : ∃ v, V v)
    (L : List ((B → Rat) → Rat)) (hL : ∀ l ∈ L, cx_Lin1 l) : ∃ w, V w ∧ ∀ l ∈ L, (∃ v, V v ∧ l v ≠ 0) → l w ≠ 0 := by
  induction L with
  | nil => obtain ⟨v, hv⟩ := h0; exact ⟨v, hv, fun q hq => by simp at hq⟩
  | cons q L ih =>
    obtain ⟨v, hv, h1⟩ := ih (fun r hr => hL r (by simp [hr]))
    by_cases hq : ∃ v, V v ∧ q v ≠ 0
    · obtain ⟨v', hv', h2⟩ := hq
      obtain ⟨ε, hε, hs⟩ := cx_small ((q :: L).map fun l => (l v, l v'))
      have hs := hs ε hε (by grind)
      refine ⟨fun b => v b + ε * v' b, hV v v' hv hv' ε, fun r hr hex => ?_⟩
      rw [hL r hr]
      have hk := hs (r v, r v') (List.mem_map.2 ⟨r, hr, rfl⟩)
      simp only at hk
      by_cases hz : r v = 0
      · have hrq : r = q := by
          rcases List.mem_cons.1 hr with h | h
          · exact h
          · exact absurd hz (h1 r h hex)
        rw [hz, Rat.zero_add]
        intro h
        rcases Rat.mul_eq_zero.1 h with h | h
        · grind
        · rw [hrq] at h; exact h2 h
      · by_cases hp : 0 < r v
        · have := hk.1 hp; grind
        · have := hk.2 (by grind); grind
    · refine ⟨v, hv, fun r hr hex => ?_⟩
      rcases List.mem_cons.1 hr with h | h
      · subst h; exact absurd hex hq
      · exact h1 r h hex
theorem cx_gen_dir [Mul (cx_S Nat)] [One (cx_S Nat)] [Add (cx_S Nat)] [Zero (cx_S Nat)] [Inhabited (cx_Idx Nat)] [Inhabited (PLift cx_Natl)] {B : Type} [Zero B] [Add B] [Mul (cx_S B)] [One (cx_S B)] [Add (cx_S B)] [Zero (cx_S B)] [Inhabited (cx_Idx B)] (V : (B → Rat) → Prop) (hV : ∀ u v, V u → V v → ∀ e : Rat, V (fun b => u b + e * v b)) {T : B → Rat} (hT : V T)
    (L : List ((B → Rat) → Rat)) (hL : ∀ l ∈ L, cx_Lin1 l) {l0 : (B → Rat) → Rat} (hl0 : l0 ∈ L) (s : Rat) (hs : s = 1 ∨ s = -1) (h0 : 0 ≤ s * l0 T) (hne : ∃ v, V v ∧ l0 v ≠ 0) :
    ∃ t, V t ∧ (∀ l ∈ L, (0 < l T → 0 < l t) ∧ (l T < 0 → l t < 0) ∧ (l t = 0 → ∀ v, V v → l v = 0)) ∧ 0 < s * l0 t := by
  obtain ⟨v, hv, hgen⟩ := cx_gen_lin V hV ⟨T, hT⟩ L hL
  obtain ⟨w, hw, hwn, hwk⟩ : ∃ w, V w ∧ (∀ l ∈ L, (∃ v, V v ∧ l v ≠ 0) → l w ≠ 0) ∧ 0 < s * l0 w := by
    have hvk := hgen l0 hl0 hne
    by_cases h1 : 0 < s * l0 v
    · exact ⟨v, hv, hgen, h1⟩
    · have e : ∀ l ∈ L, l (fun b => v b + (-2) * v b) = - l v := fun l hl => by rw [hL l hl]; grind
      refine ⟨fun b => v b + (-2) * v b, hV v v hv hv (-2), fun l hl hex => by rw [e l hl]; have := hgen l hl hex; grind, ?_⟩
      rw [e l0 hl0]
      rcases hs with rfl | rfl <;> grind
  obtain ⟨ε, hε, hsm⟩ := cx_small (L.map fun l => (l T, l w))
  have hsm := hsm ε hε (by grind)
  refine ⟨fun b => T b + ε * w b, hV T w hT hw ε, fun l hl => ?_, ?_⟩
  · rw [hL l hl]
    have hk := hsm (l T, l w) (List.mem_map.2 ⟨l, hl, rfl⟩)
    simp only at hk
    refine ⟨hk.1, hk.2, fun hz v hv => ?_⟩
    refine Classical.byContradiction (fun hnz => ?_)
    have hlw := hwn l hl ⟨v, hv, hnz⟩
    by_cases h1 : 0 < l T
    · have := hk.1 h1; grind
    · by_cases h2 : l T < 0
      · have := hk.2 h2; grind
      · have h3 : l T = 0 := by grind
        rw [h3, Rat.zero_add] at hz
        rcases Rat.mul_eq_zero.1 hz with h | h
        · grind
        · exact hlw h
  · rw [hL l0 hl0]
    have := Rat.mul_pos hε hwk
    grind
noncomputable def cx_cf [Mul (cx_S Nat)] [One (cx_S Nat)] [Add (cx_S Nat)] [Zero (cx_S Nat)] [Inhabited (cx_Idx Nat)] [Inhabited (PLift cx_Natl)] {B : Type} [Zero B] [Add B] [Mul (cx_S B)] [One (cx_S B)] [Add (cx_S B)] [Zero (cx_S B)] [Inhabited (cx_Idx B)] (w : List (B × Rat)) (x : B) : Rat := cx_sm w (fun y => @ite _ (y.1 = x) (Classical.propDecidable _) y.2 0)
theorem cx_nf_ins [Mul (cx_S Nat)] [One (cx_S Nat)] [Add (cx_S Nat)] [Zero (cx_S Nat)] [Inhabited (cx_Idx Nat)] [Inhabited (PLift cx_Natl)] {B : Type} [Zero B] [Add B] [Mul (cx_S B)] [One (cx_S B)] [Add (cx_S B)] [Zero (cx_S B)] [Inhabited (cx_Idx B)] {M : Type} [Add M] [Inhabited (PLift (cx_MGl M))] [Inhabited (cx_Tord B M)] {ord : List B} (hn : ord.Nodup) (h0 : ∀ x ∈ ord, x ≠ 0) (hc : ∀ x ∈ ord, ∀ y ∈ ord, cx_pr x (cx_p y : M) = 0) {x : B} (hx : x ∈ ord) (c : Rat) (f : B → Rat) :
    (cx_comp (cx_E x c) (cx_nf ord f) : M → cx_S B) = cx_nf ord (fun y => (@ite _ (x = y) (Classical.propDecidable _) c 0) + f y) := by
  classical
  induction ord with
  | nil => simp at hx
  | cons z l ih =>
    rw [List.nodup_cons] at hn
    rw [cx_nf_cons, cx_nf_cons]
    by_cases hz : x = z
    · subst hz
      rw [← cx_comp_assoc, cx_E_add (h0 x (by simp)), if_pos rfl]
      congr 1
      exact cx_nf_congr (fun y hy => by rw [if_neg (fun e => hn.1 (by rw [e]; exact hy))]; grind)
    · have hxl : x ∈ l := by
        rcases List.mem_cons.1 hx with h | h
        · exact absurd h hz
        · exact h
      rw [← cx_comp_assoc, cx_E_comm (hc x (by simp [hxl]) z (by simp)), cx_comp_assoc, ih hn.2 (fun y hy => h0 y (by simp [hy])) (fun y hy w hw => hc y (by simp [hy]) w (by simp [hw])) hxl, if_neg hz, Rat.zero_add]
theorem cx_ev_cf [Mul (cx_S Nat)] [One (cx_S Nat)] [Add (cx_S Nat)] [Zero (cx_S Nat)] [Inhabited (cx_Idx Nat)] [Inhabited (PLift cx_Natl)] {B : Type} [Zero B] [Add B] [Mul (cx_S B)] [One (cx_S B)] [Add (cx_S B)] [Zero (cx_S B)] [Inhabited (cx_Idx B)] {M : Type} [Add M] [Inhabited (PLift (cx_MGl M))] [Inhabited (cx_Tord B M)] {ord : List B} (hn : ord.Nodup) (h0 : ∀ x ∈ ord, x ≠ 0) (hc : ∀ x ∈ ord, ∀ y ∈ ord, cx_pr x (cx_p y : M) = 0) {w : List (B × Rat)} (hw : ∀ y ∈ w, y.1 ∈ ord) :
    (cx_ev w : M → cx_S B) = cx_nf ord (cx_cf w) := by
  classical
  induction w with
  | nil =>
    have : (cx_nf ord (cx_cf []) : M → cx_S B) = cx_nf ord (fun _ => 0) := rfl
    rw [this, cx_nf_zero h0]; rfl
  | cons x w ih =>
    rw [cx_ev_cons, ih (fun y hy => hw y (by simp [hy])), cx_nf_ins hn h0 hc (hw x (by simp))]
    rfl
theorem cx_Fac.weak [Mul (cx_S Nat)] [One (cx_S Nat)] [Add (cx_S Nat)] [Zero (cx_S Nat)] [Inhabited (cx_Idx Nat)] [Inhabited (PLift cx_Natl)] {B : Type} [Zero B] [Add B] [Mul (cx_S B)] [One (cx_S B)] [Add (cx_S B)] [Zero (cx_S B)] [Inhabited (cx_Idx B)] {M : Type} [Add M] [Inhabited (PLift (cx_MGl M))] [Inhabited (cx_Tord B M)] {t : B → Rat} {T T' : B → Prop} (h : ∀ b, T b → T' b) {d : Nat} {g : M → cx_S B} {wp w0 wm : List (B × Rat)} (f : cx_Fac t T d g wp w0 wm) : cx_Fac t T' d g wp w0 wm :=
  ⟨f.pos.mono (fun _ x => ⟨h _ x.1, x.2⟩) (Nat.le_refl _), f.nul.mono (fun _ x => ⟨h _ x.1, x.2⟩) (Nat.le_refl _), f.neg.mono (fun _ x => ⟨h _ x.1, x.2⟩) (Nat.le_refl _), f.eq⟩
theorem cx_lam_cf [Mul (cx_S Nat)] [One (cx_S Nat)] [Add (cx_S Nat)] [Zero (cx_S Nat)] [Inhabited (cx_Idx Nat)] [Inhabited (PLift cx_Natl)] {B : Type} [Zero B] [Add B] [Mul (cx_S B)] [One (cx_S B)] [Add (cx_S B)] [Zero (cx_S B)] [Inhabited (cx_Idx B)] {M : Type} [Add M] [Inhabited (PLift (cx_MGl M))] [Inhabited (cx_Tord B M)] {a : B} (ha : a ≠ 0) {d : Nat} {t : B → Rat} (gt : cx_Gen (cx_Par a) d t) {g : M → cx_S B} {wp w0 wm : List (B × Rat)} (f : cx_Fac t cx_All d g wp w0 wm) : cx_Lam g a d t (cx_cf w0) := by
  obtain ⟨ord, hn, hm⟩ := cx_exists_list (B := B) d (cx_Par a)
  have hr : cx_Rl a d ord := ⟨hn, hm⟩
  refine ⟨ord, wp, wm, hr, f.word ⟨fun x hx => ?_⟩ ?_⟩
  · obtain ⟨y, hy, rfl⟩ := List.mem_map.1 hx
    have := (hm y).1 hy
    exact ⟨this.1, ⟨trivial, (gt.z y this.1 this.2.1).2 this.2.2⟩, this.2.1⟩
  · rw [cx_ev_cf hn (fun x hx => ((hm x).1 hx).1) (hr.comm (M := M) ha) (fun y hy => by
      have := f.nul.all y hy
      exact (hm y.1).2 ⟨this.1, this.2.2, (gt.z y.1 this.1 this.2.2).1 this.2.1.2⟩)]
    exact cx_Eqd.rfl'
theorem cx_cf_cut [Mul (cx_S Nat)] [One (cx_S Nat)] [Add (cx_S Nat)] [Zero (cx_S Nat)] [Inhabited (cx_Idx Nat)] [Inhabited (PLift cx_Natl)] {B : Type} [Zero B] [Add B] [Mul (cx_S B)] [One (cx_S B)] [Add (cx_S B)] [Zero (cx_S B)] [Inhabited (cx_Idx B)] {d : Nat} {a : B} (ha : cx_deg a ≤ d) (w : List (B × Rat)) : cx_cf (cx_cut d w) a = cx_cf w a := by
  classical
  unfold cx_cf cx_cut
  symm
  refine cx_sm_filter w _ _ (fun y _ hy => ?_)
  have : ¬ cx_deg y.1 ≤ d := by simpa using hy
  rw [if_neg (fun e => this (by rw [e]; exact ha))]
theorem cx_lam_left [Mul (cx_S Nat)] [One (cx_S Nat)] [Add (cx_S Nat)] [Zero (cx_S Nat)] [Inhabited (cx_Idx Nat)] [Inhabited (PLift cx_Natl)] {B : Type} [Zero B] [Add B] [Mul (cx_S B)] [One (cx_S B)] [Add (cx_S B)] [Zero (cx_S B)] [Inhabited (cx_Idx B)] {M : Type} [Add M] [Inhabited (PLift (cx_MGl M))] [Inhabited (cx_Tord B M)] {k : B} (hk : k ≠ 0) {q : Rat} {h : M → cx_S B} {a : B} {d : Nat} (hd : cx_deg k ≤ d) {t f : B → Rat} (htk : 0 < t k) (l : cx_Lam h a d t f) : cx_Lam (cx_comp (cx_E k q) h) a d t f := by
  obtain ⟨ord, wp, wm, hr, hf⟩ := l
  refine ⟨ord, (k, q) :: wp, wm, hr, ⟨⟨fun x hx => ?_⟩, hf.nul, hf.neg, ?_⟩⟩
  · rcases List.mem_cons.1 hx with rfl | hx
    · exact ⟨hk, ⟨trivial, htk⟩, hd⟩
    · exact hf.pos.all x hx
  · rw [cx_ev_cons, cx_comp_assoc]; exact cx_Eqd.comp cx_Eqd.rfl' hf.eq
theorem cx_lam_right [Mul (cx_S Nat)] [One (cx_S Nat)] [Add (cx_S Nat)] [Zero (cx_S Nat)] [Inhabited (cx_Idx Nat)] [Inhabited (PLift cx_Natl)] {B : Type} [Zero B] [Add B] [Mul (cx_S B)] [One (cx_S B)] [Add (cx_S B)] [Zero (cx_S B)] [Inhabited (cx_Idx B)] {M : Type} [Add M] [Inhabited (PLift (cx_MGl M))] [Inhabited (cx_Tord B M)] {k : B} (hk : k ≠ 0) {q : Rat} {h : M → cx_S B} {a : B} {d : Nat} (hd : cx_deg k ≤ d) {t f : B → Rat} (htk : t k < 0) (l : cx_Lam h a d t f) : cx_Lam (cx_comp h (cx_E k q)) a d t f := by
  obtain ⟨ord, wp, wm, hr, hf⟩ := l
  refine ⟨ord, wp, wm ++ [(k, q)], hr, ⟨hf.pos, hf.nul, ⟨fun x hx => ?_⟩, ?_⟩⟩
  · rcases List.mem_append.1 hx with hx | hx
    · exact hf.neg.all x hx
    · have : x = (k, q) := by simpa using hx
      subst this
      exact ⟨hk, ⟨trivial, htk⟩, hd⟩
  · rw [cx_ev_append, cx_ev_one, ← cx_comp_assoc, ← cx_comp_assoc, cx_comp_assoc (cx_ev wp)]; exact cx_Eqd.comp hf.eq cx_Eqd.rfl'
def cx_pull [Mul (cx_S Nat)] [One (cx_S Nat)] [Add (cx_S Nat)] [Zero (cx_S Nat)] [Inhabited (cx_Idx Nat)] [Inhabited (PLift cx_Natl)] {n : Nat} [Zero (cx_Ex n)] [Add (cx_Ex n)] [Mul (cx_S (cx_Ex n))] [One (cx_S (cx_Ex n))] [Add (cx_S (cx_Ex n))] [Zero (cx_S (cx_Ex n))] [Inhabited (cx_Idx (cx_Ex n))] [Inhabited (PLift (cx_Exl n))] [∀ s : cx_Sd n, Add (cx_MM s)] [∀ s : cx_Sd n, Inhabited (PLift (cx_MGl (cx_MM s)))] [∀ s : cx_Sd n, Inhabited (cx_Tord (cx_Ex n) (cx_MM s))] [Inhabited (PLift (cx_MMl n))] (ρ : Fin n → Nat) (k : Fin n) (t : cx_Ex n → Rat) : cx_Ex n → Rat := cx_dt (fun i => if i = k then - t (cx_ee k) else t (cx_ee i) + (ρ i : Rat) * t (cx_ee k))
theorem cx_pull_fun [Mul (cx_S Nat)] [One (cx_S Nat)] [Add (cx_S Nat)] [Zero (cx_S Nat)] [Inhabited (cx_Idx Nat)] [Inhabited (PLift cx_Natl)] {n : Nat} [Zero (cx_Ex n)] [Add (cx_Ex n)] [Mul (cx_S (cx_Ex n))] [One (cx_S (cx_Ex n))] [Add (cx_S (cx_Ex n))] [Zero (cx_S (cx_Ex n))] [Inhabited (cx_Idx (cx_Ex n))] [Inhabited (PLift (cx_Exl n))] [∀ s : cx_Sd n, Add (cx_MM s)] [∀ s : cx_Sd n, Inhabited (PLift (cx_MGl (cx_MM s)))] [∀ s : cx_Sd n, Inhabited (cx_Tord (cx_Ex n) (cx_MM s))] [Inhabited (PLift (cx_MMl n))] (ρ : Fin n → Nat) (k : Fin n) (t : cx_Ex n → Rat) : cx_Fun (cx_pull ρ k t) := cx_dt_fun _
theorem cx_pull_k [Mul (cx_S Nat)] [One (cx_S Nat)] [Add (cx_S Nat)] [Zero (cx_S Nat)] [Inhabited (cx_Idx Nat)] [Inhabited (PLift cx_Natl)] {n : Nat} [Zero (cx_Ex n)] [Add (cx_Ex n)] [Mul (cx_S (cx_Ex n))] [One (cx_S (cx_Ex n))] [Add (cx_S (cx_Ex n))] [Zero (cx_S (cx_Ex n))] [Inhabited (cx_Idx (cx_Ex n))] [Inhabited (PLift (cx_Exl n))] [∀ s : cx_Sd n, Add (cx_MM s)] [∀ s : cx_Sd n, Inhabited (PLift (cx_MGl (cx_MM s)))] [∀ s : cx_Sd n, Inhabited (cx_Tord (cx_Ex n) (cx_MM s))] [Inhabited (PLift (cx_MMl n))] (ρ : Fin n → Nat) (k : Fin n) (t : cx_Ex n → Rat) : cx_pull ρ k t (cx_ee k) = - t (cx_ee k) := by unfold cx_pull; rw [cx_dt_ee, if_pos rfl]
theorem cx_pull_ne [Mul (cx_S Nat)] [One (cx_S Nat)] [Add (cx_S Nat)] [Zero (cx_S Nat)] [Inhabited (cx_Idx Nat)] [Inhabited (PLift cx_Natl)] {n : Nat} [Zero (cx_Ex n)] [Add (cx_Ex n)] [Mul (cx_S (cx_Ex n))] [One (cx_S (cx_Ex n))] [Add (cx_S (cx_Ex n))] [Zero (cx_S (cx_Ex n))] [Inhabited (cx_Idx (cx_Ex n))] [Inhabited (PLift (cx_Exl n))] [∀ s : cx_Sd n, Add (cx_MM s)] [∀ s : cx_Sd n, Inhabited (PLift (cx_MGl (cx_MM s)))] [∀ s : cx_Sd n, Inhabited (cx_Tord (cx_Ex n) (cx_MM s))] [Inhabited (PLift (cx_MMl n))] (ρ : Fin n → Nat) {k i : Fin n} (h : i ≠ k) (t : cx_Ex n → Rat) : cx_pull ρ k t (cx_ee i) = t (cx_ee i) + (ρ i : Rat) * t (cx_ee k) := by unfold cx_pull; rw [cx_dt_ee, if_neg h]
theorem cx_dt_congr [Mul (cx_S Nat)] [One (cx_S Nat)] [Add (cx_S Nat)] [Zero (cx_S Nat)] [Inhabited (cx_Idx Nat)] [Inhabited (PLift cx_Natl)] {n : Nat} [Zero (cx_Ex n)] [Add (cx_Ex n)] [Mul (cx_S (cx_Ex n))] [One (cx_S (cx_Ex n))] [Add (cx_S (cx_Ex n))] [Zero (cx_S (cx_Ex n))] [Inhabited (cx_Idx (cx_Ex n))] [Inhabited (PLift (cx_Exl n))] [∀ s : cx_Sd n, Add (cx_MM s)] [∀ s : cx_Sd n, Inhabited (PLift (cx_MGl (cx_MM s)))] [∀ s : cx_Sd n, Inhabited (cx_Tord (cx_Ex n) (cx_MM s))] [Inhabited (PLift (cx_MMl n))] {τ τ' : Fin n → Rat} (h : ∀ i, τ i = τ' i) (b : cx_Ex n) : cx_dt τ b = cx_dt τ' b := by
  unfold cx_dt; exact cx_sm_congr (fun i _ => by rw [h i])
theorem cx_pull_pull [Mul (cx_S Nat)] [One (cx_S Nat)] [Add (cx_S Nat)] [Zero (cx_S Nat)] [Inhabited (cx_Idx Nat)] [Inhabited (PLift cx_Natl)] {n : Nat} [Zero (cx_Ex n)] [Add (cx_Ex n)] [Mul (cx_S (cx_Ex n))] [One (cx_S (cx_Ex n))] [Add (cx_S (cx_Ex n))] [Zero (cx_S (cx_Ex n))] [Inhabited (cx_Idx (cx_Ex n))] [Inhabited (PLift (cx_Exl n))] [∀ s : cx_Sd n, Add (cx_MM s)] [∀ s : cx_Sd n, Inhabited (PLift (cx_MGl (cx_MM s)))] [∀ s : cx_Sd n, Inhabited (cx_Tord (cx_Ex n) (cx_MM s))] [Inhabited (PLift (cx_MMl n))] (ρ : Fin n → Nat) (k : Fin n) {t : cx_Ex n → Rat} (ht : cx_Fun t) (b : cx_Ex n) : cx_pull ρ k (cx_pull ρ k t) b = t b := by
  rw [cx_fun_dt ht b]
  show cx_dt _ b = _
  refine cx_dt_congr (fun i => ?_) b
  by_cases hi : i = k
  · subst hi; rw [if_pos rfl, cx_pull_k]; grind
  · rw [if_neg hi, cx_pull_ne ρ hi, cx_pull_k]; grind
theorem cx_pull_lin [Mul (cx_S Nat)] [One (cx_S Nat)] [Add (cx_S Nat)] [Zero (cx_S Nat)] [Inhabited (cx_Idx Nat)] [Inhabited (PLift cx_Natl)] {n : Nat} [Zero (cx_Ex n)] [Add (cx_Ex n)] [Mul (cx_S (cx_Ex n))] [One (cx_S (cx_Ex n))] [Add (cx_S (cx_Ex n))] [Zero (cx_S (cx_Ex n))] [Inhabited (cx_Idx (cx_Ex n))] [Inhabited (PLift (cx_Exl n))] [∀ s : cx_Sd n, Add (cx_MM s)] [∀ s : cx_Sd n, Inhabited (PLift (cx_MGl (cx_MM s)))] [∀ s : cx_Sd n, Inhabited (cx_Tord (cx_Ex n) (cx_MM s))] [Inhabited (PLift (cx_MMl n))] (ρ : Fin n → Nat) (k : Fin n) (b : cx_Ex n) : cx_Lin1 (fun t => cx_pull ρ k t b) := by
  intro u v e
  show cx_dt _ b = cx_dt _ b + e * cx_dt _ b
  unfold cx_dt
  rw [← cx_sm_mulL, ← cx_sm_add]
  refine cx_sm_congr (fun i _ => ?_)
  dsimp only
  by_cases hi : i = k
  · rw [if_pos hi, if_pos hi, if_pos hi]; grind
  · rw [if_neg hi, if_neg hi, if_neg hi]; grind
theorem cx_pull_on [Mul (cx_S Nat)] [One (cx_S Nat)] [Add (cx_S Nat)] [Zero (cx_S Nat)] [Inhabited (cx_Idx Nat)] [Inhabited (PLift cx_Natl)] {n : Nat} [Zero (cx_Ex n)] [Add (cx_Ex n)] [Mul (cx_S (cx_Ex n))] [One (cx_S (cx_Ex n))] [Add (cx_S (cx_Ex n))] [Zero (cx_S (cx_Ex n))] [Inhabited (cx_Idx (cx_Ex n))] [Inhabited (PLift (cx_Exl n))] [∀ s : cx_Sd n, Add (cx_MM s)] [∀ s : cx_Sd n, Inhabited (PLift (cx_MGl (cx_MM s)))] [∀ s : cx_Sd n, Inhabited (cx_Tord (cx_Ex n) (cx_MM s))] [Inhabited (PLift (cx_MMl n))] {ρ : Fin n → Nat} {k : Fin n} (hk : ρ k = 0) {t : cx_Ex n → Rat} (ht : cx_Fun t) {b : cx_Ex n} (hb : b k ≤ cx_rw_ ρ b) : t (cx_th ρ k b) = cx_pull ρ k t b := by
  rw [cx_fun_dt ht (cx_th ρ k b)]
  unfold cx_pull cx_dt
  have e0 : ((cx_th ρ k b) k : Rat) = (cx_rw_ ρ b : Rat) - (b k : Rat) := by
    unfold cx_th; rw [cx_dn_k]
    have : ((cx_rw_ ρ b - b k + b k : Nat) : Rat) = (cx_rw_ ρ b : Rat) := by rw [Nat.sub_add_cancel hb]
    rw [cx_castR] at this
    grind
  rw [cx_fr_split k, cx_fr_split k (fun i => (if i = k then - t (cx_ee k) else t (cx_ee i) + (ρ i : Rat) * t (cx_ee k)) * (b i : Rat)), e0, if_pos rfl, cx_rw_cast]
  have : cx_sm (cx_fr n) (fun i => if i = k then 0 else (if i = k then - t (cx_ee k) else t (cx_ee i) + (ρ i : Rat) * t (cx_ee k)) * (b i : Rat))
      = cx_sm (cx_fr n) (fun i => if i = k then 0 else t (cx_ee i) * (cx_th ρ k b i : Rat)) + cx_sm (cx_fr n) (fun i => (ρ i : Rat) * (b i : Rat)) * t (cx_ee k) := by
    rw [← cx_sm_mulR, ← cx_sm_add]
    refine cx_sm_congr (fun i _ => ?_)
    by_cases hi : i = k
    · subst hi; rw [if_pos rfl, if_pos rfl, hk, show ((0 : Nat) : Rat) = 0 from rfl]; grind
    · rw [if_neg hi, if_neg hi, if_neg hi]
      have e2 : cx_th ρ k b i = b i := cx_dn_ne _ _ hi
      rw [e2]; grind
  rw [this]; grind
theorem cx_pull_pr [Mul (cx_S Nat)] [One (cx_S Nat)] [Add (cx_S Nat)] [Zero (cx_S Nat)] [Inhabited (cx_Idx Nat)] [Inhabited (PLift cx_Natl)] {n : Nat} [Zero (cx_Ex n)] [Add (cx_Ex n)] [Mul (cx_S (cx_Ex n))] [One (cx_S (cx_Ex n))] [Add (cx_S (cx_Ex n))] [Zero (cx_S (cx_Ex n))] [Inhabited (cx_Idx (cx_Ex n))] [Inhabited (PLift (cx_Exl n))] [∀ s : cx_Sd n, Add (cx_MM s)] [∀ s : cx_Sd n, Inhabited (PLift (cx_MGl (cx_MM s)))] [∀ s : cx_Sd n, Inhabited (cx_Tord (cx_Ex n) (cx_MM s))] [Inhabited (PLift (cx_MMl n))] {s : cx_Sd n} {k : Fin n} {ρ : Fin n → Nat} (m : cx_MM s) (b : cx_Ex n) : cx_pull ρ k (fun x => cx_pr x (cx_mu s (cx_turn s k) k ρ m)) b = cx_pr b m := by
  rw [cx_fun_dt (cx_fun_pr m) b]
  show cx_dt _ b = _
  refine cx_dt_congr (fun i => ?_) b
  by_cases hi : i = k
  · subst hi; rw [if_pos rfl]; dsimp only; rw [cx_pr_ee, cx_pr_ee, cx_mu_k, cx_turn_d]; grind
  · rw [if_neg hi]; dsimp only; rw [cx_pr_ee, cx_pr_ee, cx_pr_ee, cx_mu_k, cx_mu_ne _ _ hi, cx_turn_d]
    have := cx_cc_d s k ρ i
    grind
theorem cx_cmp_of [Mul (cx_S Nat)] [One (cx_S Nat)] [Add (cx_S Nat)] [Zero (cx_S Nat)] [Inhabited (cx_Idx Nat)] [Inhabited (PLift cx_Natl)]  {B : Type} [Zero B] [Add B] [Mul (cx_S B)] [One (cx_S B)] [Add (cx_S B)] [Zero (cx_S B)] [Inhabited (cx_Idx B)] {T t : B → Rat} {b : B} (h1 : 0 < T b → 0 < t b) (h2 : T b < 0 → t b < 0) : 0 ≤ t b * T b := by
  by_cases h : 0 < T b
  · have := Rat.mul_pos (h1 h) h; grind
  · by_cases h' : T b < 0
    · have h3 := h2 h'
      have := Rat.mul_pos (by grind : 0 < - t b) (by grind : 0 < - T b); grind
    · have : T b = 0 := by grind
      rw [this]; grind
theorem cx_side [Mul (cx_S Nat)] [One (cx_S Nat)] [Add (cx_S Nat)] [Zero (cx_S Nat)] [Inhabited (cx_Idx Nat)] [Inhabited (PLift cx_Natl)] {n : Nat} [Zero (cx_Ex n)] [Add (cx_Ex n)] [Mul (cx_S (cx_Ex n))] [One (cx_S (cx_Ex n))] [Add (cx_S (cx_Ex n))] [Zero (cx_S (cx_Ex n))] [Inhabited (cx_Idx (cx_Ex n))] [Inhabited (PLift (cx_Exl n))] [∀ s : cx_Sd n, Add (cx_MM s)] [∀ s : cx_Sd n, Inhabited (PLift (cx_MGl (cx_MM s)))] [∀ s : cx_Sd n, Inhabited (cx_Tord (cx_Ex n) (cx_MM s))] [Inhabited (PLift (cx_MMl n))] {s : cx_Sd n} {k : Fin n} {ρ : Fin n → Nat} (hρ : cx_Rho s k ρ) {F : cx_MM s → cx_S (cx_Ex n)} (gF : cx_Good F) (sF : cx_Sup (cx_Sv (cx_dl k) (cx_vv ρ k)) F)
    {a : cx_Ex n} (ha : cx_Sv (cx_dl k) (cx_vv ρ k) a) (σ : Rat) (hσ : σ = 1 ∨ σ = -1) (hs : 0 ≤ σ * cx_pr (cx_ee k) (cx_p a : cx_MM (cx_turn s k))) :
    ∃ t t2 f f2, cx_Gen (cx_Par a) (cx_deg a) t ∧ cx_Cmp (cx_MM (cx_turn s k)) a t ∧ 0 < σ * t (cx_ee k) ∧ cx_Gen (cx_Par (cx_th ρ k a)) (cx_deg (cx_th ρ k a)) t2 ∧ cx_Cmp (cx_MM s) (cx_th ρ k a) t2 ∧ t2 (cx_ee k) = - t (cx_ee k) ∧
      cx_Lam (cx_trS s k ρ F) a (cx_deg a) t f ∧ cx_Lam F (cx_th ρ k a) (cx_deg (cx_th ρ k a)) t2 f2 ∧ f a = f2 (cx_th ρ k a) := by
  classical
  have T0 := cx_trn hρ
  let a0 := cx_th ρ k a
  have ha0 : cx_Sv (cx_dl k) (cx_vv ρ k) a0 := T0.to a ha
  have hanz := T0.nz a ha
  have ha0nz := T0.nz a0 ha0
  have hb := ((cx_sv_iff ρ k a).1 ha).2
  have hb0 := ((cx_sv_iff ρ k a0).1 ha0).2
  have hback : cx_th ρ k a0 = a := T0.l a ha
  let T : cx_Ex n → Rat := cx_Ta (cx_MM (cx_turn s k)) a
  have hTv : cx_Van (cx_Par a) T := cx_Ta_van hanz
  have epa : (cx_p a : cx_MM (cx_turn s k)) = cx_mu s (cx_turn s k) k ρ (cx_p a0) := by
    have h1 := T0.p_ a0 (cx_neg (B := cx_Ex n) (cx_p a0)) ha0
    rw [hback] at h1
    refine cx_MM.ext fun i => ?_
    have h2 := congrArg (fun m => m.v i) h1
    simp only [cx_mm_add] at h2
    by_cases hi : i = k
    · subst hi
      rw [cx_mu_k, cx_mu_k] at h2
      rw [cx_mu_k]
      have h3 : (cx_neg (B := cx_Ex n) (cx_p a0 : cx_MM s)).v i = - (cx_p a0 : cx_MM s).v i := ((default : PLift (cx_MMl n)).down s).2.2.2 _ _
      rw [cx_mm_add, h3] at h2
      grind
    · rw [cx_mu_ne _ _ hi, cx_mu_ne _ _ hi] at h2
      rw [cx_mu_ne _ _ hi]
      have h3 : ∀ j, (cx_neg (B := cx_Ex n) (cx_p a0 : cx_MM s)).v j = - (cx_p a0 : cx_MM s).v j := fun j => ((default : PLift (cx_MMl n)).down s).2.2.2 _ _
      rw [cx_mm_add, cx_mm_add, h3, h3] at h2
      grind
  have hpT : ∀ b, cx_pull ρ k T b = cx_Ta (cx_MM s) a0 b := by
    intro b
    have : T = fun x => cx_pr x (cx_mu s (cx_turn s k) k ρ (cx_p a0)) := by
      funext x
      show cx_pr x (cx_p a : cx_MM (cx_turn s k)) = _
      rw [epa]
    rw [this, cx_pull_pr]; rfl
  have hnpk : ∃ v, cx_Van (cx_Par a) v ∧ v (cx_ee k) ≠ 0 := by
    have hd := ha.1
    refine ⟨fun b => cx_dl k a * cx_dg b + (- cx_dg a) * cx_dl k b, cx_Van.par hanz (cx_fun_dg.lin (cx_dl_fun k) _ _) (by show cx_dl k a * cx_dg a + (- cx_dg a) * cx_dl k a = 0; grind), ?_⟩
    show cx_dl k a * cx_dg (cx_ee k) + (- cx_dg a) * cx_dl k (cx_ee k) ≠ 0
    rw [(cx_kd s k).dlk]
    have h1 := cx_dg_pos (cx_ee_nz k)
    have := Rat.mul_pos hd h1
    grind
  let L1 : List ((cx_Ex n → Rat) → Rat) := (cx_lst (cx_deg a)).map fun b => fun t => t b
  let L2 : List ((cx_Ex n → Rat) → Rat) := (cx_lst (cx_deg a0)).map fun b => fun t => cx_pull ρ k t b
  let l0 : (cx_Ex n → Rat) → Rat := fun t => t (cx_ee k)
  obtain ⟨t, vt, hall, htk⟩ := cx_gen_dir (cx_Van (cx_Par a)) (fun u v hu hv e => ⟨hu.1.plus hv.1 e, fun a ha => by show u a + e * v a = 0; rw [hu.2 a ha, hv.2 a ha]; grind⟩) hTv
    (l0 :: (L1 ++ L2)) (by
    intro l hl
    rcases List.mem_cons.1 hl with rfl | hl
    · intro u v e; rfl
    · rcases List.mem_append.1 hl with hl | hl
      · obtain ⟨b, _, rfl⟩ := List.mem_map.1 hl; intro u v e; rfl
      · obtain ⟨b, _, rfl⟩ := List.mem_map.1 hl; exact cx_pull_lin ρ k b) (l0 := l0) (by simp) σ hσ hs hnpk
  have h1 : ∀ b, cx_deg b ≤ cx_deg a → (0 < T b → 0 < t b) ∧ (T b < 0 → t b < 0) ∧ (t b = 0 → ∀ v, cx_Van (cx_Par a) v → v b = 0) := fun b hb =>
    hall (fun t => t b) (by simp only [List.mem_cons, List.mem_append]; exact .inr (.inl (List.mem_map.2 ⟨b, (cx_mem_lst _ b).2 hb, rfl⟩)))
  have h2 : ∀ b, cx_deg b ≤ cx_deg a0 → (0 < cx_Ta (cx_MM s) a0 b → 0 < cx_pull ρ k t b) ∧ (cx_Ta (cx_MM s) a0 b < 0 → cx_pull ρ k t b < 0) ∧ (cx_pull ρ k t b = 0 → ∀ v, cx_Van (cx_Par a) v → cx_pull ρ k v b = 0) := fun b hb => by
    have := hall (fun t => cx_pull ρ k t b) (by simp only [List.mem_cons, List.mem_append]; exact .inr (.inr (List.mem_map.2 ⟨b, (cx_mem_lst _ b).2 hb, rfl⟩)))
    rw [hpT] at this
    exact this
  have par_of : ∀ {x b : cx_Ex n}, x ≠ 0 → (∀ v : cx_Ex n → Rat, cx_Fun v → v x = 0 → v b = 0) → cx_Par x b := by
    intro x b hx h v hv
    have := h (fun y => cx_dg x * v y + (- v x) * cx_dg y) (hv.lin cx_fun_dg _ _) (by show cx_dg x * v x + (- v x) * cx_dg x = 0; grind)
    grind
  let t2 := cx_pull ρ k t
  have ft2 : cx_Fun t2 := cx_pull_fun ρ k t
  have t2a0 : t2 a0 = 0 := by
    show cx_pull ρ k t a0 = 0
    rw [← cx_pull_on hρ.k0 vt.1 hb0, hback]
    exact vt.2 a (cx_Par.refl a)
  have g1 : cx_Gen (cx_Par a) (cx_deg a) t := ⟨vt.1, fun b hb hd => ⟨fun h0 => par_of hanz (fun v hv hva => (h1 b hd).2.2 h0 v (cx_Van.par hanz hv hva)), fun hp => vt.2 b hp⟩⟩
  have g2 : cx_Gen (cx_Par a0) (cx_deg a0) t2 := ⟨ft2, fun b _ hd => ⟨fun h0 => par_of ha0nz (fun v hv hva => by
    have h3 := (h2 b hd).2.2 h0 (cx_pull ρ k v) (cx_Van.par hanz (cx_pull_fun ρ k v) (by rw [← cx_pull_on hρ.k0 hv hb]; exact hva))
    rw [cx_pull_pull ρ k hv] at h3
    exact h3), fun hp => hp.zero ha0nz ft2 t2a0⟩⟩
  have c1 : cx_Cmp (cx_MM (cx_turn s k)) a t := fun b hb => cx_cmp_of (T := T) (h1 b hb).1 (h1 b hb).2.1
  have c2 : cx_Cmp (cx_MM s) a0 t2 := fun b hb => cx_cmp_of (T := cx_Ta (cx_MM s) a0) (h2 b hb).1 (h2 b hb).2.1

  obtain ⟨d1, hd1⟩ := cx_th_bnd ρ k (cx_Sv (cx_dl k) (cx_vv ρ k)) (cx_deg a)
  let D0 := max d1 (cx_deg a0)
  obtain ⟨wp, w0, wm, hf, _⟩ := cx_Fac.exists (t := t2) T0.c (Z := fun _ => False) (fun _ _ h _ => h) gF sF (fun _ _ h => h.elim) D0
  have hfT := cx_tr_fac T0 (d' := cx_deg a) (fun b hb hd => Nat.le_trans (hd1 b hb hd) (Nat.le_max_left _ _)) (t' := t) (fun b hb => cx_pull_on hρ.k0 vt.1 ((cx_sv_iff ρ k b).1 hb).2) hf
  have l1 := cx_lam_cf hanz g1 (hfT.weak (fun _ _ => trivial))
  have l2 := cx_lam_cf ha0nz g2 ((hf.cut (Nat.le_max_right d1 (cx_deg a0))).weak (fun _ _ => trivial))
  refine ⟨t, t2, _, _, g1, c1, htk, g2, c2, cx_pull_k ρ k t, l1, l2, ?_⟩
  rw [cx_cf_cut (Nat.le_refl _), cx_cf_cut (Nat.le_refl _)]
  unfold cx_cf cx_mapw
  rw [cx_sm_map]
  refine cx_sm_congr (fun x hx => ?_)
  have hxS := (hf.nul.all x hx).2.1.1
  by_cases he : cx_th ρ k x.1 = a
  · rw [if_pos he, if_pos (by show x.1 = cx_th ρ k a; rw [← he]; exact (T0.l x.1 hxS).symm)]
  · rw [if_neg he, if_neg (fun e : x.1 = cx_th ρ k a => he (by rw [e]; exact hback))]
theorem cx_sd_turn [Mul (cx_S Nat)] [One (cx_S Nat)] [Add (cx_S Nat)] [Zero (cx_S Nat)] [Inhabited (cx_Idx Nat)] [Inhabited (PLift cx_Natl)] {n : Nat} [Zero (cx_Ex n)] [Add (cx_Ex n)] [Mul (cx_S (cx_Ex n))] [One (cx_S (cx_Ex n))] [Add (cx_S (cx_Ex n))] [Zero (cx_S (cx_Ex n))] [Inhabited (cx_Idx (cx_Ex n))] [Inhabited (PLift (cx_Exl n))] [∀ s : cx_Sd n, Add (cx_MM s)] [∀ s : cx_Sd n, Inhabited (PLift (cx_MGl (cx_MM s)))] [∀ s : cx_Sd n, Inhabited (cx_Tord (cx_Ex n) (cx_MM s))] [Inhabited (PLift (cx_MMl n))] (s : cx_Sd n) (k : Fin n) (a : cx_Ex n) : cx_sd (cx_turn s k) a = cx_sd s a := by
  by_cases h : ∃ i, a = cx_ee i
  · obtain ⟨i, rfl⟩ := h; rw [cx_sd_ee, cx_sd_ee]; rfl
  · rw [cx_sd_no _ (fun i e => h ⟨i, e⟩), cx_sd_no _ (fun i e => h ⟨i, e⟩)]
theorem cx_th_ee [Mul (cx_S Nat)] [One (cx_S Nat)] [Add (cx_S Nat)] [Zero (cx_S Nat)] [Inhabited (cx_Idx Nat)] [Inhabited (PLift cx_Natl)] {n : Nat} [Zero (cx_Ex n)] [Add (cx_Ex n)] [Mul (cx_S (cx_Ex n))] [One (cx_S (cx_Ex n))] [Add (cx_S (cx_Ex n))] [Zero (cx_S (cx_Ex n))] [Inhabited (cx_Idx (cx_Ex n))] [Inhabited (PLift (cx_Exl n))] [∀ s : cx_Sd n, Add (cx_MM s)] [∀ s : cx_Sd n, Inhabited (PLift (cx_MGl (cx_MM s)))] [∀ s : cx_Sd n, Inhabited (cx_Tord (cx_Ex n) (cx_MM s))] [Inhabited (PLift (cx_MMl n))] (ρ : Fin n → Nat) {k i : Fin n} (hi : i ≠ k) (h : ρ i = 0) : cx_th ρ k (cx_ee i) = cx_ee i := by
  unfold cx_th
  rw [cx_rw_ee, h]
  funext j
  by_cases hj : j = k
  · subst hj; rw [cx_dn_k, cx_ee_ne (fun e => hi e.symm)]
  · rw [cx_dn_ne _ _ hj]
theorem cx_pk_ee [Mul (cx_S Nat)] [One (cx_S Nat)] [Add (cx_S Nat)] [Zero (cx_S Nat)] [Inhabited (cx_Idx Nat)] [Inhabited (PLift cx_Natl)] {n : Nat} [Zero (cx_Ex n)] [Add (cx_Ex n)] [Mul (cx_S (cx_Ex n))] [One (cx_S (cx_Ex n))] [Add (cx_S (cx_Ex n))] [Zero (cx_S (cx_Ex n))] [Inhabited (cx_Idx (cx_Ex n))] [Inhabited (PLift (cx_Exl n))] [∀ s : cx_Sd n, Add (cx_MM s)] [∀ s : cx_Sd n, Inhabited (PLift (cx_MGl (cx_MM s)))] [∀ s : cx_Sd n, Inhabited (cx_Tord (cx_Ex n) (cx_MM s))] [Inhabited (PLift (cx_MMl n))] (s : cx_Sd n) (k i : Fin n) : cx_pk s k (cx_ee i) = (s.b k i : Rat) := by
  unfold cx_pk
  rw [cx_p_def]
  exact cx_dt_ee (fun j => (s.b k j : Rat)) i
theorem cx_sd_th [Mul (cx_S Nat)] [One (cx_S Nat)] [Add (cx_S Nat)] [Zero (cx_S Nat)] [Inhabited (cx_Idx Nat)] [Inhabited (PLift cx_Natl)] {n : Nat} [Zero (cx_Ex n)] [Add (cx_Ex n)] [Mul (cx_S (cx_Ex n))] [One (cx_S (cx_Ex n))] [Add (cx_S (cx_Ex n))] [Zero (cx_S (cx_Ex n))] [Inhabited (cx_Idx (cx_Ex n))] [Inhabited (PLift (cx_Exl n))] [∀ s : cx_Sd n, Add (cx_MM s)] [∀ s : cx_Sd n, Inhabited (PLift (cx_MGl (cx_MM s)))] [∀ s : cx_Sd n, Inhabited (cx_Tord (cx_Ex n) (cx_MM s))] [Inhabited (PLift (cx_MMl n))] {s : cx_Sd n} {k : Fin n} {ρ : Fin n → Nat} (hρ : cx_Rho s k ρ) {a : cx_Ex n} (ha : cx_Sv (cx_dl k) (cx_vv ρ k) a) (h0 : ∀ i, i ≠ k → (a = cx_ee i ∨ cx_th ρ k a = cx_ee i) → ρ i = 0) :
    cx_sd s (cx_th ρ k a) = cx_sd (cx_turn s k) a := by
  rw [cx_sd_turn]
  have T0 := cx_trn hρ
  have nk : ∀ i, cx_Sv (cx_dl k) (cx_vv ρ k) (cx_ee i) → i ≠ k := fun i hi e => by subst e; have := hi.1; rw [(cx_kd s i).dlk] at this; grind
  by_cases h : ∃ i, a = cx_ee i
  · obtain ⟨i, rfl⟩ := h
    have hi := nk i ha
    rw [cx_th_ee ρ hi (h0 i hi (.inl rfl))]
  · by_cases h2 : ∃ i, cx_th ρ k a = cx_ee i
    · obtain ⟨i, hi⟩ := h2
      have h3 := T0.to a ha
      rw [hi] at h3
      have hik := nk i h3
      have h4 : a = cx_th ρ k (cx_ee i) := by rw [← hi]; exact (T0.l a ha).symm
      rw [cx_th_ee ρ hik (h0 i hik (.inr hi))] at h4
      exact absurd ⟨i, h4⟩ h
    · rw [cx_sd_no _ (fun i e => h ⟨i, e⟩), cx_sd_no _ (fun i e => h2 ⟨i, e⟩)]
theorem cx_pk_th [Mul (cx_S Nat)] [One (cx_S Nat)] [Add (cx_S Nat)] [Zero (cx_S Nat)] [Inhabited (cx_Idx Nat)] [Inhabited (PLift cx_Natl)] {n : Nat} [Zero (cx_Ex n)] [Add (cx_Ex n)] [Mul (cx_S (cx_Ex n))] [One (cx_S (cx_Ex n))] [Add (cx_S (cx_Ex n))] [Zero (cx_S (cx_Ex n))] [Inhabited (cx_Idx (cx_Ex n))] [Inhabited (PLift (cx_Exl n))] [∀ s : cx_Sd n, Add (cx_MM s)] [∀ s : cx_Sd n, Inhabited (PLift (cx_MGl (cx_MM s)))] [∀ s : cx_Sd n, Inhabited (cx_Tord (cx_Ex n) (cx_MM s))] [Inhabited (PLift (cx_MMl n))] {s : cx_Sd n} {k : Fin n} (ρ : Fin n → Nat) (a : cx_Ex n) : cx_pk s k (cx_th ρ k a) = cx_pk s k a := cx_pk_dn s k a _
theorem cx_inc_turn [Mul (cx_S Nat)] [One (cx_S Nat)] [Add (cx_S Nat)] [Zero (cx_S Nat)] [Inhabited (cx_Idx Nat)] [Inhabited (PLift cx_Natl)] {n : Nat} [Zero (cx_Ex n)] [Add (cx_Ex n)] [Mul (cx_S (cx_Ex n))] [One (cx_S (cx_Ex n))] [Add (cx_S (cx_Ex n))] [Zero (cx_S (cx_Ex n))] [Inhabited (cx_Idx (cx_Ex n))] [Inhabited (PLift (cx_Exl n))] [∀ s : cx_Sd n, Add (cx_MM s)] [∀ s : cx_Sd n, Inhabited (PLift (cx_MGl (cx_MM s)))] [∀ s : cx_Sd n, Inhabited (cx_Tord (cx_Ex n) (cx_MM s))] [Inhabited (PLift (cx_MMl n))] {s : cx_Sd n} {k : Fin n} {h h2 : cx_MM s → cx_S (cx_Ex n)} (hp : cx_Pair (cx_ee k) (cx_qq s k) (cx_vv (cx_rm s k) k) (cx_vv (cx_rp s k) k) (cx_dl k) (cx_ZZ s) h h2)
    (hi : cx_Inc (cx_comp (cx_E (cx_ee k) (cx_qq s k)) h) (cx_sd s)) : cx_Inc (cx_comp (cx_E (cx_ee k) (cx_qq (cx_turn s k) k)) (cx_trS s k (cx_rp s k) h2)) (cx_sd (cx_turn s k)) := by
  classical
  have hp' := cx_pair_turn hp
  have kd' := cx_kd (cx_turn s k) k
  have hw' := cx_pair_wh (cx_std (cx_turn s k) k) kd' hp'
  have st := cx_std (cx_turn s k) k
  intro a ha t0 gt0 ct0 f0 lf0
  have ddeg : cx_deg (cx_ee k) ≤ cx_deg a := cx_deg_ge kd' ha
  by_cases hd : cx_dl k a = 0
  · rw [cx_auto0 kd' hp' ha hd gt0 lf0, st.ray a ha hd]
  have hd' : 0 < cx_dl k a := by have := kd'.dl0 a; grind
  have hnp : ¬ cx_Par a (cx_ee k) := fun h => hd (by
    have e := h (cx_dl k) (cx_dl_fun k)
    rw [kd'.dlk, Rat.zero_mul] at e
    rcases Rat.mul_eq_zero.1 e.symm with h | h
    · exact h
    · have := cx_dg_pos (cx_ee_nz k); grind)
  have epk : cx_pr (cx_ee k) (cx_p a : cx_MM (cx_turn s k)) = (s.d k : Rat) * - cx_pk s k a := by
    rw [cx_pr_ee, cx_turn_d]
    have := cx_pk_turn s k a
    unfold cx_pk at *
    rw [this]
  have hdk := cx_d_pos s k
  by_cases hr : 0 ≤ cx_pr (cx_ee k) (cx_p a : cx_MM (cx_turn s k))
  · have hpk : cx_pk s k a ≤ 0 := by
      by_cases h : cx_pk s k a ≤ 0
      · exact h
      · have := Rat.mul_pos hdk (by grind : 0 < cx_pk s k a); grind
    by_cases hv : 0 ≤ cx_vv (cx_rm (cx_turn s k) k) k a
    · have hS : cx_Sv (cx_dl k) (cx_vv (cx_rp s k) k) a := ⟨hd', by rw [← cx_rm_turn]; exact hv⟩
      obtain ⟨t, t2, f, f2, g1, c1, tk, g2, c2, t2k, l1, l2, e⟩ := cx_side (cx_rho_p s k) hp.gh2 hp.sh2 hS 1 (.inl rfl) (by grind)
      have e1 := cx_indep hw' ha g1 c1 (cx_lam_left (cx_ee_nz k) ddeg (by grind) l1) t0 gt0 ct0 f0 lf0
      have ha0 := (cx_trn (cx_rho_p s k)).nz _ ((cx_trn (cx_rho_p s k)).to a hS)
      have l3 := cx_lam_right (cx_ee_nz k) (q := cx_qq s k) (cx_deg_ge (cx_kd s k) ha0) (by rw [t2k]; grind) l2
      rw [← hp.cj] at l3
      rw [e1, e, hi _ ha0 t2 g2 c2 f2 l3]
      refine cx_sd_th (cx_rho_p s k) hS (fun i hik hor => ?_)
      have : cx_pk s k (cx_ee i) ≤ 0 := by
        rcases hor with h | h
        · rw [← h]; exact hpk
        · rw [← h, cx_pk_th]; exact hpk
      rw [cx_pk_ee] at this
      have h3 : s.b k i ≤ 0 := by exact_mod_cast this
      unfold cx_rp cx_pos
      omega
    · obtain ⟨t, gt, ct, tk⟩ := cx_gen_cmp (M := cx_MM (cx_turn s k)) ha (cx_deg a) (cx_ee k) hnp 1 (.inl rfl) (by grind)
      obtain ⟨f, lf, _⟩ := cx_Lam.exists hw' gt
      rw [cx_indep hw' ha gt ct lf t0 gt0 ct0 f0 lf0, cx_auto1 kd' st.hZ hp' ha (fun h => hv h.2) gt (by grind) lf]
      exact (Classical.byContradiction (fun h => hv (st.off a hd' (fun e => h e.symm)).1))
  · have hpk : 0 ≤ cx_pk s k a := by
      by_cases h : 0 ≤ cx_pk s k a
      · exact h
      · have := Rat.mul_pos hdk (by grind : 0 < - cx_pk s k a); grind
    by_cases hv : 0 ≤ cx_vv (cx_rp (cx_turn s k) k) k a
    · have hS : cx_Sv (cx_dl k) (cx_vv (cx_rm s k) k) a := ⟨hd', by rw [← cx_rp_turn]; exact hv⟩
      obtain ⟨t, t2, f, f2, g1, c1, tk, g2, c2, t2k, l1, l2, e⟩ := cx_side (cx_rho_m s k) hp.gh hp.sh hS (-1) (.inr rfl) (by grind)
      have l4 := cx_lam_right (cx_ee_nz k) (q := cx_qq (cx_turn s k) k) ddeg (by grind) l1
      rw [← hp'.cj] at l4
      have e1 := cx_indep hw' ha g1 c1 l4 t0 gt0 ct0 f0 lf0
      have ha0 := (cx_trn (cx_rho_m s k)).nz _ ((cx_trn (cx_rho_m s k)).to a hS)
      have l3 := cx_lam_left (cx_ee_nz k) (q := cx_qq s k) (cx_deg_ge (cx_kd s k) ha0) (by rw [t2k]; grind) l2
      rw [e1, e, hi _ ha0 t2 g2 c2 f2 l3]
      refine cx_sd_th (cx_rho_m s k) hS (fun i hik hor => ?_)
      have : 0 ≤ cx_pk s k (cx_ee i) := by
        rcases hor with h | h
        · rw [← h]; exact hpk
        · rw [← h, cx_pk_th]; exact hpk
      rw [cx_pk_ee] at this
      have h3 : 0 ≤ s.b k i := by exact_mod_cast this
      unfold cx_rm cx_pos
      omega
    · obtain ⟨t, gt, ct, tk⟩ := cx_gen_cmp (M := cx_MM (cx_turn s k)) ha (cx_deg a) (cx_ee k) hnp (-1) (.inr rfl) (by grind)
      obtain ⟨f, lf, _⟩ := cx_Lam.exists hw' gt
      rw [cx_indep hw' ha gt ct lf t0 gt0 ct0 f0 lf0, cx_auto2 kd' st.hZ hp' ha (fun h => hv h.2) gt (by grind) lf]
      exact (Classical.byContradiction (fun h => hv (st.off a hd' (fun e => h e.symm)).2))
