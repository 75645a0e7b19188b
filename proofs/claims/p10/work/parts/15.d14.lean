def cx_MnT [Mul (cx_S Nat)] [One (cx_S Nat)] [Add (cx_S Nat)] [Zero (cx_S Nat)] [Inhabited (cx_Idx Nat)] [Inhabited (PLift cx_Natl)] {B : Type} [Zero B] [Add B] [Mul (cx_S B)] [One (cx_S B)] [Add (cx_S B)] [Zero (cx_S B)] [Inhabited (cx_Idx B)] {M : Type} [Add M] [Inhabited (PLift (cx_MGl M))] [Inhabited (cx_Tord B M)] (T : B → Prop) (g : M → cx_S B) (t : B → Rat) (f : M → cx_S B) : Prop := ∀ d, ∃ wp w0 wm, cx_Fac t T d g wp w0 wm ∧ cx_Eqd d f (cx_ev wm)
theorem cx_MnT.weak [Mul (cx_S Nat)] [One (cx_S Nat)] [Add (cx_S Nat)] [Zero (cx_S Nat)] [Inhabited (cx_Idx Nat)] [Inhabited (PLift cx_Natl)] {B : Type} [Zero B] [Add B] [Mul (cx_S B)] [One (cx_S B)] [Add (cx_S B)] [Zero (cx_S B)] [Inhabited (cx_Idx B)] {M : Type} [Add M] [Inhabited (PLift (cx_MGl M))] [Inhabited (cx_Tord B M)] {T T' : B → Prop} (h : ∀ b, T b → T' b) {g f : M → cx_S B} {t : B → Rat} (hm : cx_MnT T g t f) : cx_MnT T' g t f := fun d => by
  obtain ⟨wp, w0, wm, hf, he⟩ := hm d
  exact ⟨wp, w0, wm, hf.weak h, he⟩
theorem cx_MnT.exists [Mul (cx_S Nat)] [One (cx_S Nat)] [Add (cx_S Nat)] [Zero (cx_S Nat)] [Inhabited (cx_Idx Nat)] [Inhabited (PLift cx_Natl)] {B : Type} [Zero B] [Add B] [Mul (cx_S B)] [One (cx_S B)] [Add (cx_S B)] [Zero (cx_S B)] [Inhabited (cx_Idx B)] {M : Type} [Add M] [Inhabited (PLift (cx_MGl M))] [Inhabited (cx_Tord B M)] {T : B → Prop} (hT : cx_Clo T) {g : M → cx_S B} (hg : cx_Good g) (hs : cx_Sup T g) {t : B → Rat} (ht : cx_Fun t) : ∃ f, cx_MnT T g t f ∧ cx_Good f ∧ cx_Sup T f := by
  have ex : ∀ d, ∃ w : List (B × Rat) × List (B × Rat) × List (B × Rat), cx_Fac t T d g w.1 w.2.1 w.2.2 := fun d => by
    obtain ⟨wp, w0, wm, h, _⟩ := cx_Fac.exists (t := t) hT (Z := fun _ => False) (fun _ _ h _ => h) hg hs (fun _ _ h => h.elim) d
    exact ⟨(wp, w0, wm), h⟩
  obtain ⟨W, hW⟩ := Classical.axiomOfChoice ex
  let f : M → cx_S B := fun m b => cx_ev (W (cx_deg b)).2.2 m b
  have e : ∀ d, cx_Eqd d f (cx_ev (W d).2.2) := by
    intro d m b hb
    have u := ((hW (cx_deg b)).unique ht ((hW d).cut hb) cx_Eqd.rfl').2.2
    have c := cx_ev_cut (M := M) (d := cx_deg b) (hW d).neg.nz
    exact (u m b (Nat.le_refl _)).trans (c m b (Nat.le_refl _)).symm
  refine ⟨f, fun d => ⟨_, _, _, hW d, e d⟩, cx_good_lim (fun d => ⟨_, cx_ev_good (hW d).neg.nz, e d⟩), fun m b hb hn => ?_⟩
  exact cx_ev_sup hT (fun x hx => ((hW (cx_deg b)).neg.all x hx).2.1.1) m b hb hn
theorem cx_MnT.large [Mul (cx_S Nat)] [One (cx_S Nat)] [Add (cx_S Nat)] [Zero (cx_S Nat)] [Inhabited (cx_Idx Nat)] [Inhabited (PLift cx_Natl)] {B : Type} [Zero B] [Add B] [Mul (cx_S B)] [One (cx_S B)] [Add (cx_S B)] [Zero (cx_S B)] [Inhabited (cx_Idx B)] {M : Type} [Add M] [Inhabited (PLift (cx_MGl M))] [Inhabited (cx_Tord B M)] {T : B → Prop} {g f : M → cx_S B} {t : B → Rat} (d0 : Nat) (h : ∀ d, d0 ≤ d → ∃ wp w0 wm, cx_Fac t T d g wp w0 wm ∧ cx_Eqd d f (cx_ev wm)) : cx_MnT T g t f := by
  intro d
  obtain ⟨wp, w0, wm, hf, he⟩ := h (max d d0) (Nat.le_max_right _ _)
  exact ⟨_, _, _, hf.cut (Nat.le_max_left _ _), (he.mono (Nat.le_max_left _ _)).trans (cx_ev_cut hf.neg.nz)⟩
theorem cx_MnT.left [Mul (cx_S Nat)] [One (cx_S Nat)] [Add (cx_S Nat)] [Zero (cx_S Nat)] [Inhabited (cx_Idx Nat)] [Inhabited (PLift cx_Natl)] {B : Type} [Zero B] [Add B] [Mul (cx_S B)] [One (cx_S B)] [Add (cx_S B)] [Zero (cx_S B)] [Inhabited (cx_Idx B)] {M : Type} [Add M] [Inhabited (PLift (cx_MGl M))] [Inhabited (cx_Tord B M)] {T : B → Prop} {h f : M → cx_S B} {t : B → Rat} {k : B} (hk : k ≠ 0) (q : Rat) (htk : 0 < t k) (hm : cx_MnT T h t f) : cx_MnT cx_All (cx_comp (cx_E k q) h) t f := by
  refine cx_MnT.large (cx_deg k) (fun d hd => ?_)
  obtain ⟨wp, w0, wm, hf, he⟩ := hm d
  have hf := hf.weak (T' := cx_All) (fun _ _ => trivial)
  refine ⟨(k, q) :: wp, w0, wm, ⟨⟨fun x hx => ?_⟩, hf.nul, hf.neg, ?_⟩, he⟩
  · rcases List.mem_cons.1 hx with rfl | hx
    · exact ⟨hk, ⟨trivial, htk⟩, hd⟩
    · exact hf.pos.all x hx
  · rw [cx_ev_cons, cx_comp_assoc]; exact cx_Eqd.comp cx_Eqd.rfl' hf.eq
theorem cx_MnT.right [Mul (cx_S Nat)] [One (cx_S Nat)] [Add (cx_S Nat)] [Zero (cx_S Nat)] [Inhabited (cx_Idx Nat)] [Inhabited (PLift cx_Natl)] {B : Type} [Zero B] [Add B] [Mul (cx_S B)] [One (cx_S B)] [Add (cx_S B)] [Zero (cx_S B)] [Inhabited (cx_Idx B)] {M : Type} [Add M] [Inhabited (PLift (cx_MGl M))] [Inhabited (cx_Tord B M)] {T : B → Prop} {h f : M → cx_S B} {t : B → Rat} {k : B} (hk : k ≠ 0) (q : Rat) (htk : t k < 0) (hm : cx_MnT T h t f) : cx_MnT cx_All (cx_comp h (cx_E k q)) t (cx_comp f (cx_E k q)) := by
  refine cx_MnT.large (cx_deg k) (fun d hd => ?_)
  obtain ⟨wp, w0, wm, hf, he⟩ := hm d
  have hf := hf.weak (T' := cx_All) (fun _ _ => trivial)
  refine ⟨wp, w0, wm ++ [(k, q)], ⟨hf.pos, hf.nul, ⟨fun x hx => ?_⟩, ?_⟩, ?_⟩
  · rcases List.mem_append.1 hx with hx | hx
    · exact hf.neg.all x hx
    · have : x = (k, q) := by simpa using hx
      subst this
      exact ⟨hk, ⟨trivial, htk⟩, hd⟩
  · rw [cx_ev_append, cx_ev_one, ← cx_comp_assoc, ← cx_comp_assoc, cx_comp_assoc (cx_ev wp)]; exact cx_Eqd.comp hf.eq cx_Eqd.rfl'
  · rw [cx_ev_append, cx_ev_one]; exact cx_Eqd.comp he cx_Eqd.rfl'
theorem cx_MnT.unique [Mul (cx_S Nat)] [One (cx_S Nat)] [Add (cx_S Nat)] [Zero (cx_S Nat)] [Inhabited (cx_Idx Nat)] [Inhabited (PLift cx_Natl)] {B : Type} [Zero B] [Add B] [Mul (cx_S B)] [One (cx_S B)] [Add (cx_S B)] [Zero (cx_S B)] [Inhabited (cx_Idx B)] {M : Type} [Add M] [Inhabited (PLift (cx_MGl M))] [Inhabited (cx_Tord B M)] {g f f' : M → cx_S B} {t : B → Rat} (ht : cx_Fun t) (h : cx_MnT cx_All g t f) (h' : cx_MnT cx_All g t f') : f = f' := cx_eqd_all (fun d => by
  obtain ⟨wp, w0, wm, hf, he⟩ := h d
  obtain ⟨wp', w0', wm', hf', he'⟩ := h' d
  exact he.trans ((hf.unique ht hf' cx_Eqd.rfl').2.2.trans he'.symm))
theorem cx_MnT.theta [Mul (cx_S Nat)] [One (cx_S Nat)] [Add (cx_S Nat)] [Zero (cx_S Nat)] [Inhabited (cx_Idx Nat)] [Inhabited (PLift cx_Natl)] {B : Type} [Zero B] [Add B] [Mul (cx_S B)] [One (cx_S B)] [Add (cx_S B)] [Zero (cx_S B)] [Inhabited (cx_Idx B)] {M : Type} [Add M] [Inhabited (PLift (cx_MGl M))] [Inhabited (cx_Tord B M)] {Z : M → Prop} {g : M → cx_S B} (h : cx_Wh Z g) (hpos : ∀ a : B, a ≠ 0 → cx_PosAt g a) {m : M} (hm : Z m) (hdom : ∀ a : B, 0 ≤ cx_pr a m) {t : B → Rat} (ht : cx_Fun t) {f : M → cx_S B}
    (hf : cx_MnT cx_All g t f) (b : B) : 0 ≤ f m b ∧ cx_IsI (f m b) := by
  obtain ⟨wp, w0, wm, hw, he⟩ := hf (cx_deg b)
  rw [he m b (Nat.le_refl _)]
  refine ⟨cx_theta h hpos hm hdom ht hw b (Nat.le_refl _), ?_⟩
  obtain ⟨wp', w0', wm', hw', hl⟩ := h.fac t (cx_deg b)
  rw [(hw.unique ht hw' cx_Eqd.rfl').2.2 m b (Nat.le_refl _)]
  exact cx_ev_whole (d := cx_deg b) (T := cx_All) ⟨fun _ _ _ _ => trivial⟩ (fun m u hm _ => h.hZ m u hm) (fun x hx => ⟨trivial, hl x (by simp [hx])⟩) m hm b (Nat.le_refl _)
theorem cx_MnT.trivial [Mul (cx_S Nat)] [One (cx_S Nat)] [Add (cx_S Nat)] [Zero (cx_S Nat)] [Inhabited (cx_Idx Nat)] [Inhabited (PLift cx_Natl)] {B : Type} [Zero B] [Add B] [Mul (cx_S B)] [One (cx_S B)] [Add (cx_S B)] [Zero (cx_S B)] [Inhabited (cx_Idx B)] {M : Type} [Add M] [Inhabited (PLift (cx_MGl M))] [Inhabited (cx_Tord B M)] {g : M → cx_S B} (hg : cx_Good g) {t : B → Rat} (ht : cx_Fun t) (hp : ∀ b : B, b ≠ 0 → 0 < t b) : cx_MnT cx_All g t cx_I := by
  intro d
  obtain ⟨wp, w0, wm, h, _⟩ := cx_Fac.exists (t := t) (T := cx_All) ⟨fun _ _ _ _ => True.intro⟩ (Z := fun _ => False) (fun _ _ h _ => h) hg (fun _ _ _ h => absurd True.intro h) (fun _ _ h => h.elim) d
  refine ⟨wp, w0, wm, h, ?_⟩
  have : wm = [] := by
    cases wm with
    | nil => rfl
    | cons x l =>
      have := h.neg.all x (by simp)
      have h2 := hp x.1 this.1
      have h3 := this.2.1.2
      grind
  rw [this]; exact cx_Eqd.rfl'
theorem cx_Good.zero [Mul (cx_S Nat)] [One (cx_S Nat)] [Add (cx_S Nat)] [Zero (cx_S Nat)] [Inhabited (cx_Idx Nat)] [Inhabited (PLift cx_Natl)] {B : Type} [Zero B] [Add B] [Mul (cx_S B)] [One (cx_S B)] [Add (cx_S B)] [Zero (cx_S B)] [Inhabited (cx_Idx B)] {M : Type} [Add M] [Inhabited (PLift (cx_MGl M))] [Inhabited (cx_Tord B M)] {g : M → cx_S B} (hg : cx_Good g) : g (cx_p (0 : B)) = 1 := by
  have h := hg.hom (cx_p (0 : B)) (cx_p (0 : B))
  rw [cx_p_zero] at h
  have main : ∀ k, ∀ b : B, cx_deg b < k → b ≠ 0 → g (cx_p (0 : B)) b = 0 := by
    intro k
    induction k with
    | zero => intro b h; omega
    | succ k ih =>
      intro b hbk hb
      have e := congrFun h b
      have e2 : (g (cx_p (0 : B)) * g (cx_p (0 : B))) b = cx_D b (fun u v => g (cx_p (0 : B)) u * g (cx_p (0 : B)) v) := cx_mul_D _ _ _
      rw [e2, cx_D_ends hb] at e
      · rw [hg.unit] at e; grind
      · intro u v huv hu hv
        have hd := cx_deg_add u v
        rw [huv] at hd
        have : cx_deg v ≠ 0 := fun e => hv (cx_deg_pos v e)
        rw [ih u (by omega) hu, Rat.zero_mul]
  classical
  refine cx_S.ext (fun b => ?_)
  by_cases hb : b = 0
  · rw [hb, hg.unit, cx_one_zero]
  · rw [main (cx_deg b + 1) b (Nat.lt_succ_self _) hb, cx_one_ne hb]
def cx_IsG [Mul (cx_S Nat)] [One (cx_S Nat)] [Add (cx_S Nat)] [Zero (cx_S Nat)] [Inhabited (cx_Idx Nat)] [Inhabited (PLift cx_Natl)] {n : Nat} [Zero (cx_Ex n)] [Add (cx_Ex n)] [Mul (cx_S (cx_Ex n))] [One (cx_S (cx_Ex n))] [Add (cx_S (cx_Ex n))] [Zero (cx_S (cx_Ex n))] [Inhabited (cx_Idx (cx_Ex n))] [Inhabited (PLift (cx_Exl n))] [∀ s : cx_Sd n, Add (cx_MM s)] [∀ s : cx_Sd n, Inhabited (PLift (cx_MGl (cx_MM s)))] [∀ s : cx_Sd n, Inhabited (cx_Tord (cx_Ex n) (cx_MM s))] [Inhabited (PLift (cx_MMl n))] (s : cx_Sd n) (g : cx_MM s → cx_S (cx_Ex n)) : Prop := cx_Wh (cx_ZZ s) g ∧ cx_Inc g (cx_sd s)
theorem cx_IsG.unique [Mul (cx_S Nat)] [One (cx_S Nat)] [Add (cx_S Nat)] [Zero (cx_S Nat)] [Inhabited (cx_Idx Nat)] [Inhabited (PLift cx_Natl)] {n : Nat} [Zero (cx_Ex n)] [Add (cx_Ex n)] [Mul (cx_S (cx_Ex n))] [One (cx_S (cx_Ex n))] [Add (cx_S (cx_Ex n))] [Zero (cx_S (cx_Ex n))] [Inhabited (cx_Idx (cx_Ex n))] [Inhabited (PLift (cx_Exl n))] [∀ s : cx_Sd n, Add (cx_MM s)] [∀ s : cx_Sd n, Inhabited (PLift (cx_MGl (cx_MM s)))] [∀ s : cx_Sd n, Inhabited (cx_Tord (cx_Ex n) (cx_MM s))] [Inhabited (PLift (cx_MMl n))] {s : cx_Sd n} {g g' : cx_MM s → cx_S (cx_Ex n)} (h : cx_IsG s g) (h' : cx_IsG s g') : g = g' := cx_inc_unique h.1 h'.1 h.2 h'.2
theorem cx_IsG.pos [Mul (cx_S Nat)] [One (cx_S Nat)] [Add (cx_S Nat)] [Zero (cx_S Nat)] [Inhabited (cx_Idx Nat)] [Inhabited (PLift cx_Natl)] {n : Nat} [Zero (cx_Ex n)] [Add (cx_Ex n)] [Mul (cx_S (cx_Ex n))] [One (cx_S (cx_Ex n))] [Add (cx_S (cx_Ex n))] [Zero (cx_S (cx_Ex n))] [Inhabited (cx_Idx (cx_Ex n))] [Inhabited (PLift (cx_Exl n))] [∀ s : cx_Sd n, Add (cx_MM s)] [∀ s : cx_Sd n, Inhabited (PLift (cx_MGl (cx_MM s)))] [∀ s : cx_Sd n, Inhabited (cx_Tord (cx_Ex n) (cx_MM s))] [Inhabited (PLift (cx_MMl n))] {s : cx_Sd n} {g : cx_MM s → cx_S (cx_Ex n)} (h : cx_IsG s g) : ∀ a : cx_Ex n, a ≠ 0 → cx_PosAt g a := cx_walls h.1 (cx_sd_nonneg s) h.2
def cx_PairS [Mul (cx_S Nat)] [One (cx_S Nat)] [Add (cx_S Nat)] [Zero (cx_S Nat)] [Inhabited (cx_Idx Nat)] [Inhabited (PLift cx_Natl)] {n : Nat} [Zero (cx_Ex n)] [Add (cx_Ex n)] [Mul (cx_S (cx_Ex n))] [One (cx_S (cx_Ex n))] [Add (cx_S (cx_Ex n))] [Zero (cx_S (cx_Ex n))] [Inhabited (cx_Idx (cx_Ex n))] [Inhabited (PLift (cx_Exl n))] [∀ s : cx_Sd n, Add (cx_MM s)] [∀ s : cx_Sd n, Inhabited (PLift (cx_MGl (cx_MM s)))] [∀ s : cx_Sd n, Inhabited (cx_Tord (cx_Ex n) (cx_MM s))] [Inhabited (PLift (cx_MMl n))] (s : cx_Sd n) (k : Fin n) (h h2 : cx_MM s → cx_S (cx_Ex n)) : Prop := cx_Pair (cx_ee k) (cx_qq s k) (cx_vv (cx_rm s k) k) (cx_vv (cx_rp s k) k) (cx_dl k) (cx_ZZ s) h h2
theorem cx_IsG.exists [Mul (cx_S Nat)] [One (cx_S Nat)] [Add (cx_S Nat)] [Zero (cx_S Nat)] [Inhabited (cx_Idx Nat)] [Inhabited (PLift cx_Natl)] {n : Nat} [Zero (cx_Ex n)] [Add (cx_Ex n)] [Mul (cx_S (cx_Ex n))] [One (cx_S (cx_Ex n))] [Add (cx_S (cx_Ex n))] [Zero (cx_S (cx_Ex n))] [Inhabited (cx_Idx (cx_Ex n))] [Inhabited (PLift (cx_Exl n))] [∀ s : cx_Sd n, Add (cx_MM s)] [∀ s : cx_Sd n, Inhabited (PLift (cx_MGl (cx_MM s)))] [∀ s : cx_Sd n, Inhabited (cx_Tord (cx_Ex n) (cx_MM s))] [Inhabited (PLift (cx_MMl n))] (s : cx_Sd n) (k : Fin n) : ∃ h h2 : cx_MM s → cx_S (cx_Ex n), cx_PairS s k h h2 ∧ cx_IsG s (cx_comp (cx_E (cx_ee k) (cx_qq s k)) h) := by
  obtain ⟨h, h2, hp, hi⟩ := cx_pair_exists (cx_std s k) (cx_kd s k)
  exact ⟨h, h2, hp, cx_pair_wh (cx_std s k) (cx_kd s k) hp, hi⟩
theorem cx_isG_turn [Mul (cx_S Nat)] [One (cx_S Nat)] [Add (cx_S Nat)] [Zero (cx_S Nat)] [Inhabited (cx_Idx Nat)] [Inhabited (PLift cx_Natl)] {n : Nat} [Zero (cx_Ex n)] [Add (cx_Ex n)] [Mul (cx_S (cx_Ex n))] [One (cx_S (cx_Ex n))] [Add (cx_S (cx_Ex n))] [Zero (cx_S (cx_Ex n))] [Inhabited (cx_Idx (cx_Ex n))] [Inhabited (PLift (cx_Exl n))] [∀ s : cx_Sd n, Add (cx_MM s)] [∀ s : cx_Sd n, Inhabited (PLift (cx_MGl (cx_MM s)))] [∀ s : cx_Sd n, Inhabited (cx_Tord (cx_Ex n) (cx_MM s))] [Inhabited (PLift (cx_MMl n))] {s : cx_Sd n} {k : Fin n} {h h2 : cx_MM s → cx_S (cx_Ex n)} (hp : cx_PairS s k h h2) (hg : cx_IsG s (cx_comp (cx_E (cx_ee k) (cx_qq s k)) h)) :
    cx_IsG (cx_turn s k) (cx_comp (cx_E (cx_ee k) (cx_qq (cx_turn s k) k)) (cx_trS s k (cx_rp s k) h2)) :=
  ⟨cx_pair_wh (cx_std (cx_turn s k) k) (cx_kd (cx_turn s k) k) (cx_pair_turn hp), cx_inc_turn hp hg.2⟩
theorem cx_trS_mn [Mul (cx_S Nat)] [One (cx_S Nat)] [Add (cx_S Nat)] [Zero (cx_S Nat)] [Inhabited (cx_Idx Nat)] [Inhabited (PLift cx_Natl)] {n : Nat} [Zero (cx_Ex n)] [Add (cx_Ex n)] [Mul (cx_S (cx_Ex n))] [One (cx_S (cx_Ex n))] [Add (cx_S (cx_Ex n))] [Zero (cx_S (cx_Ex n))] [Inhabited (cx_Idx (cx_Ex n))] [Inhabited (PLift (cx_Exl n))] [∀ s : cx_Sd n, Add (cx_MM s)] [∀ s : cx_Sd n, Inhabited (PLift (cx_MGl (cx_MM s)))] [∀ s : cx_Sd n, Inhabited (cx_Tord (cx_Ex n) (cx_MM s))] [Inhabited (PLift (cx_MMl n))] {s : cx_Sd n} {k : Fin n} {ρ : Fin n → Nat} (hρ : cx_Rho s k ρ) {h F : cx_MM s → cx_S (cx_Ex n)} {t' : cx_Ex n → Rat} (ht' : cx_Fun t')
    (hm : cx_MnT (cx_Sv (cx_dl k) (cx_vv ρ k)) h (cx_pull ρ k t') F) : cx_MnT (cx_Sv (cx_dl k) (cx_vv ρ k)) (cx_trS s k ρ h) t' (cx_trS s k ρ F) := by
  intro d'
  obtain ⟨d, hd⟩ := cx_th_bnd ρ k (cx_Sv (cx_dl k) (cx_vv ρ k)) d'
  obtain ⟨wp, w0, wm, hf, he⟩ := hm d
  have T0 := cx_trn hρ
  refine ⟨_, _, _, cx_tr_fac T0 hd (t' := t') (fun b hb => cx_pull_on hρ.k0 ht' ((cx_sv_iff ρ k b).1 hb).2) hf, ?_⟩
  have e := cx_tr_eqd T0 hd he
  rw [cx_tr_ev T0 (fun x hx => (hf.neg.all x hx).2.1.1)] at e
  refine e.trans (cx_ev_cut (fun x hx => ?_))
  obtain ⟨y, hy, rfl⟩ := List.mem_map.1 hx
  exact T0.nz' _ (T0.to _ (hf.neg.all y hy).2.1.1)
theorem cx_mn_A [Mul (cx_S Nat)] [One (cx_S Nat)] [Add (cx_S Nat)] [Zero (cx_S Nat)] [Inhabited (cx_Idx Nat)] [Inhabited (PLift cx_Natl)] {n : Nat} [Zero (cx_Ex n)] [Add (cx_Ex n)] [Mul (cx_S (cx_Ex n))] [One (cx_S (cx_Ex n))] [Add (cx_S (cx_Ex n))] [Zero (cx_S (cx_Ex n))] [Inhabited (cx_Idx (cx_Ex n))] [Inhabited (PLift (cx_Exl n))] [∀ s : cx_Sd n, Add (cx_MM s)] [∀ s : cx_Sd n, Inhabited (PLift (cx_MGl (cx_MM s)))] [∀ s : cx_Sd n, Inhabited (cx_Tord (cx_Ex n) (cx_MM s))] [Inhabited (PLift (cx_MMl n))] {s : cx_Sd n} {k : Fin n} {h h2 : cx_MM s → cx_S (cx_Ex n)} (hp : cx_PairS s k h h2) {t' : cx_Ex n → Rat} (ht' : cx_Fun t') (hk : 0 < t' (cx_ee k)) :
    ∃ F, cx_Good F ∧ cx_Sup (cx_Sv (cx_dl k) (cx_vv (cx_rp s k) k)) F ∧ cx_MnT cx_All (cx_comp (cx_E (cx_ee k) (cx_qq (cx_turn s k) k)) (cx_trS s k (cx_rp s k) h2)) t' (cx_trS s k (cx_rp s k) F) ∧
      cx_MnT cx_All (cx_comp (cx_E (cx_ee k) (cx_qq s k)) h) (cx_pull (cx_rp s k) k t') (cx_comp F (cx_E (cx_ee k) (cx_qq s k))) := by
  obtain ⟨F, hF, gF, sF⟩ := cx_MnT.exists (cx_Sv.clo (cx_dl_fun k) (cx_vv_fun (cx_rp s k) k)) hp.gh2 hp.sh2 (cx_pull_fun (cx_rp s k) k t')
  refine ⟨F, gF, sF, (cx_trS_mn (cx_rho_p s k) ht' hF).left (cx_ee_nz k) _ hk, ?_⟩
  rw [hp.cj]
  exact hF.right (cx_ee_nz k) _ (by rw [cx_pull_k]; grind)
theorem cx_mn_B [Mul (cx_S Nat)] [One (cx_S Nat)] [Add (cx_S Nat)] [Zero (cx_S Nat)] [Inhabited (cx_Idx Nat)] [Inhabited (PLift cx_Natl)] {n : Nat} [Zero (cx_Ex n)] [Add (cx_Ex n)] [Mul (cx_S (cx_Ex n))] [One (cx_S (cx_Ex n))] [Add (cx_S (cx_Ex n))] [Zero (cx_S (cx_Ex n))] [Inhabited (cx_Idx (cx_Ex n))] [Inhabited (PLift (cx_Exl n))] [∀ s : cx_Sd n, Add (cx_MM s)] [∀ s : cx_Sd n, Inhabited (PLift (cx_MGl (cx_MM s)))] [∀ s : cx_Sd n, Inhabited (cx_Tord (cx_Ex n) (cx_MM s))] [Inhabited (PLift (cx_MMl n))] {s : cx_Sd n} {k : Fin n} {h h2 : cx_MM s → cx_S (cx_Ex n)} (hp : cx_PairS s k h h2) {t' : cx_Ex n → Rat} (ht' : cx_Fun t') (hk : t' (cx_ee k) < 0) :
    ∃ F, cx_Good F ∧ cx_Sup (cx_Sv (cx_dl k) (cx_vv (cx_rm s k) k)) F ∧ cx_MnT cx_All (cx_comp (cx_E (cx_ee k) (cx_qq (cx_turn s k) k)) (cx_trS s k (cx_rp s k) h2)) t' (cx_comp (cx_trS s k (cx_rm s k) F) (cx_E (cx_ee k) (cx_qq (cx_turn s k) k))) ∧
      cx_MnT cx_All (cx_comp (cx_E (cx_ee k) (cx_qq s k)) h) (cx_pull (cx_rm s k) k t') F := by
  obtain ⟨F, hF, gF, sF⟩ := cx_MnT.exists (cx_Sv.clo (cx_dl_fun k) (cx_vv_fun (cx_rm s k) k)) hp.gh hp.sh (cx_pull_fun (cx_rm s k) k t')
  refine ⟨F, gF, sF, ?_, hF.left (cx_ee_nz k) _ (by rw [cx_pull_k]; grind)⟩
  rw [(cx_pair_turn hp).cj]
  exact (cx_trS_mn (cx_rho_m s k) ht' hF).right (cx_ee_nz k) _ hk
