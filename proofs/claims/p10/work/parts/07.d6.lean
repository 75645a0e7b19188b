theorem cx_bin_big (n k : Nat) (h : n < k) : cx_bin (n : Rat) k = 0 := by
  induction k with
  | zero => omega
  | succ j ih =>
    have hs := cx_bin_succ (n : Rat) j
    have hne : ((j : Rat) + 1) ≠ 0 := by
      have : (0 : Rat) ≤ (j : Rat) := by exact_mod_cast Nat.zero_le j
      grind
    have h0 : cx_bin (n : Rat) j * ((n : Rat) - j) = 0 := by
      by_cases hj : n < j
      · rw [ih hj, Rat.zero_mul]
      · have : n = j := by omega
        subst this
        rw [show (n : Rat) - n = 0 by grind, Rat.mul_zero]
    rw [h0] at hs
    rcases Rat.mul_eq_zero.1 hs with h | h
    · exact h
    · exact absurd h hne
theorem cx_comp_top {B : Type} [Zero B] [Add B] [Mul (cx_S B)] [One (cx_S B)] [Add (cx_S B)] [Zero (cx_S B)] [Inhabited (cx_Idx B)] {M : Type} [Add M] [Inhabited (PLift (cx_MGl M))] [Inhabited (cx_Tord B M)] {f f' g g' : M → cx_S B} {D0 : Nat} (hf : ∀ m b, cx_deg b < D0 → f m b = f' m b) (hg : ∀ m b, cx_deg b < D0 → g m b = g' m b)
    (uf : ∀ m, f m 0 = 1) (uf' : ∀ m, f' m 0 = 1) (ug : ∀ m, g m 0 = 1) (ug' : ∀ m, g' m 0 = 1) {a : B} (ha : a ≠ 0) (hd : cx_deg a = D0) (m : M) :
    cx_comp f g m a - cx_comp f' g' m a = (f m a - f' m a) + (g m a - g' m a) := by
  have e : cx_comp f g m a - cx_comp f' g' m a = cx_D a (fun u s => g m u * f (m + cx_p u) s + (-1) * (g' m u * f' (m + cx_p u) s)) := by
    rw [cx_D_add, cx_D_mulL, cx_comp_def, cx_comp_def]; grind
  rw [e, cx_D_ends ha]
  · simp only [uf, uf', ug, ug', cx_p_zero]; grind
  · intro u s hus hu hs
    have h := cx_deg_add u s
    rw [hus] at h
    have h1 : cx_deg u ≠ 0 := fun e => hu (cx_deg_pos u e)
    have h2 : cx_deg s ≠ 0 := fun e => hs (cx_deg_pos s e)
    rw [hf _ s (by omega), hg _ u (by omega)]; grind
theorem cx_lam_shift {B : Type} [Zero B] [Add B] [Mul (cx_S B)] [One (cx_S B)] [Add (cx_S B)] [Zero (cx_S B)] [Inhabited (cx_Idx B)] {M : Type} [Add M] [Inhabited (PLift (cx_MGl M))] [Inhabited (cx_Tord B M)] {g g' : M → cx_S B} {a : B} (ha : a ≠ 0) {t : B → Rat} (ht : cx_Gen (cx_Par a) (cx_deg a) t) {f f' : B → Rat}
    (l : cx_Lam g a (cx_deg a) t f) (l' : cx_Lam g' a (cx_deg a) t f') (hlow : ∀ m b, cx_deg b < cx_deg a → g m b = g' m b) (m : M) : g m a - g' m a = (f a - f' a) * cx_pr a m := by
  classical
  have hda : cx_deg a ≠ 0 := fun e => ha (cx_deg_pos a e)
  have hee : cx_Eqd (cx_deg a - 1) g g' := fun m b hb => hlow m b (by omega)
  have hlowf := (l.cut (d' := cx_deg a - 1) (by omega)).unique ha ht.f (l'.cut (by omega)) hee
  obtain ⟨ord, wp, wm, hr, hf⟩ := l
  obtain ⟨ord', wp', wm', hr', hf'⟩ := l'
  have e1 : (cx_ev (ord'.map fun x => (x, f' x)) : M → cx_S B) = cx_nf ord f' := (cx_nf_perm (hr.perm hr') (hr.comm ha) f').symm
  have hta : t a = 0 := (ht.z a ha (Nat.le_refl _)).2 (cx_Par.refl a)
  have u := (hf.cut (d' := cx_deg a - 1) (by omega)).unique ht.f (hf'.cut (by omega)) hee
  have up : cx_Eqd (cx_deg a - 1) (cx_ev wp : M → cx_S B) (cx_ev wp') := (cx_ev_cut hf.pos.nz).trans (u.1.trans (cx_ev_cut hf'.pos.nz).symm)
  have u0 : cx_Eqd (cx_deg a - 1) (cx_nf ord f : M → cx_S B) (cx_nf ord f') := by
    rw [← e1]; exact (cx_ev_cut hf.nul.nz).trans (u.2.1.trans (cx_ev_cut hf'.nul.nz).symm)
  have um : cx_Eqd (cx_deg a - 1) (cx_ev wm : M → cx_S B) (cx_ev wm') := (cx_ev_cut hf.neg.nz).trans (u.2.2.trans (cx_ev_cut hf'.neg.nz).symm)
  have cp : cx_Clo (fun b => 0 < t b) := ⟨fun a b h h' => by have e_ := ht.f.add a b; grind⟩
  have cx_cm : cx_Clo (fun b => t b < 0) := ⟨fun a b h h' => by have e_ := ht.f.add a b; grind⟩
  have p0 : (cx_ev wp : M → cx_S B) m a = 0 := hf.pos.sup cp (fun _ h => h.2) m a ha (by grind)
  have p0' : (cx_ev wp' : M → cx_S B) m a = 0 := hf'.pos.sup cp (fun _ h => h.2) m a ha (by grind)
  have m0 : (cx_ev wm : M → cx_S B) m a = 0 := hf.neg.sup cx_cm (fun _ h => h.2) m a ha (by grind)
  have m0' : (cx_ev wm' : M → cx_S B) m a = 0 := hf'.neg.sup cx_cm (fun _ h => h.2) m a ha (by grind)
  have hnz : ∀ x ∈ ord, x ≠ 0 := fun x hx => ((hr.mem x).1 hx).1
  have gp := (cx_ev_good (M := M) hf.pos.nz).unit
  have gp' := (cx_ev_good (M := M) hf'.pos.nz).unit
  have gm := (cx_ev_good (M := M) hf.neg.nz).unit
  have gm' := (cx_ev_good (M := M) hf'.neg.nz).unit
  have g0 := (cx_nf_good (M := M) hnz f).unit
  have g0' := (cx_nf_good (M := M) hnz f').unit
  have eqg : g m a = cx_comp (cx_ev wp) (cx_comp (cx_nf ord f) (cx_ev wm)) m a := hf.eq m a (Nat.le_refl _)
  have eqg' : g' m a = cx_comp (cx_ev wp') (cx_comp (cx_nf ord f') (cx_ev wm')) m a := by
    rw [hf'.eq m a (Nat.le_refl _), e1]
  have lo : ∀ {x y : M → cx_S B}, cx_Eqd (cx_deg a - 1) x y → ∀ m b, cx_deg b < cx_deg a → x m b = y m b := fun h m b hb => h m b (by omega)
  rw [eqg, eqg', cx_comp_top (lo up) (lo (cx_Eqd.comp u0 um)) gp gp' ((cx_nf_good hnz f).comp (cx_ev_good hf.neg.nz)).unit ((cx_nf_good hnz f').comp (cx_ev_good hf'.neg.nz)).unit ha rfl m,
    cx_comp_top (lo u0) (lo um) g0 g0' gm gm' ha rfl m, p0, p0', m0, m0']
  let z : B → Rat := fun y => if cx_deg y < cx_deg a then f y else 0
  have n1 := cx_nf_low (M := M) hr.nodup hnz f z (cx_deg a) (by omega) (fun y _ h => by show _ = if _ then _ else _; rw [if_pos h]) (fun y _ h => by show (if _ then _ else _) = _; rw [if_neg (by omega)]) m a (Nat.le_refl _)
  have n2 := cx_nf_low (M := M) hr.nodup hnz f' z (cx_deg a) (by omega) (fun y hy h => by
    show _ = if _ then _ else _; rw [if_pos h]
    have := (hr.mem y).1 hy
    exact (hlowf y this.1 (by omega) this.2.2).symm) (fun y _ h => by show (if _ then _ else _) = _; rw [if_neg (by omega)]) m a (Nat.le_refl _)
  have hmem : a ∈ ord := (hr.mem a).2 ⟨ha, Nat.le_refl _, cx_Par.refl a⟩
  rw [if_pos ⟨rfl, hmem⟩] at n1 n2
  rw [n1, n2]; grind
theorem cx_gen_cmp {B : Type} [Zero B] [Add B] [Mul (cx_S B)] [One (cx_S B)] [Add (cx_S B)] [Zero (cx_S B)] [Inhabited (cx_Idx B)] {M : Type} [Add M] [Inhabited (PLift (cx_MGl M))] [Inhabited (cx_Tord B M)] {a : B} (ha : a ≠ 0) (D0 : Nat) (k : B) (hk : ¬ cx_Par a k) (s : Rat) (hs : s = 1 ∨ s = -1) (h : 0 ≤ s * cx_pr k (cx_p a : M)) :
    ∃ t, cx_Gen (cx_Par a) D0 t ∧ (∀ b, cx_deg b ≤ D0 → 0 ≤ t b * cx_pr b (cx_p a : M)) ∧ 0 < s * t k := by
  classical
  obtain ⟨l, hn, hm⟩ := cx_exists_list (B := B) D0 (fun x => ¬ cx_Par a x)
  have hT := cx_Ta_van (M := M) ha
  obtain ⟨v, hv, hgen⟩ := cx_generic (cx_Van (cx_Par a)) (fun u v hu hv e => ⟨hu.1.plus hv.1 e, fun a ha => by show u a + e * v a = 0; rw [hu.2 a ha, hv.2 a ha]; grind⟩) ⟨cx_Ta M a, hT⟩
    ((k :: l).map fun x => ((x, 1), (x, 0))) (by
    intro q hq
    obtain ⟨x, hx, rfl⟩ := List.mem_map.1 hq
    have hx : ¬ cx_Par a x := by
      rcases List.mem_cons.1 hx with h | h
      · rw [h]; exact hk
      · exact ((hm x).1 h).2.2
    have : ∃ v : B → Rat, cx_Fun v ∧ v x * cx_dg a ≠ v a * cx_dg x := by
      refine Classical.byContradiction (fun hno => hx (fun v hv => ?_))
      exact Classical.byContradiction (fun h1 => hno ⟨v, hv, h1⟩)
    obtain ⟨v, hv, hne⟩ := this
    refine ⟨fun y => cx_dg a * v y + (- v a) * cx_dg y, cx_Van.par ha (hv.lin cx_fun_dg _ _) (by show cx_dg a * v a + (- v a) * cx_dg a = 0; grind), ?_⟩
    show (cx_dg a * v x + (- v a) * cx_dg x) * 1 + (cx_dg a * v x + (- v a) * cx_dg x) * 0 ≠ 0
    grind)
  have hgen' : ∀ x ∈ k :: l, v x ≠ 0 := by
    intro x hx h0
    have := hgen ((x, 1), (x, 0)) (List.mem_map.2 ⟨x, hx, rfl⟩)
    simp only [h0] at this
    exact this (by grind)

  obtain ⟨w, hw, hwn, hwk⟩ : ∃ w, cx_Van (cx_Par a) w ∧ (∀ x ∈ k :: l, w x ≠ 0) ∧ 0 < s * w k := by
    have hvk := hgen' k (by simp)
    by_cases h1 : 0 < s * v k
    · exact ⟨v, hv, hgen', h1⟩
    · refine ⟨fun x => (-1) * v x, ⟨hv.1.smul (-1), fun x hx => by show (-1) * v x = 0; rw [hv.2 x hx]; grind⟩, fun x hx h0 => hgen' x hx (by grind), ?_⟩
      rcases hs with rfl | rfl <;> grind
  obtain ⟨ε, hε, hns⟩ := cx_near_small (max D0 (cx_deg k)) (cx_Ta M a) w
  have hns := hns ε hε (by grind)
  have ft : cx_Fun (fun b => cx_Ta M a b + ε * w b) := hT.1.plus hw.1 ε
  refine ⟨fun b => cx_Ta M a b + ε * w b, ⟨ft, fun b hb hd => ⟨fun h0 => ?_, fun hp => ?_⟩⟩, fun b hb => ?_, ?_⟩
  · have h0 : cx_Ta M a b + ε * w b = 0 := h0
    refine Classical.byContradiction (fun hnp => ?_)
    have hwb : w b ≠ 0 := hwn b (by simp [(hm b).2 ⟨hb, hd, hnp⟩])
    by_cases h1 : 0 < cx_Ta M a b
    · have h2 : 0 < cx_Ta M a b + ε * w b := hns.pos b trivial (by omega) h1
      grind
    · by_cases h2 : cx_Ta M a b < 0
      · have h2 : cx_Ta M a b + ε * w b < 0 := hns.neg b trivial (by omega) h2
        grind
      · have h3 : cx_Ta M a b = 0 := by grind
        rw [h3, Rat.zero_add] at h0
        rcases Rat.mul_eq_zero.1 h0 with h | h
        · grind
        · exact hwb h
  · show cx_Ta M a b + ε * w b = 0
    rw [hT.2 b hp, hw.2 b hp]; grind
  · show 0 ≤ (cx_Ta M a b + ε * w b) * cx_Ta M a b
    by_cases h1 : 0 < cx_Ta M a b
    · have h2 : 0 < cx_Ta M a b + ε * w b := hns.pos b trivial (by omega) h1
      have := Rat.mul_pos h2 h1; grind
    · by_cases h2 : cx_Ta M a b < 0
      · have h3 : cx_Ta M a b + ε * w b < 0 := hns.neg b trivial (by omega) h2
        have := Rat.mul_pos (by grind : 0 < -(cx_Ta M a b + ε * w b)) (by grind : 0 < - cx_Ta M a b); grind
      · have h3 : cx_Ta M a b = 0 := by grind
        rw [h3]; grind
  · show 0 < s * (cx_Ta M a k + ε * w k)
    have h1 : 0 ≤ s * cx_Ta M a k := h
    have := Rat.mul_pos hε hwk
    grind
theorem cx_gen_cmp0 {B : Type} [Zero B] [Add B] [Mul (cx_S B)] [One (cx_S B)] [Add (cx_S B)] [Zero (cx_S B)] [Inhabited (cx_Idx B)] {M : Type} [Add M] [Inhabited (PLift (cx_MGl M))] [Inhabited (cx_Tord B M)] {a : B} (ha : a ≠ 0) (D0 : Nat) : ∃ t, cx_Gen (cx_Par a) D0 t ∧ (∀ b, cx_deg b ≤ D0 → 0 ≤ t b * cx_pr b (cx_p a : M)) := by
  classical
  by_cases hk : ∃ k : B, ¬ cx_Par a k
  · obtain ⟨k, hk⟩ := hk
    by_cases h : 0 ≤ cx_pr k (cx_p a : M)
    · obtain ⟨t, h1, h2, _⟩ := cx_gen_cmp (M := M) ha D0 k hk 1 (.inl rfl) (by grind)
      exact ⟨t, h1, h2⟩
    · obtain ⟨t, h1, h2, _⟩ := cx_gen_cmp (M := M) ha D0 k hk (-1) (.inr rfl) (by grind)
      exact ⟨t, h1, h2⟩
  · refine ⟨cx_Ta M a, ⟨cx_Ta_fun a, fun b _ _ => ⟨fun _ => Classical.byContradiction (fun h => hk ⟨b, h⟩), fun h => (cx_Ta_van ha).2 b h⟩⟩, fun b _ => ?_⟩
    have : cx_Ta M a b = 0 := (cx_Ta_van ha).2 b (Classical.byContradiction (fun h => hk ⟨b, h⟩))
    rw [this]; grind
abbrev cx_Kd {B : Type} [Zero B] [Add B] [Mul (cx_S B)] [One (cx_S B)] [Add (cx_S B)] [Zero (cx_S B)] [Inhabited (cx_Idx B)] (M : Type) [Add M] [Inhabited (PLift (cx_MGl M))] [Inhabited (cx_Tord B M)] (k : B) (q : Rat) (v v2 cx_dl : B → Rat) : Prop := (k ≠ 0) ∧ (cx_deg k = 1) ∧ (cx_Fun v) ∧ (cx_Fun v2) ∧ (cx_Fun cx_dl) ∧ (∀ a, v2 a = v a + q * cx_pr k (cx_p a : M)) ∧ (v k = -1) ∧ (cx_dl k = 0) ∧ (∀ a, 0 ≤ cx_dl a) ∧ (∀ a, cx_dl a = 0 → ∃ j, a = cx_nsm j k) ∧ (∀ a : B, cx_IsI (q * cx_pr k (cx_p a : M))) ∧ (∀ a : B, cx_dl a ≠ 0 → ∃ m : M, cx_pr k m = 0 ∧ cx_pr a m ≠ 0)
theorem cx_Kd.k0 {B : Type} [Zero B] [Add B] [Mul (cx_S B)] [One (cx_S B)] [Add (cx_S B)] [Zero (cx_S B)] [Inhabited (cx_Idx B)] {M : Type} [Add M] [Inhabited (PLift (cx_MGl M))] [Inhabited (cx_Tord B M)] {k : B} {q : Rat} {v v2 cx_dl : B → Rat} (hh_ : cx_Kd M k q v v2 cx_dl) : k ≠ 0 := hh_.1
theorem cx_Kd.dk {B : Type} [Zero B] [Add B] [Mul (cx_S B)] [One (cx_S B)] [Add (cx_S B)] [Zero (cx_S B)] [Inhabited (cx_Idx B)] {M : Type} [Add M] [Inhabited (PLift (cx_MGl M))] [Inhabited (cx_Tord B M)] {k : B} {q : Rat} {v v2 cx_dl : B → Rat} (hh_ : cx_Kd M k q v v2 cx_dl) : cx_deg k = 1 := hh_.2.1
theorem cx_Kd.fv {B : Type} [Zero B] [Add B] [Mul (cx_S B)] [One (cx_S B)] [Add (cx_S B)] [Zero (cx_S B)] [Inhabited (cx_Idx B)] {M : Type} [Add M] [Inhabited (PLift (cx_MGl M))] [Inhabited (cx_Tord B M)] {k : B} {q : Rat} {v v2 cx_dl : B → Rat} (hh_ : cx_Kd M k q v v2 cx_dl) : cx_Fun v := hh_.2.2.1
theorem cx_Kd.fv2 {B : Type} [Zero B] [Add B] [Mul (cx_S B)] [One (cx_S B)] [Add (cx_S B)] [Zero (cx_S B)] [Inhabited (cx_Idx B)] {M : Type} [Add M] [Inhabited (PLift (cx_MGl M))] [Inhabited (cx_Tord B M)] {k : B} {q : Rat} {v v2 cx_dl : B → Rat} (hh_ : cx_Kd M k q v v2 cx_dl) : cx_Fun v2 := hh_.2.2.2.1
theorem cx_Kd.fd {B : Type} [Zero B] [Add B] [Mul (cx_S B)] [One (cx_S B)] [Add (cx_S B)] [Zero (cx_S B)] [Inhabited (cx_Idx B)] {M : Type} [Add M] [Inhabited (PLift (cx_MGl M))] [Inhabited (cx_Tord B M)] {k : B} {q : Rat} {v v2 cx_dl : B → Rat} (hh_ : cx_Kd M k q v v2 cx_dl) : cx_Fun cx_dl := hh_.2.2.2.2.1
theorem cx_Kd.v2e {B : Type} [Zero B] [Add B] [Mul (cx_S B)] [One (cx_S B)] [Add (cx_S B)] [Zero (cx_S B)] [Inhabited (cx_Idx B)] {M : Type} [Add M] [Inhabited (PLift (cx_MGl M))] [Inhabited (cx_Tord B M)] {k : B} {q : Rat} {v v2 cx_dl : B → Rat} (hh_ : cx_Kd M k q v v2 cx_dl) : ∀ a, v2 a = v a + q * cx_pr k (cx_p a : M) := hh_.2.2.2.2.2.1
theorem cx_Kd.vk {B : Type} [Zero B] [Add B] [Mul (cx_S B)] [One (cx_S B)] [Add (cx_S B)] [Zero (cx_S B)] [Inhabited (cx_Idx B)] {M : Type} [Add M] [Inhabited (PLift (cx_MGl M))] [Inhabited (cx_Tord B M)] {k : B} {q : Rat} {v v2 cx_dl : B → Rat} (hh_ : cx_Kd M k q v v2 cx_dl) : v k = -1 := hh_.2.2.2.2.2.2.1
theorem cx_Kd.dlk {B : Type} [Zero B] [Add B] [Mul (cx_S B)] [One (cx_S B)] [Add (cx_S B)] [Zero (cx_S B)] [Inhabited (cx_Idx B)] {M : Type} [Add M] [Inhabited (PLift (cx_MGl M))] [Inhabited (cx_Tord B M)] {k : B} {q : Rat} {v v2 cx_dl : B → Rat} (hh_ : cx_Kd M k q v v2 cx_dl) : cx_dl k = 0 := hh_.2.2.2.2.2.2.2.1
theorem cx_Kd.dl0 {B : Type} [Zero B] [Add B] [Mul (cx_S B)] [One (cx_S B)] [Add (cx_S B)] [Zero (cx_S B)] [Inhabited (cx_Idx B)] {M : Type} [Add M] [Inhabited (PLift (cx_MGl M))] [Inhabited (cx_Tord B M)] {k : B} {q : Rat} {v v2 cx_dl : B → Rat} (hh_ : cx_Kd M k q v v2 cx_dl) : ∀ a, 0 ≤ cx_dl a := hh_.2.2.2.2.2.2.2.2.1
theorem cx_Kd.ray {B : Type} [Zero B] [Add B] [Mul (cx_S B)] [One (cx_S B)] [Add (cx_S B)] [Zero (cx_S B)] [Inhabited (cx_Idx B)] {M : Type} [Add M] [Inhabited (PLift (cx_MGl M))] [Inhabited (cx_Tord B M)] {k : B} {q : Rat} {v v2 cx_dl : B → Rat} (hh_ : cx_Kd M k q v v2 cx_dl) : ∀ a, cx_dl a = 0 → ∃ j, a = cx_nsm j k := hh_.2.2.2.2.2.2.2.2.2.1
theorem cx_Kd.ri {B : Type} [Zero B] [Add B] [Mul (cx_S B)] [One (cx_S B)] [Add (cx_S B)] [Zero (cx_S B)] [Inhabited (cx_Idx B)] {M : Type} [Add M] [Inhabited (PLift (cx_MGl M))] [Inhabited (cx_Tord B M)] {k : B} {q : Rat} {v v2 cx_dl : B → Rat} (hh_ : cx_Kd M k q v v2 cx_dl) : ∀ a : B, cx_IsI (q * cx_pr k (cx_p a : M)) := hh_.2.2.2.2.2.2.2.2.2.2.1
theorem cx_Kd.tst {B : Type} [Zero B] [Add B] [Mul (cx_S B)] [One (cx_S B)] [Add (cx_S B)] [Zero (cx_S B)] [Inhabited (cx_Idx B)] {M : Type} [Add M] [Inhabited (PLift (cx_MGl M))] [Inhabited (cx_Tord B M)] {k : B} {q : Rat} {v v2 cx_dl : B → Rat} (hh_ : cx_Kd M k q v v2 cx_dl) : ∀ a : B, cx_dl a ≠ 0 → ∃ m : M, cx_pr k m = 0 ∧ cx_pr a m ≠ 0 := hh_.2.2.2.2.2.2.2.2.2.2.2
theorem cx_Kd.flip {B : Type} [Zero B] [Add B] [Mul (cx_S B)] [One (cx_S B)] [Add (cx_S B)] [Zero (cx_S B)] [Inhabited (cx_Idx B)] {M : Type} [Add M] [Inhabited (PLift (cx_MGl M))] [Inhabited (cx_Tord B M)] {k : B} {q : Rat} {v v2 cx_dl : B → Rat} (h : cx_Kd M k q v v2 cx_dl) : cx_Kd M k (-q) v2 v cx_dl := ⟨(h.k0),
  (h.dk),
  (h.fv2),
  (h.fv),
  (h.fd),
  (fun a => by rw [h.v2e]; grind),
  (by rw [h.v2e, h.vk, cx_pr_self]; grind),
  (h.dlk),
  (h.dl0),
  (h.ray),
  (fun a => by
    obtain ⟨z, hz⟩ := h.ri a
    refine ⟨-z, ?_⟩
    have h1 : ((-z : Int) : Rat) = -(z : Rat) := by exact_mod_cast rfl
    rw [h1, ← hz]; grind),
  (h.tst)⟩
def cx_Sv {B : Type} [Zero B] [Add B] [Mul (cx_S B)] [One (cx_S B)] [Add (cx_S B)] [Zero (cx_S B)] [Inhabited (cx_Idx B)] (cx_dl v : B → Rat) : B → Prop := fun b => 0 < cx_dl b ∧ 0 ≤ v b
theorem cx_Sv.clo {B : Type} [Zero B] [Add B] [Mul (cx_S B)] [One (cx_S B)] [Add (cx_S B)] [Zero (cx_S B)] [Inhabited (cx_Idx B)] {cx_dl v : B → Rat} (hd : cx_Fun cx_dl) (hv : cx_Fun v) : cx_Clo (cx_Sv cx_dl v) := ⟨fun a b ha hb => by
  obtain ⟨h1, h2⟩ := ha
  obtain ⟨h3, h4⟩ := hb
  exact ⟨by rw [hd.add]; grind, by rw [hv.add]; grind⟩⟩
theorem cx_good_supp {B : Type} [Zero B] [Add B] [Mul (cx_S B)] [One (cx_S B)] [Add (cx_S B)] [Zero (cx_S B)] [Inhabited (cx_Idx B)] {M : Type} [Add M] [Inhabited (PLift (cx_MGl M))] [Inhabited (cx_Tord B M)] {g : M → cx_S B} (hg : cx_Good g) {T : B → Prop} (cT : cx_Clo T) (X : M → Prop) (hX : ∀ m, X m → ∀ b, b ≠ 0 → ¬ T b → g m b = 0)
    (hsep : ∀ b, b ≠ 0 → ¬ T b → (∃ m, X m ∧ cx_pr b m ≠ 0) ∨ ∀ m, g m b = 0) : cx_Sup T g := by
  classical
  have main : ∀ n, ∀ b : B, cx_deg b < n → b ≠ 0 → ¬ T b → ∀ m, g m b = 0 := by
    intro n
    induction n with
    | zero => intro b h; omega
    | succ n ih =>
      intro b hbn hb hT m
      rcases hsep b hb hT with ⟨k, hk, hne⟩ | h
      · have e := hg.poi m k b
        rw [cx_D_ends hb] at e
        · rw [hg.unit, hg.unit, hX k hk b hb hT] at e
          unfold cx_Om at e
          rw [cx_pr_zero, cx_skew b 0, cx_pr_zero] at e
          have e2 : cx_pr b k * g m b = 0 := by grind
          rcases Rat.mul_eq_zero.1 e2 with h | h
          · exact absurd h hne
          · exact h
        · intro u s hus hu hs
          have h := cx_deg_add u s
          rw [hus] at h
          have h1 : cx_deg u ≠ 0 := fun e => hu (cx_deg_pos u e)
          have h2 : cx_deg s ≠ 0 := fun e => hs (cx_deg_pos s e)
          by_cases hTu : T u
          · have hTs : ¬ T s := fun h => hT (hus ▸ cT.add u s hTu h)
            rw [ih s (by omega) hs hTs k]; grind
          · rw [ih u (by omega) hu hTu m]; grind
      · exact h m
  exact fun m b hb hT => main (cx_deg b + 1) b (Nat.lt_succ_self _) hb hT m
def cx_Rqd {B : Type} [Zero B] [Add B] [Mul (cx_S B)] [One (cx_S B)] [Add (cx_S B)] [Zero (cx_S B)] [Inhabited (cx_Idx B)] {M : Type} [Add M] [Inhabited (PLift (cx_MGl M))] [Inhabited (cx_Tord B M)] (k : B) (D0 : Nat) (f g : M → cx_S B) : Prop := ∀ m j, cx_deg (cx_nsm j k) ≤ D0 → f m (cx_nsm j k) = g m (cx_nsm j k)
theorem cx_Kd.split {B : Type} [Zero B] [Add B] [Mul (cx_S B)] [One (cx_S B)] [Add (cx_S B)] [Zero (cx_S B)] [Inhabited (cx_Idx B)] {M : Type} [Add M] [Inhabited (PLift (cx_MGl M))] [Inhabited (cx_Tord B M)] {k : B} {q : Rat} {v v2 cx_dl : B → Rat} (h : cx_Kd M k q v v2 cx_dl) {u s : B} {j : Nat} (e : u + s = cx_nsm j k) : ∃ i i', u = cx_nsm i k ∧ s = cx_nsm i' k := by
  have h1 := congrArg cx_dl e
  rw [h.fd.add, h.fd.nsm, h.dlk, Rat.mul_zero] at h1
  have h2 := h.dl0 u
  have h3 := h.dl0 s
  obtain ⟨i, hi⟩ := h.ray u (by grind)
  obtain ⟨i', hi'⟩ := h.ray s (by grind)
  exact ⟨i, i', hi, hi'⟩
theorem cx_Rqd.comp {B : Type} [Zero B] [Add B] [Mul (cx_S B)] [One (cx_S B)] [Add (cx_S B)] [Zero (cx_S B)] [Inhabited (cx_Idx B)] {M : Type} [Add M] [Inhabited (PLift (cx_MGl M))] [Inhabited (cx_Tord B M)] {k : B} {q : Rat} {v v2 cx_dl : B → Rat} (hk : cx_Kd M k q v v2 cx_dl) {D0 : Nat} {f f' g g' : M → cx_S B} (hf : cx_Rqd k D0 f f') (hg : cx_Rqd k D0 g g') : cx_Rqd k D0 (cx_comp f g) (cx_comp f' g') := by
  intro m j hd
  rw [cx_comp_def, cx_comp_def]
  refine cx_D_congr (fun u s hus => ?_)
  have hdeg := cx_deg_add u s
  rw [hus] at hdeg
  obtain ⟨i, i', rfl, rfl⟩ := hk.split hus
  rw [hf _ i' (by omega), hg _ i (by omega)]
theorem cx_E_off_ray {B : Type} [Zero B] [Add B] [Mul (cx_S B)] [One (cx_S B)] [Add (cx_S B)] [Zero (cx_S B)] [Inhabited (cx_Idx B)] {M : Type} [Add M] [Inhabited (PLift (cx_MGl M))] [Inhabited (cx_Tord B M)] {k : B} {q : Rat} {v v2 cx_dl : B → Rat} (hk : cx_Kd M k q v v2 cx_dl) {x : B} (hx : 0 < cx_dl x) (c : Rat) (D0 : Nat) : cx_Rqd k D0 (cx_E x c : M → cx_S B) cx_I := by
  classical
  intro m j _
  have hx0 : x ≠ 0 := fun e => by rw [e, hk.fd.zero] at hx; grind
  by_cases hj : cx_nsm j k = 0
  · rw [hj, (cx_E_good hx0 c).unit]; exact cx_one_zero.symm
  · show _ = (1 : cx_S B) _
    rw [cx_one_ne hj]
    refine cx_sub_off _ (fun i e => ?_)
    have h1 := congrArg cx_dl e
    rw [hk.fd.nsm, hk.fd.nsm, hk.dlk, Rat.mul_zero] at h1
    rcases Rat.mul_eq_zero.1 h1 with h | h
    · have : i = 0 := by exact_mod_cast h
      subst this
      exact hj e.symm
    · grind
theorem cx_ev_off_ray {B : Type} [Zero B] [Add B] [Mul (cx_S B)] [One (cx_S B)] [Add (cx_S B)] [Zero (cx_S B)] [Inhabited (cx_Idx B)] {M : Type} [Add M] [Inhabited (PLift (cx_MGl M))] [Inhabited (cx_Tord B M)] {k : B} {q : Rat} {v v2 cx_dl : B → Rat} (hk : cx_Kd M k q v v2 cx_dl) {w : List (B × Rat)} (hw : ∀ x ∈ w, 0 < cx_dl x.1) (D0 : Nat) : cx_Rqd k D0 (cx_ev w : M → cx_S B) cx_I := by
  induction w with
  | nil => exact fun _ _ _ => rfl
  | cons x w ih =>
    have h1 := cx_Rqd.comp hk (cx_E_off_ray hk (hw x (by simp)) x.2 D0) (ih (fun y hy => hw y (by simp [hy])))
    rw [cx_I_comp] at h1
    exact h1
noncomputable def cx_cj {B : Type} [Zero B] [Add B] [Mul (cx_S B)] [One (cx_S B)] [Add (cx_S B)] [Zero (cx_S B)] [Inhabited (cx_Idx B)] {M : Type} [Add M] [Inhabited (PLift (cx_MGl M))] [Inhabited (cx_Tord B M)] (k : B) (q : Rat) (f : M → cx_S B) : M → cx_S B := cx_comp (cx_E k q) (cx_comp f (cx_E k (-q)))
theorem cx_cj_test {B : Type} [Zero B] [Add B] [Mul (cx_S B)] [One (cx_S B)] [Add (cx_S B)] [Zero (cx_S B)] [Inhabited (cx_Idx B)] {M : Type} [Add M] [Inhabited (PLift (cx_MGl M))] [Inhabited (cx_Tord B M)] {k : B} (hk : k ≠ 0) (q : Rat) (f : M → cx_S B) {m : M} (hm : cx_pr k m = 0) : cx_cj k q f m = cx_lin (cx_E k q) m (f m) := by
  unfold cx_cj
  rw [cx_comp_lin, cx_comp_lin]
  have : (cx_E k (-q) : M → cx_S B) m = 1 := by
    show cx_sub k (cx_bin (-q * cx_pr k m)) = 1
    rw [hm, Rat.mul_zero, cx_sub_zero hk]
  rw [this, cx_one_act]
theorem cx_cj_good {B : Type} [Zero B] [Add B] [Mul (cx_S B)] [One (cx_S B)] [Add (cx_S B)] [Zero (cx_S B)] [Inhabited (cx_Idx B)] {M : Type} [Add M] [Inhabited (PLift (cx_MGl M))] [Inhabited (cx_Tord B M)] {k : B} (hk : k ≠ 0) (q : Rat) {f : M → cx_S B} (hf : cx_Good f) : cx_Good (cx_cj k q f) := (cx_E_good hk q).comp (hf.comp (cx_E_good hk (-q)))
theorem cx_conj_sup {B : Type} [Zero B] [Add B] [Mul (cx_S B)] [One (cx_S B)] [Add (cx_S B)] [Zero (cx_S B)] [Inhabited (cx_Idx B)] {M : Type} [Add M] [Inhabited (PLift (cx_MGl M))] [Inhabited (cx_Tord B M)] {k : B} {q : Rat} {v v2 cx_dl : B → Rat} (h : cx_Kd M k q v v2 cx_dl) {a : B} (ha : 0 < cx_dl a) (hv : 0 ≤ v a) (hr : 0 ≤ q * cx_pr k (cx_p a : M)) (c : Rat) :
    cx_Sup (cx_Sv cx_dl v2) (cx_cj k q (cx_E a c) : M → cx_S B) := by
  classical
  have ha0 : a ≠ 0 := fun e => by rw [e, h.fd.zero] at ha; grind
  refine cx_good_supp (cx_cj_good h.k0 q (cx_E_good ha0 c)) (cx_Sv.clo h.fd h.fv2) (fun m => cx_pr k m = 0) ?_ ?_
  · intro m hm b hb hT
    rw [cx_cj_test h.k0 q _ hm]
    show cx_D b (fun u s => cx_E a c m u * cx_E k q (m + cx_p u) s) = 0
    refine cx_D_zero (fun u s hus => ?_)
    by_cases hu : ∃ j, cx_nsm j a = u
    · obtain ⟨j, rfl⟩ := hu
      by_cases hs : ∃ i, cx_nsm i k = s
      · obtain ⟨i, rfl⟩ := hs
        obtain ⟨N, hN⟩ := cx_nat_of (h.ri a) hr
        have e1 : q * cx_pr k (m + cx_p (cx_nsm j a) : M) = ((j * N : Nat) : Rat) := by
          rw [cx_pr_addR, hm, cx_p_nsm, Rat.zero_add]
          have : ((j * N : Nat) : Rat) = (j : Rat) * (N : Rat) := by exact_mod_cast rfl
          rw [this, ← hN]; grind
        have e2 : cx_E k q (m + cx_p (cx_nsm j a)) (cx_nsm i k) = cx_bin ((j * N : Nat) : Rat) i := by
          show cx_sub k (cx_bin (q * cx_pr k (m + cx_p (cx_nsm j a)))) (cx_nsm i k) = _
          rw [cx_sub_at h.k0, e1]
        rw [e2]
        by_cases hi : j * N < i
        · rw [cx_bin_big _ _ hi, Rat.mul_zero]
        · exfalso
          have hj : j ≠ 0 := by
            intro hj
            subst hj
            have : i = 0 := by omega
            subst this
            exact hb (by rw [← hus]; show (0 : B) + 0 = 0; exact cx_addZ 0)
          apply hT
          have hj1 : (1 : Rat) ≤ (j : Rat) := by exact_mod_cast Nat.one_le_iff_ne_zero.2 hj
          refine ⟨?_, ?_⟩
          · rw [← hus, h.fd.add, h.fd.nsm, h.fd.nsm, h.dlk, Rat.mul_zero, Rat.add_zero]
            exact Rat.mul_pos (by grind) ha
          · rw [← hus, h.fv2.add, h.fv2.nsm, h.fv2.nsm, h.v2e a, h.flip.vk, hN]
            have h1 : (i : Rat) ≤ (j : Rat) * (N : Rat) := by
              have : ((j * N : Nat) : Rat) = (j : Rat) * (N : Rat) := by exact_mod_cast rfl
              rw [← this]; exact_mod_cast (by omega : i ≤ j * N)
            have h2 := Rat.mul_nonneg (by grind : 0 ≤ (j : Rat)) hv
            grind
      · rw [show (cx_E k q (m + cx_p (cx_nsm j a)) : cx_S B) s = 0 from cx_sub_off _ (fun i e => hs ⟨i, e⟩), Rat.mul_zero]
    · rw [show (cx_E a c m : cx_S B) u = 0 from cx_sub_off _ (fun i e => hu ⟨i, e⟩), Rat.zero_mul]
  · intro b hb hT
    by_cases hd : cx_dl b = 0
    · right
      intro m
      obtain ⟨j, rfl⟩ := h.ray b hd
      have h1 : cx_Rqd k (cx_deg (cx_nsm j k)) (cx_cj k q (cx_E a c) : M → cx_S B) (cx_comp (cx_E k q) (cx_comp cx_I (cx_E k (-q)))) :=
        cx_Rqd.comp h (fun _ _ _ => rfl) (cx_Rqd.comp h (cx_E_off_ray h ha c _) (fun _ _ _ => rfl))
      rw [h1 m j (Nat.le_refl _), cx_I_comp, cx_E_add h.k0, show q + -q = 0 by grind, cx_E_zero h.k0]
      exact cx_one_ne hb
    · left
      exact h.tst b hd
abbrev cx_Pair {B : Type} [Zero B] [Add B] [Mul (cx_S B)] [One (cx_S B)] [Add (cx_S B)] [Zero (cx_S B)] [Inhabited (cx_Idx B)] {M : Type} [Add M] [Inhabited (PLift (cx_MGl M))] [Inhabited (cx_Tord B M)] (k : B) (q : Rat) (v v2 cx_dl : B → Rat) (Z : M → Prop) (h h2 : M → cx_S B) : Prop := (cx_Good h) ∧ (cx_Good h2) ∧ (cx_Sup (cx_Sv cx_dl v) h) ∧ (cx_Sup (cx_Sv cx_dl v2) h2) ∧ (cx_comp (cx_E k q) h = cx_comp h2 (cx_E k q)) ∧ (∀ d, cx_Whole d Z h) ∧ (∀ d, cx_Whole d Z h2)
theorem cx_Pair.gh {B : Type} [Zero B] [Add B] [Mul (cx_S B)] [One (cx_S B)] [Add (cx_S B)] [Zero (cx_S B)] [Inhabited (cx_Idx B)] {M : Type} [Add M] [Inhabited (PLift (cx_MGl M))] [Inhabited (cx_Tord B M)] {k : B} {q : Rat} {v v2 cx_dl : B → Rat} {Z : M → Prop} {h h2 : M → cx_S B} (hh_ : cx_Pair k q v v2 cx_dl Z h h2) : cx_Good h := hh_.1
theorem cx_Pair.gh2 {B : Type} [Zero B] [Add B] [Mul (cx_S B)] [One (cx_S B)] [Add (cx_S B)] [Zero (cx_S B)] [Inhabited (cx_Idx B)] {M : Type} [Add M] [Inhabited (PLift (cx_MGl M))] [Inhabited (cx_Tord B M)] {k : B} {q : Rat} {v v2 cx_dl : B → Rat} {Z : M → Prop} {h h2 : M → cx_S B} (hh_ : cx_Pair k q v v2 cx_dl Z h h2) : cx_Good h2 := hh_.2.1
theorem cx_Pair.sh {B : Type} [Zero B] [Add B] [Mul (cx_S B)] [One (cx_S B)] [Add (cx_S B)] [Zero (cx_S B)] [Inhabited (cx_Idx B)] {M : Type} [Add M] [Inhabited (PLift (cx_MGl M))] [Inhabited (cx_Tord B M)] {k : B} {q : Rat} {v v2 cx_dl : B → Rat} {Z : M → Prop} {h h2 : M → cx_S B} (hh_ : cx_Pair k q v v2 cx_dl Z h h2) : cx_Sup (cx_Sv cx_dl v) h := hh_.2.2.1
theorem cx_Pair.sh2 {B : Type} [Zero B] [Add B] [Mul (cx_S B)] [One (cx_S B)] [Add (cx_S B)] [Zero (cx_S B)] [Inhabited (cx_Idx B)] {M : Type} [Add M] [Inhabited (PLift (cx_MGl M))] [Inhabited (cx_Tord B M)] {k : B} {q : Rat} {v v2 cx_dl : B → Rat} {Z : M → Prop} {h h2 : M → cx_S B} (hh_ : cx_Pair k q v v2 cx_dl Z h h2) : cx_Sup (cx_Sv cx_dl v2) h2 := hh_.2.2.2.1
theorem cx_Pair.cj {B : Type} [Zero B] [Add B] [Mul (cx_S B)] [One (cx_S B)] [Add (cx_S B)] [Zero (cx_S B)] [Inhabited (cx_Idx B)] {M : Type} [Add M] [Inhabited (PLift (cx_MGl M))] [Inhabited (cx_Tord B M)] {k : B} {q : Rat} {v v2 cx_dl : B → Rat} {Z : M → Prop} {h h2 : M → cx_S B} (hh_ : cx_Pair k q v v2 cx_dl Z h h2) : cx_comp (cx_E k q) h = cx_comp h2 (cx_E k q) := hh_.2.2.2.2.1
theorem cx_Pair.wh {B : Type} [Zero B] [Add B] [Mul (cx_S B)] [One (cx_S B)] [Add (cx_S B)] [Zero (cx_S B)] [Inhabited (cx_Idx B)] {M : Type} [Add M] [Inhabited (PLift (cx_MGl M))] [Inhabited (cx_Tord B M)] {k : B} {q : Rat} {v v2 cx_dl : B → Rat} {Z : M → Prop} {h h2 : M → cx_S B} (hh_ : cx_Pair k q v v2 cx_dl Z h h2) : ∀ d, cx_Whole d Z h := hh_.2.2.2.2.2.1
theorem cx_Pair.wh2 {B : Type} [Zero B] [Add B] [Mul (cx_S B)] [One (cx_S B)] [Add (cx_S B)] [Zero (cx_S B)] [Inhabited (cx_Idx B)] {M : Type} [Add M] [Inhabited (PLift (cx_MGl M))] [Inhabited (cx_Tord B M)] {k : B} {q : Rat} {v v2 cx_dl : B → Rat} {Z : M → Prop} {h h2 : M → cx_S B} (hh_ : cx_Pair k q v v2 cx_dl Z h h2) : ∀ d, cx_Whole d Z h2 := hh_.2.2.2.2.2.2
theorem cx_whole_comp {B : Type} [Zero B] [Add B] [Mul (cx_S B)] [One (cx_S B)] [Add (cx_S B)] [Zero (cx_S B)] [Inhabited (cx_Idx B)] {M : Type} [Add M] [Inhabited (PLift (cx_MGl M))] [Inhabited (cx_Tord B M)] {Z : M → Prop} (hZ : ∀ (m : M) (u : B), Z m → Z (m + cx_p u)) {d : Nat} {g h : M → cx_S B} (hg : cx_Whole d Z g) (hh : cx_Whole d Z h) : cx_Whole d Z (cx_comp g h) :=
  cx_Whole.comp (T := cx_All) (fun m u hm _ => hZ m u hm) hg hh (fun _ _ _ _ h => absurd trivial h)
theorem cx_Pair.comp {B : Type} [Zero B] [Add B] [Mul (cx_S B)] [One (cx_S B)] [Add (cx_S B)] [Zero (cx_S B)] [Inhabited (cx_Idx B)] {M : Type} [Add M] [Inhabited (PLift (cx_MGl M))] [Inhabited (cx_Tord B M)] {k : B} {q : Rat} {v v2 cx_dl : B → Rat} (hk : cx_Kd M k q v v2 cx_dl) {Z : M → Prop} (hZ : ∀ (m : M) (u : B), Z m → Z (m + cx_p u)) {h h2 u u2 : M → cx_S B}
    (a : cx_Pair k q v v2 cx_dl Z h h2) (b : cx_Pair k q v v2 cx_dl Z u u2) : cx_Pair k q v v2 cx_dl Z (cx_comp h u) (cx_comp h2 u2) := ⟨(a.gh.comp b.gh),
  (a.gh2.comp b.gh2),
  (a.sh.comp (cx_Sv.clo hk.fd hk.fv) b.sh),
  (a.sh2.comp (cx_Sv.clo hk.fd hk.fv2) b.sh2),
  (by rw [← cx_comp_assoc, a.cj, cx_comp_assoc, b.cj, cx_comp_assoc]),
  (fun d => cx_whole_comp hZ (a.wh d) (b.wh d)),
  (fun d => cx_whole_comp hZ (a.wh2 d) (b.wh2 d))⟩
theorem cx_I_whole {B : Type} [Zero B] [Add B] [Mul (cx_S B)] [One (cx_S B)] [Add (cx_S B)] [Zero (cx_S B)] [Inhabited (cx_Idx B)] {M : Type} [Add M] [Inhabited (PLift (cx_MGl M))] [Inhabited (cx_Tord B M)] (Z : M → Prop) (d : Nat) : cx_Whole d Z (cx_I : M → cx_S B) := by
  classical
  intro m _ b _
  show cx_IsI ((1 : cx_S B) b)
  by_cases hb : b = 0
  · rw [hb, cx_one_zero]; exact cx_IsI.one
  · rw [cx_one_ne hb]; exact cx_IsI.zero
theorem cx_Pair.one {B : Type} [Zero B] [Add B] [Mul (cx_S B)] [One (cx_S B)] [Add (cx_S B)] [Zero (cx_S B)] [Inhabited (cx_Idx B)] {M : Type} [Add M] [Inhabited (PLift (cx_MGl M))] [Inhabited (cx_Tord B M)] {k : B} {q : Rat} {v v2 cx_dl : B → Rat} {Z : M → Prop} : cx_Pair k q v v2 cx_dl Z (cx_I : M → cx_S B) cx_I := ⟨(cx_I_good),
  (cx_I_good),
  (cx_I_sup _),
  (cx_I_sup _),
  (by rw [cx_comp_I, cx_I_comp]),
  (cx_I_whole Z),
  (cx_I_whole Z)⟩
theorem cx_cj_lead {B : Type} [Zero B] [Add B] [Mul (cx_S B)] [One (cx_S B)] [Add (cx_S B)] [Zero (cx_S B)] [Inhabited (cx_Idx B)] {M : Type} [Add M] [Inhabited (PLift (cx_MGl M))] [Inhabited (cx_Tord B M)] {k : B} (hk : k ≠ 0) (q : Rat) {a : B} (ha : a ≠ 0) (c : Rat) : cx_Ld (cx_deg a) (cx_cj k q (cx_E a c) : M → cx_S B) (fun b => @ite _ (b = a) (Classical.propDecidable _) c 0) := by
  classical
  have hda : cx_deg a ≠ 0 := fun e => ha (cx_deg_pos a e)
  have key : ∀ (m : M) (b : B), cx_deg b ≤ cx_deg a → cx_cj k q (cx_E a c) m b = (1 : cx_S B) b + (if cx_deg b = cx_deg a then (if b = a then c else 0) * cx_pr b m else 0) := by
    intro m b hb
    unfold cx_cj
    rw [(cx_E_ld (M := M) ha c).mid (by omega) (cx_E_good hk q) (cx_E_good hk (-q)) m b hb, cx_E_add hk, show q + -q = 0 by grind, cx_E_zero hk]
    rfl
  refine ⟨(cx_cj_good hk q (cx_E_good ha c)).unit, fun m b hb hd => ?_, fun m b hd => ?_⟩
  · rw [key m b (by omega), cx_one_ne hb, if_neg (by omega)]; grind
  · have hb : b ≠ 0 := fun e => by rw [e, cx_deg_zero] at hd; omega
    rw [key m b (by omega), cx_one_ne hb, if_pos hd]; grind
theorem cx_wl_neg {B : Type} [Zero B] [Add B] [Mul (cx_S B)] [One (cx_S B)] [Add (cx_S B)] [Zero (cx_S B)] [Inhabited (cx_Idx B)] {M : Type} [Add M] [Inhabited (PLift (cx_MGl M))] [Inhabited (cx_Tord B M)] {Z : M → Prop} {x : B} {c : Rat} (h : cx_Wl Z (x, c)) : cx_Wl Z (x, -c) := by
  intro m hm
  obtain ⟨z, hz⟩ := h m hm
  refine ⟨-z, ?_⟩
  have h1 : ((-z : Int) : Rat) = -(z : Rat) := by exact_mod_cast rfl
  rw [h1, ← hz]; show -c * cx_pr x m = -(c * cx_pr x m); grind
theorem cx_pair_gen {B : Type} [Zero B] [Add B] [Mul (cx_S B)] [One (cx_S B)] [Add (cx_S B)] [Zero (cx_S B)] [Inhabited (cx_Idx B)] {M : Type} [Add M] [Inhabited (PLift (cx_MGl M))] [Inhabited (cx_Tord B M)] {k : B} {q : Rat} {v v2 cx_dl : B → Rat} (hk : cx_Kd M k q v v2 cx_dl) {Z : M → Prop} (hZ : ∀ (m : M) (u : B), Z m → Z (m + cx_p u)) (hkZ : cx_Wl Z (k, q))
    {a : B} (ha : 0 < cx_dl a) (h : (0 ≤ v a ∧ 0 ≤ q * cx_pr k (cx_p a : M)) ∨ (0 ≤ v2 a ∧ q * cx_pr k (cx_p a : M) ≤ 0)) {c : Rat} (hc : cx_Wl Z (a, c)) :
    ∃ u u2 : M → cx_S B, cx_Pair k q v v2 cx_dl Z u u2 ∧ cx_Ld (cx_deg a) u (fun b => @ite _ (b = a) (Classical.propDecidable _) c 0) ∧ cx_Ld (cx_deg a) u2 (fun b => @ite _ (b = a) (Classical.propDecidable _) c 0) := by
  have ha0 : a ≠ 0 := fun e => by rw [e, hk.fd.zero] at ha; grind
  have back : ∀ q, cx_comp (cx_cj k q (cx_E a c)) (cx_E k q) = (cx_comp (cx_E k q) (cx_E a c) : M → cx_S B) := by
    intro q
    unfold cx_cj
    rw [cx_comp_assoc, cx_comp_assoc, cx_E_add hk.k0, show -q + q = 0 by grind, cx_E_zero hk.k0, cx_comp_I]
  have back2 : cx_comp (cx_E k q) (cx_cj k (-q) (cx_E a c)) = (cx_comp (cx_E a c) (cx_E k q) : M → cx_S B) := by
    unfold cx_cj
    rw [← cx_comp_assoc, cx_E_add hk.k0, show q + -q = 0 by grind, cx_E_zero hk.k0, cx_I_comp, Rat.neg_neg]
  have wc : ∀ q, cx_Wl Z (k, q) → ∀ d, cx_Whole d Z (cx_cj k q (cx_E a c) : M → cx_S B) := fun q hq d =>
    cx_whole_comp hZ (cx_E_whole hq d) (cx_whole_comp hZ (cx_E_whole hc d) (cx_E_whole (cx_wl_neg hq) d))
  rcases h with ⟨h1, h2⟩ | ⟨h1, h2⟩
  · refine ⟨cx_E a c, cx_cj k q (cx_E a c), ⟨cx_E_good ha0 c, cx_cj_good hk.k0 q (cx_E_good ha0 c), cx_E_sup (cx_Sv.clo hk.fd hk.fv) ⟨ha, h1⟩ c, cx_conj_sup hk ha h1 h2 c, (back q).symm, fun d => cx_E_whole hc d, wc q hkZ⟩, cx_E_ld ha0 c, cx_cj_lead hk.k0 q ha0 c⟩
  · refine ⟨cx_cj k (-q) (cx_E a c), cx_E a c, ⟨cx_cj_good hk.k0 (-q) (cx_E_good ha0 c), cx_E_good ha0 c, cx_conj_sup hk.flip ha h1 (by grind) c, cx_E_sup (cx_Sv.clo hk.fd hk.fv2) ⟨ha, h1⟩ c, back2, wc (-q) (cx_wl_neg hkZ), fun d => cx_E_whole hc d⟩, cx_cj_lead hk.k0 (-q) ha0 c, cx_E_ld ha0 c⟩
