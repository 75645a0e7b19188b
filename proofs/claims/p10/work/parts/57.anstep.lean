/-! one operation -/
def gN (w : an_W) (PT : pm_T) (ms : List Nat) (L0 : List pm_V) (A0 : pm_A) (o : pm_Op) (c : pm_S) (succ : List (Nat × an_S)) : Prop := ∃ (n0 : Nat) (pc' : Nat) (c' : pm_S) (s' : an_S), pm_step (an_sh w) (pm_call PT (an_sh w) n0) o c = some (.inl (pc', c')) ∧ (pc', s') ∈ succ ∧ gS w ms L0 A0 s' c'
def gZ (w : an_W) (PT : pm_T) (Q : an_Q) (A0 : pm_A) (o : pm_Op) (c : pm_S) : Prop := ∃ (n0 : Nat) (r : pm_R), pm_step (an_sh w) (pm_call PT (an_sh w) n0) o c = some (.inr r) ∧ gR w Q.2.1 r.1 ∧ gH w r.2 ∧ gFr w Q.2.2 A0 r.2
theorem gN_1 {w : an_W} {PT : pm_T} {ms : List Nat} {L0 : List pm_V} {A0 : pm_A} {o : pm_Op} {c c' : pm_S} {pc' : Nat} {s' : an_S} (h : pm_step (an_sh w) (pm_call PT (an_sh w) 0) o c = some (.inl (pc', c'))) (g : gS w ms L0 A0 s' c') : gN w PT ms L0 A0 o c [(pc', s')] := ⟨0, pc', c', s', h, List.mem_singleton.mpr rfl, g⟩
theorem gv_tag {w : an_W} {a : an_V} {v : pm_V} {t : Nat} (h : (Nat.beq a.1 t || (Nat.beq a.1 4 && Nat.beq t 2)) = true) (h3 : t < 3) (hv : gv w a v) : v.1 = t := by
  rw [Bool.or_eq_true, Bool.and_eq_true] at h
  rcases h with q | ⟨q, q2⟩
  · have e := Nat.eq_of_beq_eq_true q
    match t, h3, q with
    | 0, _, q => exact ((gv0 (a := a) q).mp hv).1
    | 1, _, q => exact ((gv1 q).mp hv).1
    | 2, _, q => exact ((gv2 q).mp hv).1
    | n + 3, h3, _ => exact absurd h3 (by omega)
  · have e := Nat.eq_of_beq_eq_true q2
    rw [e]; exact ((gv4 q).mp hv).1
theorem gv_cat {w : an_W} {a : an_V} {v : pm_V} {t : Nat} (h : (Nat.beq a.1 t || (Nat.beq a.1 4 && Nat.beq t 2)) = true) (h3 : t < 3) (hv : gv w a v) : pm_cat v = an_cat a := by
  have ht := gv_tag h h3 hv
  rw [Bool.or_eq_true, Bool.and_eq_true] at h
  unfold pm_cat an_cat
  rw [ht]
  rcases h with q | ⟨q, q2⟩
  · have e := Nat.eq_of_beq_eq_true q
    rw [e]
    match t, h3 with
    | 0, _ => rfl
    | 1, _ => rfl
    | 2, _ => rfl
    | n + 3, h3 => exact absurd h3 (by omega)
  · rw [Nat.eq_of_beq_eq_true q2, Nat.eq_of_beq_eq_true q]; rfl
theorem gv_ok {w : an_W} {c : Nat} {a : an_V} {v : pm_V} (h : an_ok c a = true) (hv : gv w a v) : pm_okt c v = true := by
  match c, h with
  | 0, h => have := ((gv0 (a := a) h).mp hv).1; show Nat.beq v.1 0 = true; rw [this]; rfl
  | 1, h => have := ((gv1 h).mp hv).1; show Nat.beq v.1 1 = true; rw [this]; rfl
  | 2, h =>
    simp only [an_ok, Bool.and_eq_true] at h
    obtain ⟨g1, g2, g3⟩ := (gv0 (a := a) h.1).mp hv
    have a1 := ile_ok h.2.1
    have a2 := ile_ok h.2.2
    show (Nat.beq v.1 0 && (decide (v.2 = 0) || decide (v.2 = 1))) = true
    rw [g1]
    simp only [Bool.and_eq_true, Bool.or_eq_true, decide_eq_true_eq]
    exact ⟨rfl, by omega⟩
  | n + 3, h =>
    simp only [an_ok, Bool.or_eq_true] at h
    have : v.1 = 2 := by
      rcases h with q | q
      · exact ((gv2 q).mp hv).1
      · exact ((gv4 q).mp hv).1
    show Nat.beq v.1 2 = true
    rw [this]; rfl
theorem gv_lt3 {w : an_W} {c : Nat} {a : an_V} {v : pm_V} (h : an_ok c a = true) (hv : gv w a v) : v.1 < 3 := by
  have hk := gv_ok h hv
  match c, hk with
  | 0, hk => have := Nat.eq_of_beq_eq_true (show Nat.beq v.1 0 = true from hk); omega
  | 1, hk => have := Nat.eq_of_beq_eq_true (show Nat.beq v.1 1 = true from hk); omega
  | 2, hk =>
    simp only [pm_okt, Bool.and_eq_true] at hk
    have := Nat.eq_of_beq_eq_true hk.1; omega
  | n + 3, hk => have := Nat.eq_of_beq_eq_true (show Nat.beq v.1 2 = true from hk); omega
theorem gH_upd {w : an_W} {A : pm_A} (h : gH w A) {r i x : Int} {k : an_K} (hk : w.1[w.2 r]? = some k) (hf : k.1 = 0 → ∀ (j : Nat) (a : an_V), k.2.2.2[j]? = some a → (j : Int) = i → gv w a (pm_ftk k.2.1 j, x)) (he : k.1 = 1 → ∀ a : an_V, k.2.2.2[0]? = some a → gv w a (pm_kd k.2.1, x)) : gH w (pm_upd A r i x) := by
  intro r' k' h0 hk'
  by_cases e : r' = r
  · subst e
    rw [hk] at hk'; cases hk'
    refine ⟨fun q j a hj => ?_, fun q a ha j h1 h2 => ?_⟩
    · unfold pm_upd
      by_cases e2 : (j : Int) = i
      · rw [if_pos ⟨rfl, e2⟩]; exact hf q j a hj e2
      · rw [if_neg (fun z => e2 z.2)]; exact (h r' k h0 hk).1 q j a hj
    · unfold pm_upd
      by_cases e2 : j = i
      · rw [if_pos ⟨rfl, e2⟩]; exact he q a ha
      · rw [if_neg (fun z => e2 z.2)]; exact (h r' k h0 hk).2 q a ha j h1 h2
  · have hA : ∀ j, pm_upd A r i x r' j = A r' j := fun j => by unfold pm_upd; rw [if_neg (fun z => e z.1)]
    refine ⟨fun q j a hj => ?_, fun q a ha j h1 h2 => ?_⟩
    · rw [hA]; exact (h r' k' h0 hk').1 q j a hj
    · rw [hA]; exact (h r' k' h0 hk').2 q a ha j h1 h2
theorem gFr_upd {w : an_W} {ms : List Nat} {A0 A : pm_A} (h : gFr w ms A0 A) {r i x : Int} (hm : mcode w r i ∈ ms) : gFr w ms A0 (pm_upd A r i x) := by
  intro r' j h0 hj hn
  unfold pm_upd
  rw [if_neg]
  · exact h r' j h0 hj hn
  · rintro ⟨rfl, rfl⟩; exact hn hm
theorem gS_arr {w : an_W} {ms : List Nat} {L0 Lc Kc : List pm_V} {A0 A A' : pm_A} {L : List an_V} {K : List an_E} {F : List an_F} {D : List (Option Int)} (h1 : gLs w L Lc) (h2 : gKs w Lc A K Kc) (h3 : gFs w Lc A F) (h4 : gDs L0 Lc D) (hA : ∀ r fc, gO w r fc → A' r ((fc % 100 : Nat) : Int) = A r ((fc % 100 : Nat) : Int)) (h5 : gH w A') (h6 : gFr w ms A0 A') : gS w ms L0 A0 (L, K, F, D) (Lc, Kc, A') :=
  ⟨h1, gKs_A hA h2, gFs_A hA h3, h4, h5, h6⟩
theorem gTk {w : an_W} {ms : List Nat} {L0 Lc Kc : List pm_V} {A0 A : pm_A} {s : an_S} (h : gS w ms L0 A0 s (Lc, Kc, A)) {op tgt : Nat} {X Y : an_E} {x y : Int} (hX : an_isI X.1 = true) (hY : an_isI Y.1 = true) (hx : gE w Lc A X (0, x)) (hy : gE w Lc A Y (0, y)) (ht : pp_tst op x y = true) : ∃ s', (tgt, s') ∈ an_tk op tgt X Y s ∧ gS w ms L0 A0 s' (Lc, Kc, A) := by
  obtain ⟨r1, r2⟩ := an_ref_ok op hX hY hx.1 hy.1 ht
  have i1 : an_isI (an_ref op X.1 Y.1).1 = true := by
    match op with
    | 0 => rfl
    | 1 => rfl
    | 2 => rfl
    | 3 => rfl
    | 4 => rfl
    | n + 5 => rfl
  have i2 : an_isI (an_ref op X.1 Y.1).2 = true := by
    match op with
    | 0 => rfl
    | 1 => rfl
    | 2 => rfl
    | 3 => rfl
    | 4 => rfl
    | n + 5 => rfl
  have q1 := (gv0 i1).mp r1
  have q2 := (gv0 i2).mp r2
  simp only at q1 q2
  refine ⟨_, ?_, an_app_ok (an_app_ok h hx r1 (fun _ => i1)) hy r2 (fun _ => i2)⟩
  unfold an_tk
  have b1 : ile (an_ref op X.1 Y.1).1.2.1 (an_ref op X.1 Y.1).1.2.2 = true := decide_eq_true (by omega)
  have b2 : ile (an_ref op X.1 Y.1).2.2.1 (an_ref op X.1 Y.1).2.2.2 = true := decide_eq_true (by omega)
  rw [b1, b2]
  exact List.mem_singleton.mpr rfl
theorem pp_neg (op : Nat) (x y : Int) (h : pp_tst op x y = false) : pp_tst (an_neg op) x y = true := by
  match op, h with
  | 0, h => have := of_decide_eq_false h; exact decide_eq_true (by omega)
  | 1, h => have := of_decide_eq_false h; exact decide_eq_true (by omega)
  | 2, h => have := of_decide_eq_false h; exact decide_eq_true (by omega)
  | 3, h => have := of_decide_eq_false h; exact decide_eq_true (by omega)
  | 4, h => have := of_decide_eq_false h; show (!decide (x = y)) = true; simp [this]
  | n + 5, h =>
    have h : (!decide (x = y)) = false := h
    show decide (x = y) = true
    simpa using h
theorem gI {w : an_W} {a : an_V} {v : pm_V} (h : an_isI a = true) (hv : gv w a v) : ∃ x, v = (0, x) := ⟨v.2, by rw [← ((gv0 h).mp hv).1]⟩
theorem gJ {w : an_W} {a : an_V} {v : pm_V} (h : Nat.beq a.1 1 = true) (hv : gv w a v) : ∃ x, v = (1, x) := ⟨v.2, by rw [← ((gv1 h).mp hv).1]⟩
theorem gRf {w : an_W} {a : an_V} {v : pm_V} (h : an_isR a = true) (hv : gv w a v) : ∃ x, v = (2, x) ∧ 0 ≤ x ∧ w.2 x = a.2.1.toNat := ⟨v.2, by rw [← (gvR h hv).1], (gvR h hv).2.1, (gvR h hv).2.2⟩
theorem an_un_ok {w : an_W} {Lc : List pm_V} {A : pm_A} (a : Nat) {K K' : List an_E} {Kc : List pm_V} (h : an_un a K = some K') (hK : gKs w Lc A K Kc) : ∃ Kc', pp_un a Kc = some Kc' ∧ gKs w Lc A K' Kc' := by
  match a, h with
  | 0, h =>
    simp only [an_un] at h
    split at h
    · next x r =>
      obtain ⟨hc, h⟩ := rx_cond_some h
      cases h
      obtain ⟨v, Kc', rfl, g1, g2⟩ := gKs_1 hK
      obtain ⟨y, rfl⟩ := gI hc g1.1
      have := (gv0 hc).mp g1.1
      simp only at this
      exact ⟨_, rfl, gE_new (gv_ck (by omega) (by omega)), g2⟩
    · cases h
  | 1, h =>
    simp only [an_un] at h
    split at h
    · next x r =>
      obtain ⟨hc, h⟩ := rx_cond_some h
      cases h
      obtain ⟨v, Kc', rfl, g1, g2⟩ := gKs_1 hK
      obtain ⟨y, rfl⟩ := gJ hc g1.1
      exact ⟨_, rfl, gE_new (gv_fL (w64_rng _)), g2⟩
    · cases h
  | 2, h =>
    simp only [an_un] at h
    split at h
    · next x r =>
      obtain ⟨hc, h⟩ := rx_cond_some h
      cases h
      obtain ⟨v, Kc', rfl, g1, g2⟩ := gKs_1 hK
      obtain ⟨y, rfl⟩ := gI hc g1.1
      have := (gv0 hc).mp g1.1
      exact ⟨_, rfl, gE_new ⟨rfl, this.2.1, this.2.2⟩, g2⟩
    · cases h
  | 3, h =>
    simp only [an_un] at h
    split at h
    · next x r =>
      obtain ⟨hc, h⟩ := rx_cond_some h
      cases h
      obtain ⟨v, Kc', rfl, g1, g2⟩ := gKs_1 hK
      obtain ⟨y, rfl⟩ := gJ hc g1.1
      have := (gv1 hc).mp g1.1
      exact ⟨_, rfl, gE_new (gv_ck this.2.1 this.2.2), g2⟩
    · cases h
  | 4, h =>
    simp only [an_un] at h
    split at h
    · next y x r =>
      obtain ⟨hc, h⟩ := rx_cond_some h
      rw [Bool.and_eq_true] at hc
      cases h
      obtain ⟨v, Kc', rfl, g1, g2⟩ := gKs_1 hK
      obtain ⟨v2, Kc2, rfl, g3, g4⟩ := gKs_1 g2
      obtain ⟨y1, rfl⟩ := gJ hc.2 g1.1
      obtain ⟨x1, rfl⟩ := gJ hc.1 g3.1
      refine ⟨_, rfl, gE_new ⟨rfl, ?_, ?_⟩, g4⟩
      · show (-1 : Int) ≤ if y1 < x1 then 1 else if x1 = y1 then 0 else -1
        split
        · omega
        · split <;> omega
      · show (if y1 < x1 then 1 else if x1 = y1 then 0 else -1) ≤ (1 : Int)
        split
        · omega
        · split <;> omega
    · cases h
  | 5, h =>
    simp only [an_un] at h
    split at h
    · next x r =>
      obtain ⟨hc, h⟩ := rx_cond_some h
      rw [Bool.or_eq_true] at hc
      cases h
      obtain ⟨v, Kc', rfl, g1, g2⟩ := gKs_1 hK
      rcases hc with hc | hc
      · obtain ⟨y, rfl⟩ := gI hc g1.1
        exact ⟨_, rfl, g1, g1, g2⟩
      · obtain ⟨t, y⟩ := v
        cases ((gv2 hc).mp g1.1).1
        exact ⟨_, rfl, g1, g1, g2⟩
    · cases h
  | 6, h =>
    simp only [an_un] at h
    split at h
    · next x y r =>
      obtain ⟨hc, h⟩ := rx_cond_some h
      rw [Bool.and_eq_true, Bool.or_eq_true] at hc
      cases h
      obtain ⟨v, Kc', rfl, g1, g2⟩ := gKs_1 hK
      obtain ⟨v2, Kc2, rfl, g3, g4⟩ := gKs_1 g2
      obtain ⟨x1, rfl⟩ := gI hc.1 g1.1
      rcases hc.2 with hc | hc
      · obtain ⟨y1, rfl⟩ := gI hc g3.1
        exact ⟨_, rfl, g1, g3, g1, g3, g4⟩
      · obtain ⟨t, y1⟩ := v2
        cases ((gv2 hc).mp g3.1).1
        exact ⟨_, rfl, g1, g3, g1, g3, g4⟩
    · cases h
  | n + 7, h =>
    simp only [an_un] at h
    split at h
    · next x r =>
      obtain ⟨hc, h⟩ := rx_cond_some h
      rw [Bool.or_eq_true] at hc
      cases h
      obtain ⟨v, Kc', rfl, g1, g2⟩ := gKs_1 hK
      rcases hc with hc | hc
      · obtain ⟨y, rfl⟩ := gI hc g1.1
        exact ⟨_, rfl, g2⟩
      · obtain ⟨t, y⟩ := v
        cases ((gv2 hc).mp g1.1).1
        exact ⟨_, rfl, g2⟩
    · cases h
