/-! MORE FUEL CHANGES NOTHING; TOTAL CORRECTNESS -/
theorem pm_step_mono {sh : pm_Sh} {rec rec' : pm_C} (hr : ∀ mid a A r, rec mid a A = some r → rec' mid a A = some r) {o : pm_Op} {s : pm_S} {out : pm_O} (h : pm_step sh rec o s = some out) : pm_step sh rec' o s = some out := by
  obtain ⟨nx, code, a, b, c, z, ts⟩ := o
  by_cases hc : code = 23
  · subst hc
    simp only [pm_step] at h ⊢
    split at h
    · next hc =>
      rw [if_pos hc]
      split at h
      · cases h
      · next v A' hv => rw [hr _ _ _ _ hv]; exact h
    · cases h
  · have : pm_step sh rec' (nx, code, a, b, c, z, ts) s = pm_step sh rec (nx, code, a, b, c, z, ts) s := by
      unfold pm_step
      split
      all_goals first | rfl | skip
      · next e => exact absurd e hc
    rw [this]; exact h
theorem pm_run_mono {PT : pm_T} {sh : pm_Sh} : ∀ {n m : Nat}, n ≤ m → ∀ {full suf : pm_P} {s : pm_S} {r : pm_R}, pm_run PT sh n full suf s = some r → pm_run PT sh m full suf s = some r
  | 0, _, _, _, _, _, _, h => by cases h
  | n + 1, 0, hnm, _, _, _, _, _ => absurd hnm (by omega)
  | n + 1, m + 1, hnm, full, [], s, r, h => by cases h
  | n + 1, m + 1, hnm, full, q :: rest, s, r, h => by
    rw [pm_run_s] at h ⊢
    have hc : ∀ mid a A r, pm_call PT sh n mid a A = some r → pm_call PT sh m mid a A = some r := by
      intro mid a A r h
      unfold pm_call at h ⊢
      split at h
      · next hs => rw [if_pos hs]; exact pm_run_mono (by omega) h
      · cases h
    cases ho : pm_step sh (pm_call PT sh n) q.2 s with
    | none => rw [ho] at h; cases h
    | some o =>
      rw [ho] at h
      rw [pm_step_mono hc ho]
      match o, h with
      | .inr r0, h => exact h
      | .inl (pc, s'), h => exact pm_run_mono (by omega) h
theorem pm_call_mono {PT : pm_T} {sh : pm_Sh} {n m : Nat} (hnm : n ≤ m) {mid : Nat} {a : List pm_V} {A : pm_A} {r : pm_R} (h : pm_call PT sh n mid a A = some r) : pm_call PT sh m mid a A = some r := by
  unfold pm_call at h ⊢
  split at h
  · next hs => rw [if_pos hs]; exact pm_run_mono hnm h
  · cases h
/-- places stand in order -/
def pm_srt : pm_P → Bool
  | [] => true
  | [_] => true
  | q :: r :: t => Nat.blt q.1 r.1 && pm_srt (r :: t)
theorem pm_srt_lt : ∀ {q : Nat × pm_Op} {t : pm_P}, pm_srt (q :: t) = true → ∀ x ∈ t, q.1 < x.1
  | q, [], _, x, hx => absurd hx List.not_mem_nil
  | q, r :: t, h, x, hx => by
    simp only [pm_srt, Bool.and_eq_true] at h
    have h1 : q.1 < r.1 := Nat.le_of_ble_eq_true h.1
    rcases List.mem_cons.mp hx with rfl | hx
    · exact h1
    · exact Nat.lt_trans h1 (pm_srt_lt h.2 x hx)
theorem pm_srt_tl {q : Nat × pm_Op} {t : pm_P} (h : pm_srt (q :: t) = true) : pm_srt t = true := by
  cases t with
  | nil => rfl
  | cons r t => simp only [pm_srt, Bool.and_eq_true] at h; exact h.2
theorem pm_seek_suf {pc : Nat} : ∀ {full : pm_P}, ∃ pre, full = pre ++ pm_seek pc full
  | [] => ⟨[], rfl⟩
  | q :: t => by
    simp only [pm_seek]
    cases Nat.beq q.1 pc with
    | true => exact ⟨[], rfl⟩
    | false =>
      obtain ⟨pre, h⟩ := pm_seek_suf (pc := pc) (full := t)
      exact ⟨q :: pre, by rw [cond_false, List.cons_append, ← h]⟩
theorem pm_seek_hd {pc : Nat} : ∀ {full : pm_P} {q : Nat × pm_Op} {rest : pm_P}, pm_seek pc full = q :: rest → q.1 = pc
  | [], _, _, h => by cases h
  | x :: t, q, rest, h => by
    simp only [pm_seek] at h
    cases hb : Nat.beq x.1 pc with
    | true => rw [hb] at h; cases h; exact Nat.eq_of_beq_eq_true hb
    | false => rw [hb] at h; exact pm_seek_hd (full := t) h
theorem pm_seek_app : ∀ {pre t : pm_P} {q : Nat × pm_Op}, pm_srt (pre ++ q :: t) = true → pm_seek q.1 (pre ++ q :: t) = q :: t
  | [], t, q, _ => by simp [pm_seek]
  | x :: pre, t, q, h => by
    have hx : x.1 < q.1 := pm_srt_lt h q (List.mem_append_right _ List.mem_cons_self)
    have : Nat.beq x.1 q.1 = false := by rw [← Bool.not_eq_true]; intro e; have := Nat.eq_of_beq_eq_true e; omega
    simp only [List.cons_append, pm_seek, this, cond_false]
    exact pm_seek_app (pm_srt_tl h)
theorem pm_next_seek {full : pm_P} (hs : pm_srt full = true) {pc pc' : Nat} {q : Nat × pm_Op} {rest : pm_P} (h : pm_seek pc full = q :: rest) : pm_next full pc' rest = pm_seek pc' full := by
  cases rest with
  | nil => rfl
  | cons r t =>
    simp only [pm_next]
    cases hb : Nat.beq r.1 pc' with
    | false => rfl
    | true =>
      have e := Nat.eq_of_beq_eq_true hb
      subst e
      obtain ⟨pre, hp⟩ := pm_seek_suf (pc := pc) (full := full)
      rw [h] at hp
      have hp2 : full = (pre ++ [q]) ++ r :: t := by rw [List.append_assoc]; exact hp
      rw [hp2]
      rw [hp2] at hs
      exact (pm_seek_app hs).symm
/-- from place pc with state s the method comes to an end with Q -/
def Tm (PT : pm_T) (sh : pm_Sh) (full : pm_P) (pc : Nat) (s : pm_S) (Q : pm_R → Prop) : Prop := ∃ n r, pm_run PT sh n full (pm_seek pc full) s = some r ∧ Q r
theorem Tm.step {PT : pm_T} {sh : pm_Sh} {full : pm_P} (hs : pm_srt full = true) {pc pc' : Nat} {q : Nat × pm_Op} {rest : pm_P} (hq : pm_seek pc full = q :: rest) {s s' : pm_S} {n0 : Nat} (h : pm_step sh (pm_call PT sh n0) q.2 s = some (.inl (pc', s'))) {Q : pm_R → Prop} (ht : Tm PT sh full pc' s' Q) : Tm PT sh full pc s Q := by
  obtain ⟨n, r, h1, h2⟩ := ht
  refine ⟨max n0 n + 1, r, ?_, h2⟩
  rw [hq, pm_run_s]
  rw [pm_step_mono (fun mid a A r h => pm_call_mono (Nat.le_max_left n0 n) h) h]
  simp only
  rw [pm_next_seek hs hq]
  exact pm_run_mono (Nat.le_max_right n0 n) h1
theorem Tm.ret {PT : pm_T} {sh : pm_Sh} {full : pm_P} {pc : Nat} {q : Nat × pm_Op} {rest : pm_P} (hq : pm_seek pc full = q :: rest) {s : pm_S} {n0 : Nat} {r : pm_R} (h : pm_step sh (pm_call PT sh n0) q.2 s = some (.inr r)) {Q : pm_R → Prop} (hQ : Q r) : Tm PT sh full pc s Q := by
  refine ⟨n0 + 1, r, ?_, hQ⟩
  rw [hq, pm_run_s, h]
theorem Tm.imp {PT : pm_T} {sh : pm_Sh} {full : pm_P} {pc : Nat} {s : pm_S} {Q Q' : pm_R → Prop} (h : Tm PT sh full pc s Q) (hi : ∀ r, Q r → Q' r) : Tm PT sh full pc s Q' := by
  obtain ⟨n, r, h1, h2⟩ := h
  exact ⟨n, r, h1, hi r h2⟩
/-- a method's contract -/
def Ct (PT : pm_T) (sh : pm_Sh) (mid : Nat) (Pre : List pm_V → pm_A → Prop) (Post : List pm_V → pm_A → pm_R → Prop) : Prop := ∀ a A, Pre a A → ∃ n r, pm_call PT sh n mid a A = some r ∧ Post a A r
theorem Ct.of {PT : pm_T} {sh : pm_Sh} {mid : Nat} {Pre : List pm_V → pm_A → Prop} {Post : List pm_V → pm_A → pm_R → Prop} (h : ∀ a A, Pre a A → (a.map pm_cat).sum ≤ (PT mid).1 ∧ Tm PT sh (PT mid).2 0 (pm_args (PT mid).1 a, [], A) (Post a A)) : Ct PT sh mid Pre Post := by
  intro a A hp
  obtain ⟨h1, n, r, h2, h3⟩ := h a A hp
  exact ⟨n, r, by unfold pm_call; rw [if_pos h1]; exact h2, h3⟩
