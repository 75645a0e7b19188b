/-! EACH OPERATION KEEPS THE BOUNDS -/
theorem gKs_1 {w : an_W} {Lc : List pm_V} {A : pm_A} {x : an_E} {K : List an_E} {Kc : List pm_V} (h : gKs w Lc A (x :: K) Kc) : ∃ v Kc', Kc = v :: Kc' ∧ gE w Lc A x v ∧ gKs w Lc A K Kc' := by
  cases Kc with
  | nil => exact h.elim
  | cons v Kc' => exact ⟨v, Kc', rfl, h.1, h.2⟩
theorem gKs_0 {w : an_W} {Lc : List pm_V} {A : pm_A} {Kc : List pm_V} (h : gKs w Lc A [] Kc) : Kc = [] := by
  cases Kc with
  | nil => rfl
  | cons v Kc' => exact h.elim
theorem gE_new {w : an_W} {Lc : List pm_V} {A : pm_A} {a : an_V} {v : pm_V} (h : gv w a v) : gE w Lc A (a, 0, 0, 0) v := ⟨h, (fun q => by cases q), (fun q => by cases q)⟩
theorem gKs_kE {w : an_W} {Lc Lc' : List pm_V} {A : pm_A} {i : Nat} (hL : ∀ j, j ≠ i → Lc'[j]? = Lc[j]?) : ∀ {K : List an_E} {Kc : List pm_V}, gKs w Lc A K Kc → gKs w Lc' A (an_kE i K) Kc
  | [], [], _ => trivial
  | e :: es, v :: vs, h => by
    refine ⟨?_, gKs_kE hL h.2⟩
    show gE w Lc' A (cond (Nat.beq e.2.2.1 i) (e.1, 0, 0, 0) e) v
    cases hb : Nat.beq e.2.2.1 i with
    | true => exact gE_new h.1.1
    | false =>
      have hne : e.2.2.1 ≠ i := fun q => by rw [q, Nat.beq_refl] at hb; cases hb
      refine ⟨h.1.1, fun q => ?_, fun q => ?_⟩
      · rw [cond_false] at q ⊢; rw [hL _ hne]; exact h.1.2.1 q
      · rw [cond_false] at q ⊢; rw [hL _ hne]; exact h.1.2.2 q
  | [], _ :: _, h => h.elim
  | _ :: _, [], h => h.elim
theorem gKs_mE {w : an_W} {Lc : List pm_V} {A A' : pm_A} {ms : List Nat} (hA : ∀ r fc, gO w r fc → ¬ fc ∈ ms → A' r ((fc % 100 : Nat) : Int) = A r ((fc % 100 : Nat) : Int)) : ∀ {K : List an_E} {Kc : List pm_V}, gKs w Lc A K Kc → gKs w Lc A' (an_mE ms K) Kc
  | [], [], _ => trivial
  | e :: es, v :: vs, h => by
    refine ⟨?_, gKs_mE hA h.2⟩
    show gE w Lc A' (cond (ms.contains e.2.2.2) (e.1, 0, 0, 0) e) v
    cases hb : ms.contains e.2.2.2 with
    | true => exact gE_new h.1.1
    | false =>
      have hne : ¬ e.2.2.2 ∈ ms := fun q => by rw [List.contains_iff_mem.mpr q] at hb; cases hb
      refine ⟨h.1.1, h.1.2.1, fun q => ?_⟩
      rw [cond_false] at q ⊢
      obtain ⟨r, g1, g2, g3⟩ := h.1.2.2 q
      exact ⟨r, g1, g2, by rw [hA r _ g2 hne]; exact g3⟩
  | [], _ :: _, h => h.elim
  | _ :: _, [], h => h.elim
theorem gKs_A {w : an_W} {Lc : List pm_V} {A A' : pm_A} (hA : ∀ r fc, gO w r fc → A' r ((fc % 100 : Nat) : Int) = A r ((fc % 100 : Nat) : Int)) : ∀ {K : List an_E} {Kc : List pm_V}, gKs w Lc A K Kc → gKs w Lc A' K Kc
  | [], [], _ => trivial
  | e :: es, v :: vs, h => by
    refine ⟨⟨h.1.1, h.1.2.1, fun q => ?_⟩, gKs_A hA h.2⟩
    obtain ⟨r, g1, g2, g3⟩ := h.1.2.2 q
    exact ⟨r, g1, g2, by rw [hA r _ g2]; exact g3⟩
  | [], _ :: _, h => h.elim
  | _ :: _, [], h => h.elim
theorem gFs_kF {w : an_W} {Lc Lc' : List pm_V} {A : pm_A} {i : Nat} (hL : ∀ j, j ≠ i → Lc'[j]? = Lc[j]?) {F : List an_F} (h : gFs w Lc A F) : gFs w Lc' A (an_kF i F) := by
  intro f hf
  obtain ⟨h1, h2⟩ := List.mem_filter.mp hf
  have hne : f.1 ≠ i := fun q => by rw [q, Nat.beq_refl] at h2; cases h2
  rw [hL _ hne]
  exact h f h1
theorem gFs_mF {w : an_W} {Lc : List pm_V} {A A' : pm_A} {ms : List Nat} (hA : ∀ r fc, gO w r fc → ¬ fc ∈ ms → A' r ((fc % 100 : Nat) : Int) = A r ((fc % 100 : Nat) : Int)) {F : List an_F} (h : gFs w Lc A F) : gFs w Lc A' (an_mF ms F) := by
  intro f hf
  obtain ⟨h1, h2⟩ := List.mem_filter.mp hf
  have hne : ¬ f.2.1 ∈ ms := fun q => by rw [List.contains_iff_mem.mpr q] at h2; cases h2
  obtain ⟨r, g1, g2, g3⟩ := h f h1
  exact ⟨r, g1, g2, by rw [hA r _ g2 hne]; exact g3⟩
theorem gFs_A {w : an_W} {Lc : List pm_V} {A A' : pm_A} (hA : ∀ r fc, gO w r fc → A' r ((fc % 100 : Nat) : Int) = A r ((fc % 100 : Nat) : Int)) {F : List an_F} (h : gFs w Lc A F) : gFs w Lc A' F := by
  intro f hf
  obtain ⟨r, g1, g2, g3⟩ := h f hf
  exact ⟨r, g1, g2, by rw [hA r _ g2]; exact g3⟩
theorem an_put_ok {w : an_W} {ms : List Nat} {L0 Lc Lc' Kc : List pm_V} {A0 A : pm_A} {s : an_S} (h : gS w ms L0 A0 s (Lc, Kc, A)) {i : Nat} (hlen : Lc'.length = Lc.length) (hL : ∀ j, j ≠ i → Lc'[j]? = Lc[j]?) {a : an_V} {d : Option Int} (hv : ∀ v, Lc'[i]? = some v → gv w a v) (hd : ∀ q, d = some q → i < s.2.2.2.length → ∃ t x, L0[i]? = some (t, x) ∧ Lc'[i]? = some (t, x + q)) : gS w ms L0 A0 (an_put i a d s) (Lc', Kc, A) := by
  obtain ⟨h1, h2, h3, h4, h5, h6⟩ := h
  refine ⟨⟨?_, ?_⟩, gKs_kE hL h2, gFs_kF hL h3, ?_, h5, h6⟩
  · show (s.1.set i a).length = Lc'.length
    rw [List.length_set, hlen]; exact h1.1
  · intro j b v hj hv'
    have hj : (s.1.set i a)[j]? = some b := hj
    rw [List.getElem?_set] at hj
    by_cases e : i = j
    · subst e
      rw [if_pos rfl] at hj
      split at hj
      · cases hj; exact hv v hv'
      · cases hj
    · rw [if_neg e] at hj
      have hv' : Lc'[j]? = some v := hv'
      rw [hL j (fun q => e q.symm)] at hv'
      exact h1.2 j b v hj hv'
  · intro j q hj
    have hj : (s.2.2.2.set i d)[j]? = some (some q) := hj
    rw [List.getElem?_set] at hj
    by_cases e : i = j
    · subst e
      rw [if_pos rfl] at hj
      split at hj
      · next hl => exact hd q (Option.some.inj hj) hl
      · cases hj
    · rw [if_neg e] at hj
      rw [show (Lc', Kc, A).1 = Lc' from rfl, hL j (fun q => e q.symm)]
      exact h4 j q hj
theorem an_drop_ok {w : an_W} {ms : List Nat} {L0 Lc Lc' Kc : List pm_V} {A0 A : pm_A} {s : an_S} (h : gS w ms L0 A0 s (Lc, Kc, A)) {i : Nat} (hlen : Lc'.length = Lc.length) (hL : ∀ j, j ≠ i → Lc'[j]? = Lc[j]?) : gS w ms L0 A0 (an_drop i s) (Lc', Kc, A) :=
  an_put_ok h hlen hL (fun _ _ => trivial) (fun q e => by cases e)
theorem an_ini_ok {w : an_W} {ms : List Nat} {L0 Lc Kc : List pm_V} {A0 A : pm_A} {s : an_S} (h : gS w ms L0 A0 s (Lc, Kc, A)) (i : Nat) : gS w ms L0 A0 (an_ini i s) (pm_kill Lc i, Kc, A) := by
  cases i with
  | zero => exact h
  | succ j =>
    unfold an_ini
    have hk : (pm_kill Lc (j + 1)).length = Lc.length ∧ ∀ k, k ≠ j → (pm_kill Lc (j + 1))[k]? = Lc[k]? := by
      simp only [pm_kill]
      split
      · exact ⟨by rw [List.length_set], fun k hk => by rw [List.getElem?_set, if_neg (fun q => hk q.symm)]⟩
      · exact ⟨rfl, fun _ _ => rfl⟩
    cases hb : an_pre s.1 (j + 1) with
    | true => exact an_drop_ok h hk.1 hk.2
    | false =>
      have e : pm_kill Lc (j + 1) = Lc := by
        simp only [pm_kill]
        split
        · next x hx =>
          have hl : j < s.1.length := by rw [h.1.1]; exact (List.getElem?_eq_some_iff.mp hx).1
          have ha : s.1[j]? = some s.1[j] := List.getElem?_eq_getElem hl
          have hg := h.1.2 j _ _ ha hx
          simp only [an_pre] at hb
          rw [ha] at hb
          simp only [Bool.not_eq_false', Bool.or_eq_true] at hb
          rcases hb with q | q | q
          · exact absurd ((gv0 (a := s.1[j]) q).mp hg).1 (by simp)
          · exact absurd ((gv2 q).mp hg).1 (by simp)
          · exact absurd ((gv4 q).mp hg).1 (by simp)
        · rfl
      rw [e]
      exact h
theorem an_app_ok {w : an_W} {ms : List Nat} {L0 Lc Kc : List pm_V} {A0 A : pm_A} {s : an_S} (h : gS w ms L0 A0 s (Lc, Kc, A)) {e : an_E} {v : pm_V} (he : gE w Lc A e v) {a : an_V} (hv : gv w a v) (ha : e.2.1 = 2 → an_isI a = true) : gS w ms L0 A0 (an_app e a s) (Lc, Kc, A) := by
  unfold an_app
  split
  · next e1 =>
    obtain ⟨h1, h2⟩ := h
    refine ⟨⟨by simp only; rw [List.length_set]; exact h1.1, ?_⟩, h2⟩
    intro j b u hj hu
    simp only at hj hu
    rw [List.getElem?_set] at hj
    by_cases e2 : e.2.2.1 = j
    · subst e2
      rw [if_pos rfl] at hj
      split at hj
      · cases hj
        rw [he.2.1 e1] at hu
        cases hu; exact hv
      · cases hj
    · rw [if_neg e2] at hj
      exact h1.2 j b u hj hu
  · next e1 =>
    obtain ⟨h1, h2, h3, h4, h5⟩ := h
    refine ⟨h1, h2, ?_, h4, h5⟩
    intro f hf
    rcases List.mem_cons.mp hf with q | q
    · subst q
      obtain ⟨r, g1, g2, g3⟩ := he.2.2 e1
      have := (gv0 (ha e1)).mp hv
      refine ⟨r, g1, g2, ?_, ?_⟩
      · show a.2.1 ≤ A r ((e.2.2.2 % 100 : Nat) : Int); rw [← g3]; exact this.2.1
      · show A r ((e.2.2.2 % 100 : Nat) : Int) ≤ a.2.2; rw [← g3]; exact this.2.2
    · exact h3 f q
  · exact h
theorem an_look_ok {w : an_W} {Lc : List pm_V} {A : pm_A} {i fc : Nat} {r : Int} (hr : Lc[i]? = some (2, r)) : ∀ {F : List an_F} {a : an_V}, gFs w Lc A F → ∀ {t : Nat}, gv w a (t, A r ((fc % 100 : Nat) : Int)) → gv w (an_look F i fc a) (t, A r ((fc % 100 : Nat) : Int))
  | [], _, _, _, h => h
  | f :: F, a, hF, t, h => by
    simp only [an_look]
    cases hb : (Nat.beq f.1 i && (Nat.beq f.2.1 fc && Nat.beq a.1 0)) with
    | false => exact an_look_ok hr (fun g hg => hF g (List.mem_cons_of_mem _ hg)) h
    | true =>
      simp only [Bool.and_eq_true] at hb
      have e1 := Nat.eq_of_beq_eq_true hb.1
      have e2 := Nat.eq_of_beq_eq_true hb.2.1
      obtain ⟨r', g1, g2, g3, g4⟩ := hF f List.mem_cons_self
      rw [e1, hr] at g1
      cases g1
      rw [e2] at g3 g4
      have := (gv0 (a := a) hb.2.2).mp h
      exact ⟨this.1, by simp only [cond_true]; have := this.2.1; simp only at this; omega, by simp only [cond_true]; have := this.2.2; simp only at this; omega⟩
theorem gKs_cat {w : an_W} {Lc : List pm_V} {A : pm_A} : ∀ {K : List an_E} {Kc : List pm_V}, gKs w Lc A K Kc → K.all (fun e => Nat.ble (e.1.1 + 1) 3 || Nat.beq e.1.1 4) = true → (Kc.map pm_cat).sum = (K.map (fun e => an_cat e.1)).sum
  | [], [], _, _ => rfl
  | e :: es, v :: vs, h, ha => by
    simp only [List.all_cons, Bool.and_eq_true] at ha
    simp only [List.map_cons, List.sum_cons]
    rw [gKs_cat h.2 ha.2]
    congr 1
    have hg := h.1.1
    have h1 := ha.1
    generalize e.1 = a at hg h1
    obtain ⟨t, x⟩ := v
    obtain ⟨ta, lo, hi⟩ := a
    match ta, h1, hg with
    | 0, _, hg => cases hg.1; rfl
    | 1, _, hg => cases hg.1; rfl
    | 2, _, hg => cases hg.1; rfl
    | 4, _, hg => cases hg.1; rfl
    | 3, h1, _ => exact absurd (show (Nat.ble (3 + 1) 3 || Nat.beq 3 4) = true from h1) (by decide)
    | n + 5, h1, _ =>
      simp only [Bool.or_eq_true] at h1
      rcases h1 with q | q
      · have := Nat.le_of_ble_eq_true q; omega
      · have := Nat.eq_of_beq_eq_true q; omega
  | [], _ :: _, h, _ => h.elim
  | _ :: _, [], h, _ => h.elim
theorem gKs_take {w : an_W} {Lc : List pm_V} {A : pm_A} : ∀ (n : Nat) {K : List an_E} {Kc : List pm_V}, gKs w Lc A K Kc → gKs w Lc A (K.take n) (Kc.take n) ∧ gKs w Lc A (K.drop n) (Kc.drop n)
  | 0, _, _, h => ⟨trivial, h⟩
  | _ + 1, [], [], _ => ⟨trivial, trivial⟩
  | n + 1, _ :: _, _ :: _, h => ⟨⟨h.1, (gKs_take n h.2).1⟩, (gKs_take n h.2).2⟩
  | _ + 1, [], _ :: _, h => h.elim
  | _ + 1, _ :: _, [], h => h.elim
theorem gKs_len {w : an_W} {Lc : List pm_V} {A : pm_A} : ∀ {K : List an_E} {Kc : List pm_V}, gKs w Lc A K Kc → K.length = Kc.length
  | [], [], _ => rfl
  | _ :: _, _ :: _, h => congrArg (· + 1) (gKs_len h.2)
  | [], _ :: _, h => h.elim
  | _ :: _, [], h => h.elim
theorem gKs_app {w : an_W} {Lc : List pm_V} {A : pm_A} : ∀ {a b : List an_E} {c d : List pm_V}, gKs w Lc A a c → gKs w Lc A b d → gKs w Lc A (a ++ b) (c ++ d)
  | [], _, [], _, _, h => h
  | _ :: _, _, _ :: _, _, h, g => ⟨h.1, gKs_app h.2 g⟩
  | [], _, _ :: _, _, h, _ => h.elim
  | _ :: _, _, [], _, h, _ => h.elim
theorem gKs_rev {w : an_W} {Lc : List pm_V} {A : pm_A} : ∀ {a : List an_E} {b : List pm_V}, gKs w Lc A a b → gKs w Lc A a.reverse b.reverse
  | [], [], _ => trivial
  | v :: vs, x :: xs, h => by
    rw [List.reverse_cons, List.reverse_cons]
    exact gKs_app (gKs_rev h.2) ⟨h.1, trivial⟩
  | [], _ :: _, h => h.elim
  | _ :: _, [], h => h.elim
theorem an_les_ok {w : an_W} {Lc : List pm_V} {A : pm_A} : ∀ {K : List an_E} {vs : List an_V} {Kc : List pm_V}, an_les K vs = true → gKs w Lc A K Kc → gA w vs Kc
  | [], [], [], _, _ => trivial
  | e :: es, v :: vs, x :: xs, h, g => by
    simp only [an_les, Bool.and_eq_true] at h
    exact ⟨gv_le h.1 g.1.1, an_les_ok h.2 g.2⟩
  | [], [], _ :: _, _, g => g.elim
  | _ :: _, _ :: _, [], _, g => g.elim
  | [], _ :: _, _, h, _ => by cases h
  | _ :: _, [], _, h, _ => by cases h
theorem an_sub_ok {a b : List Nat} (h : an_sub a b = true) : ∀ x ∈ a, x ∈ b := by
  intro x hx
  exact List.contains_iff_mem.mp (List.all_eq_true.mp h x hx)
theorem an_sh_at {w : an_W} {r : Int} {k : an_K} (h : w.1[w.2 r]? = some k) : an_sh w r = (k.1, k.2.1, k.2.2.1) := by
  unfold an_sh; rw [h]
theorem gO_mc {w : an_W} {r : Int} {fc : Nat} (h : gO w r fc) : mcode w r ((fc % 100 : Nat) : Int) = fc := by
  unfold mcode
  rw [h.2.1]
  simp only
  rw [h.2.2]
  omega
theorem gFr_A {w : an_W} {ms : List Nat} {A A' : pm_A} (h : gFr w ms A A') : ∀ r fc, gO w r fc → ¬ fc ∈ ms → A' r ((fc % 100 : Nat) : Int) = A r ((fc % 100 : Nat) : Int) :=
  fun r fc ho hm => h r _ ho.1 (by omega) (by rw [gO_mc ho]; exact hm)
theorem gFr_tr {w : an_W} {m1 m2 : List Nat} {A B C : pm_A} (h : gFr w m2 A B) (g : gFr w m1 B C) (hs : ∀ x ∈ m1, x ∈ m2) : gFr w m2 A C :=
  fun r j hr hj hm => by rw [g r j hr hj (fun q => hm (hs _ q))]; exact h r j hr hj hm
/-- contracts that hold -/
def gCt (w : an_W) (PT : pm_T) (mid : Nat) (q : an_Q) : Prop := Ct PT (an_sh w) mid (fun a A => gA w q.1 a ∧ gH w A) (fun _ A r => gR w q.2.1 r.1 ∧ gH w r.2 ∧ gFr w q.2.2 A r.2)
