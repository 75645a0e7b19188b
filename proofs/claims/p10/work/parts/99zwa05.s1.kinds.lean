/-! WHAT A METHOD WRITES, by kinds of cells alone: if it comes back, then no more than these were written. 0: anything; 1: no long; 2: a long; k + 3: a cell of kind k. An answer: 0 none, c + 1 such a one as c. -/
abbrev ks_Q : Type := List Nat × Nat × List Nat
abbrev ks_S : Type := List Nat × List Nat
def kv (w : an_W) (a : Nat) (v : pm_V) : Prop := match a with
  | 0 => True
  | 1 => ¬ v.1 = 1
  | 2 => v.1 = 1
  | k + 3 => v.1 = 2 ∧ 0 ≤ v.2 ∧ w.2 v.2 = k
def kvl (w : an_W) : List Nat → List pm_V → Prop
  | [], [] => True
  | a :: as, v :: vs => kv w a v ∧ kvl w as vs
  | _, _ => False
def kvo (w : an_W) (a : Nat) (v : Option pm_V) : Prop := match a, v with
  | 0, none => True
  | k + 1, some v => kv w k v
  | _, _ => False
def ks_d (l : List an_V) (b : Nat) : Nat := match l[b]? with
  | some a => cond (Nat.beq a.1 2 && decide (a.2.2 = 0)) (a.2.1.toNat + 3) 0
  | none => 0
def ks_f (w : an_W) (k b : Nat) : Nat := match w.1[k]? with
  | some kk => ks_d kk.2.2.2 b
  | none => 0
def gK (w : an_W) (A : pm_A) : Prop := ∀ (r : Int) (k : an_K), 0 ≤ r → w.1[w.2 r]? = some k → (k.1 = 0 → ∀ j : Nat, kv w (ks_d k.2.2.2 j) (2, A r j)) ∧ (k.1 = 1 → ∀ j : Int, 0 ≤ j → j < k.2.2.1 → kv w (ks_d k.2.2.2 0) (2, A r j))
theorem gK_of {w : an_W} {A : pm_A} (h : gH w A) : gK w A := by
  have key : ∀ (l : List an_V) (b : Nat) (t : Nat) (x : Int), (∀ a, l[b]? = some a → gv w a (t, x)) → kv w (ks_d l b) (2, x) := fun l b t x hg => by
    unfold ks_d
    cases hb : l[b]? with
    | none => trivial
    | some a =>
      simp only
      cases hc : (Nat.beq a.1 2 && decide (a.2.2 = 0)) with
      | false => trivial
      | true =>
        rw [Bool.and_eq_true, decide_eq_true_eq] at hc
        have g := (gv2 hc.1).mp (hg a hb)
        refine ⟨rfl, ?_⟩
        rcases g.2 with ⟨q1, q2⟩ | ⟨q1, _⟩
        · exact ⟨q1, by simp only at q2 ⊢; omega⟩
        · omega
  intro r k r0 hk
  obtain ⟨h1, h2⟩ := h r k r0 hk
  exact ⟨fun h0 j => key _ _ _ _ (fun a ha => h1 h0 j a ha), fun h0 j j0 j1 => key _ _ _ _ (fun a ha => h2 h0 a ha j j0 j1)⟩
def ks_l1 (a b : Nat) : Bool := Nat.beq b 0 || (Nat.beq a b || (Nat.beq b 1 && Nat.ble 3 a))
def kcode (w : an_W) (r j : Int) : Nat := match (an_sh w r).1 with
  | 0 => 100 * w.2 r + j.toNat
  | _ => 10000 + w.2 r
def gFk (w : an_W) (ms : List Nat) (A0 A : pm_A) : Prop := ∀ r j : Int, 0 ≤ r → 0 ≤ j → ¬ kcode w r j ∈ ms → A r j = A0 r j
def ks_le : List Nat → List Nat → Bool
  | [], [] => true
  | a :: as, b :: bs => ks_l1 a b && ks_le as bs
  | _, _ => false
theorem kv_le {w : an_W} {a b : Nat} {v : pm_V} (h : ks_l1 a b = true) (hv : kv w a v) : kv w b v := by
  unfold ks_l1 at h
  rw [Bool.or_eq_true, Bool.or_eq_true, Bool.and_eq_true] at h
  rcases h with h | h | ⟨h1, h2⟩
  · rw [Nat.eq_of_beq_eq_true h]; trivial
  · rw [← Nat.eq_of_beq_eq_true h]; exact hv
  · rw [Nat.eq_of_beq_eq_true h1]
    have h2 := Nat.le_of_ble_eq_true h2
    match a, h2, hv with
    | k + 3, _, hv => show ¬ v.1 = 1; rw [hv.1]; decide
theorem kvl_le {w : an_W} : ∀ {a b : List Nat} {v : List pm_V}, ks_le a b = true → kvl w a v → kvl w b v
  | [], [], [], _, _ => trivial
  | [], [], _ :: _, _, h => h.elim
  | [], _ :: _, _, h, _ => by cases h
  | _ :: _, [], _, h, _ => by cases h
  | _ :: _, _ :: _, [], _, h => h.elim
  | a :: as, b :: bs, v :: vs, h, hv => by
    simp only [ks_le, Bool.and_eq_true] at h
    exact ⟨kv_le h.1 hv.1, kvl_le h.2 hv.2⟩
theorem kvl_at {w : an_W} : ∀ {L : List Nat} {Lc : List pm_V}, kvl w L Lc → ∀ {i : Nat} {v : pm_V}, Lc[i]? = some v → ∃ a, L[i]? = some a ∧ kv w a v
  | [], [], _, i, v, h => by simp at h
  | a :: as, x :: xs, h, 0, v, hv => by cases hv; exact ⟨a, rfl, h.1⟩
  | a :: as, x :: xs, h, i + 1, v, hv => kvl_at h.2 (i := i) hv
  | [], _ :: _, h, _, _, _ => h.elim
  | _ :: _, [], h, _, _, _ => h.elim
theorem kvl_set {w : an_W} : ∀ {L : List Nat} {Lc : List pm_V}, kvl w L Lc → ∀ (i : Nat) {a : Nat} {v : pm_V}, kv w a v → kvl w (L.set i a) (Lc.set i v)
  | [], [], _, _, _, _, _ => trivial
  | a :: as, x :: xs, h, 0, b, v, hv => ⟨hv, h.2⟩
  | a :: as, x :: xs, h, i + 1, b, v, hv => ⟨h.1, kvl_set h.2 i hv⟩
  | [], _ :: _, h, _, _, _, _ => h.elim
  | _ :: _, [], h, _, _, _, _ => h.elim
def ks_kill (L : List Nat) : Nat → List Nat
  | 0 => L
  | j + 1 => match L[j]? with
    | some 2 => L.set j 0
    | _ => L
theorem kvl_set0 {w : an_W} {L : List Nat} {Lc : List pm_V} (h : kvl w L Lc) {j : Nat} (ha : L[j]? = some 0) (v : pm_V) : kvl w L (Lc.set j v) := by
  have hs : L.set j 0 = L := by
    apply List.ext_getElem?
    intro i
    rw [List.getElem?_set]
    split
    · next e2 =>
      subst e2
      rw [if_pos (List.getElem?_eq_some_iff.mp ha).1, ha]
    · rfl
  have := kvl_set h j (a := 0) (v := v) trivial
  rwa [hs] at this
theorem kvl_kill {w : an_W} {L : List Nat} {Lc : List pm_V} (h : kvl w L Lc) (i : Nat) : kvl w (ks_kill L i) (pm_kill Lc i) := by
  unfold pm_kill ks_kill
  cases i with
  | zero => exact h
  | succ j =>
    simp only
    split
    · next hL =>
      split
      · exact kvl_set h j (a := 0) (v := (9, 0)) trivial
      · next hno =>
        cases hx : Lc[j]? with
        | none =>
          rw [← List.set_eq_of_length_le (l := Lc) (i := j) (a := ((9, 0) : pm_V)) (List.getElem?_eq_none_iff.mp hx)]
          exact kvl_set h j (a := 0) (v := (9, 0)) trivial
        | some v =>
          obtain ⟨a, ha, hv⟩ := kvl_at h hx
          rw [hL] at ha
          cases ha
          obtain ⟨t, y⟩ := v
          have ht : t = 1 := hv
          subst ht
          exact absurd hx (hno y)
    · next hno =>
      split
      · next y hx =>
        obtain ⟨a, ha, hv⟩ := kvl_at h hx
        match a, hv, ha with
        | 0, _, ha => exact kvl_set0 h ha _
        | 1, hv, _ => exact absurd rfl hv
        | 2, _, ha => exact (hno ha).elim
        | k + 3, hv, _ => exact absurd (show (1 : Nat) = 2 from hv.1) (by decide)
      · exact h
theorem kvl_take {w : an_W} : ∀ (n : Nat) {K : List Nat} {Kc : List pm_V}, kvl w K Kc → kvl w (K.take n) (Kc.take n) ∧ kvl w (K.drop n) (Kc.drop n)
  | 0, K, Kc, h => ⟨by simp only [List.take_zero]; trivial, by simp only [List.drop_zero]; exact h⟩
  | n + 1, [], [], _ => ⟨trivial, trivial⟩
  | n + 1, a :: as, v :: vs, h => by
    obtain ⟨h1, h2⟩ := kvl_take n h.2
    exact ⟨⟨h.1, h1⟩, h2⟩
  | n + 1, [], _ :: _, h => h.elim
  | n + 1, _ :: _, [], h => h.elim
theorem kvl_app {w : an_W} : ∀ {a b : List Nat} {x y : List pm_V}, kvl w a x → kvl w b y → kvl w (a ++ b) (x ++ y)
  | [], _, [], _, _, h => h
  | _ :: _, _, _ :: _, _, h1, h2 => ⟨h1.1, kvl_app h1.2 h2⟩
  | [], _, _ :: _, _, h, _ => h.elim
  | _ :: _, _, [], _, h, _ => h.elim
theorem kvl_rev {w : an_W} : ∀ {a : List Nat} {x : List pm_V}, kvl w a x → kvl w a.reverse x.reverse
  | [], [], _ => trivial
  | a :: as, x :: xs, h => by
    rw [List.reverse_cons, List.reverse_cons]
    exact kvl_app (kvl_rev h.2) ⟨h.1, trivial⟩
  | [], _ :: _, h => h.elim
  | _ :: _, [], h => h.elim
theorem kvl_rep {w : an_W} : ∀ n : Nat, kvl w (List.replicate n 1) (List.replicate n (9, 0))
  | 0 => trivial
  | n + 1 => ⟨by show ¬ (9 : Nat) = 1; decide, kvl_rep n⟩
/-- locals at the beginning: longs take two -/
def ks_lay : List Nat → List Nat
  | [] => []
  | a :: as => cond (Nat.beq a 2) (2 :: 1 :: ks_lay as) (a :: ks_lay as)
def ks_ret (r : Nat) : List Nat := match r with
  | 0 => []
  | k + 1 => [k]
theorem kvo_l {w : an_W} {a : Nat} {v : Option pm_V} (h : kvo w a v) : kvl w (ks_ret a) v.toList := by
  match a, v, h with
  | 0, none, _ => trivial
  | k + 1, some v, h => exact ⟨h, trivial⟩
  | 0, some _, h => exact h.elim
  | k + 1, none, h => exact h.elim
def ks_sub (a b : List Nat) : Bool := a.all (fun x => b.contains x)
def ks_pick (args ms : List Nat) : List ks_Q → Option Nat
  | [] => none
  | c :: t => cond (ks_le args c.1 && ks_sub c.2.2 ms) (some c.2.1) (ks_pick args ms t)
def ks_p1 (K : List Nat) (f : List Nat → Option (List (Nat × ks_S))) : Option (List (Nat × ks_S)) := match K with
  | _ :: K => f K
  | [] => none
/-- the one kind of a class -/
def ks_ix (w : an_W) (a : Nat) : List Nat := (List.range w.1.length).filter (fun i => match w.1[i]? with
  | some kk => Nat.beq kk.1 0 && Nat.beq kk.2.1 a
  | none => false)
def ks_cl (w : an_W) (a : Nat) : Option Nat := match ks_ix w a with
  | [k] => some k
  | _ => none
theorem ks_cl_ok {w : an_W} {a k : Nat} (h : ks_cl w a = some k) {i : Nat} {kk : an_K} (hi : w.1[i]? = some kk) (h0 : kk.1 = 0) (h1 : kk.2.1 = a) : i = k := by
  unfold ks_cl at h
  split at h
  · next k' hk =>
    cases h
    have : i ∈ ks_ix w a := by
      unfold ks_ix
      refine List.mem_filter.mpr ⟨List.mem_range.mpr (List.getElem?_eq_some_iff.mp hi).1, ?_⟩
      rw [hi]
      simp only
      rw [h0, h1, Bool.and_eq_true]
      exact ⟨rfl, Nat.beq_refl a⟩
    rw [hk] at this
    exact List.mem_singleton.mp this
  · cases h
def ks_rk (w : an_W) (a c : Nat) : Option Nat := match c with
  | k + 3 => some k
  | _ => ks_cl w a
theorem ks_rk_ok {w : an_W} {a c k : Nat} (h : ks_rk w a c = some k) {r : Int} (hv : kv w c (2, r)) {kk : an_K} (hi : w.1[w.2 r]? = some kk) (h0 : kk.1 = 0) (h1 : kk.2.1 = a) : w.2 r = k := by
  unfold ks_rk at h
  split at h
  · cases h; exact hv.2.2
  · exact ks_cl_ok h hi h0 h1
/-- what a load of this tag brings -/
def ks_tg (t f : Nat) : Nat := match t with
  | 1 => 2
  | 2 => cond (Nat.beq f 0) 1 f
  | _ => 1
theorem ks_tg_ok {w : an_W} {t f : Nat} {x : Int} (h : kv w f (2, x)) (ht : t < 3) : kv w (ks_tg t f) (t, x) := by
  match t, ht with
  | 0, _ => show ¬ (0 : Nat) = 1; decide
  | 1, _ => rfl
  | 2, _ =>
    show kv w (cond (Nat.beq f 0) 1 f) (2, x)
    cases Nat.beq f 0 with
    | true => show ¬ (2 : Nat) = 1; decide
    | false => exact h
def ks_op (w : an_W) (CT : Nat → List ks_Q) (Q : ks_Q) (o : pm_Op) (s : ks_S) : Option (List (Nat × ks_S)) := match o.2.1 with
  | 0 => some [(o.1, (s.1, 1 :: s.2))]
  | 1 => some [(o.1, (s.1, 2 :: s.2))]
  | 2 => some [(o.1, (s.1, 1 :: s.2))]
  | 3 => match s.1[o.2.2.2.1]? with
    | some a => some [(o.1, (s.1, a :: s.2))]
    | none => none
  | 4 => match s.2 with
    | a :: K => some [(o.1, (cond (Nat.beq o.2.2.1 1) (((ks_kill s.1 o.2.2.2.1).set o.2.2.2.1 a).set (o.2.2.2.1 + 1) 1) ((ks_kill s.1 o.2.2.2.1).set o.2.2.2.1 a), K))]
    | [] => none
  | 5 => some [(o.1, ((ks_kill s.1 o.2.2.1).set o.2.2.1 1, s.2))]
  | 6 => ks_p1 s.2 (fun K => ks_p1 K (fun K => some [(o.1, (s.1, 1 :: K))]))
  | 7 => ks_p1 s.2 (fun K => ks_p1 K (fun K => some [(o.1, (s.1, 1 :: K))]))
  | 8 => ks_p1 s.2 (fun K => ks_p1 K (fun K => some [(o.1, (s.1, 2 :: K))]))
  | 9 => ks_p1 s.2 (fun K => ks_p1 K (fun K => some [(o.1, (s.1, 2 :: K))]))
  | 10 => ks_p1 s.2 (fun K => ks_p1 K (fun K => some [(o.1, (s.1, 2 :: K))]))
  | 11 => match o.2.2.1 with
    | 0 => ks_p1 s.2 (fun K => some [(o.1, (s.1, 1 :: K))])
    | 1 => ks_p1 s.2 (fun K => some [(o.1, (s.1, 2 :: K))])
    | 2 => ks_p1 s.2 (fun K => some [(o.1, (s.1, 2 :: K))])
    | 3 => ks_p1 s.2 (fun K => some [(o.1, (s.1, 1 :: K))])
    | 4 => ks_p1 s.2 (fun K => ks_p1 K (fun K => some [(o.1, (s.1, 1 :: K))]))
    | 5 => match s.2 with
      | a :: K => some [(o.1, (s.1, a :: a :: K))]
      | [] => none
    | 6 => match s.2 with
      | a :: b :: K => some [(o.1, (s.1, a :: b :: a :: b :: K))]
      | _ => none
    | _ => ks_p1 s.2 (fun K => some [(o.1, (s.1, K))])
  | 12 => some [(o.2.2.2.1, s)]
  | 13 => ks_p1 s.2 (fun K => some [(o.2.2.2.1, (s.1, K)), (o.1, (s.1, K))])
  | 14 => ks_p1 s.2 (fun K => ks_p1 K (fun K => some [(o.2.2.2.1, (s.1, K)), (o.1, (s.1, K))]))
  | 15 => ks_p1 s.2 (fun K => some [(o.2.2.2.1, (s.1, K)), (o.1, (s.1, K))])
  | 16 => ks_p1 s.2 (fun K => some ((o.2.2.2.1, (s.1, K)) :: o.2.2.2.2.2.2.map (fun t => (t, (s.1, K)))))
  | 17 => match s.2 with
    | c :: K => match ks_rk w o.2.2.1 c with
      | some k => some [(o.1, (s.1, ks_tg (pm_ftk o.2.2.1 o.2.2.2.1) (ks_f w k o.2.2.2.1) :: K))]
      | none => none
    | [] => none
  | 18 => match s.2 with
    | v :: c :: K => match ks_rk w o.2.2.1 c with
      | some k => cond (Q.2.2.contains (100 * k + o.2.2.2.1) && (Nat.beq (ks_f w k o.2.2.2.1) 0 || Nat.beq v (ks_f w k o.2.2.2.1))) (some [(o.1, (s.1, K))]) none
      | none => none
    | _ => none
  | 19 => match s.2 with
    | _ :: (k + 3) :: K => some [(o.1, (s.1, ks_tg (pm_kd o.2.2.1) (ks_f w k 0) :: K))]
    | _ :: _ :: K => some [(o.1, (s.1, ks_tg (pm_kd o.2.2.1) 0 :: K))]
    | _ => none
  | 20 => match s.2 with
    | _ :: _ :: (k + 3) :: K => cond (Q.2.2.contains (10000 + k) && Nat.beq (ks_f w k 0) 0) (some [(o.1, (s.1, K))]) none
    | _ => none
  | 21 => match s.2 with
    | v :: _ :: (k + 3) :: K => cond (Q.2.2.contains (10000 + k) && (Nat.beq (ks_f w k 0) 0 || Nat.beq v (ks_f w k 0))) (some [(o.1, (s.1, K))]) none
    | _ => none
  | 22 => ks_p1 s.2 (fun K => some [(o.1, (s.1, 1 :: K))])
  | 23 => match ks_pick (s.2.take o.2.2.2.1).reverse Q.2.2 (CT o.2.2.1) with
    | some r => some [(o.1, (s.1, ks_ret r ++ s.2.drop o.2.2.2.1))]
    | none => none
  | 24 => cond (Nat.beq Q.2.1 0) (some []) none
  | 25 => match s.2 with
    | [a] => cond (Nat.ble 1 Q.2.1 && ks_l1 a (Q.2.1 - 1)) (some []) none
    | _ => none
  | 26 => some [(o.1, (s.1, 1 :: s.2))]
  | 27 => some [(o.1, (s.1, 2 :: s.2))]
  | 28 => match s.2 with
    | _ :: _ :: (k + 3) :: _ :: _ :: K => cond (Q.2.2.contains (10000 + k) && Nat.beq (ks_f w k 0) 0) (some [(o.1, (s.1, K))]) none
    | _ => none
  | 29 => ks_p1 s.2 (fun K => ks_p1 K (fun K => some [(o.1, (s.1, 1 :: K))]))
  | 30 => ks_p1 s.2 (fun K => some [(o.1, (s.1, 1 :: K))])
  | _ => none
/-- a state is as told -/
def ksG (w : an_W) (ms : List Nat) (A0 : pm_A) (s : ks_S) (c : pm_S) : Prop := kvl w s.1 c.1 ∧ kvl w s.2 c.2.1 ∧ gK w c.2.2 ∧ gFk w ms A0 c.2.2
def ksPost (w : an_W) (Q : ks_Q) (A0 : pm_A) (r : pm_R) : Prop := kvo w Q.2.1 r.1 ∧ gK w r.2 ∧ gFk w Q.2.2 A0 r.2
def ksRec (w : an_W) (CT : Nat → List ks_Q) (rec : pm_C) : Prop := ∀ mid Q, Q ∈ CT mid → ∀ a A r, kvl w Q.1 a → gK w A → rec mid a A = some r → ksPost w Q A r
def ksOut (w : an_W) (Q : ks_Q) (A0 : pm_A) (succ : List (Nat × ks_S)) (o : pm_O) : Prop := match o with
  | .inl (pc, c) => ∃ s, (pc, s) ∈ succ ∧ ksG w Q.2.2 A0 s c
  | .inr r => ksPost w Q A0 r
theorem ks_p1_s {K : List Nat} {f : List Nat → Option (List (Nat × ks_S))} {x : List (Nat × ks_S)} (h : ks_p1 K f = some x) : ∃ a K', K = a :: K' ∧ f K' = some x := by
  unfold ks_p1 at h
  split at h
  · exact ⟨_, _, rfl, h⟩
  · cases h
theorem kvl_c1 {w : an_W} {a : Nat} {K : List Nat} {Kc : List pm_V} (h : kvl w (a :: K) Kc) : ∃ v Kc', Kc = v :: Kc' ∧ kv w a v ∧ kvl w K Kc' := by
  cases Kc with
  | nil => exact h.elim
  | cons v t => exact ⟨v, t, rfl, h.1, h.2⟩
theorem gFk_put {w : an_W} {ms : List Nat} {A0 A : pm_A} (h : gFk w ms A0 A) {r i x : Int} (hm : 0 ≤ r → 0 ≤ i → kcode w r i ∈ ms) : gFk w ms A0 (pm_upd A r i x) := fun r' j r0 j0 hn => by
  unfold pm_upd
  split
  · next e => rw [e.1, e.2] at hn; rw [e.1] at r0; rw [e.2] at j0; exact absurd (hm r0 j0) hn
  · exact h r' j r0 j0 hn
theorem gK_put {w : an_W} {A : pm_A} (h : gK w A) {r i x : Int} {k : an_K} (hk : w.1[w.2 r]? = some k) (h0 : k.1 = 0 → ∀ j : Nat, (j : Int) = i → kv w (ks_d k.2.2.2 j) (2, x)) (h1 : k.1 = 1 → kv w (ks_d k.2.2.2 0) (2, x)) : gK w (pm_upd A r i x) := by
  intro r' k' r0 hk'
  obtain ⟨g1, g2⟩ := h r' k' r0 hk'
  unfold pm_upd
  refine ⟨fun e j => ?_, fun e j j0 j1 => ?_⟩
  · split
    · next q =>
      rw [q.1, hk] at hk'
      cases hk'
      exact h0 e j q.2
    · exact g1 e j
  · split
    · next q =>
      rw [q.1, hk] at hk'
      cases hk'
      exact h1 e
    · exact g2 e j j0 j1
theorem kd_at {w : an_W} {r : Int} (h : (an_sh w r).1 = 0 ∨ (an_sh w r).1 = 1) : ∃ k, w.1[w.2 r]? = some k ∧ an_sh w r = (k.1, k.2.1, k.2.2.1) := by
  cases hk : w.1[w.2 r]? with
  | some k => exact ⟨k, rfl, by unfold an_sh; rw [hk]⟩
  | none => unfold an_sh at h; rw [hk] at h; rcases h with q | q <;> cases q
theorem kc_0 {w : an_W} {r j : Int} (h : (an_sh w r).1 = 0) : kcode w r j = 100 * w.2 r + j.toNat := by unfold kcode; rw [h]; rfl
theorem kc_1 {w : an_W} {r j : Int} (h : (an_sh w r).1 = 1) : kcode w r j = 10000 + w.2 r := by unfold kcode; rw [h]; rfl
theorem kv_none {w : an_W} {a : Nat} {v : pm_V} (h : Nat.beq a 0 = true) : kv w a v := by rw [Nat.eq_of_beq_eq_true h]; trivial
