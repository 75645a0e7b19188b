theorem cr_wd_comm {n : Nat} (w a : cr_Xp n) : cr_wd w a = cr_wd a w := by
  unfold cr_wd
  generalize List.finRange n = l
  induction l with
  | nil => rfl
  | cons i l ih => rw [List.foldr_cons, List.foldr_cons, ih, Int.mul_comm]
theorem cr_wd_smul {n : Nat} (w a : cr_Xp n) (c : Int) : cr_wd w (fun i => c * a i) = c * cr_wd w a := by
  unfold cr_wd
  generalize List.finRange n = l
  induction l with
  | nil => rw [List.foldr_nil, List.foldr_nil, Int.mul_zero]
  | cons i l ih => rw [List.foldr_cons, List.foldr_cons, ih, Int.mul_add]; congr 1; grind
theorem cr_wd_e {n : Nat} (w : cr_Xp n) (k : Fin n) (c : Int) : cr_wd w (cr_up (fun _ => 0) k c) = w k * c := by
  unfold cr_wd
  have main : ∀ l : List (Fin n), l.Nodup → l.foldr (fun i s => w i * cr_up (fun _ => 0) k c i + s) 0 = if k ∈ l then w k * c else 0 := by
    intro l
    induction l with
    | nil => intro _; rw [if_neg (by simp)]; rfl
    | cons x l ih =>
      intro hn
      rw [List.nodup_cons] at hn
      rw [List.foldr_cons, ih hn.2]
      by_cases hx : x = k
      · subst hx; rw [cr_up_k, if_neg hn.1, if_pos (by simp)]; omega
      · rw [cr_up_ne _ _ hx, Int.mul_zero]
        by_cases hk : k ∈ l
        · rw [if_pos hk, if_pos (by simp [hk])]; omega
        · rw [if_neg hk, if_neg (by simp [hk]; exact fun e => hx e.symm)]; rfl
  rw [main _ (List.nodup_finRange n), if_pos (List.mem_finRange k)]
def cr_Ind {n : Nat} (b : Fin n → Fin n → Int) (Q : Fin n → Prop) : Prop := ∀ z : cr_Xp n, (∀ j, ¬ Q j → z j = 0) → (∀ i, cr_wd (b i) z = 0) → ∀ j, z j = 0
theorem cr_Ind.turn {n : Nat} {b : Fin n → Fin n → Int} {Q : Fin n → Prop} (h : cr_Ind b Q) {k : Fin n} (hk : Q k) (hb : b k k = 0) : cr_Ind (cr_turnB b k) Q := by
  intro z hz he
  let S := cr_wd (fun j => (cx_pos (- b k j) : Int)) z
  let c := -2 * z k + S
  let u : cr_Xp n := fun j => z j + cr_up (fun _ => 0) k c j
  have hR : cr_wd (b k) z = 0 := by
    have h1 := he k
    have e : cr_turnB b k k = fun j => (-1) * b k j := funext fun j => by
      unfold cr_turnB; rw [if_pos (.inl rfl)]; omega
    rw [e, cr_wd_comm, cr_wd_smul, cr_wd_comm] at h1
    omega
  have hu : ∀ i, cr_wd (b i) u = 0 := fun i => by
    have e0 : cr_wd (b i) u = cr_wd (b i) z + b i k * c := by
      show cr_wd (b i) (fun j => z j + cr_up (fun _ => 0) k c j) = _
      rw [cr_wd_add, cr_wd_e]
    rw [e0]
    by_cases hi : i = k
    · rw [hi, hR, hb]; omega
    · have h1 := he i
      have e : cr_turnB b k i = fun j => (b i j + (b i k * (cx_pos (- b k j) : Int) + (cx_pos (b i k) : Int) * b k j)) + cr_up (fun _ => 0) k (-2 * b i k) j := funext fun j => by
        unfold cr_turnB
        by_cases hj : j = k
        · rw [if_pos (.inr hj), hj, cr_up_k, hb, show (cx_pos (-0) : Int) = 0 from rfl]; omega
        · rw [if_neg (fun e => e.elim hi hj), cr_up_ne _ _ hj]; omega
      rw [e, cr_wd_comm, cr_wd_add, cr_wd_add, cr_wd_add, cr_wd_smul, cr_wd_smul, cr_wd_e, cr_wd_comm z (b i), cr_wd_comm z, cr_wd_comm z (b k), hR] at h1
      have h2 : cr_wd (b i) z + (b i k * S + (cx_pos (b i k) : Int) * 0) + z k * (-2 * b i k) = 0 := h1
      show cr_wd (b i) z + b i k * (-2 * z k + S) = 0
      grind
  have h0 := h u (fun j hj => by
    show z j + cr_up (fun _ => 0) k c j = 0
    rw [hz j hj, cr_up_ne _ _ (fun e => hj (by rw [e]; exact hk))]; rfl) hu
  have hne : ∀ j, j ≠ k → z j = 0 := fun j hj => by
    have : z j + cr_up (fun _ => 0) k c j = 0 := h0 j
    rw [cr_up_ne _ _ hj] at this; omega
  have hzk : z = cr_up (fun _ => 0) k (z k) := funext fun j => by
    by_cases hj : j = k
    · rw [hj, cr_up_k]
    · rw [cr_up_ne _ _ hj, hne j hj]
  have hS : S = 0 := by
    show cr_wd (fun j => (cx_pos (- b k j) : Int)) z = 0
    rw [hzk, cr_wd_e, hb]
    show ((0 : Nat) : Int) * z k = 0
    omega
  have hk0 : z k + c = 0 := by
    have : z k + cr_up (fun _ => 0) k c k = 0 := h0 k
    rw [cr_up_k] at this; exact this
  intro j
  by_cases hj : j = k
  · subst hj
    have : z j + (-2 * z j + S) = 0 := hk0
    omega
  · exact hne j hj
theorem cr_Ind.two {n : Nat} {b : Fin n → Fin n → Int} {Q : Fin n → Prop} (h : cr_Ind b Q) {k j : Fin n} (hk : Q k) (hj : Q j) (hjk : j ≠ k) : ∃ lam : cr_Xp n, cr_wd lam (fun i => b i k) = 0 ∧ 0 < cr_wd lam (fun i => b i j) := by
  have h1 : ∃ i1, b i1 k ≠ 0 := by
    refine Classical.byContradiction (fun hno => ?_)
    have := h (cr_up (fun _ => 0) k 1) (fun i hi => by rw [cr_up_ne _ _ (fun e => hi (by rw [e]; exact hk))]) (fun i => by
      rw [cr_wd_e]
      have : b i k = 0 := Classical.byContradiction (fun h => hno ⟨i, h⟩)
      rw [this]; rfl) k
    rw [cr_up_k] at this
    omega
  obtain ⟨i1, hi1⟩ := h1
  have h2 : ∃ i2, b i1 k * b i2 j - b i1 j * b i2 k ≠ 0 := by
    refine Classical.byContradiction (fun hno => ?_)
    have := h (fun i => cr_up (fun _ => 0) j (b i1 k) i + cr_up (fun _ => 0) k (- b i1 j) i) (fun i hi => by
      show cr_up (fun _ => 0) j (b i1 k) i + cr_up (fun _ => 0) k (- b i1 j) i = 0
      rw [cr_up_ne _ _ (fun e => hi (by rw [e]; exact hj)), cr_up_ne _ _ (fun e => hi (by rw [e]; exact hk))]; rfl) (fun i => by
      rw [cr_wd_add, cr_wd_e, cr_wd_e]
      have : b i1 k * b i j - b i1 j * b i k = 0 := Classical.byContradiction (fun h => hno ⟨i, h⟩)
      grind) j
    have e : cr_up (fun _ => 0) j (b i1 k) j + cr_up (fun _ => 0) k (- b i1 j) j = 0 := this
    rw [cr_up_k, cr_up_ne _ _ hjk] at e
    omega
  obtain ⟨i2, hi2⟩ := h2
  have key : ∀ c : Int, cr_wd (fun i => cr_up (fun _ => 0) i2 (c * b i1 k) i + cr_up (fun _ => 0) i1 (-(c * b i2 k)) i) (fun i => b i k) = 0 ∧ cr_wd (fun i => cr_up (fun _ => 0) i2 (c * b i1 k) i + cr_up (fun _ => 0) i1 (-(c * b i2 k)) i) (fun i => b i j) = c * (b i1 k * b i2 j - b i1 j * b i2 k) := fun c => by
    constructor
    · rw [cr_wd_comm, cr_wd_add, cr_wd_e, cr_wd_e]; grind
    · rw [cr_wd_comm, cr_wd_add, cr_wd_e, cr_wd_e]; grind
  by_cases hs : 0 < b i1 k * b i2 j - b i1 j * b i2 k
  · exact ⟨_, (key 1).1, by rw [(key 1).2]; omega⟩
  · exact ⟨_, (key (-1)).1, by rw [(key (-1)).2]; omega⟩
theorem cr_rank2 {n : Nat} (s : cx_Sd n) {Q : Fin n → Prop} (hI : cr_Ind s.b Q) {k j : Fin n} (hk : Q k) (hj : Q j) (hjk : j ≠ k) {f : cr_Pv n → Rat} (h0 : cr_Lau (fun x => x) f) (h1 : cr_Lau (cr_sp s.b k) f) (h2 : cr_Lau (cr_sp s.b j) f) : cr_Lau (cr_gp s.b [k, j]) f := by
  obtain ⟨l0, h0⟩ := h0
  by_cases hb : s.b j k = 0
  · have hkj : s.b k j = 0 := by
      have := s.sk k j
      rw [hb, Int.mul_zero] at this
      have hd := s.dpos k
      rcases Int.mul_eq_zero.1 (by omega : (s.d k : Int) * s.b k j = 0) with h | h
      · omega
      · exact h
    obtain ⟨lam, hl1, hl2⟩ := hI.two hk hj hjk
    obtain ⟨l1, h1⟩ := h1
    obtain ⟨l2, h2⟩ := h2
    obtain ⟨l, hl⟩ := cr_caseB s.b hjk (s.self k) (s.self j) hkj hb lam hl1 hl2 h0 h1 h2
    exact ⟨l, fun x => by rw [hl x, cr_gp_kj s.b hjk hkj]⟩
  · obtain ⟨D, hD⟩ := cr_bound l0 j
    exact cr_caseA s hjk hb D f l0 (fun y hy => by have := hD y hy; omega) h0 h1 h2
theorem cr_upper {n : Nat} {Q : Fin n → Prop} (ks : List (Fin n)) : ∀ (s : cx_Sd n), cr_Ind s.b Q → (∀ k ∈ ks, Q k) → ∀ f : cr_Pv n → Rat, cr_Lau (fun x => x) f → (∀ k, Q k → cr_Lau (cr_sp s.b k) f) → cr_Lau (cr_gp s.b ks) f := by
  induction ks with
  | nil => exact fun s _ _ f h0 _ => h0
  | cons k ks ih =>
    intro s hI hks f h0 h
    have hk : Q k := hks k (by simp)
    have back : ∀ y : cr_Pv n, cr_sp s.b k (cr_sp (cr_turn s k).b k y) = y := fun y => by
      have := cr_sp_turn (cr_turn s k).b ((cr_turn s k).self k) y
      have e : cr_turnB (cr_turn s k).b k = s.b := cr_turnB_turnB s.b k
      rw [e] at this
      exact this
    have ih := ih (cr_turn s k) (hI.turn hk (s.self k)) (fun j hj => hks j (by simp [hj])) (fun y => f (cr_sp (cr_turn s k).b k y)) (by
      obtain ⟨l, hl⟩ := h k hk
      exact ⟨l, fun y => by show f (cr_sp (cr_turn s k).b k y) = cr_vl y.1 l; rw [hl, back]⟩) (fun j hj => by
      by_cases hjk : j = k
      · subst hjk
        obtain ⟨l, hl⟩ := h0
        exact ⟨l, fun y => hl _⟩
      · obtain ⟨l, hl⟩ := cr_rank2 s hI hk hj hjk h0 (h k hk) (h j hj)
        refine ⟨l, fun y => ?_⟩
        show f (cr_sp (cr_turn s k).b k y) = _
        rw [hl]
        show cr_vl (cr_sp (cr_turnB s.b k) j (cr_sp s.b k (cr_sp (cr_turn s k).b k y))).1 l = _
        rw [back]; rfl)
    obtain ⟨l, hl⟩ := ih
    refine ⟨l, fun x => ?_⟩
    have := hl (cr_sp s.b k x)
    have e : cr_sp (cr_turn s k).b k (cr_sp s.b k x) = x := cr_sp_turn s.b (s.self k) x
    have h3 : f (cr_sp (cr_turn s k).b k (cr_sp s.b k x)) = cr_vl (cr_gp (cr_turn s k).b ks (cr_sp s.b k x)).1 l := this
    rw [e] at h3
    exact h3
theorem cr_surj {n : Nat} (ks : List (Fin n)) : ∀ (s : cx_Sd n) (y : cr_Pv n), ∃ x, cr_gp s.b ks x = y := by
  induction ks with
  | nil => exact fun s y => ⟨y, rfl⟩
  | cons k ks ih =>
    intro s y
    obtain ⟨y', h⟩ := ih (cr_turn s k) y
    refine ⟨cr_sp (cr_turn s k).b k y', ?_⟩
    have back : cr_sp s.b k (cr_sp (cr_turn s k).b k y') = y' := by
      have := cr_sp_turn (cr_turn s k).b ((cr_turn s k).self k) y'
      have e : cr_turnB (cr_turn s k).b k = s.b := cr_turnB_turnB s.b k
      rw [e] at this
      exact this
    show cr_gp (cr_turnB s.b k) ks (cr_sp s.b k (cr_sp (cr_turn s k).b k y')) = y
    rw [back]; exact h
