section
theorem cx_turn_share [Mul (cx_S Nat)] [One (cx_S Nat)] [Add (cx_S Nat)] [Zero (cx_S Nat)] [Inhabited (cx_Idx Nat)] [Inhabited (PLift cx_Natl)] {n : Nat} [Zero (cx_Ex n)] [Add (cx_Ex n)] [Mul (cx_S (cx_Ex n))] [One (cx_S (cx_Ex n))] [Add (cx_S (cx_Ex n))] [Zero (cx_S (cx_Ex n))] [Inhabited (cx_Idx (cx_Ex n))] [Inhabited (PLift (cx_Exl n))] [∀ s : cx_Sd n, Add (cx_MM s)] [∀ s : cx_Sd n, Inhabited (PLift (cx_MGl (cx_MM s)))] [∀ s : cx_Sd n, Inhabited (cx_Tord (cx_Ex n) (cx_MM s))] [Inhabited (PLift (cx_MMl n))] {s : cx_Sd n} {v : cx_Pv n → Fin n → Rat} (h : cx_Ok s v) {k : Fin n} {L N : cx_Pl_ n} (hL : ∀ x, v x k = cx_vl x.1 L)
    (hN : ∀ x : cx_Pv n, cx_vl x.1 N = cx_mo (v x) (fun i => (cx_pos (s.b i k) : Int)) + cx_mo (v x) (fun i => (cx_pos (- s.b i k) : Int))) :
    ∃ Q : cx_Pl_ n, (∀ y ∈ Q, 0 < y.1) ∧ (∀ a, cx_co (cx_pmz Q L) a = cx_co N a) ∧ ∀ x, cx_stepv s.b k (v x) k = cx_vl x.1 Q := by
  obtain ⟨Q, hQ, hv⟩ := cx_ok_laurent (cx_ok_turn h k) k
  let Q' : cx_Pl_ n := Q.map fun y => ((y.1 : Int), y.2)
  have hval : ∀ x : cx_Pv n, cx_stepv s.b k (v x) k = cx_vl x.1 Q' := fun x => by
    rw [hv x]
    unfold cx_vl
    show _ = cx_sm (Q.map fun y => ((y.1 : Int), y.2)) _
    rw [cx_sm_map]
    exact cx_sm_congr (fun y _ => by rw [cx_nat_int])
  refine ⟨Q', fun y hy => ?_, cx_vl_unique (fun x => ?_), hval⟩
  · obtain ⟨z, hz, rfl⟩ := List.mem_map.1 hy
    have := hQ z hz
    show (0 : Int) < (z.1 : Int)
    omega
  · rw [cx_vl_pmz x.2, ← hval x, ← hL x, hN x]
    unfold cx_stepv
    rw [if_pos rfl]
    have h0 := h.1 x k
    have : (v x k)⁻¹ * v x k = 1 := Rat.inv_mul_cancel _ (by grind)
    grind
def cx_Gt [Mul (cx_S Nat)] [One (cx_S Nat)] [Add (cx_S Nat)] [Zero (cx_S Nat)] [Inhabited (cx_Idx Nat)] [Inhabited (PLift cx_Natl)] {n : Nat} [Zero (cx_Ex n)] [Add (cx_Ex n)] [Mul (cx_S (cx_Ex n))] [One (cx_S (cx_Ex n))] [Add (cx_S (cx_Ex n))] [Zero (cx_S (cx_Ex n))] [Inhabited (cx_Idx (cx_Ex n))] [Inhabited (PLift (cx_Exl n))] [∀ s : cx_Sd n, Add (cx_MM s)] [∀ s : cx_Sd n, Inhabited (PLift (cx_MGl (cx_MM s)))] [∀ s : cx_Sd n, Inhabited (cx_Tord (cx_Ex n) (cx_MM s))] [Inhabited (PLift (cx_MMl n))] (a b : cx_Xp n) : Prop := ∃ i, (∀ j, j < i → a j = b j) ∧ b i < a i
theorem cx_Gt.irrefl [Mul (cx_S Nat)] [One (cx_S Nat)] [Add (cx_S Nat)] [Zero (cx_S Nat)] [Inhabited (cx_Idx Nat)] [Inhabited (PLift cx_Natl)] {n : Nat} [Zero (cx_Ex n)] [Add (cx_Ex n)] [Mul (cx_S (cx_Ex n))] [One (cx_S (cx_Ex n))] [Add (cx_S (cx_Ex n))] [Zero (cx_S (cx_Ex n))] [Inhabited (cx_Idx (cx_Ex n))] [Inhabited (PLift (cx_Exl n))] [∀ s : cx_Sd n, Add (cx_MM s)] [∀ s : cx_Sd n, Inhabited (PLift (cx_MGl (cx_MM s)))] [∀ s : cx_Sd n, Inhabited (cx_Tord (cx_Ex n) (cx_MM s))] [Inhabited (PLift (cx_MMl n))] (a : cx_Xp n) : ¬ cx_Gt a a := fun ⟨i, _, h⟩ => by omega
theorem cx_Gt.trans [Mul (cx_S Nat)] [One (cx_S Nat)] [Add (cx_S Nat)] [Zero (cx_S Nat)] [Inhabited (cx_Idx Nat)] [Inhabited (PLift cx_Natl)] {n : Nat} [Zero (cx_Ex n)] [Add (cx_Ex n)] [Mul (cx_S (cx_Ex n))] [One (cx_S (cx_Ex n))] [Add (cx_S (cx_Ex n))] [Zero (cx_S (cx_Ex n))] [Inhabited (cx_Idx (cx_Ex n))] [Inhabited (PLift (cx_Exl n))] [∀ s : cx_Sd n, Add (cx_MM s)] [∀ s : cx_Sd n, Inhabited (PLift (cx_MGl (cx_MM s)))] [∀ s : cx_Sd n, Inhabited (cx_Tord (cx_Ex n) (cx_MM s))] [Inhabited (PLift (cx_MMl n))] {a b c : cx_Xp n} (h : cx_Gt a b) (h' : cx_Gt b c) : cx_Gt a c := by
  obtain ⟨i, h1, h2⟩ := h
  obtain ⟨j, h3, h4⟩ := h'
  by_cases hij : i < j
  · exact ⟨i, fun l hl => (h1 l hl).trans (h3 l (by omega)), by rw [← h3 i hij]; exact h2⟩
  · by_cases hji : j < i
    · exact ⟨j, fun l hl => (h1 l (by omega)).trans (h3 l hl), by rw [h1 j hji]; exact h4⟩
    · have : i = j := by omega
      subst this
      exact ⟨i, fun l hl => (h1 l hl).trans (h3 l hl), by omega⟩
theorem cx_Gt.total [Mul (cx_S Nat)] [One (cx_S Nat)] [Add (cx_S Nat)] [Zero (cx_S Nat)] [Inhabited (cx_Idx Nat)] [Inhabited (PLift cx_Natl)] {n : Nat} [Zero (cx_Ex n)] [Add (cx_Ex n)] [Mul (cx_S (cx_Ex n))] [One (cx_S (cx_Ex n))] [Add (cx_S (cx_Ex n))] [Zero (cx_S (cx_Ex n))] [Inhabited (cx_Idx (cx_Ex n))] [Inhabited (PLift (cx_Exl n))] [∀ s : cx_Sd n, Add (cx_MM s)] [∀ s : cx_Sd n, Inhabited (PLift (cx_MGl (cx_MM s)))] [∀ s : cx_Sd n, Inhabited (cx_Tord (cx_Ex n) (cx_MM s))] [Inhabited (PLift (cx_MMl n))] (a b : cx_Xp n) : a = b ∨ cx_Gt a b ∨ cx_Gt b a := by
  by_cases h : ∃ i, a i ≠ b i
  · right

    have : ∃ i, a i ≠ b i ∧ ∀ j, j < i → a j = b j := by
      obtain ⟨i, hi⟩ := h
      have main : ∀ m : Nat, ∀ i : Fin n, i.1 < m → a i ≠ b i → ∃ i, a i ≠ b i ∧ ∀ j, j < i → a j = b j := by
        intro m
        induction m with
        | zero => intro i h; omega
        | succ m ih =>
          intro i him hi
          by_cases hj : ∃ j, j < i ∧ a j ≠ b j
          · obtain ⟨j, hj, hne⟩ := hj
            exact ih j (by omega) hne
          · exact ⟨i, hi, fun j hj' => Classical.byContradiction (fun hne => hj ⟨j, hj', hne⟩)⟩
      exact main (i.1 + 1) i (by omega) hi
    obtain ⟨i, hi, hlt⟩ := this
    by_cases hc : b i < a i
    · exact .inl ⟨i, hlt, hc⟩
    · exact .inr ⟨i, fun j hj => (hlt j hj).symm, by omega⟩
  · left
    funext i
    exact Classical.byContradiction (fun hne => h ⟨i, hne⟩)
theorem cx_Gt.add [Mul (cx_S Nat)] [One (cx_S Nat)] [Add (cx_S Nat)] [Zero (cx_S Nat)] [Inhabited (cx_Idx Nat)] [Inhabited (PLift cx_Natl)] {n : Nat} [Zero (cx_Ex n)] [Add (cx_Ex n)] [Mul (cx_S (cx_Ex n))] [One (cx_S (cx_Ex n))] [Add (cx_S (cx_Ex n))] [Zero (cx_S (cx_Ex n))] [Inhabited (cx_Idx (cx_Ex n))] [Inhabited (PLift (cx_Exl n))] [∀ s : cx_Sd n, Add (cx_MM s)] [∀ s : cx_Sd n, Inhabited (PLift (cx_MGl (cx_MM s)))] [∀ s : cx_Sd n, Inhabited (cx_Tord (cx_Ex n) (cx_MM s))] [Inhabited (PLift (cx_MMl n))] {a b : cx_Xp n} (h : cx_Gt a b) (c : cx_Xp n) : cx_Gt (fun i => a i + c i) (fun i => b i + c i) := by
  obtain ⟨i, h1, h2⟩ := h
  exact ⟨i, fun j hj => by show a j + c j = b j + c j; rw [h1 j hj], by show b i + c i < a i + c i; omega⟩
theorem cx_Gt.asymm [Mul (cx_S Nat)] [One (cx_S Nat)] [Add (cx_S Nat)] [Zero (cx_S Nat)] [Inhabited (cx_Idx Nat)] [Inhabited (PLift cx_Natl)] {n : Nat} [Zero (cx_Ex n)] [Add (cx_Ex n)] [Mul (cx_S (cx_Ex n))] [One (cx_S (cx_Ex n))] [Add (cx_S (cx_Ex n))] [Zero (cx_S (cx_Ex n))] [Inhabited (cx_Idx (cx_Ex n))] [Inhabited (PLift (cx_Exl n))] [∀ s : cx_Sd n, Add (cx_MM s)] [∀ s : cx_Sd n, Inhabited (PLift (cx_MGl (cx_MM s)))] [∀ s : cx_Sd n, Inhabited (cx_Tord (cx_Ex n) (cx_MM s))] [Inhabited (PLift (cx_MMl n))] {a b : cx_Xp n} (h : cx_Gt a b) : ¬ cx_Gt b a := fun h' => cx_Gt.irrefl a (h.trans h')
abbrev cx_Shr [Mul (cx_S Nat)] [One (cx_S Nat)] [Add (cx_S Nat)] [Zero (cx_S Nat)] [Inhabited (cx_Idx Nat)] [Inhabited (PLift cx_Natl)] {n : Nat} [Zero (cx_Ex n)] [Add (cx_Ex n)] [Mul (cx_S (cx_Ex n))] [One (cx_S (cx_Ex n))] [Add (cx_S (cx_Ex n))] [Zero (cx_S (cx_Ex n))] [Inhabited (cx_Idx (cx_Ex n))] [Inhabited (PLift (cx_Exl n))] [∀ s : cx_Sd n, Add (cx_MM s)] [∀ s : cx_Sd n, Inhabited (PLift (cx_MGl (cx_MM s)))] [∀ s : cx_Sd n, Inhabited (cx_Tord (cx_Ex n) (cx_MM s))] [Inhabited (PLift (cx_MMl n))] (l : cx_Pl_ n) : Prop := (l.Pairwise (fun y z => cx_Gt y.2 z.2)) ∧ (∀ y ∈ l, 0 < y.1)
theorem cx_Shr.srt [Mul (cx_S Nat)] [One (cx_S Nat)] [Add (cx_S Nat)] [Zero (cx_S Nat)] [Inhabited (cx_Idx Nat)] [Inhabited (PLift cx_Natl)] {n : Nat} [Zero (cx_Ex n)] [Add (cx_Ex n)] [Mul (cx_S (cx_Ex n))] [One (cx_S (cx_Ex n))] [Add (cx_S (cx_Ex n))] [Zero (cx_S (cx_Ex n))] [Inhabited (cx_Idx (cx_Ex n))] [Inhabited (PLift (cx_Exl n))] [∀ s : cx_Sd n, Add (cx_MM s)] [∀ s : cx_Sd n, Inhabited (PLift (cx_MGl (cx_MM s)))] [∀ s : cx_Sd n, Inhabited (cx_Tord (cx_Ex n) (cx_MM s))] [Inhabited (PLift (cx_MMl n))] {l : cx_Pl_ n} (hh_ : cx_Shr l) : l.Pairwise (fun y z => cx_Gt y.2 z.2) := hh_.1
theorem cx_Shr.pos [Mul (cx_S Nat)] [One (cx_S Nat)] [Add (cx_S Nat)] [Zero (cx_S Nat)] [Inhabited (cx_Idx Nat)] [Inhabited (PLift cx_Natl)] {n : Nat} [Zero (cx_Ex n)] [Add (cx_Ex n)] [Mul (cx_S (cx_Ex n))] [One (cx_S (cx_Ex n))] [Add (cx_S (cx_Ex n))] [Zero (cx_S (cx_Ex n))] [Inhabited (cx_Idx (cx_Ex n))] [Inhabited (PLift (cx_Exl n))] [∀ s : cx_Sd n, Add (cx_MM s)] [∀ s : cx_Sd n, Inhabited (PLift (cx_MGl (cx_MM s)))] [∀ s : cx_Sd n, Inhabited (cx_Tord (cx_Ex n) (cx_MM s))] [Inhabited (PLift (cx_MMl n))] {l : cx_Pl_ n} (hh_ : cx_Shr l) : ∀ y ∈ l, 0 < y.1 := hh_.2
theorem cx_Shr.tail [Mul (cx_S Nat)] [One (cx_S Nat)] [Add (cx_S Nat)] [Zero (cx_S Nat)] [Inhabited (cx_Idx Nat)] [Inhabited (PLift cx_Natl)] {n : Nat} [Zero (cx_Ex n)] [Add (cx_Ex n)] [Mul (cx_S (cx_Ex n))] [One (cx_S (cx_Ex n))] [Add (cx_S (cx_Ex n))] [Zero (cx_S (cx_Ex n))] [Inhabited (cx_Idx (cx_Ex n))] [Inhabited (PLift (cx_Exl n))] [∀ s : cx_Sd n, Add (cx_MM s)] [∀ s : cx_Sd n, Inhabited (PLift (cx_MGl (cx_MM s)))] [∀ s : cx_Sd n, Inhabited (cx_Tord (cx_Ex n) (cx_MM s))] [Inhabited (PLift (cx_MMl n))] {y : Int × cx_Xp n} {l : cx_Pl_ n} (h : cx_Shr (y :: l)) : cx_Shr l := ⟨(List.pairwise_cons.1 h.srt).2, fun z hz => h.pos z (by simp [hz])⟩
theorem cx_co_none [Mul (cx_S Nat)] [One (cx_S Nat)] [Add (cx_S Nat)] [Zero (cx_S Nat)] [Inhabited (cx_Idx Nat)] [Inhabited (PLift cx_Natl)] {n : Nat} [Zero (cx_Ex n)] [Add (cx_Ex n)] [Mul (cx_S (cx_Ex n))] [One (cx_S (cx_Ex n))] [Add (cx_S (cx_Ex n))] [Zero (cx_S (cx_Ex n))] [Inhabited (cx_Idx (cx_Ex n))] [Inhabited (PLift (cx_Exl n))] [∀ s : cx_Sd n, Add (cx_MM s)] [∀ s : cx_Sd n, Inhabited (PLift (cx_MGl (cx_MM s)))] [∀ s : cx_Sd n, Inhabited (cx_Tord (cx_Ex n) (cx_MM s))] [Inhabited (PLift (cx_MMl n))] {l : cx_Pl_ n} {a : cx_Xp n} (h : ∀ y ∈ l, y.2 ≠ a) : cx_co l a = 0 := by
  classical
  induction l with
  | nil => rfl
  | cons y l ih => rw [cx_co_cons, if_neg (h y (by simp)), ih (fun z hz => h z (by simp [hz]))]; omega
theorem cx_Shr.at [Mul (cx_S Nat)] [One (cx_S Nat)] [Add (cx_S Nat)] [Zero (cx_S Nat)] [Inhabited (cx_Idx Nat)] [Inhabited (PLift cx_Natl)] {n : Nat} [Zero (cx_Ex n)] [Add (cx_Ex n)] [Mul (cx_S (cx_Ex n))] [One (cx_S (cx_Ex n))] [Add (cx_S (cx_Ex n))] [Zero (cx_S (cx_Ex n))] [Inhabited (cx_Idx (cx_Ex n))] [Inhabited (PLift (cx_Exl n))] [∀ s : cx_Sd n, Add (cx_MM s)] [∀ s : cx_Sd n, Inhabited (PLift (cx_MGl (cx_MM s)))] [∀ s : cx_Sd n, Inhabited (cx_Tord (cx_Ex n) (cx_MM s))] [Inhabited (PLift (cx_MMl n))] {l : cx_Pl_ n} (h : cx_Shr l) {y : Int × cx_Xp n} (hy : y ∈ l) : cx_co l y.2 = y.1 := by
  classical
  induction l with
  | nil => simp at hy
  | cons z l ih =>
    have hs := List.pairwise_cons.1 h.srt
    rw [cx_co_cons]
    rcases List.mem_cons.1 hy with rfl | hy
    · rw [if_pos rfl, cx_co_none (fun z hz e => cx_Gt.irrefl y.2 (by have := hs.1 z hz; rw [e] at this; exact this))]; omega
    · rw [if_neg (fun e : z.2 = y.2 => cx_Gt.irrefl y.2 (by have := hs.1 y hy; rw [e] at this; exact this)), ih h.tail hy]; omega
theorem cx_Shr.nonneg [Mul (cx_S Nat)] [One (cx_S Nat)] [Add (cx_S Nat)] [Zero (cx_S Nat)] [Inhabited (cx_Idx Nat)] [Inhabited (PLift cx_Natl)] {n : Nat} [Zero (cx_Ex n)] [Add (cx_Ex n)] [Mul (cx_S (cx_Ex n))] [One (cx_S (cx_Ex n))] [Add (cx_S (cx_Ex n))] [Zero (cx_S (cx_Ex n))] [Inhabited (cx_Idx (cx_Ex n))] [Inhabited (PLift (cx_Exl n))] [∀ s : cx_Sd n, Add (cx_MM s)] [∀ s : cx_Sd n, Inhabited (PLift (cx_MGl (cx_MM s)))] [∀ s : cx_Sd n, Inhabited (cx_Tord (cx_Ex n) (cx_MM s))] [Inhabited (PLift (cx_MMl n))] {l : cx_Pl_ n} (h : ∀ y ∈ l, 0 < y.1) (a : cx_Xp n) : 0 ≤ cx_co l a := by
  classical
  induction l with
  | nil => exact Int.le_refl 0
  | cons y l ih =>
    rw [cx_co_cons]
    have h1 := ih (fun z hz => h z (by simp [hz]))
    have h2 := h y (by simp)
    by_cases e : y.2 = a
    · rw [if_pos e]; omega
    · rw [if_neg e]; omega
theorem cx_co_mem [Mul (cx_S Nat)] [One (cx_S Nat)] [Add (cx_S Nat)] [Zero (cx_S Nat)] [Inhabited (cx_Idx Nat)] [Inhabited (PLift cx_Natl)] {n : Nat} [Zero (cx_Ex n)] [Add (cx_Ex n)] [Mul (cx_S (cx_Ex n))] [One (cx_S (cx_Ex n))] [Add (cx_S (cx_Ex n))] [Zero (cx_S (cx_Ex n))] [Inhabited (cx_Idx (cx_Ex n))] [Inhabited (PLift (cx_Exl n))] [∀ s : cx_Sd n, Add (cx_MM s)] [∀ s : cx_Sd n, Inhabited (PLift (cx_MGl (cx_MM s)))] [∀ s : cx_Sd n, Inhabited (cx_Tord (cx_Ex n) (cx_MM s))] [Inhabited (PLift (cx_MMl n))] {l : cx_Pl_ n} {a : cx_Xp n} (h : cx_co l a ≠ 0) : ∃ y ∈ l, y.2 = a := by
  refine Classical.byContradiction (fun hno => h (cx_co_none (fun y hy e => hno ⟨y, hy, e⟩)))
theorem cx_Shr.eq [Mul (cx_S Nat)] [One (cx_S Nat)] [Add (cx_S Nat)] [Zero (cx_S Nat)] [Inhabited (cx_Idx Nat)] [Inhabited (PLift cx_Natl)] {n : Nat} [Zero (cx_Ex n)] [Add (cx_Ex n)] [Mul (cx_S (cx_Ex n))] [One (cx_S (cx_Ex n))] [Add (cx_S (cx_Ex n))] [Zero (cx_S (cx_Ex n))] [Inhabited (cx_Idx (cx_Ex n))] [Inhabited (PLift (cx_Exl n))] [∀ s : cx_Sd n, Add (cx_MM s)] [∀ s : cx_Sd n, Inhabited (PLift (cx_MGl (cx_MM s)))] [∀ s : cx_Sd n, Inhabited (cx_Tord (cx_Ex n) (cx_MM s))] [Inhabited (PLift (cx_MMl n))] : ∀ {l l' : cx_Pl_ n}, cx_Shr l → cx_Shr l' → (∀ a, cx_co l a = cx_co l' a) → l = l'
  | [], [], _, _, _ => rfl
  | [], y :: l', _, h', e => by
    exfalso
    have := h'.at (y := y) (by simp)
    have h2 := h'.pos y (by simp)
    rw [← e] at this
    have : cx_co ([] : cx_Pl_ n) y.2 = 0 := rfl
    omega
  | y :: l, [], h, _, e => by
    exfalso
    have := h.at (y := y) (by simp)
    have h2 := h.pos y (by simp)
    rw [e] at this
    have : cx_co ([] : cx_Pl_ n) y.2 = 0 := rfl
    omega
  | y :: l, z :: l', h, h', e => by
    have hs := List.pairwise_cons.1 h.srt
    have hs' := List.pairwise_cons.1 h'.srt
    have hyz : y.2 = z.2 := by
      rcases cx_Gt.total y.2 z.2 with e1 | e1 | e1
      · exact e1
      · exfalso
        have h1 := h.at (y := y) (by simp)
        have h2 := h.pos y (by simp)
        rw [e] at h1
        obtain ⟨w, hw, ew⟩ := cx_co_mem (l := z :: l') (a := y.2) (by omega)
        rcases List.mem_cons.1 hw with rfl | hw
        · rw [ew] at e1; exact cx_Gt.irrefl _ e1
        · have := hs'.1 w hw
          rw [ew] at this
          exact e1.asymm this
      · exfalso
        have h1 := h'.at (y := z) (by simp)
        have h2 := h'.pos z (by simp)
        rw [← e] at h1
        obtain ⟨w, hw, ew⟩ := cx_co_mem (l := y :: l) (a := z.2) (by omega)
        rcases List.mem_cons.1 hw with rfl | hw
        · rw [ew] at e1; exact cx_Gt.irrefl _ e1
        · have := hs.1 w hw
          rw [ew] at this
          exact e1.asymm this
    have hy1 : y.1 = z.1 := by
      have h1 := h.at (y := y) (by simp)
      have h2 := h'.at (y := z) (by simp)
      rw [e, hyz] at h1
      omega
    have hyz' : y = z := Prod.ext hy1 hyz
    subst hyz'
    rw [cx_Shr.eq h.tail h'.tail (fun a => by
      have := e a
      rw [cx_co_cons, cx_co_cons] at this
      omega)]
noncomputable def cx_less [Mul (cx_S Nat)] [One (cx_S Nat)] [Add (cx_S Nat)] [Zero (cx_S Nat)] [Inhabited (cx_Idx Nat)] [Inhabited (PLift cx_Natl)] {n : Nat} [Zero (cx_Ex n)] [Add (cx_Ex n)] [Mul (cx_S (cx_Ex n))] [One (cx_S (cx_Ex n))] [Add (cx_S (cx_Ex n))] [Zero (cx_S (cx_Ex n))] [Inhabited (cx_Idx (cx_Ex n))] [Inhabited (PLift (cx_Exl n))] [∀ s : cx_Sd n, Add (cx_MM s)] [∀ s : cx_Sd n, Inhabited (PLift (cx_MGl (cx_MM s)))] [∀ s : cx_Sd n, Inhabited (cx_Tord (cx_Ex n) (cx_MM s))] [Inhabited (PLift (cx_MMl n))] : cx_Pl_ n → cx_Xp n → Int → cx_Pl_ n
  | [], _, _ => []
  | y :: l, a, c => @ite _ (y.2 = a) (Classical.propDecidable _) (if y.1 = c then l else (y.1 - c, a) :: l) (y :: cx_less l a c)
theorem cx_less_exp [Mul (cx_S Nat)] [One (cx_S Nat)] [Add (cx_S Nat)] [Zero (cx_S Nat)] [Inhabited (cx_Idx Nat)] [Inhabited (PLift cx_Natl)] {n : Nat} [Zero (cx_Ex n)] [Add (cx_Ex n)] [Mul (cx_S (cx_Ex n))] [One (cx_S (cx_Ex n))] [Add (cx_S (cx_Ex n))] [Zero (cx_S (cx_Ex n))] [Inhabited (cx_Idx (cx_Ex n))] [Inhabited (PLift (cx_Exl n))] [∀ s : cx_Sd n, Add (cx_MM s)] [∀ s : cx_Sd n, Inhabited (PLift (cx_MGl (cx_MM s)))] [∀ s : cx_Sd n, Inhabited (cx_Tord (cx_Ex n) (cx_MM s))] [Inhabited (PLift (cx_MMl n))] {l : cx_Pl_ n} {a : cx_Xp n} {c : Int} {y : Int × cx_Xp n} (h : y ∈ cx_less l a c) : ∃ z ∈ l, z.2 = y.2 := by
  classical
  induction l with
  | nil => simp [cx_less] at h
  | cons z l ih =>
    unfold cx_less at h
    by_cases e : z.2 = a
    · rw [if_pos e] at h
      by_cases e1 : z.1 = c
      · rw [if_pos e1] at h; exact ⟨y, by simp [h], rfl⟩
      · rw [if_neg e1] at h
        rcases List.mem_cons.1 h with rfl | h
        · exact ⟨z, by simp, e⟩
        · exact ⟨y, by simp [h], rfl⟩
    · rw [if_neg e] at h
      rcases List.mem_cons.1 h with rfl | h
      · exact ⟨y, by simp, rfl⟩
      · obtain ⟨w, hw, ew⟩ := ih h
        exact ⟨w, by simp [hw], ew⟩
theorem cx_less_shr [Mul (cx_S Nat)] [One (cx_S Nat)] [Add (cx_S Nat)] [Zero (cx_S Nat)] [Inhabited (cx_Idx Nat)] [Inhabited (PLift cx_Natl)] {n : Nat} [Zero (cx_Ex n)] [Add (cx_Ex n)] [Mul (cx_S (cx_Ex n))] [One (cx_S (cx_Ex n))] [Add (cx_S (cx_Ex n))] [Zero (cx_S (cx_Ex n))] [Inhabited (cx_Idx (cx_Ex n))] [Inhabited (PLift (cx_Exl n))] [∀ s : cx_Sd n, Add (cx_MM s)] [∀ s : cx_Sd n, Inhabited (PLift (cx_MGl (cx_MM s)))] [∀ s : cx_Sd n, Inhabited (cx_Tord (cx_Ex n) (cx_MM s))] [Inhabited (PLift (cx_MMl n))] {l : cx_Pl_ n} (h : cx_Shr l) {a : cx_Xp n} {c : Int} (hc : 0 < c) (hle : c ≤ cx_co l a) : cx_Shr (cx_less l a c) ∧ ∀ b, cx_co (cx_less l a c) b = cx_co l b - (@ite _ (b = a) (Classical.propDecidable _) c 0) := by
  classical
  induction l with
  | nil => exfalso; have : cx_co ([] : cx_Pl_ n) a = 0 := rfl; omega
  | cons y l ih =>
    have hs := List.pairwise_cons.1 h.srt
    unfold cx_less
    by_cases e : y.2 = a
    · have hy : cx_co (y :: l) a = y.1 := by rw [← e]; exact h.at (by simp)
      rw [if_pos e]
      by_cases e1 : y.1 = c
      · rw [if_pos e1]
        refine ⟨h.tail, fun b => ?_⟩
        rw [cx_co_cons]
        by_cases hb : b = a
        · rw [if_pos hb, if_pos (by rw [e, hb])]; omega
        · rw [if_neg hb, if_neg (fun e2 => hb (by rw [← e2]; exact e))]; omega
      · rw [if_neg e1]
        refine ⟨⟨List.pairwise_cons.2 ⟨fun z hz => by rw [← e]; exact hs.1 z hz, hs.2⟩, fun z hz => ?_⟩, fun b => ?_⟩
        · rcases List.mem_cons.1 hz with rfl | hz
          · show 0 < y.1 - c; omega
          · exact h.pos z (by simp [hz])
        · rw [cx_co_cons, cx_co_cons]
          by_cases hb : b = a
          · rw [if_pos hb.symm, if_pos hb, if_pos (by rw [e, hb])]; omega
          · rw [if_neg (fun e2 => hb e2.symm), if_neg hb, if_neg (fun e2 => hb (by rw [← e2]; exact e))]; omega
    · rw [if_neg e]
      have hle' : c ≤ cx_co l a := by rw [cx_co_cons, if_neg e] at hle; omega
      obtain ⟨h1, h2⟩ := ih h.tail hle'
      refine ⟨⟨List.pairwise_cons.2 ⟨fun z hz => ?_, h1.srt⟩, fun z hz => ?_⟩, fun b => ?_⟩
      · obtain ⟨w, hw, ew⟩ := cx_less_exp hz
        rw [← ew]; exact hs.1 w hw
      · rcases List.mem_cons.1 hz with rfl | hz
        · exact h.pos z (by simp)
        · exact h1.pos z hz
      · rw [cx_co_cons, cx_co_cons, h2 b]; omega
noncomputable def cx_lessAll [Mul (cx_S Nat)] [One (cx_S Nat)] [Add (cx_S Nat)] [Zero (cx_S Nat)] [Inhabited (cx_Idx Nat)] [Inhabited (PLift cx_Natl)] {n : Nat} [Zero (cx_Ex n)] [Add (cx_Ex n)] [Mul (cx_S (cx_Ex n))] [One (cx_S (cx_Ex n))] [Add (cx_S (cx_Ex n))] [Zero (cx_S (cx_Ex n))] [Inhabited (cx_Idx (cx_Ex n))] [Inhabited (PLift (cx_Exl n))] [∀ s : cx_Sd n, Add (cx_MM s)] [∀ s : cx_Sd n, Inhabited (PLift (cx_MGl (cx_MM s)))] [∀ s : cx_Sd n, Inhabited (cx_Tord (cx_Ex n) (cx_MM s))] [Inhabited (PLift (cx_MMl n))] (A : cx_Pl_ n) (r : Int × cx_Xp n) : cx_Pl_ n → cx_Pl_ n
  | [] => A
  | y :: B => cx_lessAll (cx_less A (fun i => r.2 i + y.2 i) (r.1 * y.1)) r B
theorem cx_lessAll_shr [Mul (cx_S Nat)] [One (cx_S Nat)] [Add (cx_S Nat)] [Zero (cx_S Nat)] [Inhabited (cx_Idx Nat)] [Inhabited (PLift cx_Natl)] {n : Nat} [Zero (cx_Ex n)] [Add (cx_Ex n)] [Mul (cx_S (cx_Ex n))] [One (cx_S (cx_Ex n))] [Add (cx_S (cx_Ex n))] [Zero (cx_S (cx_Ex n))] [Inhabited (cx_Idx (cx_Ex n))] [Inhabited (PLift (cx_Exl n))] [∀ s : cx_Sd n, Add (cx_MM s)] [∀ s : cx_Sd n, Inhabited (PLift (cx_MGl (cx_MM s)))] [∀ s : cx_Sd n, Inhabited (cx_Tord (cx_Ex n) (cx_MM s))] [Inhabited (PLift (cx_MMl n))] {r : Int × cx_Xp n} (hr : 0 < r.1) {C : cx_Pl_ n} (hC : ∀ y ∈ C, 0 < y.1) : ∀ {B A : cx_Pl_ n}, (∀ y ∈ B, 0 < y.1) → cx_Shr A → (∀ a, cx_co A a = cx_co C a + cx_co (cx_shz r B) a) →
    cx_Shr (cx_lessAll A r B) ∧ ∀ a, cx_co (cx_lessAll A r B) a = cx_co C a
  | [], A, _, hA, he => ⟨hA, fun a => by show cx_co A a = _; rw [he a]; show cx_co C a + 0 = _; omega⟩
  | y :: B, A, hB, hA, he => by
    classical
    have hy := hB y (by simp)
    have hpos : 0 < r.1 * y.1 := Int.mul_pos hr hy
    have e1 : ∀ a, cx_co (cx_shz r (y :: B)) a = (if (fun i => r.2 i + y.2 i) = a then r.1 * y.1 else 0) + cx_co (cx_shz r B) a := fun a => rfl
    have hsB : ∀ z ∈ cx_shz r B, 0 < z.1 := fun z hz => by
      obtain ⟨w, hw, rfl⟩ := List.mem_map.1 hz
      exact Int.mul_pos hr (hB w (by simp [hw]))
    have h1 := cx_less_shr hA (a := fun i => r.2 i + y.2 i) hpos (by
      rw [he, e1, if_pos rfl]
      have := cx_Shr.nonneg hC (fun i => r.2 i + y.2 i)
      have := cx_Shr.nonneg hsB (fun i => r.2 i + y.2 i)
      omega)
    show cx_Shr (cx_lessAll (cx_less A (fun i => r.2 i + y.2 i) (r.1 * y.1)) r B) ∧ ∀ a, cx_co (cx_lessAll (cx_less A (fun i => r.2 i + y.2 i) (r.1 * y.1)) r B) a = cx_co C a
    refine cx_lessAll_shr hr hC (B := B) (fun z hz => hB z (by simp [hz])) h1.1 (fun a => ?_)
    rw [h1.2, he, e1]
    by_cases ha : a = fun i => r.2 i + y.2 i
    · rw [if_pos ha.symm, if_pos ha]; omega
    · rw [if_neg (fun e => ha e.symm), if_neg ha]; omega
theorem cx_last_mul [Mul (cx_S Nat)] [One (cx_S Nat)] [Add (cx_S Nat)] [Zero (cx_S Nat)] [Inhabited (cx_Idx Nat)] [Inhabited (PLift cx_Natl)] {n : Nat} [Zero (cx_Ex n)] [Add (cx_Ex n)] [Mul (cx_S (cx_Ex n))] [One (cx_S (cx_Ex n))] [Add (cx_S (cx_Ex n))] [Zero (cx_S (cx_Ex n))] [Inhabited (cx_Idx (cx_Ex n))] [Inhabited (PLift (cx_Exl n))] [∀ s : cx_Sd n, Add (cx_MM s)] [∀ s : cx_Sd n, Inhabited (PLift (cx_MGl (cx_MM s)))] [∀ s : cx_Sd n, Inhabited (cx_Tord (cx_Ex n) (cx_MM s))] [Inhabited (PLift (cx_MMl n))] {R B : cx_Pl_ n} {r b : Int × cx_Xp n} (hR : cx_Shr (R ++ [r])) (hB : cx_Shr (B ++ [b])) :
    cx_co (cx_pmz (R ++ [r]) (B ++ [b])) (fun i => r.2 i + b.2 i) = r.1 * b.1 ∧ ∀ a, cx_co (cx_pmz (R ++ [r]) (B ++ [b])) a ≠ 0 → a = (fun i => r.2 i + b.2 i) ∨ cx_Gt a (fun i => r.2 i + b.2 i) := by
  have hlR : ∀ y ∈ R, cx_Gt y.2 r.2 := fun y hy => (List.pairwise_append.1 hR.srt).2.2 y hy r (by simp)
  have hlB : ∀ y ∈ B, cx_Gt y.2 b.2 := fun y hy => (List.pairwise_append.1 hB.srt).2.2 y hy b (by simp)
  have hBge : ∀ y ∈ B ++ [b], y.2 = b.2 ∨ cx_Gt y.2 b.2 := fun y hy => by
    rcases List.mem_append.1 hy with h | h
    · exact .inr (hlB y h)
    · have : y = b := by simpa using h
      subst this; exact .inl rfl
  constructor
  · rw [cx_co_pmz, List.map_append, List.sum_append]
    have z : (R.map fun y => y.1 * cx_co (B ++ [b]) (fun i => (r.2 i + b.2 i) - y.2 i)).sum = 0 := by
      have key : ∀ y ∈ R, y.1 * cx_co (B ++ [b]) (fun i => (r.2 i + b.2 i) - y.2 i) = 0 := by
        intro y hy
        rw [cx_co_none (fun z hz e => ?_), Int.mul_zero]
        have hg := hlR y hy

        have h1 : cx_Gt b.2 z.2 := by
          have h2 := hg.add (fun i => b.2 i - y.2 i)
          have e1 : (fun i => y.2 i + (b.2 i - y.2 i)) = b.2 := funext fun i => by omega
          have e2 : (fun i => r.2 i + (b.2 i - y.2 i)) = z.2 := funext fun i => by rw [e]; show r.2 i + (b.2 i - y.2 i) = r.2 i + b.2 i - y.2 i; omega
          rw [e1, e2] at h2
          exact h2
        rcases hBge z hz with h | h
        · rw [h] at h1; exact cx_Gt.irrefl _ h1
        · exact h1.asymm h
      clear hR hlR
      induction R with
      | nil => rfl
      | cons y R ih => rw [List.map_cons, List.sum_cons, key y (by simp), ih (fun z hz => key z (by simp [hz]))]; rfl
    rw [z]
    show 0 + (r.1 * cx_co (B ++ [b]) (fun i => (r.2 i + b.2 i) - r.2 i) + 0) = _
    have e : (fun i => (r.2 i + b.2 i) - r.2 i) = b.2 := funext fun i => by omega
    rw [e, hB.at (by simp)]; omega
  · intro a ha
    rw [cx_co_pmz] at ha
    have : ∃ y ∈ R ++ [r], cx_co (B ++ [b]) (fun i => a i - y.2 i) ≠ 0 := by
      refine Classical.byContradiction (fun hno => ha ?_)
      have key : ∀ y ∈ R ++ [r], y.1 * cx_co (B ++ [b]) (fun i => a i - y.2 i) = 0 := fun y hy => by
        have : cx_co (B ++ [b]) (fun i => a i - y.2 i) = 0 := Classical.byContradiction (fun h => hno ⟨y, hy, h⟩)
        rw [this, Int.mul_zero]
      generalize R ++ [r] = l at key
      induction l with
      | nil => rfl
      | cons y l ih => rw [List.map_cons, List.sum_cons, key y (by simp), ih (fun z hz => key z (by simp [hz]))]; rfl
    obtain ⟨y, hy, hne⟩ := this
    obtain ⟨z, hz, ez⟩ := cx_co_mem hne
    have ea : a = fun i => y.2 i + z.2 i := funext fun i => by
      have : z.2 i = a i - y.2 i := congrFun ez i
      omega
    have hyr : y.2 = r.2 ∨ cx_Gt y.2 r.2 := by
      rcases List.mem_append.1 hy with h | h
      · exact .inr (hlR y h)
      · have : y = r := by simpa using h
        subst this; exact .inl rfl
    have comm : ∀ u w : cx_Xp n, (fun i => u i + w i) = fun i => w i + u i := fun u w => funext fun i => by omega
    rw [ea]
    rcases hyr with h1 | h1
    · rcases hBge z hz with h2 | h2
      · left; rw [h1, h2]
      · right; rw [h1, comm r.2 z.2, comm r.2 b.2]; exact h2.add r.2
    · right
      have h3 := h1.add z.2
      rcases hBge z hz with h2 | h2
      · rw [h2] at h3 ⊢; exact h3
      · have h4 := h2.add r.2
        rw [comm z.2 r.2, comm b.2 r.2] at h4
        exact h3.trans h4
theorem cx_divide_step [Mul (cx_S Nat)] [One (cx_S Nat)] [Add (cx_S Nat)] [Zero (cx_S Nat)] [Inhabited (cx_Idx Nat)] [Inhabited (PLift cx_Natl)] {n : Nat} [Zero (cx_Ex n)] [Add (cx_Ex n)] [Mul (cx_S (cx_Ex n))] [One (cx_S (cx_Ex n))] [Add (cx_S (cx_Ex n))] [Zero (cx_S (cx_Ex n))] [Inhabited (cx_Idx (cx_Ex n))] [Inhabited (PLift (cx_Exl n))] [∀ s : cx_Sd n, Add (cx_MM s)] [∀ s : cx_Sd n, Inhabited (PLift (cx_MGl (cx_MM s)))] [∀ s : cx_Sd n, Inhabited (cx_Tord (cx_Ex n) (cx_MM s))] [Inhabited (PLift (cx_MMl n))] {R B A : cx_Pl_ n} {r b : Int × cx_Xp n} (hR : cx_Shr (R ++ [r])) (hB : cx_Shr (B ++ [b])) (hA : cx_Shr A) (he : ∀ a, cx_co A a = cx_co (cx_pmz (R ++ [r]) (B ++ [b])) a) :
    ∃ A' x, A = A' ++ [x] ∧ x.1 = r.1 * b.1 ∧ (∀ i, x.2 i = r.2 i + b.2 i) ∧ x.1 / b.1 = r.1 ∧ cx_Shr (cx_lessAll A r (B ++ [b])) ∧ ∀ a, cx_co (cx_lessAll A r (B ++ [b])) a = cx_co (cx_pmz R (B ++ [b])) a := by
  obtain ⟨h1, h2⟩ := cx_last_mul hR hB
  have hr := hR.pos r (by simp)
  have hb := hB.pos b (by simp)
  have hne : A ≠ [] := by
    intro e
    have := he (fun i => r.2 i + b.2 i)
    rw [e, h1] at this
    have h3 := Int.mul_pos hr hb
    have : cx_co ([] : cx_Pl_ n) (fun i => r.2 i + b.2 i) = 0 := rfl
    omega
  obtain ⟨A', x, rfl⟩ : ∃ A' x, A = A' ++ [x] := ⟨A.dropLast, A.getLast hne, (List.dropLast_concat_getLast hne).symm⟩
  have hx := hA.at (y := x) (by simp)
  have hxp := hA.pos x (by simp)
  have hx2 : x.2 = fun i => r.2 i + b.2 i := by
    have hn : cx_co (cx_pmz (R ++ [r]) (B ++ [b])) x.2 ≠ 0 := by rw [← he, hx]; omega
    rcases h2 x.2 hn with h | h
    · exact h
    · exfalso
      have h3 : cx_co (A' ++ [x]) (fun i => r.2 i + b.2 i) ≠ 0 := by
        rw [he, h1]
        have := Int.mul_pos hr hb
        omega
      obtain ⟨w, hw, ew⟩ := cx_co_mem h3
      have hle : w.2 = x.2 ∨ cx_Gt w.2 x.2 := by
        rcases List.mem_append.1 hw with hw | hw
        · exact .inr ((List.pairwise_append.1 hA.srt).2.2 w hw x (by simp))
        · have : w = x := by simpa using hw
          subst this; exact .inl rfl
      rw [← ew] at h
      rcases hle with e | e
      · rw [e] at h; exact cx_Gt.irrefl _ h
      · exact h.asymm e
  have hx1 : x.1 = r.1 * b.1 := by rw [← hx, he, hx2, h1]
  have hRp : ∀ y ∈ cx_pmz R (B ++ [b]), 0 < y.1 := fun y hy => by
    obtain ⟨z, hz, hy⟩ := List.mem_flatMap.1 hy
    obtain ⟨w, hw, rfl⟩ := List.mem_map.1 hy
    exact Int.mul_pos (hR.pos z (by simp [hz])) (hB.pos w hw)
  refine ⟨A', x, rfl, hx1, fun i => by rw [hx2], by rw [hx1]; exact Int.mul_ediv_cancel _ (by omega), ?_⟩
  refine cx_lessAll_shr hr hRp (fun y hy => hB.pos y hy) hA (fun a => ?_)
  rw [he]
  have : cx_pmz (R ++ [r]) (B ++ [b]) = cx_pmz R (B ++ [b]) ++ cx_shz r (B ++ [b]) := by
    unfold cx_pmz
    rw [List.flatMap_append]
    simp
  rw [this, cx_co_app]
end

section
/-! A MACHINE OF KNOWN VALUES. Values stand for values: .int x, .long x, .null for themselves, .ref k for the k-th cell's address, .float n for the n-th unknown int, .double _ for any int. A run of it is worked out by the kernel; 'sound' says that the real machine goes the same way. -/
abbrev rx_E : Type := (Nat × List Value) ⊕ (Nat × Nat × List (Nat × Value) × Value)
abbrev rx_W : Type := List rx_E
abbrev rx_L : Type := List (Nat × Value)
abbrev rx_S : Type := rx_L × List Value × rx_W × Nat × Nat
abbrev rx_R : Type := Option Value × rx_W
abbrev rx_O : Type := (Nat × rx_S) ⊕ rx_R
abbrev rx_C : Type := Nat → List Value → rx_W → Option rx_R
abbrev rx_T : Type := rx_C → rx_S → Option rx_O
abbrev rx_P : Type := List (Nat × rx_T)
/-- what is known of the unknown ints: bounds, and which is below which -/
abbrev rx_Y : Type := List (Int × Int) × List (Nat × Nat × Bool)
noncomputable def rx_fN {α : Type} (x : Nat) (k : Nat → α) : α := Nat.rec (motive := fun _ => α) (k 0) (fun n _ => k (n + 1)) x
theorem rx_fN_eq {α : Type} (x : Nat) (k : Nat → α) : rx_fN x k = k x := by cases x <;> rfl
noncomputable def rx_fI {α : Type} (x : Int32) (k : Int32 → α) : α := rx_fN x.toUInt32.toNat (fun n => k (Int32.ofNat n))
noncomputable def rx_fL {α : Type} (x : Int64) (k : Int64 → α) : α := rx_fN x.toUInt64.toNat (fun n => k (Int64.ofNat n))
theorem rx_i_of (x : Int32) : Int32.ofNat x.toUInt32.toNat = x := by
  apply Int32.toBitVec_inj.mp
  show BitVec.ofNat 32 x.toBitVec.toNat = x.toBitVec
  simp
theorem rx_l_of (x : Int64) : Int64.ofNat x.toUInt64.toNat = x := by
  apply Int64.toBitVec_inj.mp
  show BitVec.ofNat 64 x.toBitVec.toNat = x.toBitVec
  simp
theorem rx_fI_eq {α : Type} (x : Int32) (k : Int32 → α) : rx_fI x k = k x := by rw [rx_fI, rx_fN_eq, rx_i_of]
theorem rx_fL_eq {α : Type} (x : Int64) (k : Int64 → α) : rx_fL x k = k x := by rw [rx_fL, rx_fN_eq, rx_l_of]
def rx_look : List (Nat × Value) → Value → Nat → Value
  | [], d, _ => d
  | (k, v) :: t, d, j => cond (Nat.beq j k) v (rx_look t d j)
theorem rx_look_cons (k : Nat) (v : Value) (t : List (Nat × Value)) (d : Value) (j : Nat) : rx_look ((k, v) :: t) d j = if j = k then v else rx_look t d j := by
  by_cases h : j = k
  · subst h; simp [rx_look]
  · have : Nat.beq j k = false := by rw [← Bool.not_eq_true]; exact fun q => h (Nat.eq_of_beq_eq_true q)
    simp [rx_look, h, this]
def rx_find : rx_L → Nat → Option Value
  | [], _ => none
  | (k, v) :: t, i => cond (Nat.beq i k) (some v) (rx_find t i)
/-- a value stands for a value -/
def rx_v (ρ : List Nat) (σ : Nat → Int32) (v w : Value) : Prop := match v with
  | .int x => w = .int x
  | .long x => w = .long x
  | .null => w = .null
  | .ref k => ∃ a, ρ[k]? = some a ∧ w = .ref a
  | .float n => w = .int (σ n.toNat)
  | .double _ => ∃ x : Int32, w = .int x
  | .retAddr _ => False
def rx_l (ρ : List Nat) (σ : Nat → Int32) : List Value → List Value → Prop
  | [], [] => True
  | v :: vs, w :: ws => rx_v ρ σ v w ∧ rx_l ρ σ vs ws
  | _, _ => False
def rx_lv (ρ : List Nat) (σ : Nat → Int32) : rx_L → rx_L → Prop
  | [], [] => True
  | (i, v) :: vs, (j, w) :: ws => i = j ∧ rx_v ρ σ v w ∧ rx_lv ρ σ vs ws
  | _, _ => False
def rx_e (ρ : List Nat) (σ : Nat → Int32) (cy : Nat → ClassId) (e : rx_E) (ce : va_E) : Prop := match e with
  | .inl (ci, fs) => ∃ cfs, ce = .inr (ci, cfs) ∧ rx_l ρ σ fs cfs
  | .inr (0, n, u, d) => ∃ f : Nat → Int32, ce = .inl (cy 0, n, .inl f) ∧ ∀ j, rx_v ρ σ (rx_look u d j) (.int (f j))
  | .inr (1, n, u, d) => ∃ f : Nat → Int64, ce = .inl (cy 1, n, .inr (.inl f)) ∧ ∀ j, rx_v ρ σ (rx_look u d j) (.long (f j))
  | .inr (2, n, u, d) => ∃ f : Nat → Int32, ce = .inl (cy 2, n, .inl f) ∧ ∀ j, rx_v ρ σ (rx_look u d j) (.int (f j))
  | .inr (t + 3, n, u, d) => ∃ f : Nat → Option Nat, ce = .inl (cy (t + 3), n, .inr (.inr (.inr (.inr f)))) ∧ ∀ j, rx_v ρ σ (rx_look u d j) (va_rf (f j))
def rx_w (ρ : List Nat) (σ : Nat → Int32) (cy : Nat → ClassId) (ws : rx_W) (cws : va_W) : Prop :=
  cws.map Prod.fst = ρ ∧ ws.length = cws.length ∧ ∀ (k : Nat) (e : rx_E), ws[k]? = some e → ∃ (a : Nat) (ce : va_E), cws[k]? = some (a, ce) ∧ rx_e ρ σ cy e ce
/-- an answer -/
def rx_o (ρ : List Nat) (σ : Nat → Int32) : Option Value → Option Value → Prop
  | none, none => True
  | some v, some w => rx_v ρ σ v w
  | _, _ => False
theorem rx_v.mono {ρ t : List Nat} {σ : Nat → Int32} {v w : Value} (h : rx_v ρ σ v w) : rx_v (ρ ++ t) σ v w := by
  cases v with
  | ref k =>
    obtain ⟨a, h1, h2⟩ := h
    exact ⟨a, by rw [List.getElem?_append_left (List.getElem?_eq_some_iff.mp h1).1]; exact h1, h2⟩
  | _ => exact h
theorem rx_l.mono {ρ t : List Nat} {σ : Nat → Int32} : ∀ {vs ws : List Value}, rx_l ρ σ vs ws → rx_l (ρ ++ t) σ vs ws
  | [], [], _ => trivial
  | _ :: _, _ :: _, h => ⟨h.1.mono, rx_l.mono h.2⟩
  | [], _ :: _, h => h.elim
  | _ :: _, [], h => h.elim
theorem rx_lv.mono {ρ t : List Nat} {σ : Nat → Int32} : ∀ {vs ws : rx_L}, rx_lv ρ σ vs ws → rx_lv (ρ ++ t) σ vs ws
  | [], [], _ => trivial
  | _ :: _, _ :: _, h => ⟨h.1, h.2.1.mono, rx_lv.mono h.2.2⟩
  | [], _ :: _, h => h.elim
  | _ :: _, [], h => h.elim
theorem rx_e.mono {ρ t : List Nat} {σ : Nat → Int32} {cy : Nat → ClassId} {e : rx_E} {ce : va_E} (h : rx_e ρ σ cy e ce) : rx_e (ρ ++ t) σ cy e ce := by
  match e, h with
  | .inl (ci, fs), ⟨cfs, h1, h2⟩ => exact ⟨cfs, h1, h2.mono⟩
  | .inr (0, n, u, d), ⟨f, h1, h2⟩ => exact ⟨f, h1, fun j => (h2 j).mono⟩
  | .inr (1, n, u, d), ⟨f, h1, h2⟩ => exact ⟨f, h1, fun j => (h2 j).mono⟩
  | .inr (2, n, u, d), ⟨f, h1, h2⟩ => exact ⟨f, h1, fun j => (h2 j).mono⟩
  | .inr (t + 3, n, u, d), ⟨f, h1, h2⟩ => exact ⟨f, h1, fun j => (h2 j).mono⟩
theorem rx_l.app {ρ : List Nat} {σ : Nat → Int32} : ∀ {a b c d : List Value}, rx_l ρ σ a b → rx_l ρ σ c d → rx_l ρ σ (a ++ c) (b ++ d)
  | [], [], _, _, _, h => h
  | _ :: _, _ :: _, _, _, h, g => ⟨h.1, rx_l.app h.2 g⟩
  | [], _ :: _, _, _, h, _ => h.elim
  | _ :: _, [], _, _, h, _ => h.elim
theorem rx_l.rev {ρ : List Nat} {σ : Nat → Int32} : ∀ {a b : List Value}, rx_l ρ σ a b → rx_l ρ σ a.reverse b.reverse
  | [], [], _ => trivial
  | v :: vs, w :: ws, h => by
    rw [List.reverse_cons, List.reverse_cons]
    exact rx_l.app (rx_l.rev h.2) ⟨h.1, trivial⟩
  | [], _ :: _, h => h.elim
  | _ :: _, [], h => h.elim
theorem rx_l.len {ρ : List Nat} {σ : Nat → Int32} : ∀ {a b : List Value}, rx_l ρ σ a b → a.length = b.length
  | [], [], _ => rfl
  | _ :: _, _ :: _, h => congrArg (· + 1) (rx_l.len h.2)
  | [], _ :: _, h => h.elim
  | _ :: _, [], h => h.elim
theorem rx_l.take {ρ : List Nat} {σ : Nat → Int32} : ∀ (n : Nat) {a b : List Value}, rx_l ρ σ a b → rx_l ρ σ (a.take n) (b.take n) ∧ rx_l ρ σ (a.drop n) (b.drop n)
  | 0, _, _, h => ⟨trivial, h⟩
  | _ + 1, [], [], _ => ⟨trivial, trivial⟩
  | n + 1, _ :: _, _ :: _, h => ⟨⟨h.1, (rx_l.take n h.2).1⟩, (rx_l.take n h.2).2⟩
  | _ + 1, [], _ :: _, h => h.elim
  | _ + 1, _ :: _, [], h => h.elim
theorem rx_l.get {ρ : List Nat} {σ : Nat → Int32} : ∀ {a b : List Value} (k : Nat) {v : Value}, rx_l ρ σ a b → a[k]? = some v → ∃ w, b[k]? = some w ∧ rx_v ρ σ v w
  | [], [], _, _, _, h => by simp at h
  | v :: vs, w :: ws, 0, _, h, g => ⟨w, rfl, by simp at g; subst g; exact h.1⟩
  | v :: vs, w :: ws, k + 1, _, h, g => by
    simp only [List.getElem?_cons_succ] at g ⊢
    exact rx_l.get k h.2 g
  | [], _ :: _, _, _, h, _ => h.elim
  | _ :: _, [], _, _, h, _ => h.elim
theorem rx_l.set {ρ : List Nat} {σ : Nat → Int32} : ∀ {a b : List Value} (k : Nat) {v w : Value}, rx_l ρ σ a b → rx_v ρ σ v w → rx_l ρ σ (a.set k v) (b.set k w)
  | [], [], _, _, _, _, _ => trivial
  | _ :: _, _ :: _, 0, _, _, h, g => ⟨g, h.2⟩
  | _ :: _, _ :: _, k + 1, _, _, h, g => ⟨h.1, rx_l.set k h.2 g⟩
  | [], _ :: _, _, _, _, h, _ => h.elim
  | _ :: _, [], _, _, _, h, _ => h.elim
theorem rx_v.cat {ρ : List Nat} {σ : Nat → Int32} {v w : Value} (h : rx_v ρ σ v w) (hd : ∀ b, v ≠ .double b) : w.category = v.category := by
  cases v with
  | int x => cases h; rfl
  | long x => cases h; rfl
  | null => cases h; rfl
  | ref k => obtain ⟨a, -, h2⟩ := h; cases h2; rfl
  | float n => cases h; rfl
  | double b => exact absurd rfl (hd b)
  | retAddr _ => exact h.elim
/-- what a value weighs: any int is an int here -/
def rx_cat : Value → Nat
  | .long _ => 2
  | _ => 1
theorem rx_v.cat' {ρ : List Nat} {σ : Nat → Int32} {v w : Value} (h : rx_v ρ σ v w) : w.category = rx_cat v := by
  cases v with
  | int x => cases h; rfl
  | long x => cases h; rfl
  | null => cases h; rfl
  | ref k => obtain ⟨a, -, h2⟩ := h; cases h2; rfl
  | float n => cases h; rfl
  | double b => obtain ⟨x, hx⟩ := h; cases hx; rfl
  | retAddr _ => exact h.elim
theorem rx_l.cats {ρ : List Nat} {σ : Nat → Int32} : ∀ {a b : List Value}, rx_l ρ σ a b → (b.map fun v => v.category).sum = (a.map rx_cat).sum
  | [], [], _ => rfl
  | _ :: _, _ :: _, h => by
    simp only [List.map_cons, List.sum_cons]
    rw [h.1.cat', rx_l.cats h.2]
  | [], _ :: _, h => h.elim
  | _ :: _, [], h => h.elim
def rx_args : Nat → List Value → rx_L
  | _, [] => []
  | i, v :: vs => (i, v) :: rx_args (i + rx_cat v) vs
theorem rx_cat_12 (w : Value) : w.category = 2 ∨ w.category = 1 := by cases w <;> simp [Value.category]
theorem rx_l.args {ρ : List Nat} {σ : Nat → Int32} : ∀ {a b : List Value} (i : Nat), rx_l ρ σ a b → rx_lv ρ σ (rx_args i a) (lv_args i b)
  | [], [], _, _ => trivial
  | v :: vs, w :: ws, i, h => by
    refine ⟨rfl, h.1, ?_⟩
    have e : (if w.category = 2 then i + 2 else i + 1) = i + rx_cat v := by
      rw [← h.1.cat']
      rcases rx_cat_12 w with q | q <;> simp [q]
    rw [e]
    exact rx_l.args _ h.2
  | [], _ :: _, _, h => h.elim
  | _ :: _, [], _, h => h.elim
theorem rx_sl_len (vs : List Value) : (lg_sl vs).length = (vs.map fun v => v.category).sum := by
  induction vs with
  | nil => rfl
  | cons v vs ih =>
    have : lg_sl (v :: vs) = (if v.category = 2 then [.val v, .second] else [.val v]) ++ lg_sl vs := by simp [lg_sl]
    rw [this, List.length_append, ih, List.map_cons, List.sum_cons]
    rcases rx_cat_12 v with q | q <;> simp [q]
theorem rx_lv.find {ρ : List Nat} {σ : Nat → Int32} : ∀ {a b : rx_L} {i : Nat} {v : Value}, rx_lv ρ σ a b → rx_find a i = some v → ∃ (k : Nat) (w : Value), b[k]? = some (i, w) ∧ rx_v ρ σ v w
  | [], [], _, _, _, h => by simp [rx_find] at h
  | (j, v) :: vs, (j', w) :: ws, i, x, h, g => by
    simp only [rx_find] at g
    cases hb : Nat.beq i j with
    | true =>
      rw [hb] at g
      have := Nat.eq_of_beq_eq_true hb
      simp at g
      exact ⟨0, w, by rw [this, h.1]; rfl, by rw [← g]; exact h.2.1⟩
    | false =>
      rw [hb] at g
      obtain ⟨k, w', h1, h2⟩ := rx_lv.find h.2.2 g
      exact ⟨k + 1, w', h1, h2⟩
  | [], _ :: _, _, _, h, _ => h.elim
  | _ :: _, [], _, _, h, _ => h.elim
/-- one place of the locals is written -/
def rx_put1 (lv : rx_L) (i : Nat) : rx_L := lv.filter (fun q => !(q.1 == i) && !(q.1 + 1 == i && rx_cat q.2 == 2))
def rx_put2 (lv : rx_L) (i : Nat) : rx_L := lv.filter (fun q => !(q.1 == i) && (!(q.1 == i + 1) && !(q.1 + 1 == i && rx_cat q.2 == 2)))
theorem rx_lv.put1 {ρ : List Nat} {σ : Nat → Int32} (i : Nat) : ∀ {a b : rx_L}, rx_lv ρ σ a b → rx_lv ρ σ (rx_put1 a i) (b.filter (fun q => !(q.1 == i) && !(q.1 + 1 == i && q.2.category == 2)))
  | [], [], _ => trivial
  | (j, v) :: vs, (j', w) :: ws, h => by
    obtain ⟨rfl, h1, h2⟩ := h
    have ih := rx_lv.put1 i h2
    have e := h1.cat'
    simp only [rx_put1, List.filter_cons, e] at ih ⊢
    split
    · exact ⟨rfl, h1, ih⟩
    · exact ih
  | [], _ :: _, h => h.elim
  | _ :: _, [], h => h.elim
theorem rx_lv.put2 {ρ : List Nat} {σ : Nat → Int32} (i : Nat) : ∀ {a b : rx_L}, rx_lv ρ σ a b → rx_lv ρ σ (rx_put2 a i) (b.filter (fun q => !(q.1 == i) && (!(q.1 == i + 1) && !(q.1 + 1 == i && q.2.category == 2))))
  | [], [], _ => trivial
  | (j, v) :: vs, (j', w) :: ws, h => by
    obtain ⟨rfl, h1, h2⟩ := h
    have ih := rx_lv.put2 i h2
    have e := h1.cat'
    simp only [rx_put2, List.filter_cons, e] at ih ⊢
    split
    · exact ⟨rfl, h1, ih⟩
    · exact ih
  | [], _ :: _, h => h.elim
  | _ :: _, [], h => h.elim
theorem rx_set_same {α : Type} {l : List α} {k : Nat} {x : α} (h : l[k]? = some x) : l.set k x = l := by
  apply List.ext_getElem?
  intro j
  rw [List.getElem?_set]
  obtain ⟨hk, hx⟩ := List.getElem?_eq_some_iff.mp h
  by_cases hj : k = j
  · subst hj; simp [hk, hx]
  · simp [hj]
theorem rx_w.at {ρ : List Nat} {σ : Nat → Int32} {cy : Nat → ClassId} {ws : rx_W} {cws : va_W} (h : rx_w ρ σ cy ws cws) {k : Nat} {e : rx_E} (hk : ws[k]? = some e) {a : Nat} (ha : ρ[k]? = some a) : ∃ ce, cws[k]? = some (a, ce) ∧ rx_e ρ σ cy e ce := by
  obtain ⟨a', ce, h1, h2⟩ := h.2.2 k e hk
  have : ρ[k]? = some a' := by rw [← h.1, List.getElem?_map, h1]; rfl
  rw [ha] at this
  cases this
  exact ⟨ce, h1, h2⟩
theorem rx_w.set {ρ : List Nat} {σ : Nat → Int32} {cy : Nat → ClassId} {ws : rx_W} {cws : va_W} (h : rx_w ρ σ cy ws cws) {k a : Nat} {ce0 : va_E} (hk : cws[k]? = some (a, ce0)) {e : rx_E} {ce : va_E} (he : rx_e ρ σ cy e ce) : rx_w ρ σ cy (ws.set k e) (cws.set k (a, ce)) := by
  refine ⟨?_, by simp [h.2.1], ?_⟩
  · rw [List.map_set, ← h.1]
    exact rx_set_same (by rw [List.getElem?_map, hk]; rfl)
  · intro j e' hj
    rw [List.getElem?_set] at hj
    by_cases hkj : k = j
    · subst hkj
      have hl : k < cws.length := (List.getElem?_eq_some_iff.mp hk).1
      simp [h.2.1, hl] at hj
      subst hj
      exact ⟨a, ce, by simp [hl], he⟩
    · simp [hkj] at hj
      obtain ⟨a', ce', h1, h2⟩ := h.2.2 j e' hj
      exact ⟨a', ce', by rw [List.getElem?_set]; simp [hkj, h1], h2⟩
theorem rx_w.new {ρ : List Nat} {σ : Nat → Int32} {cy : Nat → ClassId} {ws : rx_W} {cws : va_W} (h : rx_w ρ σ cy ws cws) {a : Nat} {e : rx_E} {ce : va_E} (he : rx_e ρ σ cy e ce) : rx_w (ρ ++ [a]) σ cy (ws ++ [e]) (cws ++ [(a, ce)]) := by
  refine ⟨by rw [List.map_append, h.1]; rfl, by simp [h.2.1], ?_⟩
  intro j e' hj
  by_cases hl : j < ws.length
  · rw [List.getElem?_append_left hl] at hj
    obtain ⟨a', ce', h1, h2⟩ := h.2.2 j e' hj
    exact ⟨a', ce', by rw [List.getElem?_append_left (by rw [← h.2.1]; exact hl)]; exact h1, h2.mono⟩
  · rw [List.getElem?_append_right (by omega)] at hj
    have hj0 : j - ws.length = 0 := by
      rcases Nat.eq_zero_or_pos (j - ws.length) with q | q
      · exact q
      · rw [List.getElem?_eq_none (show [e].length ≤ j - ws.length from q)] at hj; cases hj
    rw [hj0] at hj
    simp at hj
    subst hj
    refine ⟨a, ce, ?_, he.mono⟩
    rw [List.getElem?_append_right (by rw [← h.2.1]; omega), ← h.2.1, hj0]
    rfl
end

section
/-! THE RUN, and what it is for it to be sound -/
def rx_seek (pc : Nat) : rx_P → rx_P
  | [] => []
  | q :: t => cond (Nat.beq q.1 pc) (q :: t) (rx_seek pc t)
def rx_next (full : rx_P) (pc : Nat) : rx_P → rx_P
  | [] => rx_seek pc full
  | q :: t => cond (Nat.beq q.1 pc) (q :: t) (rx_seek pc full)
/-- a method's own data: owner, code, locals, answer's type, is it a constructor, room, its program -/
abbrev rx_M : Type := MethodName × ByteArray × Nat × Option FieldType × Room × rx_P
def rx_dflt : rx_M := (⟨"", "", ""⟩, ⟨#[]⟩, 0, none, {}, [])
noncomputable def rx_run (MT : Nat → rx_M) (n : Nat) : rx_P → rx_P → rx_S → Option rx_R :=
  Nat.rec (motive := fun _ => rx_P → rx_P → rx_S → Option rx_R) (fun _ _ _ => none)
    (fun _ ih full suf st => match suf with
      | [] => none
      | q :: rest => match q.2 (fun mid a w => cond (Nat.ble (a.map rx_cat).sum (MT mid).2.2.1) (ih (MT mid).2.2.2.2.2 (rx_seek 0 (MT mid).2.2.2.2.2) (rx_args 0 a, [], w, 0, 0)) none) st with
        | none => none
        | some (.inr r) => some r
        | some (.inl (pc, st')) => ih full (rx_next full pc rest) st') n
noncomputable def rx_call (MT : Nat → rx_M) (n : Nat) : rx_C := fun mid a w => cond (Nat.ble (a.map rx_cat).sum (MT mid).2.2.1) (rx_run MT n (MT mid).2.2.2.2.2 (rx_seek 0 (MT mid).2.2.2.2.2) (rx_args 0 a, [], w, 0, 0)) none
theorem rx_run_s (MT : Nat → rx_M) (n : Nat) (full : rx_P) (q : Nat × rx_T) (rest : rx_P) (st : rx_S) : rx_run MT (n + 1) full (q :: rest) st = match q.2 (rx_call MT n) st with
        | none => none
        | some (.inr r) => some r
        | some (.inl (pc, st')) => rx_run MT n full (rx_next full pc rest) st' := rfl
/-- the tables, as they stay -/
def rx_K (D : va_G) (cl : List vw_C) (TY : List (ClassId × FieldType)) (NW : List (String × Nat × MethodName × String)) (OC : List String) (U : State) : Prop :=
  va_K D cl TY U ∧ (∀ w ∈ NW, va_Nw (.methodLinkNest w.1 w.2.1 w.2.2.1 w.2.2.2) U) ∧ ∀ C ∈ OC, va_AO C U
theorem rx_K.warm {D : va_G} {cl : List vw_C} {TY : List (ClassId × FieldType)} {NW : List (String × Nat × MethodName × String)} {OC : List String} {s U : State} (h : rx_K D cl TY NW OC s) (hW : s.WarmedH U.vm) : rx_K D cl TY NW OC U :=
  ⟨va_K.moved hW.alike h.1, fun w hw => va_Nw.warmM hW (h.2.1 w hw), fun C hC => va_AO.moved hW.alike (h.2.2 C hC)⟩
theorem rx_K.same {D : va_G} {cl : List vw_C} {TY : List (ClassId × FieldType)} {NW : List (String × Nat × MethodName × String)} {OC : List String} {s U : State} (h : rx_K D cl TY NW OC s) (hv : s.vm = U.vm) : rx_K D cl TY NW OC U :=
  ⟨va_K.moved (by rw [hv]; exact Vm.Alike.refl U.vm) h.1, fun w hw => va_Nw.same rfl hv (h.2.1 w hw), fun C hC => va_AO.moved (by rw [hv]; exact Vm.Alike.refl U.vm) (h.2.2 C hC)⟩
/-- the world around all methods: launch, class numbers, classes, array classes, words, unknown ints -/
abbrev rx_G : Type := Launch × va_G × List vw_C × (Nat → ClassId) × List (ClassId × FieldType) × List (String × Nat × MethodName × String) × List String × List Cond × (Nat → Int32)
abbrev rx_G.l (G : rx_G) : Launch := G.1
abbrev rx_G.D (G : rx_G) : va_G := G.2.1
abbrev rx_G.cl (G : rx_G) : List vw_C := G.2.2.1
abbrev rx_G.cy (G : rx_G) : Nat → ClassId := G.2.2.2.1
abbrev rx_G.TY (G : rx_G) : List (ClassId × FieldType) := G.2.2.2.2.1
abbrev rx_G.NW (G : rx_G) : List (String × Nat × MethodName × String) := G.2.2.2.2.2.1
abbrev rx_G.OC (G : rx_G) : List String := G.2.2.2.2.2.2.1
abbrev rx_G.gT (G : rx_G) : List Cond := G.2.2.2.2.2.2.2.1
abbrev rx_G.sg (G : rx_G) : Nat → Int32 := G.2.2.2.2.2.2.2.2
/-- how a method ends -/
def rx_Q (G : rx_G) (ρ0 : List Nat) (r : rx_R) (A : Nat → Prop) : Array Value → State → Outcome → State → Prop := fun _ st oc t =>
  (∃ (v : Option Value) (tl : List Nat) (cws : va_W), oc = .returned v ∧ rx_o (ρ0 ++ tl) G.sg r.1 v ∧ rx_w (ρ0 ++ tl) G.sg G.cy r.2 cws ∧ va_P G.D G.cl cws t.heap ∧ va_D A cws) ∧ va_F A st t
def rx_Pc (G : rx_G) (ca : List Value) (cws : va_W) (sz : Nat) : Array Value → State → Prop := va_Pc ca (fun U => U.heap.size = sz ∧ va_P G.D G.cl cws U.heap ∧ rx_K G.D G.cl G.TY G.NW G.OC U ∧ va_D (fun _ => True) cws)
theorem rx_Pc.blind (G : rx_G) (ca : List Value) (cws : va_W) (sz : Nat) : FrameBlind (rx_Pc G ca cws sz) := by
  intro a U g mk h
  obtain ⟨h0, h1, h2, h3, h4⟩ := h
  exact ⟨h0, h1, h2, rx_K.same (s := U) (U := U.calling g mk a) h3 rfl, h4⟩
/-- a method's words: its code, and the tables' good ones -/
abbrev rx_ws (G : rx_G) (M : rx_M) : List Cond := Cond.code M.1 M.2.1 M.2.2.1 M.2.2.2.1 :: G.gT
/-- calls are answered as the real machine answers them -/
def rx_Ok (G : rx_G) (MT : Nat → rx_M) (rec : rx_C) : Prop :=
  ∀ (mid : Nat) (a : List Value) (ws : rx_W) (r : rx_R), rec mid a ws = some r → ∀ (ρ : List Nat) (cws : va_W) (sz : Nat) (ca : List Value), rx_w ρ G.sg G.cy ws cws → rx_l ρ G.sg a ca →
    Met G.l (MT mid).1 (rx_ws G (MT mid)) (MT mid).2.2.2.2.1 (rx_Pc G ca cws sz) (rx_Q G ρ r (va_A cws sz)) (MT mid).2.2.2.2.1.cells (MT mid).2.2.2.2.1.slots (va_A cws sz)
/-- what holds all through a method -/
def rx_X (G : rx_G) (M : rx_M) (p : Program) (s : State) (m : MethodId) (args : Array Value) (meth : Method) (c : Code) (A : Nat → Prop) : Prop :=
  p.tables.exec = Jvm.exec ∧ c.code = M.2.1 ∧ c.maxLocals = M.2.2.1 ∧ meth.sig.returnType = M.2.2.2.1 ∧ s.vm.findClass M.1.cls = some m.cls ∧ (∀ w ∈ G.gT, w.before args s = true) ∧ meth.locks = false ∧ meth.name = M.1.name ∧ rx_K G.D G.cl G.TY G.NW G.OC s ∧ ∀ q, s.heap.size ≤ q → A q
/-- the machine, at a place with what the state stands for, comes to the method's end -/
def rx_Go (G : rx_G) (M : rx_M) (p : Program) (e : Env) (s : State) (m : MethodId) (args : Array Value) (below : List Frame) (meth : Method) (c : Code) (A : Nat → Prop) (ρ0 : List Nat) (r : rx_R) (pc : Nat) (st : rx_S) : Prop :=
  ∀ (tl : List Nat) (cws : va_W) (H : Heap) (locs : List Loc) (ls : Array Slot) (cst : List Value) (clv : rx_L), rx_w (ρ0 ++ tl) G.sg G.cy st.2.2.1 cws → va_P G.D G.cl cws H → va_D A cws → va_S A s.heap H locs →
    rx_lv (ρ0 ++ tl) G.sg st.1 clv → lv_has ls M.2.2.1 clv → rx_l (ρ0 ++ tl) G.sg st.2.1 cst →
    W p G.l e M.2.2.2.2.1 s m args below meth c H locs st.2.2.2.1 st.2.2.2.2 (MQ below (rx_Q G ρ0 r A) args s M.2.2.2.2.1.cells M.2.2.2.2.1.slots A) (F0 m pc ls cst)
/-- an instruction's rule is sound -/
def rx_Sd (G : rx_G) (MT : Nat → rx_M) (M : rx_M) (pc : Nat) (tr : rx_T) : Prop :=
  ∀ (p : Program) (e : Env) (s : State) (m : MethodId) (args : Array Value) (below : List Frame) (meth : Method) (c : Code) (A : Nat → Prop), rx_X G M p s m args meth c A → ∀ rec : rx_C, rx_Ok G MT rec → ∀ (st : rx_S) (o : rx_O), tr rec st = some o → ∀ (ρ0 : List Nat) (r : rx_R),
    (match o with
      | .inl (pc', st') => rx_Go G M p e s m args below meth c A ρ0 r pc' st'
      | .inr r' => r' = r) → rx_Go G M p e s m args below meth c A ρ0 r pc st
theorem rx_seek_ok {pc : Nat} : ∀ {full : rx_P} {q : Nat × rx_T} {rest : rx_P}, rx_seek pc full = q :: rest → q.1 = pc ∧ ∀ x ∈ q :: rest, x ∈ full
  | [], _, _, h => by simp [rx_seek] at h
  | x :: t, q, rest, h => by
    simp only [rx_seek] at h
    cases hb : Nat.beq x.1 pc with
    | true =>
      rw [hb] at h
      simp only [cond_true] at h
      cases h
      exact ⟨Nat.eq_of_beq_eq_true hb, fun _ h => h⟩
    | false =>
      rw [hb] at h
      obtain ⟨h1, h2⟩ := rx_seek_ok (full := t) h
      exact ⟨h1, fun y hy => List.mem_cons_of_mem _ (h2 y hy)⟩
theorem rx_next_ok {pc : Nat} {full rest0 : rx_P} (h0 : ∀ x ∈ rest0, x ∈ full) {q : Nat × rx_T} {rest : rx_P} (h : rx_next full pc rest0 = q :: rest) : q.1 = pc ∧ ∀ x ∈ q :: rest, x ∈ full := by
  cases rest0 with
  | nil => exact rx_seek_ok h
  | cons x t =>
    simp only [rx_next] at h
    cases hb : Nat.beq x.1 pc with
    | true =>
      rw [hb] at h
      simp only [cond_true] at h
      cases h
      exact ⟨Nat.eq_of_beq_eq_true hb, h0⟩
    | false =>
      rw [hb] at h
      exact rx_seek_ok h
/-- the methods' programs are sound, rule by rule -/
def rx_All (G : rx_G) (MT : Nat → rx_M) : Prop := ∀ mid : Nat, (MT mid).2.2.2.2.2 ≠ [] → plainName (MT mid).1.cls = true ∧ ∀ q ∈ (MT mid).2.2.2.2.2, rx_Sd G MT (MT mid) q.1 q.2
theorem rx_sound {G : rx_G} {MT : Nat → rx_M} (hall : rx_All G MT) : ∀ n : Nat, rx_Ok G MT (rx_call MT n) ∧
    ∀ (M : rx_M) (full suf : rx_P) (st : rx_S) (r : rx_R), (∀ q ∈ full, rx_Sd G MT M q.1 q.2) → (∀ q ∈ suf, q ∈ full) → rx_run MT n full suf st = some r →
      ∀ (q : Nat × rx_T) (rest : rx_P), suf = q :: rest → ∀ (p : Program) (e : Env) (s : State) (m : MethodId) (args : Array Value) (below : List Frame) (meth : Method) (c : Code) (A : Nat → Prop), rx_X G M p s m args meth c A → ∀ ρ0 : List Nat, rx_Go G M p e s m args below meth c A ρ0 r q.1 st := by
  have top : ∀ n : Nat, (∀ (M : rx_M) (full suf : rx_P) (st : rx_S) (r : rx_R), (∀ q ∈ full, rx_Sd G MT M q.1 q.2) → (∀ q ∈ suf, q ∈ full) → rx_run MT n full suf st = some r →
      ∀ (q : Nat × rx_T) (rest : rx_P), suf = q :: rest → ∀ (p : Program) (e : Env) (s : State) (m : MethodId) (args : Array Value) (below : List Frame) (meth : Method) (c : Code) (A : Nat → Prop), rx_X G M p s m args meth c A → ∀ ρ0 : List Nat, rx_Go G M p e s m args below meth c A ρ0 r q.1 st) → rx_Ok G MT (rx_call MT n) := by
    intro n ih mid a ws r hrun ρ cws sz ca hw ha
    unfold rx_call at hrun
    cases hsz : Nat.ble (a.map rx_cat).sum (MT mid).2.2.1 with
    | false => rw [hsz] at hrun; cases hrun
    | true =>
      rw [hsz] at hrun
      simp only [cond_true] at hrun
      have hsz := Nat.le_of_ble_eq_true hsz
      cases hs : rx_seek 0 (MT mid).2.2.2.2.2 with
      | nil =>
        rw [hs] at hrun
        cases n with
        | zero => cases hrun
        | succ n => cases hrun
      | cons q rest =>
        obtain ⟨hq0, hin⟩ := rx_seek_ok hs
        rw [hs] at hrun
        have hne : (MT mid).2.2.2.2.2 ≠ [] := fun h => by rw [h] at hs; cases hs
        obtain ⟨hpl, hsd⟩ := hall mid hne
        refine Met.ofW (cc := (MT mid).2.1) (maxL := (MT mid).2.2.1) (ret := (MT mid).2.2.2.1) (ws' := G.gT) hpl rfl ?_
        intro p e s m args below meth c s₁ B hml hv
        obtain ⟨rfl, hz, hP, hK, hD0⟩ := hv
        have hts := atoms_spec (ws := rx_ws G (MT mid)) B.pre
        have hl := lv_entry ca (n := (MT mid).2.2.1) (by rw [rx_sl_len, ha.cats]; exact hsz)
        have X : rx_X G (MT mid) p s m ca.toArray meth c (va_A cws sz) := ⟨B.exec, B.bytes, hml, B.returns, findClass_of_methodNamed B.named, fun w hw => hts w (List.mem_cons_of_mem _ hw), B.notSynchronized, (name_of_methodNamed B.named B.method).1, hK, fun q hq => Or.inr (by rw [← hz]; exact hq)⟩
        have K := ih (MT mid) (MT mid).2.2.2.2.2 (q :: rest) (rx_args 0 a, [], ws, 0, 0) r hsd hin hrun q rest rfl p e s m ca.toArray below meth c (va_A cws sz) X ρ
        rw [hq0] at K
        rw [lg_entry_eq]
        refine K [] cws s.heap [] _ [] (lv_args 0 ca) ?_ hP hD0.self va_S.rf ?_ hl trivial
        · rw [List.append_nil]; exact hw
        · rw [List.append_nil]; exact ha.args 0
  intro n
  induction n with
  | zero =>
    have h0 : ∀ (M : rx_M) (full suf : rx_P) (st : rx_S) (r : rx_R), (∀ q ∈ full, rx_Sd G MT M q.1 q.2) → (∀ q ∈ suf, q ∈ full) → rx_run MT 0 full suf st = some r →
      ∀ (q : Nat × rx_T) (rest : rx_P), suf = q :: rest → ∀ (p : Program) (e : Env) (s : State) (m : MethodId) (args : Array Value) (below : List Frame) (meth : Method) (c : Code) (A : Nat → Prop), rx_X G M p s m args meth c A → ∀ ρ0 : List Nat, rx_Go G M p e s m args below meth c A ρ0 r q.1 st := by
      intro M full suf st r _ _ h
      cases h
    exact ⟨top 0 h0, h0⟩
  | succ n ih =>
    have h1 : ∀ (M : rx_M) (full suf : rx_P) (st : rx_S) (r : rx_R), (∀ q ∈ full, rx_Sd G MT M q.1 q.2) → (∀ q ∈ suf, q ∈ full) → rx_run MT (n + 1) full suf st = some r →
      ∀ (q : Nat × rx_T) (rest : rx_P), suf = q :: rest → ∀ (p : Program) (e : Env) (s : State) (m : MethodId) (args : Array Value) (below : List Frame) (meth : Method) (c : Code) (A : Nat → Prop), rx_X G M p s m args meth c A → ∀ ρ0 : List Nat, rx_Go G M p e s m args below meth c A ρ0 r q.1 st := by
      intro M full suf st r hsd hin hrun q rest hsuf p e s m args below meth c A X ρ0
      subst hsuf
      rw [rx_run_s] at hrun
      have hq := hsd q (hin q List.mem_cons_self) p e s m args below meth c A X (rx_call MT n) ih.1 st
      cases ho : q.2 (rx_call MT n) st with
      | none => rw [ho] at hrun; cases hrun
      | some o =>
        rw [ho] at hrun
        refine hq o ho ρ0 r ?_
        match o, hrun with
        | .inr r', hrun => exact Option.some.inj hrun
        | .inl (pc', st'), hrun =>
          show rx_Go G M p e s m args below meth c A ρ0 r pc' st'
          have hrun : rx_run MT n full (rx_next full pc' rest) st' = some r := hrun
          cases hn : rx_next full pc' rest with
          | nil =>
            rw [hn] at hrun
            cases n with
            | zero => cases hrun
            | succ n => cases hrun
          | cons q' rest' =>
            obtain ⟨g1, g2⟩ := rx_next_ok (fun x hx => hin x (List.mem_cons_of_mem _ hx)) hn
            rw [hn] at hrun
            have := ih.2 M full (q' :: rest') st' r hsd g2 hrun q' rest' rfl p e s m args below meth c A X ρ0
            rw [g1] at this
            exact this
    exact ⟨top (n + 1) h1, h1⟩
end

section
/-! RULES THAT TOUCH NO CELL -/
def rx_Step (cc : ByteArray) (pc pc' : Nat) (st st' : List Value) : Prop := ∀ (p : Program) (l : Launch) (e : Env) (R : Room) (s : State) (m : MethodId) (args : Array Value) (below : List Frame) (meth : Method) (c : Code) (H : Heap) (locs : List Loc) (cells slots : Nat) (Q : State → Prop) (ls : Array Slot),
  p.tables.exec = Jvm.exec → c.code = cc → W p l e R s m args below meth c H locs cells slots Q (F0 m pc' ls st') → W p l e R s m args below meth c H locs cells slots Q (F0 m pc ls st)
def rx_pure (f : List Value → Option (List Value)) (pc' : Nat) : rx_T := fun _ st => match f st.2.1 with
  | none => none
  | some k => some (.inl (pc', (st.1, k, st.2.2)))
theorem rx_sd_pure {G : rx_G} {MT : Nat → rx_M} {M : rx_M} {pc pc' : Nat} {f : List Value → Option (List Value)} (hf : ∀ (ρ : List Nat) (st cst st' : List Value), f st = some st' → rx_l ρ G.sg st cst → ∃ cst', rx_l ρ G.sg st' cst' ∧ rx_Step M.2.1 pc pc' cst cst') : rx_Sd G MT M pc (rx_pure f pc') := by
  intro p e s m args below meth c A X rec hrec st o h ρ0 r hgo
  obtain ⟨hx, hb, hml, hr, hown, hts, hlk, hnm, hK, hA⟩ := X
  unfold rx_pure at h
  cases hk : f st.2.1 with
  | none => rw [hk] at h; cases h
  | some k =>
    rw [hk] at h
    cases h
    intro tl cws H locs ls cst clv hw hP hD hS hlv hl hst
    obtain ⟨cst', g1, g2⟩ := hf (ρ0 ++ tl) st.2.1 cst k hk hst
    exact g2 p G.l e _ s m args below meth c H locs _ _ _ ls hx hb (hgo tl cws H locs ls cst' clv hw hP hD hS hlv hl g1)
section PU
variable {G : rx_G} {MT : Nat → rx_M} {M : rx_M} {pc : Nat}
def rx_push (v : Value) : List Value → Option (List Value) := fun st => some (v :: st)
theorem rx_sd_push {pc' : Nat} {v : Value} (hv : ∀ ρ, rx_v ρ G.sg v v) (hs : ∀ st, rx_Step M.2.1 pc pc' st (v :: st)) : rx_Sd G MT M pc (rx_pure (rx_push v) pc') := by
  refine rx_sd_pure (fun ρ st cst st' h hst => ?_)
  cases h
  exact ⟨v :: cst, ⟨hv ρ, hst⟩, hs cst⟩
theorem rx_sd_iconst {n : Int} {x : Int32} (d : decode M.2.1 pc = .ok (.iconst n, 1)) (hv : Int32.ofInt n = x) : rx_Sd G MT M pc (rx_pure (rx_push (.int x)) (pc + 1)) :=
  rx_sd_push (fun _ => rfl) (fun st p l e R s m args below meth c H locs cells slots Q ls hx hb k => lv_iconst hx hb d hv k)
theorem rx_sd_bipush {n : Int} {x : Int32} (d : decode M.2.1 pc = .ok (.bipush n, 2)) (hv : (Int8.ofInt n).toInt32 = x) : rx_Sd G MT M pc (rx_pure (rx_push (.int x)) (pc + 2)) :=
  rx_sd_push (fun _ => rfl) (fun st p l e R s m args below meth c H locs cells slots Q ls hx hb k => lv_bipush hx hb d hv k)
theorem rx_sd_sipush {n : Int} {x : Int32} (d : decode M.2.1 pc = .ok (.sipush n, 3)) (hv : (Int16.ofInt n).toInt32 = x) : rx_Sd G MT M pc (rx_pure (rx_push (.int x)) (pc + 3)) :=
  rx_sd_push (fun _ => rfl) (fun st p l e R s m args below meth c H locs cells slots Q ls hx hb k => lv_sipush hx hb d hv k)
theorem rx_sd_lconst {n : Fin 2} {x : Int64} (d : decode M.2.1 pc = .ok (.lconst n, 1)) (hv : Int64.ofNat (n : Nat) = x) : rx_Sd G MT M pc (rx_pure (rx_push (.long x)) (pc + 1)) :=
  rx_sd_push (fun _ => rfl) (fun st p l e R s m args below meth c H locs cells slots Q ls hx hb k => lv_lconst hx hb d hv k)
theorem rx_sd_null (d : decode M.2.1 pc = .ok (.aconst_null, 1)) : rx_Sd G MT M pc (rx_pure (rx_push .null) (pc + 1)) :=
  rx_sd_push (fun _ => rfl) (fun st p l e R s m args below meth c H locs cells slots Q ls hx hb k => lv_null hx hb d k)
noncomputable def rx_bi (g : Int32 → Int32 → Int32) : List Value → Option (List Value)
  | .int y :: .int x :: r => rx_fI (g x y) (fun z => some (.int z :: r))
  | _ => none
theorem rx_sd_bi {pc' : Nat} {g : Int32 → Int32 → Int32} (hs : ∀ x y r, rx_Step M.2.1 pc pc' (.int y :: .int x :: r) (.int (g x y) :: r)) : rx_Sd G MT M pc (rx_pure (rx_bi g) pc') := by
  refine rx_sd_pure (fun ρ st cst st' h hst => ?_)
  match st, cst, h, hst with
  | .int y :: .int x :: r, w1 :: w2 :: cr, h, ⟨h1, h2, h3⟩ =>
    simp only [rx_bi, rx_fI_eq] at h
    cases h; cases h1; cases h2
    exact ⟨.int (g x y) :: cr, ⟨rfl, h3⟩, hs x y cr⟩
theorem rx_sd_iadd (d : decode M.2.1 pc = .ok (.iadd, 1)) : rx_Sd G MT M pc (rx_pure (rx_bi (fun x y => x + y)) (pc + 1)) :=
  rx_sd_bi (fun x y r p l e R s m args below meth c H locs cells slots Q ls hx hb k => lv_iadd hx hb d k)
theorem rx_sd_isub (d : decode M.2.1 pc = .ok (.isub, 1)) : rx_Sd G MT M pc (rx_pure (rx_bi (fun x y => x - y)) (pc + 1)) :=
  rx_sd_bi (fun x y r p l e R s m args below meth c H locs cells slots Q ls hx hb k => lv_isub hx hb d k)
theorem rx_sd_imul (d : decode M.2.1 pc = .ok (.imul, 1)) : rx_Sd G MT M pc (rx_pure (rx_bi (fun x y => x * y)) (pc + 1)) :=
  rx_sd_bi (fun x y r p l e R s m args below meth c H locs cells slots Q ls hx hb k => lv_imul hx hb d k)
theorem rx_sd_iand (d : decode M.2.1 pc = .ok (.iand, 1)) : rx_Sd G MT M pc (rx_pure (rx_bi (fun x y => x &&& y)) (pc + 1)) :=
  rx_sd_bi (fun x y r p l e R s m args below meth c H locs cells slots Q ls hx hb k => lv_iand hx hb d k)
theorem rx_sd_ior (d : decode M.2.1 pc = .ok (.ior, 1)) : rx_Sd G MT M pc (rx_pure (rx_bi (fun x y => x ||| y)) (pc + 1)) :=
  rx_sd_bi (fun x y r p l e R s m args below meth c H locs cells slots Q ls hx hb k => lv_ior hx hb d k)
theorem rx_sd_ixor (d : decode M.2.1 pc = .ok (.ixor, 1)) : rx_Sd G MT M pc (rx_pure (rx_bi (fun x y => x ^^^ y)) (pc + 1)) :=
  rx_sd_bi (fun x y r p l e R s m args below meth c H locs cells slots Q ls hx hb k => lv_ixor hx hb d k)
theorem rx_sd_ishl (d : decode M.2.1 pc = .ok (.ishl, 1)) : rx_Sd G MT M pc (rx_pure (rx_bi (fun x y => x <<< (y &&& 31))) (pc + 1)) :=
  rx_sd_bi (fun x y r p l e R s m args below meth c H locs cells slots Q ls hx hb k => lv_ishl hx hb d k)
theorem rx_sd_ishr (d : decode M.2.1 pc = .ok (.ishr, 1)) : rx_Sd G MT M pc (rx_pure (rx_bi (fun x y => x >>> (y &&& 31))) (pc + 1)) :=
  rx_sd_bi (fun x y r p l e R s m args below meth c H locs cells slots Q ls hx hb k => lv_ishr hx hb d k)
theorem rx_sd_iushr (d : decode M.2.1 pc = .ok (.iushr, 1)) : rx_Sd G MT M pc (rx_pure (rx_bi (fun x y => (x.toUInt32 >>> (y.toUInt32 &&& Int32.toUInt32 31)).toInt32)) (pc + 1)) :=
  rx_sd_bi (fun x y r p l e R s m args below meth c H locs cells slots Q ls hx hb k => lv_iushr hx hb d rfl k)
noncomputable def rx_bid (g : Int32 → Int32 → Int32) : List Value → Option (List Value)
  | .int y :: .int x :: r => if y = 0 then none else rx_fI (g x y) (fun z => some (.int z :: r))
  | _ => none
theorem rx_sd_bid {pc' : Nat} {g : Int32 → Int32 → Int32} (hs : ∀ x y r, ¬ y = 0 → rx_Step M.2.1 pc pc' (.int y :: .int x :: r) (.int (g x y) :: r)) : rx_Sd G MT M pc (rx_pure (rx_bid g) pc') := by
  refine rx_sd_pure (fun ρ st cst st' h hst => ?_)
  match st, cst, h, hst with
  | .int y :: .int x :: r, w1 :: w2 :: cr, h, ⟨h1, h2, h3⟩ =>
    simp only [rx_bid, rx_fI_eq] at h
    split at h
    · cases h
    · next hy =>
      cases h; cases h1; cases h2
      exact ⟨.int (g x y) :: cr, ⟨rfl, h3⟩, hs x y cr hy⟩
theorem rx_sd_idiv (d : decode M.2.1 pc = .ok (.idiv, 1)) : rx_Sd G MT M pc (rx_pure (rx_bid (fun x y => x / y)) (pc + 1)) :=
  rx_sd_bid (fun x y r hy p l e R s m args below meth c H locs cells slots Q ls hx hb k => lv_idiv hx hb d hy k)
theorem rx_sd_irem (d : decode M.2.1 pc = .ok (.irem, 1)) : rx_Sd G MT M pc (rx_pure (rx_bid (fun x y => x - x / y * y)) (pc + 1)) :=
  rx_sd_bid (fun x y r hy p l e R s m args below meth c H locs cells slots Q ls hx hb k => lv_irem hx hb d hy k)
noncomputable def rx_lb (g : Int64 → Int64 → Int64) : List Value → Option (List Value)
  | .long y :: .long x :: r => rx_fL (g x y) (fun z => some (.long z :: r))
  | _ => none
theorem rx_sd_lb {pc' : Nat} {g : Int64 → Int64 → Int64} (hs : ∀ x y r, rx_Step M.2.1 pc pc' (.long y :: .long x :: r) (.long (g x y) :: r)) : rx_Sd G MT M pc (rx_pure (rx_lb g) pc') := by
  refine rx_sd_pure (fun ρ st cst st' h hst => ?_)
  match st, cst, h, hst with
  | .long y :: .long x :: r, w1 :: w2 :: cr, h, ⟨h1, h2, h3⟩ =>
    simp only [rx_lb, rx_fL_eq] at h
    cases h; cases h1; cases h2
    exact ⟨.long (g x y) :: cr, ⟨rfl, h3⟩, hs x y cr⟩
theorem rx_sd_ladd (d : decode M.2.1 pc = .ok (.ladd, 1)) : rx_Sd G MT M pc (rx_pure (rx_lb (fun x y => x + y)) (pc + 1)) :=
  rx_sd_lb (fun x y r p l e R s m args below meth c H locs cells slots Q ls hx hb k => lv_ladd hx hb d k)
theorem rx_sd_lsub (d : decode M.2.1 pc = .ok (.lsub, 1)) : rx_Sd G MT M pc (rx_pure (rx_lb (fun x y => x - y)) (pc + 1)) :=
  rx_sd_lb (fun x y r p l e R s m args below meth c H locs cells slots Q ls hx hb k => lv_lsub hx hb d k)
theorem rx_sd_lmul (d : decode M.2.1 pc = .ok (.lmul, 1)) : rx_Sd G MT M pc (rx_pure (rx_lb (fun x y => x * y)) (pc + 1)) :=
  rx_sd_lb (fun x y r p l e R s m args below meth c H locs cells slots Q ls hx hb k => lv_lmul hx hb d k)
theorem rx_sd_land (d : decode M.2.1 pc = .ok (.land, 1)) : rx_Sd G MT M pc (rx_pure (rx_lb (fun x y => x &&& y)) (pc + 1)) :=
  rx_sd_lb (fun x y r p l e R s m args below meth c H locs cells slots Q ls hx hb k => lv_land hx hb d k)
theorem rx_sd_lor (d : decode M.2.1 pc = .ok (.lor, 1)) : rx_Sd G MT M pc (rx_pure (rx_lb (fun x y => x ||| y)) (pc + 1)) :=
  rx_sd_lb (fun x y r p l e R s m args below meth c H locs cells slots Q ls hx hb k => lv_lor hx hb d k)
theorem rx_sd_lxor (d : decode M.2.1 pc = .ok (.lxor, 1)) : rx_Sd G MT M pc (rx_pure (rx_lb (fun x y => x ^^^ y)) (pc + 1)) :=
  rx_sd_lb (fun x y r p l e R s m args below meth c H locs cells slots Q ls hx hb k => lv_lxor hx hb d k)
noncomputable def rx_lbd (g : Int64 → Int64 → Int64) : List Value → Option (List Value)
  | .long y :: .long x :: r => if y = 0 then none else rx_fL (g x y) (fun z => some (.long z :: r))
  | _ => none
theorem rx_sd_lbd {pc' : Nat} {g : Int64 → Int64 → Int64} (hs : ∀ x y r, ¬ y = 0 → rx_Step M.2.1 pc pc' (.long y :: .long x :: r) (.long (g x y) :: r)) : rx_Sd G MT M pc (rx_pure (rx_lbd g) pc') := by
  refine rx_sd_pure (fun ρ st cst st' h hst => ?_)
  match st, cst, h, hst with
  | .long y :: .long x :: r, w1 :: w2 :: cr, h, ⟨h1, h2, h3⟩ =>
    simp only [rx_lbd, rx_fL_eq] at h
    split at h
    · cases h
    · next hy =>
      cases h; cases h1; cases h2
      exact ⟨.long (g x y) :: cr, ⟨rfl, h3⟩, hs x y cr hy⟩
theorem rx_sd_ldiv (d : decode M.2.1 pc = .ok (.ldiv, 1)) : rx_Sd G MT M pc (rx_pure (rx_lbd (fun x y => x / y)) (pc + 1)) :=
  rx_sd_lbd (fun x y r hy p l e R s m args below meth c H locs cells slots Q ls hx hb k => lv_ldiv hx hb d hy k)
theorem rx_sd_lrem (d : decode M.2.1 pc = .ok (.lrem, 1)) : rx_Sd G MT M pc (rx_pure (rx_lbd (fun x y => x - x / y * y)) (pc + 1)) :=
  rx_sd_lbd (fun x y r hy p l e R s m args below meth c H locs cells slots Q ls hx hb k => lv_lrem hx hb d hy k)
noncomputable def rx_ls (g : Int64 → Int32 → Int64) : List Value → Option (List Value)
  | .int y :: .long x :: r => rx_fL (g x y) (fun z => some (.long z :: r))
  | _ => none
theorem rx_sd_ls {pc' : Nat} {g : Int64 → Int32 → Int64} (hs : ∀ x y r, rx_Step M.2.1 pc pc' (.int y :: .long x :: r) (.long (g x y) :: r)) : rx_Sd G MT M pc (rx_pure (rx_ls g) pc') := by
  refine rx_sd_pure (fun ρ st cst st' h hst => ?_)
  match st, cst, h, hst with
  | .int y :: .long x :: r, w1 :: w2 :: cr, h, ⟨h1, h2, h3⟩ =>
    simp only [rx_ls, rx_fL_eq] at h
    cases h; cases h1; cases h2
    exact ⟨.long (g x y) :: cr, ⟨rfl, h3⟩, hs x y cr⟩
theorem rx_sd_lshl (d : decode M.2.1 pc = .ok (.lshl, 1)) : rx_Sd G MT M pc (rx_pure (rx_ls (fun x y => x <<< (y.toInt64 &&& 63))) (pc + 1)) :=
  rx_sd_ls (fun x y r p l e R s m args below meth c H locs cells slots Q ls hx hb k => lv_lshl hx hb d rfl k)
theorem rx_sd_lshr (d : decode M.2.1 pc = .ok (.lshr, 1)) : rx_Sd G MT M pc (rx_pure (rx_ls (fun x y => x >>> (y.toInt64 &&& 63))) (pc + 1)) :=
  rx_sd_ls (fun x y r p l e R s m args below meth c H locs cells slots Q ls hx hb k => lv_lshr hx hb d rfl k)
theorem rx_sd_lushr (d : decode M.2.1 pc = .ok (.lushr, 1)) : rx_Sd G MT M pc (rx_pure (rx_ls (fun x y => (x.toUInt64 >>> (y.toInt64.toUInt64 &&& Int64.toUInt64 63)).toInt64)) (pc + 1)) :=
  rx_sd_ls (fun x y r p l e R s m args below meth c H locs cells slots Q ls hx hb k => lv_lushr hx hb d rfl k)
noncomputable def rx_ineg : List Value → Option (List Value)
  | .int x :: r => rx_fI (-x) (fun z => some (.int z :: r))
  | _ => none
theorem rx_sd_ineg (d : decode M.2.1 pc = .ok (.ineg, 1)) : rx_Sd G MT M pc (rx_pure rx_ineg (pc + 1)) := by
  refine rx_sd_pure (fun ρ st cst st' h hst => ?_)
  match st, cst, h, hst with
  | .int x :: r, w1 :: cr, h, ⟨h1, h3⟩ =>
    simp only [rx_ineg, rx_fI_eq] at h
    cases h; cases h1
    exact ⟨.int (-x) :: cr, ⟨rfl, h3⟩, fun p l e R s m args below meth c H locs cells slots Q ls hx hb k => lv_ineg hx hb d k⟩
noncomputable def rx_lneg : List Value → Option (List Value)
  | .long x :: r => rx_fL (-x) (fun z => some (.long z :: r))
  | _ => none
theorem rx_sd_lneg (d : decode M.2.1 pc = .ok (.lneg, 1)) : rx_Sd G MT M pc (rx_pure rx_lneg (pc + 1)) := by
  refine rx_sd_pure (fun ρ st cst st' h hst => ?_)
  match st, cst, h, hst with
  | .long x :: r, w1 :: cr, h, ⟨h1, h3⟩ =>
    simp only [rx_lneg, rx_fL_eq] at h
    cases h; cases h1
    exact ⟨.long (-x) :: cr, ⟨rfl, h3⟩, fun p l e R s m args below meth c H locs cells slots Q ls hx hb k => lv_lneg hx hb d k⟩
noncomputable def rx_i2l : List Value → Option (List Value)
  | .int x :: r => rx_fL x.toInt64 (fun z => some (.long z :: r))
  | _ => none
theorem rx_sd_i2l (d : decode M.2.1 pc = .ok (.i2l, 1)) : rx_Sd G MT M pc (rx_pure rx_i2l (pc + 1)) := by
  refine rx_sd_pure (fun ρ st cst st' h hst => ?_)
  match st, cst, h, hst with
  | .int x :: r, w1 :: cr, h, ⟨h1, h3⟩ =>
    simp only [rx_i2l, rx_fL_eq] at h
    cases h; cases h1
    exact ⟨.long x.toInt64 :: cr, ⟨rfl, h3⟩, fun p l e R s m args below meth c H locs cells slots Q ls hx hb k => lv_i2l hx hb d rfl k⟩
noncomputable def rx_l2i : List Value → Option (List Value)
  | .long x :: r => rx_fI x.toInt32 (fun z => some (.int z :: r))
  | _ => none
theorem rx_sd_l2i (d : decode M.2.1 pc = .ok (.l2i, 1)) : rx_Sd G MT M pc (rx_pure rx_l2i (pc + 1)) := by
  refine rx_sd_pure (fun ρ st cst st' h hst => ?_)
  match st, cst, h, hst with
  | .long x :: r, w1 :: cr, h, ⟨h1, h3⟩ =>
    simp only [rx_l2i, rx_fI_eq] at h
    cases h; cases h1
    exact ⟨.int x.toInt32 :: cr, ⟨rfl, h3⟩, fun p l e R s m args below meth c H locs cells slots Q ls hx hb k => lv_l2i hx hb d rfl k⟩
noncomputable def rx_lcmp : List Value → Option (List Value)
  | .long y :: .long x :: r => rx_fI (lg_cmp x y) (fun z => some (.int z :: r))
  | _ => none
theorem rx_sd_lcmp (d : decode M.2.1 pc = .ok (.lcmp, 1)) : rx_Sd G MT M pc (rx_pure rx_lcmp (pc + 1)) := by
  refine rx_sd_pure (fun ρ st cst st' h hst => ?_)
  match st, cst, h, hst with
  | .long y :: .long x :: r, w1 :: w2 :: cr, h, ⟨h1, h2, h3⟩ =>
    simp only [rx_lcmp, rx_fI_eq] at h
    cases h; cases h1; cases h2
    exact ⟨.int (lg_cmp x y) :: cr, ⟨rfl, h3⟩, fun p l e R s m args below meth c H locs cells slots Q ls hx hb k => W.lcmp hx hb d k⟩
def rx_dup : List Value → Option (List Value)
  | v :: r => cond (Nat.beq (rx_cat v) 1) (some (v :: v :: r)) none
  | _ => none
theorem rx_cond_some {α : Type} {b : Bool} {x : Option α} {y : α} (h : cond b x none = some y) : b = true ∧ x = some y := by
  cases b with
  | true => exact ⟨rfl, h⟩
  | false => cases h
theorem rx_sd_dup (d : decode M.2.1 pc = .ok (.dup, 1)) : rx_Sd G MT M pc (rx_pure rx_dup (pc + 1)) := by
  refine rx_sd_pure (fun ρ st cst st' h hst => ?_)
  match st, cst, h, hst with
  | v :: r, w :: cr, h, ⟨h1, h3⟩ =>
    obtain ⟨g1, g2⟩ := rx_cond_some h
    cases g2
    exact ⟨w :: w :: cr, ⟨h1, h1, h3⟩, fun p l e R s m args below meth c H locs cells slots Q ls hx hb k => lv_dup hx hb d (h1.cat'.trans (Nat.eq_of_beq_eq_true g1)) k⟩
def rx_pop : List Value → Option (List Value)
  | v :: r => cond (Nat.beq (rx_cat v) 1) (some r) none
  | _ => none
theorem rx_sd_pop (d : decode M.2.1 pc = .ok (.pop, 1)) : rx_Sd G MT M pc (rx_pure rx_pop (pc + 1)) := by
  refine rx_sd_pure (fun ρ st cst st' h hst => ?_)
  match st, cst, h, hst with
  | v :: r, w :: cr, h, ⟨h1, h3⟩ =>
    obtain ⟨g1, g2⟩ := rx_cond_some h
    cases g2
    exact ⟨cr, h3, fun p l e R s m args below meth c H locs cells slots Q ls hx hb k => lv_pop hx hb d (h1.cat'.trans (Nat.eq_of_beq_eq_true g1)) k⟩
def rx_dup2 : List Value → Option (List Value)
  | v :: u :: r => cond (Nat.beq (rx_cat v) 1 && Nat.beq (rx_cat u) 1) (some (v :: u :: v :: u :: r)) none
  | _ => none
theorem rx_sd_dup2 (d : decode M.2.1 pc = .ok (.dup2, 1)) : rx_Sd G MT M pc (rx_pure rx_dup2 (pc + 1)) := by
  refine rx_sd_pure (fun ρ st cst st' h hst => ?_)
  match st, cst, h, hst with
  | v :: u :: r, w :: w2 :: cr, h, ⟨h1, h2, h3⟩ =>
    obtain ⟨g1, g2⟩ := rx_cond_some h
    cases g2
    rw [Bool.and_eq_true] at g1
    exact ⟨w :: w2 :: w :: w2 :: cr, ⟨h1, h2, h1, h2, h3⟩, fun p l e R s m args below meth c H locs cells slots Q ls hx hb k => lv_dup2_11 hx hb d (h1.cat'.trans (Nat.eq_of_beq_eq_true g1.1)) (h2.cat'.trans (Nat.eq_of_beq_eq_true g1.2)) k⟩
/-- branches -/
def rx_br (f : List Value → Option (Bool × List Value)) (tgt nxt : Nat) : rx_T := fun _ st => match f st.2.1 with
  | none => none
  | some (b, k) => some (.inl (cond b tgt nxt, (st.1, k, st.2.2)))
theorem rx_sd_br {tgt nxt : Nat} {f : List Value → Option (Bool × List Value)} (hf : ∀ (ρ : List Nat) (st cst st' : List Value) (b : Bool), f st = some (b, st') → rx_l ρ G.sg st cst → ∃ cst', rx_l ρ G.sg st' cst' ∧ rx_Step M.2.1 pc (cond b tgt nxt) cst cst') : rx_Sd G MT M pc (rx_br f tgt nxt) := by
  intro p e s m args below meth c A X rec hrec st o h ρ0 r hgo
  obtain ⟨hx, hb, hml, hr, hown, hts, hlk, hnm, hK, hA⟩ := X
  unfold rx_br at h
  cases hk : f st.2.1 with
  | none => rw [hk] at h; cases h
  | some k =>
    obtain ⟨b, k⟩ := k
    rw [hk] at h
    cases h
    intro tl cws H locs ls cst clv hw hP hD hS hlv hl hst
    obtain ⟨cst', g1, g2⟩ := hf (ρ0 ++ tl) st.2.1 cst k b hk hst
    exact g2 p G.l e _ s m args below meth c H locs _ _ _ ls hx hb (hgo tl cws H locs ls cst' clv hw hP hD hS hlv hl g1)
def rx_goto : List Value → Option (Bool × List Value) := fun st => some (true, st)
theorem rx_sd_goto {off : Int} {tgt nxt : Nat} (d : decode M.2.1 pc = .ok (.goto off, 3)) (ht : (pc : Int) + off = (tgt : Int)) : rx_Sd G MT M pc (rx_br rx_goto tgt nxt) := by
  refine rx_sd_br (fun ρ st cst st' b h hst => ?_)
  cases h
  exact ⟨cst, hst, fun p l e R s m args below meth c H locs cells slots Q ls hx hb k => lv_goto hx hb d ht k⟩
def rx_nul : List Value → Option (Bool × List Value)
  | .null :: r => some (true, r)
  | .ref _ :: r => some (false, r)
  | _ => none
theorem rx_sd_ifnull {off : Int} {tgt : Nat} (d : decode M.2.1 pc = .ok (.ifnull off, 3)) (ht : (pc : Int) + off = (tgt : Int)) : rx_Sd G MT M pc (rx_br rx_nul tgt (pc + 3)) := by
  refine rx_sd_br (fun ρ st cst st' b h hst => ?_)
  match st, cst, h, hst with
  | .null :: r, w :: cr, h, ⟨h1, h3⟩ =>
    cases h; cases h1
    exact ⟨cr, h3, fun p l e R s m args below meth c H locs cells slots Q ls hx hb k => lv_ifnullN hx hb d ht k⟩
  | .ref a :: r, w :: cr, h, ⟨h1, h3⟩ =>
    cases h
    obtain ⟨a', -, h1⟩ := h1
    cases h1
    exact ⟨cr, h3, fun p l e R s m args below meth c H locs cells slots Q ls hx hb k => lv_ifnull hx hb d k⟩
def rx_YOk (Y : rx_Y) (σ : Nat → Int32) : Prop := (∀ (n : Nat) (q : Int × Int), Y.1[n]? = some q → q.1 ≤ (σ n).toInt ∧ (σ n).toInt ≤ q.2) ∧ ∀ q ∈ Y.2, (σ q.1 < σ q.2.1 ↔ q.2.2 = true)
def rx_iv (Y : rx_Y) : Value → Option (Int × Int)
  | .int x => some (x.toInt, x.toInt)
  | .float n => Y.1[n.toNat]?
  | _ => none
theorem rx_iv_ok {Y : rx_Y} {ρ : List Nat} {σ : Nat → Int32} (hY : rx_YOk Y σ) {v w : Value} {q : Int × Int} (h : rx_iv Y v = some q) (hv : rx_v ρ σ v w) : ∃ x : Int32, w = .int x ∧ q.1 ≤ x.toInt ∧ x.toInt ≤ q.2 := by
  cases v with
  | int x => cases h; cases hv; exact ⟨x, rfl, Int.le_refl _, Int.le_refl _⟩
  | float n => cases hv; exact ⟨_, rfl, hY.1 _ _ h⟩
  | _ => cases h
def rx_rel : List (Nat × Nat × Bool) → Nat → Nat → Option Bool
  | [], _, _ => none
  | (a, b, c) :: t, i, j => cond (Nat.beq a i && Nat.beq b j) (some c) (rx_rel t i j)
theorem rx_rel_ok : ∀ {t : List (Nat × Nat × Bool)} {i j : Nat} {b : Bool}, rx_rel t i j = some b → (i, j, b) ∈ t
  | [], _, _, _, h => by cases h
  | (a, b, c) :: t, i, j, x, h => by
    simp only [rx_rel] at h
    cases hb : (Nat.beq a i && Nat.beq b j) with
    | true =>
      rw [hb] at h
      rw [Bool.and_eq_true] at hb
      have h1 := Nat.eq_of_beq_eq_true hb.1
      have h2 := Nat.eq_of_beq_eq_true hb.2
      cases h
      subst h1; subst h2
      exact List.mem_cons_self
    | false =>
      rw [hb] at h
      exact List.mem_cons_of_mem _ (rx_rel_ok h)
def rx_rels (Y : rx_Y) : Value → Value → Option Bool
  | .float n, .float k => rx_rel Y.2 n.toNat k.toNat
  | _, _ => none
def rx_lt2 (Y : rx_Y) (v w : Value) : Option Bool := match rx_iv Y v, rx_iv Y w with
  | some q, some r => if q.2 < r.1 then some true else if r.2 ≤ q.1 then some false else rx_rels Y v w
  | _, _ => none
def rx_lt (Y : rx_Y) (v w : Value) : Option Bool := match v, w with
  | .int x, .int y => some (decide (x < y))
  | v, w => rx_lt2 Y v w
theorem rx_lt_ok {Y : rx_Y} {ρ : List Nat} {σ : Nat → Int32} (hY : rx_YOk Y σ) {v w v' w' : Value} {b : Bool} (h : rx_lt Y v w = some b) (hv : rx_v ρ σ v v') (hw : rx_v ρ σ w w') : ∃ x y : Int32, v' = .int x ∧ w' = .int y ∧ (x < y ↔ b = true) := by
  unfold rx_lt at h
  split at h
  · next x y =>
    cases hv; cases hw
    cases h
    exact ⟨x, y, rfl, rfl, by simp⟩
  · unfold rx_lt2 at h
    cases h1 : rx_iv Y v with
    | none => rw [h1] at h; cases h
    | some q =>
      cases h2 : rx_iv Y w with
      | none => rw [h1, h2] at h; cases h
      | some r =>
        rw [h1, h2] at h
        obtain ⟨x, e1, a1, a2⟩ := rx_iv_ok hY h1 hv
        obtain ⟨y, e2, b1, b2⟩ := rx_iv_ok hY h2 hw
        refine ⟨x, y, e1, e2, ?_⟩
        simp only at h
        split at h
        · cases h
          simp only [iff_true]
          rw [Int32.lt_iff_toInt_lt]
          omega
        · split at h
          · cases h
            simp only [Bool.false_eq_true, iff_false]
            rw [Int32.lt_iff_toInt_lt]
            omega
          · unfold rx_rels at h
            split at h
            · next n k =>
              have := hY.2 _ (rx_rel_ok h)
              cases hv; cases hw
              cases e1; cases e2
              exact this
            · cases h
def rx_eq2 (Y : rx_Y) (v w : Value) : Option Bool := match rx_iv Y v, rx_iv Y w with
  | some q, some r => if q.2 < r.1 ∨ r.2 < q.1 then some false else none
  | _, _ => none
def rx_eq (Y : rx_Y) (v w : Value) : Option Bool := match v, w with
  | .int x, .int y => some (decide (x = y))
  | v, w => rx_eq2 Y v w
theorem rx_eq_ok {Y : rx_Y} {ρ : List Nat} {σ : Nat → Int32} (hY : rx_YOk Y σ) {v w v' w' : Value} {b : Bool} (h : rx_eq Y v w = some b) (hv : rx_v ρ σ v v') (hw : rx_v ρ σ w w') : ∃ x y : Int32, v' = .int x ∧ w' = .int y ∧ (x = y ↔ b = true) := by
  unfold rx_eq at h
  split at h
  · next x y =>
    cases hv; cases hw
    cases h
    exact ⟨x, y, rfl, rfl, by simp⟩
  · unfold rx_eq2 at h
    cases h1 : rx_iv Y v with
    | none => rw [h1] at h; cases h
    | some q =>
      cases h2 : rx_iv Y w with
      | none => rw [h1, h2] at h; cases h
      | some r =>
        rw [h1, h2] at h
        obtain ⟨x, e1, a1, a2⟩ := rx_iv_ok hY h1 hv
        obtain ⟨y, e2, b1, b2⟩ := rx_iv_ok hY h2 hw
        refine ⟨x, y, e1, e2, ?_⟩
        simp only at h
        split at h
        · cases h
          simp only [Bool.false_eq_true, iff_false]
          intro hxy
          subst hxy
          omega
        · cases h
/-- which test: 0 lt, 1 ge, 2 gt, 3 le, 4 eq, 5 ne -/
def rx_tst (Y : rx_Y) (op : Nat) (v w : Value) : Option Bool := match op with
  | 0 => rx_lt Y v w
  | 1 => (rx_lt Y v w).map (!·)
  | 2 => rx_lt Y w v
  | 3 => (rx_lt Y w v).map (!·)
  | 4 => rx_eq Y v w
  | _ => (rx_eq Y v w).map (!·)
def rx_cmp (Y : rx_Y) (op : Nat) : List Value → Option (Bool × List Value)
  | w :: v :: r => match rx_tst Y op v w with
    | none => none
    | some b => some (b, r)
  | _ => none
def rx_cm0 (Y : rx_Y) (op : Nat) : List Value → Option (Bool × List Value)
  | v :: r => match rx_tst Y op v (.int 0) with
    | none => none
    | some b => some (b, r)
  | _ => none
def rx_tp (op : Nat) (x y : Int32) : Prop := match op with
  | 0 => x < y
  | 1 => y ≤ x
  | 2 => y < x
  | 3 => x ≤ y
  | 4 => x = y
  | _ => ¬ x = y
theorem rx_tst_ok {Y : rx_Y} {ρ : List Nat} {σ : Nat → Int32} (hY : rx_YOk Y σ) {op : Nat} {v w cv cw : Value} {b : Bool} (ht : rx_tst Y op v w = some b) (h2 : rx_v ρ σ v cv) (h1 : rx_v ρ σ w cw) : ∃ x y : Int32, cv = .int x ∧ cw = .int y ∧ (rx_tp op x y ↔ b = true) := by
  match op, ht with
  | 0, ht => exact rx_lt_ok hY ht h2 h1
  | 1, ht =>
    simp only [rx_tst, Option.map_eq_some_iff] at ht
    obtain ⟨b0, g1, g2⟩ := ht
    obtain ⟨x, y, e1, e2, e3⟩ := rx_lt_ok hY g1 h2 h1
    refine ⟨x, y, e1, e2, ?_⟩
    rw [Int32.lt_iff_toInt_lt] at e3
    show y ≤ x ↔ _
    rw [Int32.le_iff_toInt_le]
    subst g2
    cases b0 <;> simp at e3 ⊢ <;> omega
  | 2, ht =>
    obtain ⟨y, x, e1, e2, e3⟩ := rx_lt_ok hY ht h1 h2
    exact ⟨x, y, e2, e1, e3⟩
  | 3, ht =>
    simp only [rx_tst, Option.map_eq_some_iff] at ht
    obtain ⟨b0, g1, g2⟩ := ht
    obtain ⟨y, x, e1, e2, e3⟩ := rx_lt_ok hY g1 h1 h2
    refine ⟨x, y, e2, e1, ?_⟩
    rw [Int32.lt_iff_toInt_lt] at e3
    show x ≤ y ↔ _
    rw [Int32.le_iff_toInt_le]
    subst g2
    cases b0 <;> simp at e3 ⊢ <;> omega
  | 4, ht => exact rx_eq_ok hY ht h2 h1
  | n + 5, ht =>
    simp only [rx_tst, Option.map_eq_some_iff] at ht
    obtain ⟨b0, g1, g2⟩ := ht
    obtain ⟨x, y, e1, e2, e3⟩ := rx_eq_ok hY g1 h2 h1
    refine ⟨x, y, e1, e2, ?_⟩
    subst g2
    show ¬ x = y ↔ _
    cases b0 <;> simp at e3 ⊢ <;> exact e3
theorem rx_sd_cmp {Y : rx_Y} (hY : rx_YOk Y G.sg) (op tgt : Nat) (hs : ∀ (x y : Int32) (b : Bool) (r : List Value), (rx_tp op x y ↔ b = true) → rx_Step M.2.1 pc (cond b tgt (pc + 3)) (.int y :: .int x :: r) r) : rx_Sd G MT M pc (rx_br (rx_cmp Y op) tgt (pc + 3)) := by
  refine rx_sd_br (fun ρ st cst st' b h hst => ?_)
  match st, cst, h, hst with
  | w :: v :: r, cw :: cv :: cr, h, ⟨h1, h2, h3⟩ =>
    unfold rx_cmp at h
    simp only at h
    cases ht : rx_tst Y op v w with
    | none => rw [ht] at h; cases h
    | some b' =>
      rw [ht] at h
      cases h
      obtain ⟨x, y, rfl, rfl, hk⟩ := rx_tst_ok hY ht h2 h1
      exact ⟨cr, h3, hs x y b cr hk⟩
theorem rx_sd_cm0 {Y : rx_Y} (hY : rx_YOk Y G.sg) (op tgt : Nat) (hs : ∀ (x : Int32) (b : Bool) (r : List Value), (rx_tp op x 0 ↔ b = true) → rx_Step M.2.1 pc (cond b tgt (pc + 3)) (.int x :: r) r) : rx_Sd G MT M pc (rx_br (rx_cm0 Y op) tgt (pc + 3)) := by
  refine rx_sd_br (fun ρ st cst st' b h hst => ?_)
  match st, cst, h, hst with
  | v :: r, cv :: cr, h, ⟨h2, h3⟩ =>
    unfold rx_cm0 at h
    simp only at h
    cases ht : rx_tst Y op v (.int 0) with
    | none => rw [ht] at h; cases h
    | some b' =>
      rw [ht] at h
      cases h
      obtain ⟨x, y, rfl, e2, hk⟩ := rx_tst_ok (ρ := ρ) hY ht h2 (show rx_v ρ G.sg (.int 0) (.int 0) from rfl)
      cases e2
      exact ⟨cr, h3, hs x b cr hk⟩
theorem rx_two {P : Prop} {b : Bool} (A : Bool → Prop) (hk : P ↔ b = true) (k : A b) : (P → A true) ∧ (¬ P → A false) := by
  cases b with
  | true => exact ⟨fun _ => k, fun h => absurd (hk.mpr rfl) h⟩
  | false => exact ⟨fun h => absurd (hk.mp h) (by simp), fun _ => k⟩
theorem rx_sd_icmp_lt {Y : rx_Y} (hY : rx_YOk Y G.sg) {off : Int} {tgt : Nat} (d : decode M.2.1 pc = .ok (.if_icmp .lt off, 3)) (ht : (pc : Int) + off = (tgt : Int)) : rx_Sd G MT M pc (rx_br (rx_cmp Y 0) tgt (pc + 3)) :=
  rx_sd_cmp hY 0 tgt (fun x y b r hk p l e R s m args below meth c H locs cells slots Q ls hx hb k => have K := rx_two (fun b => W p l e R s m args below meth c H locs cells slots Q (F0 m (cond b tgt (pc + 3)) ls r)) hk k; lv_icmp_lt hx hb d ht K.1 K.2)
theorem rx_sd_if_lt {Y : rx_Y} (hY : rx_YOk Y G.sg) {off : Int} {tgt : Nat} (d : decode M.2.1 pc = .ok (.ifCond .lt off, 3)) (ht : (pc : Int) + off = (tgt : Int)) : rx_Sd G MT M pc (rx_br (rx_cm0 Y 0) tgt (pc + 3)) :=
  rx_sd_cm0 hY 0 tgt (fun x b r hk p l e R s m args below meth c H locs cells slots Q ls hx hb k => have K := rx_two (fun b => W p l e R s m args below meth c H locs cells slots Q (F0 m (cond b tgt (pc + 3)) ls r)) hk k; lv_if_lt hx hb d ht K.1 K.2)
theorem rx_sd_icmp_ge {Y : rx_Y} (hY : rx_YOk Y G.sg) {off : Int} {tgt : Nat} (d : decode M.2.1 pc = .ok (.if_icmp .ge off, 3)) (ht : (pc : Int) + off = (tgt : Int)) : rx_Sd G MT M pc (rx_br (rx_cmp Y 1) tgt (pc + 3)) :=
  rx_sd_cmp hY 1 tgt (fun x y b r hk p l e R s m args below meth c H locs cells slots Q ls hx hb k => have K := rx_two (fun b => W p l e R s m args below meth c H locs cells slots Q (F0 m (cond b tgt (pc + 3)) ls r)) hk k; lv_icmp_ge hx hb d ht K.1 K.2)
theorem rx_sd_if_ge {Y : rx_Y} (hY : rx_YOk Y G.sg) {off : Int} {tgt : Nat} (d : decode M.2.1 pc = .ok (.ifCond .ge off, 3)) (ht : (pc : Int) + off = (tgt : Int)) : rx_Sd G MT M pc (rx_br (rx_cm0 Y 1) tgt (pc + 3)) :=
  rx_sd_cm0 hY 1 tgt (fun x b r hk p l e R s m args below meth c H locs cells slots Q ls hx hb k => have K := rx_two (fun b => W p l e R s m args below meth c H locs cells slots Q (F0 m (cond b tgt (pc + 3)) ls r)) hk k; lv_if_ge hx hb d ht K.1 K.2)
theorem rx_sd_icmp_gt {Y : rx_Y} (hY : rx_YOk Y G.sg) {off : Int} {tgt : Nat} (d : decode M.2.1 pc = .ok (.if_icmp .gt off, 3)) (ht : (pc : Int) + off = (tgt : Int)) : rx_Sd G MT M pc (rx_br (rx_cmp Y 2) tgt (pc + 3)) :=
  rx_sd_cmp hY 2 tgt (fun x y b r hk p l e R s m args below meth c H locs cells slots Q ls hx hb k => have K := rx_two (fun b => W p l e R s m args below meth c H locs cells slots Q (F0 m (cond b tgt (pc + 3)) ls r)) hk k; lv_icmp_gt hx hb d ht K.1 K.2)
theorem rx_sd_if_gt {Y : rx_Y} (hY : rx_YOk Y G.sg) {off : Int} {tgt : Nat} (d : decode M.2.1 pc = .ok (.ifCond .gt off, 3)) (ht : (pc : Int) + off = (tgt : Int)) : rx_Sd G MT M pc (rx_br (rx_cm0 Y 2) tgt (pc + 3)) :=
  rx_sd_cm0 hY 2 tgt (fun x b r hk p l e R s m args below meth c H locs cells slots Q ls hx hb k => have K := rx_two (fun b => W p l e R s m args below meth c H locs cells slots Q (F0 m (cond b tgt (pc + 3)) ls r)) hk k; lv_if_gt hx hb d ht K.1 K.2)
theorem rx_sd_icmp_le {Y : rx_Y} (hY : rx_YOk Y G.sg) {off : Int} {tgt : Nat} (d : decode M.2.1 pc = .ok (.if_icmp .le off, 3)) (ht : (pc : Int) + off = (tgt : Int)) : rx_Sd G MT M pc (rx_br (rx_cmp Y 3) tgt (pc + 3)) :=
  rx_sd_cmp hY 3 tgt (fun x y b r hk p l e R s m args below meth c H locs cells slots Q ls hx hb k => have K := rx_two (fun b => W p l e R s m args below meth c H locs cells slots Q (F0 m (cond b tgt (pc + 3)) ls r)) hk k; lv_icmp_le hx hb d ht K.1 K.2)
theorem rx_sd_if_le {Y : rx_Y} (hY : rx_YOk Y G.sg) {off : Int} {tgt : Nat} (d : decode M.2.1 pc = .ok (.ifCond .le off, 3)) (ht : (pc : Int) + off = (tgt : Int)) : rx_Sd G MT M pc (rx_br (rx_cm0 Y 3) tgt (pc + 3)) :=
  rx_sd_cm0 hY 3 tgt (fun x b r hk p l e R s m args below meth c H locs cells slots Q ls hx hb k => have K := rx_two (fun b => W p l e R s m args below meth c H locs cells slots Q (F0 m (cond b tgt (pc + 3)) ls r)) hk k; lv_if_le hx hb d ht K.1 K.2)
theorem rx_sd_icmp_eq {Y : rx_Y} (hY : rx_YOk Y G.sg) {off : Int} {tgt : Nat} (d : decode M.2.1 pc = .ok (.if_icmp .eq off, 3)) (ht : (pc : Int) + off = (tgt : Int)) : rx_Sd G MT M pc (rx_br (rx_cmp Y 4) tgt (pc + 3)) :=
  rx_sd_cmp hY 4 tgt (fun x y b r hk p l e R s m args below meth c H locs cells slots Q ls hx hb k => have K := rx_two (fun b => W p l e R s m args below meth c H locs cells slots Q (F0 m (cond b tgt (pc + 3)) ls r)) hk k; lv_icmp_eq hx hb d ht K.1 K.2)
theorem rx_sd_if_eq {Y : rx_Y} (hY : rx_YOk Y G.sg) {off : Int} {tgt : Nat} (d : decode M.2.1 pc = .ok (.ifCond .eq off, 3)) (ht : (pc : Int) + off = (tgt : Int)) : rx_Sd G MT M pc (rx_br (rx_cm0 Y 4) tgt (pc + 3)) :=
  rx_sd_cm0 hY 4 tgt (fun x b r hk p l e R s m args below meth c H locs cells slots Q ls hx hb k => have K := rx_two (fun b => W p l e R s m args below meth c H locs cells slots Q (F0 m (cond b tgt (pc + 3)) ls r)) hk k; lv_if_eq hx hb d ht K.1 K.2)
theorem rx_sd_icmp_ne {Y : rx_Y} (hY : rx_YOk Y G.sg) {off : Int} {tgt : Nat} (d : decode M.2.1 pc = .ok (.if_icmp .ne off, 3)) (ht : (pc : Int) + off = (tgt : Int)) : rx_Sd G MT M pc (rx_br (rx_cmp Y 5) tgt (pc + 3)) :=
  rx_sd_cmp hY 5 tgt (fun x y b r hk p l e R s m args below meth c H locs cells slots Q ls hx hb k => have K := rx_two (fun b => W p l e R s m args below meth c H locs cells slots Q (F0 m (cond b tgt (pc + 3)) ls r)) hk k; lv_icmp_ne hx hb d ht K.1 (fun h => K.2 (fun q => q h)))
theorem rx_sd_if_ne {Y : rx_Y} (hY : rx_YOk Y G.sg) {off : Int} {tgt : Nat} (d : decode M.2.1 pc = .ok (.ifCond .ne off, 3)) (ht : (pc : Int) + off = (tgt : Int)) : rx_Sd G MT M pc (rx_br (rx_cm0 Y 5) tgt (pc + 3)) :=
  rx_sd_cm0 hY 5 tgt (fun x b r hk p l e R s m args below meth c H locs cells slots Q ls hx hb k => have K := rx_two (fun b => W p l e R s m args below meth c H locs cells slots Q (F0 m (cond b tgt (pc + 3)) ls r)) hk k; lv_if_ne hx hb d ht K.1 (fun h => K.2 (fun q => q h)))
def rx_sw (Y : rx_Y) (lo hi : Int) (tgts : List Nat) (dflt : Nat) : rx_T := fun _ st => match st.2.1 with
  | .int x :: r => if x.toInt < lo ∨ hi < x.toInt then some (.inl (dflt, (st.1, r, st.2.2))) else match tgts[(x.toInt - lo).toNat]? with
    | some t => some (.inl (t, (st.1, r, st.2.2)))
    | none => none
  | v :: r => match rx_iv Y v with
    | some q => if q.2 < lo ∨ hi < q.1 then some (.inl (dflt, (st.1, r, st.2.2))) else none
    | none => none
  | _ => none
theorem rx_sd_sw {Y : rx_Y} (hY : rx_YOk Y G.sg) {df lo hi : Int} {offs : Array Int} {len dflt : Nat} {tgts : List Nat} (d : decode M.2.1 pc = .ok (.tableswitch df lo hi offs, len)) (hd : (pc : Int) + df = (dflt : Int)) (ht : offs.toList.map (fun o => (pc : Int) + o) = tgts.map (fun t : Nat => (t : Int))) : rx_Sd G MT M pc (rx_sw Y lo hi tgts dflt) := by
  intro p e s m args below meth c A X rec hrec st o h ρ0 r hgo
  obtain ⟨hx, hb, hml, hr, hown, hts, hlk, hnm, hK, hA⟩ := X
  obtain ⟨lv, sk, ws, c0, s0⟩ := st
  intro tl cws H locs ls cst clv hw hP hD hS hlv hl hst
  unfold rx_sw at h
  simp only at h hst
  split at h
  · next x rr =>
    match cst, hst with
    | w :: cr, ⟨h1, h3⟩ =>
      cases h1
      split at h
      · next hc =>
        cases h
        exact lv_tableOut hx hb d hc hd (hgo tl cws H locs ls cr clv hw hP hD hS hlv hl h3)
      · next hc =>
        split at h
        · next t ht1 =>
          cases h
          have hc1 : ¬ x.toInt < lo := fun q => hc (Or.inl q)
          have hc2 : ¬ hi < x.toInt := fun q => hc (Or.inr q)
          have e1 : (offs.toList.map (fun o => (pc : Int) + o))[(x.toInt - lo).toNat]? = some (t : Int) := by rw [ht, List.getElem?_map, ht1]; rfl
          rw [List.getElem?_map, Option.map_eq_some_iff] at e1
          obtain ⟨off, g1, g2⟩ := e1
          exact lv_tableIn hx hb d hc1 hc2 (by rw [← Array.getElem?_toList]; exact g1) g2 (hgo tl cws H locs ls cr clv hw hP hD hS hlv hl h3)
        · cases h
  · next v rr hne =>
    match cst, hst with
    | w :: cr, ⟨h1, h3⟩ =>
      cases hq : rx_iv Y v with
      | none => rw [hq] at h; cases h
      | some q =>
        rw [hq] at h
        simp only at h
        split at h
        · next hc =>
          cases h
          obtain ⟨x, rfl, a1, a2⟩ := rx_iv_ok hY hq h1
          exact lv_tableOut hx hb d (by omega) hd (hgo tl cws H locs ls cr clv hw hP hD hS hlv hl h3)
        · cases h
  · cases h
end PU
end

section
/-! RULES OF LOCALS, CELLS, CALLS AND ENDS -/
theorem rx_lv.cons {ρ : List Nat} {σ : Nat → Int32} {i : Nat} {v w : Value} {a b : rx_L} (hv : rx_v ρ σ v w) (h : rx_lv ρ σ a b) : rx_lv ρ σ ((i, v) :: a) ((i, w) :: b) := ⟨rfl, hv, h⟩
section CE
variable {G : rx_G} {MT : Nat → rx_M} {M : rx_M} {pc : Nat}
/-- kinds: 0 int, 1 long, 2 reference -/
def rx_is (kind : Nat) : Value → Bool
  | .int _ => Nat.beq kind 0
  | .float _ => Nat.beq kind 0
  | .double _ => Nat.beq kind 0
  | .long _ => Nat.beq kind 1
  | .ref _ => Nat.beq kind 2
  | .null => Nat.beq kind 2
  | .retAddr _ => false
theorem rx_is0 {ρ : List Nat} {σ : Nat → Int32} {v w : Value} (h : rx_is 0 v = true) (hv : rx_v ρ σ v w) : ∃ x : Int32, w = .int x := by
  cases v with
  | int x => exact ⟨x, hv⟩
  | float n => exact ⟨_, hv⟩
  | double n => exact hv
  | _ => cases h
theorem rx_is1 {ρ : List Nat} {σ : Nat → Int32} {v w : Value} (h : rx_is 1 v = true) (hv : rx_v ρ σ v w) : ∃ x : Int64, w = .long x := by
  cases v with
  | long x => exact ⟨x, hv⟩
  | _ => cases h
theorem rx_is2 {ρ : List Nat} {σ : Nat → Int32} {v w : Value} (h : rx_is 2 v = true) (hv : rx_v ρ σ v w) : w = .null ∨ ∃ a, w = .ref a := by
  cases v with
  | null => exact Or.inl hv
  | ref a => obtain ⟨a', -, h2⟩ := hv; exact Or.inr ⟨a', h2⟩
  | _ => cases h
def rx_ld (kind i pc' : Nat) : rx_T := fun _ st => match rx_find st.1 i with
  | none => none
  | some v => cond (rx_is kind v) (some (.inl (pc', (st.1, v :: st.2.1, st.2.2)))) none
theorem rx_sd_ld {kind i pc' : Nat} (hs : ∀ (ρ : List Nat) (v w : Value) (p : Program) (l : Launch) (e : Env) (R : Room) (s : State) (m : MethodId) (args : Array Value) (below : List Frame) (meth : Method) (c : Code) (H : Heap) (locs : List Loc) (cells slots : Nat) (Q : State → Prop) (ls : Array Slot) (rest : List Value), p.tables.exec = Jvm.exec → c.code = M.2.1 → rx_is kind v = true → rx_v ρ G.sg v w → ls[i]? = some (.val w) →
      W p l e R s m args below meth c H locs cells slots Q (F0 m pc' ls (w :: rest)) → W p l e R s m args below meth c H locs cells slots Q (F0 m pc ls rest)) : rx_Sd G MT M pc (rx_ld kind i pc') := by
  intro p e s m args below meth c A X rec hrec st o h ρ0 r hgo
  obtain ⟨hx, hb, hml, hr, hown, hts, hlk, hnm, hK, hA⟩ := X
  unfold rx_ld at h
  cases hk : rx_find st.1 i with
  | none => rw [hk] at h; cases h
  | some v =>
    rw [hk] at h
    obtain ⟨g1, g2⟩ := rx_cond_some h
    cases g2
    intro tl cws H locs ls cst clv hw hP hD hS hlv hl hst
    obtain ⟨k, w, e1, e2⟩ := hlv.find hk
    exact hs _ v w p G.l e _ s m args below meth c H locs _ _ _ ls cst hx hb g1 e2 (lv_at hl k e1) (hgo tl cws H locs ls (w :: cst) clv hw hP hD hS hlv hl ⟨e2, hst⟩)
theorem rx_sd_iload_n {k : Fin 4} {i : Nat} (d : decode M.2.1 pc = .ok (.iload_n k, 1)) (hi : (k : Nat) = i) : rx_Sd G MT M pc (rx_ld 0 i (pc + 1)) :=
  rx_sd_ld (fun ρ v w p l e R s m args below meth c H locs cells slots Q ls rest hx hb hk hv hl kk => by
    obtain ⟨x, rfl⟩ := rx_is0 hk hv
    exact lv_iload_n hx hb d hi hl kk)
theorem rx_sd_iload {i : Nat} (d : decode M.2.1 pc = .ok (.iload i, 2)) : rx_Sd G MT M pc (rx_ld 0 i (pc + 2)) :=
  rx_sd_ld (fun ρ v w p l e R s m args below meth c H locs cells slots Q ls rest hx hb hk hv hl kk => by
    obtain ⟨x, rfl⟩ := rx_is0 hk hv
    exact lv_iload hx hb d hl kk)
theorem rx_sd_lload_n {k : Fin 4} {i : Nat} (d : decode M.2.1 pc = .ok (.lload_n k, 1)) (hi : (k : Nat) = i) : rx_Sd G MT M pc (rx_ld 1 i (pc + 1)) :=
  rx_sd_ld (fun ρ v w p l e R s m args below meth c H locs cells slots Q ls rest hx hb hk hv hl kk => by
    obtain ⟨x, rfl⟩ := rx_is1 hk hv
    exact lv_lload_n hx hb d hi hl kk)
theorem rx_sd_lload {i : Nat} (d : decode M.2.1 pc = .ok (.lload i, 2)) : rx_Sd G MT M pc (rx_ld 1 i (pc + 2)) :=
  rx_sd_ld (fun ρ v w p l e R s m args below meth c H locs cells slots Q ls rest hx hb hk hv hl kk => by
    obtain ⟨x, rfl⟩ := rx_is1 hk hv
    exact lv_lload hx hb d hl kk)
theorem rx_sd_aload_n {k : Fin 4} {i : Nat} (d : decode M.2.1 pc = .ok (.aload_n k, 1)) (hi : (k : Nat) = i) : rx_Sd G MT M pc (rx_ld 2 i (pc + 1)) :=
  rx_sd_ld (fun ρ v w p l e R s m args below meth c H locs cells slots Q ls rest hx hb hk hv hl kk => by
    rcases rx_is2 hk hv with rfl | ⟨a, rfl⟩
    · exact lv_aload_nN hx hb d hi hl kk
    · exact lv_aload_n hx hb d hi hl kk)
theorem rx_sd_aload {i : Nat} (d : decode M.2.1 pc = .ok (.aload i, 2)) : rx_Sd G MT M pc (rx_ld 2 i (pc + 2)) :=
  rx_sd_ld (fun ρ v w p l e R s m args below meth c H locs cells slots Q ls rest hx hb hk hv hl kk => by
    rcases rx_is2 hk hv with rfl | ⟨a, rfl⟩
    · exact lv_aloadN hx hb d hl kk
    · exact lv_aload hx hb d hl kk)
def rx_st (kind i pc' nL : Nat) : rx_T := fun _ st => match st.2.1 with
  | v :: r => cond (rx_is kind v && Nat.ble (i + rx_cat v) nL) (some (.inl (pc', ((i, v) :: cond (Nat.beq kind 1) (rx_put2 st.1 i) (rx_put1 st.1 i), r, st.2.2)))) none
  | [] => none
theorem rx_sd_st1 {kind i pc' : Nat} (hkd : Nat.beq kind 1 = false) (hs : ∀ (ρ : List Nat) (v w : Value) (p : Program) (l : Launch) (e : Env) (R : Room) (s : State) (m : MethodId) (args : Array Value) (below : List Frame) (meth : Method) (c : Code) (H : Heap) (locs : List Loc) (cells slots : Nat) (Q : State → Prop) (ls : Array Slot) (rest : List Value) (lv : rx_L), p.tables.exec = Jvm.exec → c.code = M.2.1 → rx_is kind v = true → rx_v ρ G.sg v w → lv_has ls M.2.2.1 lv → i < M.2.2.1 →
      (∀ ls' : Array Slot, lv_has ls' M.2.2.1 ((i, w) :: lv.filter (fun q => !(q.1 == i) && !(q.1 + 1 == i && q.2.category == 2))) → W p l e R s m args below meth c H locs cells slots Q (F0 m pc' ls' rest)) → W p l e R s m args below meth c H locs cells slots Q (F0 m pc ls (w :: rest))) : rx_Sd G MT M pc (rx_st kind i pc' M.2.2.1) := by
  intro p e s m args below meth c A X rec hrec st o h ρ0 r hgo
  obtain ⟨hx, hb, hml, hr, hown, hts, hlk, hnm, hK, hA⟩ := X
  obtain ⟨lv, sk, ws, c0, s0⟩ := st
  intro tl cws H locs ls cst clv hw hP hD hS hlv hl hst
  unfold rx_st at h
  simp only at h hst hlv
  match sk, cst, h, hst with
  | v :: sr, w :: cr, h, ⟨h1, h3⟩ =>
    simp only at h
    obtain ⟨g1, g2⟩ := rx_cond_some h
    rw [Bool.and_eq_true] at g1
    cases g2
    rw [hkd] at hgo
    have hc : 1 ≤ rx_cat v := by cases v <;> simp [rx_cat]
    have hn := Nat.le_of_ble_eq_true g1.2
    exact hs _ v w p G.l e _ s m args below meth c H locs _ _ _ ls cr clv hx hb g1.1 h1 hl (by omega) (fun ls' hl' => hgo tl cws H locs ls' cr _ hw hP hD hS (rx_lv.cons h1 (hlv.put1 i)) hl' h3)
theorem rx_sd_istore_n {k : Fin 4} {i : Nat} (d : decode M.2.1 pc = .ok (.istore_n k, 1)) (hi : (k : Nat) = i) : rx_Sd G MT M pc (rx_st 0 i (pc + 1) M.2.2.1) :=
  rx_sd_st1 rfl (fun ρ v w p l e R s m args below meth c H locs cells slots Q ls rest lv hx hb hk hv hl hn kk => by
    obtain ⟨x, rfl⟩ := rx_is0 hk hv
    exact lv_istore_n hx hb d hi hl hn rfl kk)
theorem rx_sd_istore {i : Nat} (d : decode M.2.1 pc = .ok (.istore i, 2)) : rx_Sd G MT M pc (rx_st 0 i (pc + 2) M.2.2.1) :=
  rx_sd_st1 rfl (fun ρ v w p l e R s m args below meth c H locs cells slots Q ls rest lv hx hb hk hv hl hn kk => by
    obtain ⟨x, rfl⟩ := rx_is0 hk hv
    exact lv_istore hx hb d hl hn rfl kk)
theorem rx_sd_astore_n {k : Fin 4} {i : Nat} (d : decode M.2.1 pc = .ok (.astore_n k, 1)) (hi : (k : Nat) = i) : rx_Sd G MT M pc (rx_st 2 i (pc + 1) M.2.2.1) :=
  rx_sd_st1 rfl (fun ρ v w p l e R s m args below meth c H locs cells slots Q ls rest lv hx hb hk hv hl hn kk => by
    rcases rx_is2 hk hv with rfl | ⟨a, rfl⟩
    · exact lv_astore_nN hx hb d hi hl hn rfl kk
    · exact lv_astore_n hx hb d hi hl hn rfl kk)
theorem rx_sd_astore {i : Nat} (d : decode M.2.1 pc = .ok (.astore i, 2)) : rx_Sd G MT M pc (rx_st 2 i (pc + 2) M.2.2.1) :=
  rx_sd_st1 rfl (fun ρ v w p l e R s m args below meth c H locs cells slots Q ls rest lv hx hb hk hv hl hn kk => by
    rcases rx_is2 hk hv with rfl | ⟨a, rfl⟩
    · exact lv_astoreN hx hb d hl hn rfl kk
    · exact lv_astore hx hb d hl hn rfl kk)
theorem rx_sd_st2 {i pc' : Nat} (hs : ∀ (x : Int64) (p : Program) (l : Launch) (e : Env) (R : Room) (s : State) (m : MethodId) (args : Array Value) (below : List Frame) (meth : Method) (c : Code) (H : Heap) (locs : List Loc) (cells slots : Nat) (Q : State → Prop) (ls : Array Slot) (rest : List Value) (lv : rx_L), p.tables.exec = Jvm.exec → c.code = M.2.1 → lv_has ls M.2.2.1 lv → i + 1 < M.2.2.1 →
      (∀ ls' : Array Slot, lv_has ls' M.2.2.1 ((i, .long x) :: lv.filter (fun q => !(q.1 == i) && (!(q.1 == i + 1) && !(q.1 + 1 == i && q.2.category == 2)))) → W p l e R s m args below meth c H locs cells slots Q (F0 m pc' ls' rest)) → W p l e R s m args below meth c H locs cells slots Q (F0 m pc ls (.long x :: rest))) : rx_Sd G MT M pc (rx_st 1 i pc' M.2.2.1) := by
  intro p e s m args below meth c A X rec hrec st o h ρ0 r hgo
  obtain ⟨hx, hb, hml, hr, hown, hts, hlk, hnm, hK, hA⟩ := X
  obtain ⟨lv, sk, ws, c0, s0⟩ := st
  intro tl cws H locs ls cst clv hw hP hD hS hlv hl hst
  unfold rx_st at h
  simp only at h hst hlv
  match sk, cst, h, hst with
  | v :: sr, w :: cr, h, ⟨h1, h3⟩ =>
    simp only at h
    obtain ⟨g1, g2⟩ := rx_cond_some h
    rw [Bool.and_eq_true] at g1
    cases g2
    have hn := Nat.le_of_ble_eq_true g1.2
    have hv : ∃ x, v = .long x := by
      cases v with
      | long x => exact ⟨x, rfl⟩
      | _ => exact absurd g1.1 (by simp [rx_is])
    obtain ⟨x, rfl⟩ := hv
    cases h1
    exact hs x p G.l e _ s m args below meth c H locs _ _ _ ls cr clv hx hb hl (by simp only [rx_cat] at hn; omega) (fun ls' hl' => hgo tl cws H locs ls' cr _ hw hP hD hS (rx_lv.cons (v := .long x) rfl (hlv.put2 i)) hl' h3)
theorem rx_sd_lstore_n {k : Fin 4} {i : Nat} (d : decode M.2.1 pc = .ok (.lstore_n k, 1)) (hi : (k : Nat) = i) : rx_Sd G MT M pc (rx_st 1 i (pc + 1) M.2.2.1) :=
  rx_sd_st2 (fun x p l e R s m args below meth c H locs cells slots Q ls rest lv hx hb hl hn kk => lv_lstore_n hx hb d hi hl hn rfl kk)
theorem rx_sd_lstore {i : Nat} (d : decode M.2.1 pc = .ok (.lstore i, 2)) : rx_Sd G MT M pc (rx_st 1 i (pc + 2) M.2.2.1) :=
  rx_sd_st2 (fun x p l e R s m args below meth c H locs cells slots Q ls rest lv hx hb hl hn kk => lv_lstore hx hb d hl hn rfl kk)
noncomputable def rx_inc (i : Nat) (n : Int32) (pc' nL : Nat) : rx_T := fun _ st => match rx_find st.1 i with
  | some (.int x) => cond (Nat.ble (i + 1) nL) (rx_fI (x + n) (fun z => some (.inl (pc', ((i, .int z) :: rx_put1 st.1 i, st.2))))) none
  | _ => none
theorem rx_sd_iinc {i : Nat} {n : Int} {x0 : Int32} (d : decode M.2.1 pc = .ok (.iinc i n, 3)) (hn : Int32.ofInt n = x0) : rx_Sd G MT M pc (rx_inc i x0 (pc + 3) M.2.2.1) := by
  intro p e s m args below meth c A X rec hrec st o h ρ0 r hgo
  obtain ⟨hx, hb, hml, hr, hown, hts, hlk, hnm, hK, hA⟩ := X
  obtain ⟨lv, sk, ws, c0, s0⟩ := st
  intro tl cws H locs ls cst clv hw hP hD hS hlv hl hst
  unfold rx_inc at h
  simp only at h hst hlv
  cases hk : rx_find lv i with
  | none => rw [hk] at h; cases h
  | some v =>
    rw [hk] at h
    cases v with
    | int x =>
      simp only [rx_fI_eq] at h
      obtain ⟨g1, g2⟩ := rx_cond_some h
      cases g2
      obtain ⟨k, w, e1, e2⟩ := hlv.find hk
      cases e2
      subst hn
      exact lv_iinc hx hb d hl e1 rfl (Nat.le_of_ble_eq_true g1) rfl (fun ls' hl' => hgo tl cws H locs ls' cst _ hw hP hD hS (rx_lv.cons (v := .int (x + Int32.ofInt n)) rfl (hlv.put1 i)) hl' hst)
    | _ => cases h
/-- fields -/
def rx_get (ci k pc' : Nat) : rx_T := fun _ st => match st.2.1 with
  | .ref a :: sk => match st.2.2.1[a]? with
    | some (.inl (ci', fs)) => cond (Nat.beq ci ci') (match fs[k]? with
      | some v => some (.inl (pc', (st.1, v :: sk, st.2.2)))
      | none => none) none
    | _ => none
  | _ => none
theorem rx_sd_get {ci k index N : Nat} {C : String} {T : u_T} (hin : ∀ w ∈ u_ws C T N, w ∈ G.gT) (hc : G.cl[ci]? = some (C, T, N)) (hk : k < N) (hl0 : Cond.fieldLink M.1.cls index (T k).1 (T k).2.1 (T k).2.2.1 ∈ G.gT) (d : decode M.2.1 pc = .ok (.getfield index, 3)) : rx_Sd G MT M pc (rx_get ci k (pc + 3)) := by
  intro p e s m args below meth c A X rec hrec st o h ρ0 r hgo
  obtain ⟨hx, hb, hml, hr, hown, hts, hlk, hnm, hK, hA⟩ := X
  obtain ⟨lv, sk, ws, c0, s0⟩ := st
  intro tl cws H locs ls cst clv hw hP hD hS hlv hl hst
  unfold rx_get at h
  simp only at h hst hlv hw
  match sk, cst, h, hst with
  | .ref a :: sr, w :: cr, h, ⟨⟨a', ha, hwe⟩, h3⟩ =>
    subst hwe
    simp only at h
    cases hwa : ws[a]? with
    | none => rw [hwa] at h; cases h
    | some e0 =>
      rw [hwa] at h
      cases e0 with
      | inr _ => cases h
      | inl q =>
        obtain ⟨ci', fs⟩ := q
        simp only at h
        obtain ⟨g1, g2⟩ := rx_cond_some h
        have hci := Nat.eq_of_beq_eq_true g1
        subst hci
        cases hf : fs[k]? with
        | none => rw [hf] at g2; cases g2
        | some v =>
          rw [hf] at g2
          cases g2
          obtain ⟨ce, f1, cfs, f2, f3⟩ := hw.at hwa ha
          subst f2
          obtain ⟨w, f4, f5⟩ := f3.get k hf
          exact va_get hx hb hts hin hown hK.1 hP a f1 hc k hk (hts _ hl0) (fun _ h9 => h9) f4 d (hgo tl cws H locs ls (w :: cr) clv hw hP hD hS hlv hl ⟨f5, h3⟩)
def rx_okty (ty : FieldType) (v : Value) : Bool := match ty with
  | .int => rx_is 0 v
  | .long => rx_is 1 v
  | .boolean => match v with
    | .int x => decide (x = 0) || decide (x = 1)
    | _ => false
  | .object _ => rx_is 2 v
  | .array _ => rx_is 2 v
  | _ => false
theorem rx_okty_ok {ρ : List Nat} {σ : Nat → Int32} {ty : FieldType} {v w : Value} (h : rx_okty ty v = true) (hv : rx_v ρ σ v w) : narrow ty w = w ∧ fits ty w = true := by
  cases ty with
  | int => obtain ⟨x, rfl⟩ := rx_is0 h hv; exact ⟨rfl, rfl⟩
  | long => obtain ⟨x, rfl⟩ := rx_is1 h hv; exact ⟨rfl, rfl⟩
  | boolean =>
    cases v with
    | int x =>
      cases hv
      simp only [rx_okty, Bool.or_eq_true, decide_eq_true_eq] at h
      rcases h with rfl | rfl <;> exact ⟨by decide, by decide⟩
    | _ => cases h
  | object C => rcases rx_is2 h hv with rfl | ⟨a, rfl⟩ <;> exact ⟨rfl, rfl⟩
  | array C => rcases rx_is2 h hv with rfl | ⟨a, rfl⟩ <;> exact ⟨rfl, rfl⟩
  | _ => cases h
def rx_putf (ci k : Nat) (ty : FieldType) (pc' : Nat) : rx_T := fun _ st => match st.2.1 with
  | v :: .ref a :: sk => match st.2.2.1[a]? with
    | some (.inl (ci', fs)) => cond (Nat.beq ci ci' && (rx_okty ty v && Nat.ble (k + 1) fs.length)) (some (.inl (pc', (st.1, sk, st.2.2.1.set a (.inl (ci', fs.set k v)), st.2.2.2)))) none
    | _ => none
  | _ => none
theorem rx_sd_putf {ci k index N : Nat} {C : String} {T : u_T} {ty : FieldType} {ty0 : Nat → FieldType} (hin : ∀ w ∈ u_ws C T N, w ∈ G.gT) (hty : ∀ k, k < N → parseFieldDescriptor (T k).2.2.1 = some (ty0 k)) (hnm : ∀ a, a < N → ∀ b, b < N → a ≠ b → (T a).2.1 ≠ (T b).2.1) (hc : G.cl[ci]? = some (C, T, N)) (hk : k < N) (hl0 : Cond.fieldLink M.1.cls index (T k).1 (T k).2.1 (T k).2.2.1 ∈ G.gT) (hfin : (T k).2.2.2 = false ∨ (T k).2.2.2 = true ∧ M.1.name = "<init>" ∧ (T k).1 = M.1.cls) (hd : ty0 k = ty) (d : decode M.2.1 pc = .ok (.putfield index, 3)) : rx_Sd G MT M pc (rx_putf ci k ty (pc + 3)) := by
  intro p e s m args below meth c A X rec hrec st o h ρ0 r hgo
  obtain ⟨hx, hb, hml, hr, hown, hts, hlk, hnm0, hK, hA⟩ := X
  obtain ⟨lv, sk, ws, c0, s0⟩ := st
  intro tl cws H locs ls cst clv hw hP hD hS hlv hl hst
  unfold rx_putf at h
  simp only at h hst hlv hw
  match sk, cst, h, hst with
  | v :: .ref a :: sr, w1 :: w2 :: cr, h, ⟨h1, ⟨a', ha, hwe⟩, h3⟩ =>
    subst hwe
    simp only at h
    cases hwa : ws[a]? with
    | none => rw [hwa] at h; cases h
    | some e0 =>
      rw [hwa] at h
      cases e0 with
      | inr _ => cases h
      | inl q =>
        obtain ⟨ci', fs⟩ := q
        simp only at h
        obtain ⟨g1, g2⟩ := rx_cond_some h
        cases g2
        rw [Bool.and_eq_true, Bool.and_eq_true] at g1
        have hci := Nat.eq_of_beq_eq_true g1.1
        subst hci
        obtain ⟨ce, f1, cfs, f2, f3⟩ := hw.at hwa ha
        subst f2
        obtain ⟨n1, n2⟩ := rx_okty_ok g1.2.1 h1
        have hlen : k < cfs.length := by rw [← f3.len]; exact Nat.le_of_ble_eq_true g1.2.2
        have hd' : parseFieldDescriptor (T k).2.2.1 = some ty := by rw [hty k hk, hd]
        have K : ∀ (H1 : Heap) (locs1 : List Loc), va_P G.D G.cl (cws.set a (a', .inr (ci, cfs.set k w1))) H1 → va_D A (cws.set a (a', .inr (ci, cfs.set k w1))) → va_S A s.heap H1 locs1 → W p G.l e M.2.2.2.2.1 s m args below meth c H1 locs1 c0 s0 (MQ below (rx_Q G ρ0 r A) args s M.2.2.2.2.1.cells M.2.2.2.2.1.slots A) (F0 m (pc + 3) ls cr) := by
          intro H1 locs1 hP1 hD1 hS1
          exact hgo tl _ H1 locs1 ls cr clv (hw.set f1 ⟨_, rfl, f3.set k h1⟩) hP1 hD1 hS1 hlv hl h3
        rcases hfin with hfin | ⟨hfin, hini, hown2⟩
        · exact va_put hx hb hts hin ty0 hty hnm hown hK.1 hP hD hS a f1 hc k hk (hts _ hl0) (fun _ h9 => h9) hfin hd' n1 n2 hlen d K
        · exact va_putF hx hb hts hin ty0 hty hnm hown hK.1 hP hD hS a f1 hc k hk (hts _ hl0) (fun _ h9 => h9) hfin (hnm0.trans hini) hown2 hd' n1 n2 hlen d K
end CE
end

section
/-! ARRAYS -/
section AR
variable {G : rx_G} {MT : Nat → rx_M} {M : rx_M} {pc : Nat}
/-- what array class a kind has: 0 int, 1 long, 2 boolean, from 3 on references -/
def rx_TYOk (G : rx_G) : Prop := G.TY[0]? = some (G.cy 0, .int) ∧ G.TY[1]? = some (G.cy 1, .long) ∧ G.TY[2]? = some (G.cy 2, .boolean)
noncomputable def rx_ix {α : Type} (i : Int32) (n : Nat) (k : Nat → Option α) : Option α := cond (decide (i < 0)) none (rx_fN i.toNatClampNeg (fun j => cond (Nat.ble n j) none (k j)))
theorem rx_ix_some {α : Type} {i : Int32} {n : Nat} {k : Nat → Option α} {y : α} (h : rx_ix i n k = some y) : vp_in i n ∧ k i.toNatClampNeg = some y := by
  unfold rx_ix at h
  cases hb : decide (i < 0) with
  | true => rw [hb] at h; cases h
  | false =>
    rw [hb] at h
    simp only [cond_false, rx_fN_eq] at h
    cases hb2 : Nat.ble n i.toNatClampNeg with
    | true => rw [hb2] at h; cases h
    | false =>
      rw [hb2] at h
      refine ⟨fun q => ?_, h⟩
      rcases q with q | q
      · simp [q] at hb
      · rw [Nat.ble_eq_true_of_le q] at hb2; cases hb2
noncomputable def rx_ald (tag kind pc' : Nat) : rx_T := fun _ st => match st.2.1 with
  | .int i :: .ref a :: sk => match st.2.2.1[a]? with
    | some (.inr (t, n, u, d)) => cond (Nat.beq tag t) (rx_ix i n (fun j => match rx_look u d j with
      | .int x => cond (Nat.beq kind 0) (some (.inl (pc', (st.1, .int x :: sk, st.2.2)))) none
      | .float x => cond (Nat.beq kind 0) (some (.inl (pc', (st.1, .float x :: sk, st.2.2)))) none
      | .double x => cond (Nat.beq kind 0) (some (.inl (pc', (st.1, .double x :: sk, st.2.2)))) none
      | .long x => cond (Nat.beq kind 1) (some (.inl (pc', (st.1, .long x :: sk, st.2.2)))) none
      | .ref x => cond (Nat.beq kind 2) (some (.inl (pc', (st.1, .ref x :: sk, st.2.2)))) none
      | .null => cond (Nat.beq kind 2) (some (.inl (pc', (st.1, .null :: sk, st.2.2)))) none
      | .retAddr _ => none)) none
    | _ => none
  | _ => none
theorem rx_ald_some {tag kind pc' : Nat} {rec : rx_C} {lv : rx_L} {sk : List Value} {ws : rx_W} {c0 s0 : Nat} {o : rx_O} (h : rx_ald tag kind pc' rec (lv, sk, ws, c0, s0) = some o) : ∃ (i : Int32) (a : Nat) (sr : List Value) (n : Nat) (u : List (Nat × Value)) (d : Value), sk = .int i :: .ref a :: sr ∧ ws[a]? = some (.inr (tag, n, u, d)) ∧ vp_in i n ∧ rx_is kind (rx_look u d i.toNatClampNeg) = true ∧ o = .inl (pc', (lv, rx_look u d i.toNatClampNeg :: sr, ws, c0, s0)) := by
  unfold rx_ald at h
  simp only at h
  split at h
  · next i a sr =>
    split at h
    · next t n u d hw =>
      obtain ⟨g1, g2⟩ := rx_cond_some h
      have := Nat.eq_of_beq_eq_true g1
      subst this
      obtain ⟨g3, g4⟩ := rx_ix_some g2
      refine ⟨i, a, sr, n, u, d, rfl, hw, g3, ?_⟩
      cases hv : rx_look u d i.toNatClampNeg with
      | retAddr _ => rw [hv] at g4; cases g4
      | _ =>
        rw [hv] at g4
        obtain ⟨g5, g6⟩ := rx_cond_some g4
        cases g6
        exact ⟨g5, rfl⟩
    · cases h
  · cases h
theorem rx_sd_iald (hT : rx_TYOk G) (d : decode M.2.1 pc = .ok (.iaload, 1)) : rx_Sd G MT M pc (rx_ald 0 0 (pc + 1)) := by
  intro p e s m args below meth c A X rec hrec st o h ρ0 r hgo
  obtain ⟨hx, hb, hml, hr, hown, hts, hlk, hnm, hK, hA⟩ := X
  obtain ⟨lv, sk, ws, c0, s0⟩ := st
  intro tl cws H locs ls cst clv hw hP hD hS hlv hl hst
  obtain ⟨i, a, sr, n, u, dd, rfl, g1, g2, g3, rfl⟩ := rx_ald_some h
  match cst, hst with
  | w1 :: w2 :: cr, ⟨h1, ⟨a', ha, h2⟩, h3⟩ =>
    cases h1; subst h2
    obtain ⟨ce, f1, f, f2, f3⟩ := hw.at g1 ha
    subst f2
    exact va_iald hx hb hK.1 hP a 0 f1 hT.1 g2 d (hgo tl cws H locs ls _ clv hw hP hD hS hlv hl ⟨f3 _, h3⟩)
theorem rx_sd_zald (hT : rx_TYOk G) (d : decode M.2.1 pc = .ok (.baload, 1)) : rx_Sd G MT M pc (rx_ald 2 0 (pc + 1)) := by
  intro p e s m args below meth c A X rec hrec st o h ρ0 r hgo
  obtain ⟨hx, hb, hml, hr, hown, hts, hlk, hnm, hK, hA⟩ := X
  obtain ⟨lv, sk, ws, c0, s0⟩ := st
  intro tl cws H locs ls cst clv hw hP hD hS hlv hl hst
  obtain ⟨i, a, sr, n, u, dd, rfl, g1, g2, g3, rfl⟩ := rx_ald_some h
  match cst, hst with
  | w1 :: w2 :: cr, ⟨h1, ⟨a', ha, h2⟩, h3⟩ =>
    cases h1; subst h2
    obtain ⟨ce, f1, f, f2, f3⟩ := hw.at g1 ha
    subst f2
    exact va_zald hx hb hK.1 hP a 2 f1 hT.2.2 g2 d (hgo tl cws H locs ls _ clv hw hP hD hS hlv hl ⟨f3 _, h3⟩)
theorem rx_sd_lald (hT : rx_TYOk G) (d : decode M.2.1 pc = .ok (.laload, 1)) : rx_Sd G MT M pc (rx_ald 1 1 (pc + 1)) := by
  intro p e s m args below meth c A X rec hrec st o h ρ0 r hgo
  obtain ⟨hx, hb, hml, hr, hown, hts, hlk, hnm, hK, hA⟩ := X
  obtain ⟨lv, sk, ws, c0, s0⟩ := st
  intro tl cws H locs ls cst clv hw hP hD hS hlv hl hst
  obtain ⟨i, a, sr, n, u, dd, rfl, g1, g2, g3, rfl⟩ := rx_ald_some h
  match cst, hst with
  | w1 :: w2 :: cr, ⟨h1, ⟨a', ha, h2⟩, h3⟩ =>
    cases h1; subst h2
    obtain ⟨ce, f1, f, f2, f3⟩ := hw.at g1 ha
    subst f2
    exact va_lald hx hb hK.1 hP a 1 f1 hT.2.1 g2 d (hgo tl cws H locs ls _ clv hw hP hD hS hlv hl ⟨f3 _, h3⟩)
theorem rx_sd_aald {t : Nat} {C : String} (hT : G.TY[t + 3]? = some (G.cy (t + 3), .object C)) (d : decode M.2.1 pc = .ok (.aaload, 1)) : rx_Sd G MT M pc (rx_ald (t + 3) 2 (pc + 1)) := by
  intro p e s m args below meth c A X rec hrec st o h ρ0 r hgo
  obtain ⟨hx, hb, hml, hr, hown, hts, hlk, hnm, hK, hA⟩ := X
  obtain ⟨lv, sk, ws, c0, s0⟩ := st
  intro tl cws H locs ls cst clv hw hP hD hS hlv hl hst
  obtain ⟨i, a, sr, n, u, dd, rfl, g1, g2, g3, rfl⟩ := rx_ald_some h
  match cst, hst with
  | w1 :: w2 :: cr, ⟨h1, ⟨a', ha, h2⟩, h3⟩ =>
    cases h1; subst h2
    obtain ⟨ce, f1, f, f2, f3⟩ := hw.at g1 ha
    subst f2
    exact va_aldq hx hb hK.1 hP a (t + 3) f1 hT g2 d (hgo tl cws H locs ls _ clv hw hP hD hS hlv hl ⟨f3 _, h3⟩)
/-- an int stored at a place that is known within bounds alone: the array's ints are any ints from then on -/
def rx_anyix (Y : rx_Y) (n : Nat) : Value → Bool
  | .float k => match Y.1[k.toNat]? with
    | some q => decide (0 ≤ q.1) && decide (q.2 < n)
    | none => false
  | _ => false
def rx_ints : List (Nat × Value) → Bool
  | [] => true
  | (_, v) :: t => rx_is 0 v && rx_ints t
noncomputable def rx_ast (Y : rx_Y) (tag : Nat) (ty : FieldType) (pc' : Nat) : rx_T := fun _ st => match st.2.1 with
  | v :: .int i :: .ref a :: sk => match st.2.2.1[a]? with
    | some (.inr (t, n, u, d)) => cond (Nat.beq tag t && rx_okty ty v) (rx_ix i n (fun j => some (.inl (pc', (st.1, sk, st.2.2.1.set a (.inr (t, n, (j, v) :: u, d)), st.2.2.2))))) none
    | _ => none
  | v :: x :: .ref a :: sk => match st.2.2.1[a]? with
    | some (.inr (t, n, _, _)) => cond (Nat.beq tag 0 && (Nat.beq tag t && (rx_is 0 v && rx_anyix Y n x))) (some (.inl (pc', (st.1, sk, st.2.2.1.set a (.inr (t, n, [], .double 0)), st.2.2.2)))) none
    | _ => none
  | _ => none
theorem rx_look_upd {ρ : List Nat} {σ : Nat → Int32} {u : List (Nat × Value)} {d v : Value} {k : Nat} {α : Type} {f : Nat → α} {g : α → Value} {x : α} {f' : Nat → α} (hf' : ∀ j, f' j = if j = k then x else f j) (hf : ∀ j, rx_v ρ σ (rx_look u d j) (g (f j))) (hv : rx_v ρ σ v (g x)) : ∀ j, rx_v ρ σ (rx_look ((k, v) :: u) d j) (g (f' j)) := by
  intro j
  rw [rx_look_cons, hf']
  by_cases h : j = k
  · simp [h]; exact hv
  · simp [h]; exact hf j
theorem rx_ast_some {Y : rx_Y} {tag : Nat} {ty : FieldType} {pc' : Nat} {rec : rx_C} {lv : rx_L} {sk : List Value} {ws : rx_W} {c0 s0 : Nat} {o : rx_O} (h : rx_ast Y tag ty pc' rec (lv, sk, ws, c0, s0) = some o) :
    (∃ (v : Value) (i : Int32) (a : Nat) (sr : List Value) (n : Nat) (u : List (Nat × Value)) (d : Value), sk = v :: .int i :: .ref a :: sr ∧ ws[a]? = some (.inr (tag, n, u, d)) ∧ vp_in i n ∧ rx_okty ty v = true ∧ o = .inl (pc', (lv, sr, ws.set a (.inr (tag, n, (i.toNatClampNeg, v) :: u, d)), c0, s0))) ∨
    (∃ (v x : Value) (a : Nat) (sr : List Value) (n : Nat) (u : List (Nat × Value)) (d : Value), tag = 0 ∧ sk = v :: x :: .ref a :: sr ∧ ws[a]? = some (.inr (0, n, u, d)) ∧ rx_is 0 v = true ∧ rx_anyix Y n x = true ∧ o = .inl (pc', (lv, sr, ws.set a (.inr (0, n, [], .double 0)), c0, s0))) := by
  unfold rx_ast at h
  simp only at h
  split at h
  · next v i a sr =>
    left
    split at h
    · next t n u d hw =>
      obtain ⟨g1, g2⟩ := rx_cond_some h
      rw [Bool.and_eq_true] at g1
      have := Nat.eq_of_beq_eq_true g1.1
      subst this
      obtain ⟨g3, g4⟩ := rx_ix_some g2
      cases g4
      exact ⟨v, i, a, sr, n, u, d, rfl, hw, g3, g1.2, rfl⟩
    · cases h
  · next v x a sr _ =>
    right
    split at h
    · next t n u d hw =>
      obtain ⟨g1, g2⟩ := rx_cond_some h
      simp only [Bool.and_eq_true] at g1
      obtain ⟨k0, k1, k2, k3⟩ := g1
      have k0 := Nat.eq_of_beq_eq_true k0
      have k1 := Nat.eq_of_beq_eq_true k1
      subst k0; subst k1
      cases g2
      exact ⟨v, x, a, sr, n, u, d, rfl, rfl, hw, k2, k3, rfl⟩
    · cases h
  · cases h
theorem rx_anyix_ok {Y : rx_Y} {ρ : List Nat} {σ : Nat → Int32} (hY : rx_YOk Y σ) {n : Nat} {x w : Value} (h : rx_anyix Y n x = true) (hv : rx_v ρ σ x w) : ∃ i : Int32, w = .int i ∧ vp_in i n := by
  cases x with
  | float k =>
    cases hv
    unfold rx_anyix at h
    simp only at h
    cases hk : Y.1[k.toNat]? with
    | none => rw [hk] at h; cases h
    | some q =>
      rw [hk] at h
      simp only [Bool.and_eq_true, decide_eq_true_eq] at h
      have := hY.1 _ _ hk
      exact ⟨_, rfl, vp_in_iff.mpr ⟨by omega, by omega⟩⟩
  | _ => cases h
theorem rx_sd_iast {Y : rx_Y} (hY : rx_YOk Y G.sg) (hT : rx_TYOk G) (d : decode M.2.1 pc = .ok (.iastore, 1)) : rx_Sd G MT M pc (rx_ast Y 0 .int (pc + 1)) := by
  intro p e s m args below meth c A X rec hrec st o h ρ0 r hgo
  obtain ⟨hx, hb, hml, hr, hown, hts, hlk, hnm, hK, hA⟩ := X
  obtain ⟨lv, sk, ws, c0, s0⟩ := st
  intro tl cws H locs ls cst clv hw hP hD hS hlv hl hst
  rcases rx_ast_some h with ⟨v, i, a, sr, n, u, dd, rfl, g1, g2, g3, rfl⟩ | ⟨v, x, a, sr, n, u, dd, -, rfl, g1, g2, g3, rfl⟩
  · match cst, hst with
    | w1 :: w2 :: w3 :: cr, ⟨h1, h2, ⟨a', ha, h4⟩, h3⟩ =>
      cases h2; subst h4
      obtain ⟨y, rfl⟩ := rx_is0 g3 h1
      obtain ⟨ce, f1, f, f2, f3⟩ := hw.at g1 ha
      subst f2
      exact va_iast hx hb hK.1 hP hD hS a 0 f1 hT.1 g2 d (fun H1 locs1 hP1 hD1 hS1 => hgo tl _ H1 locs1 ls cr clv (hw.set f1 (e := .inr (0, n, (i.toNatClampNeg, v) :: u, dd)) ⟨_, rfl, rx_look_upd (g := Value.int) (fun _ => rfl) f3 h1⟩) hP1 hD1 hS1 hlv hl h3)
  · match cst, hst with
    | w1 :: w2 :: w3 :: cr, ⟨h1, h2, ⟨a', ha, h4⟩, h3⟩ =>
      subst h4
      obtain ⟨y, rfl⟩ := rx_is0 g2 h1
      obtain ⟨i, rfl, hi⟩ := rx_anyix_ok hY g3 h2
      obtain ⟨ce, f1, f, f2, f3⟩ := hw.at g1 ha
      subst f2
      exact va_iast hx hb hK.1 hP hD hS a 0 f1 hT.1 hi d (fun H1 locs1 hP1 hD1 hS1 => hgo tl _ H1 locs1 ls cr clv (hw.set f1 (e := .inr (0, n, [], .double 0)) ⟨_, rfl, fun j => ⟨_, rfl⟩⟩) hP1 hD1 hS1 hlv hl h3)
theorem rx_sd_last {Y : rx_Y} (hT : rx_TYOk G) (d : decode M.2.1 pc = .ok (.lastore, 1)) : rx_Sd G MT M pc (rx_ast Y 1 .long (pc + 1)) := by
  intro p e s m args below meth c A X rec hrec st o h ρ0 r hgo
  obtain ⟨hx, hb, hml, hr, hown, hts, hlk, hnm, hK, hA⟩ := X
  obtain ⟨lv, sk, ws, c0, s0⟩ := st
  intro tl cws H locs ls cst clv hw hP hD hS hlv hl hst
  rcases rx_ast_some h with ⟨v, i, a, sr, n, u, dd, rfl, g1, g2, g3, rfl⟩ | ⟨v, x, a, sr, n, u, dd, h9, -⟩
  · match cst, hst with
    | w1 :: w2 :: w3 :: cr, ⟨h1, h2, ⟨a', ha, h4⟩, h3⟩ =>
      cases h2; subst h4
      obtain ⟨y, rfl⟩ := rx_is1 g3 h1
      obtain ⟨ce, f1, f, f2, f3⟩ := hw.at g1 ha
      subst f2
      exact va_last hx hb hK.1 hP hD hS a 1 f1 hT.2.1 g2 d (fun H1 locs1 hP1 hD1 hS1 => hgo tl _ H1 locs1 ls cr clv (hw.set f1 (e := .inr (1, n, (i.toNatClampNeg, v) :: u, dd)) ⟨_, rfl, rx_look_upd (g := Value.long) (fun _ => rfl) f3 h1⟩) hP1 hD1 hS1 hlv hl h3)
  · cases h9
theorem rx_sd_zast {Y : rx_Y} (hT : rx_TYOk G) (d : decode M.2.1 pc = .ok (.bastore, 1)) : rx_Sd G MT M pc (rx_ast Y 2 .boolean (pc + 1)) := by
  intro p e s m args below meth c A X rec hrec st o h ρ0 r hgo
  obtain ⟨hx, hb, hml, hr, hown, hts, hlk, hnm, hK, hA⟩ := X
  obtain ⟨lv, sk, ws, c0, s0⟩ := st
  intro tl cws H locs ls cst clv hw hP hD hS hlv hl hst
  rcases rx_ast_some h with ⟨v, i, a, sr, n, u, dd, rfl, g1, g2, g3, rfl⟩ | ⟨v, x, a, sr, n, u, dd, h9, -⟩
  · match cst, hst with
    | w1 :: w2 :: w3 :: cr, ⟨h1, h2, ⟨a', ha, h4⟩, h3⟩ =>
      cases h2; subst h4
      cases v with
      | int y =>
        have hn : vp_nar .boolean y = y := by
          have := (rx_okty_ok (ρ := ρ0 ++ tl) (σ := G.sg) g3 (show rx_v (ρ0 ++ tl) G.sg (.int y) (.int y) from rfl)).1
          unfold vp_nar
          rw [this]
        cases h1
        obtain ⟨ce, f1, f, f2, f3⟩ := hw.at g1 ha
        subst f2
        refine va_zast hx hb hK.1 hP hD hS a 2 f1 hT.2.2 g2 d (fun H1 locs1 hP1 hD1 hS1 => ?_)
        rw [hn] at hP1 hD1
        exact hgo tl _ H1 locs1 ls cr clv (hw.set f1 (e := .inr (2, n, (i.toNatClampNeg, .int y) :: u, dd)) ⟨_, rfl, rx_look_upd (g := Value.int) (fun _ => rfl) f3 rfl⟩) hP1 hD1 hS1 hlv hl h3
      | _ => cases g3
  · cases h9
noncomputable def rx_asq (tag ci pc' : Nat) : rx_T := fun _ st => match st.2.1 with
  | .ref b :: .int i :: .ref a :: sk => match st.2.2.1[a]? with
    | some (.inr (t, n, u, d)) => match st.2.2.1[b]? with
      | some (.inl (ci', _)) => cond (Nat.beq tag t && Nat.beq ci ci') (rx_ix i n (fun j => some (.inl (pc', (st.1, sk, st.2.2.1.set a (.inr (t, n, (j, .ref b) :: u, d)), st.2.2.2))))) none
      | _ => none
    | _ => none
  | _ => none
theorem rx_sd_aast {t ci : Nat} {C : vw_C} (hT : G.TY[t + 3]? = some (G.cy (t + 3), .object C.1)) (hc : G.cl[ci]? = some C) (d : decode M.2.1 pc = .ok (.aastore, 1)) : rx_Sd G MT M pc (rx_asq (t + 3) ci (pc + 1)) := by
  intro p e s m args below meth c A X rec hrec st o h ρ0 r hgo
  obtain ⟨hx, hb, hml, hr, hown, hts, hlk, hnm, hK, hA⟩ := X
  obtain ⟨lv, sk, ws, c0, s0⟩ := st
  intro tl cws H locs ls cst clv hw hP hD hS hlv hl hst
  unfold rx_asq at h
  simp only at h hst hlv hw
  split at h
  · next b i a sr =>
    split at h
    · next t' n u dd hwa =>
      split at h
      · next ci' fs hwb =>
        obtain ⟨g1, g2⟩ := rx_cond_some h
        rw [Bool.and_eq_true] at g1
        have e1 := Nat.eq_of_beq_eq_true g1.1
        have e2 := Nat.eq_of_beq_eq_true g1.2
        subst e1; subst e2
        obtain ⟨g3, g4⟩ := rx_ix_some g2
        cases g4
        match cst, hst with
        | w1 :: w2 :: w3 :: cr, ⟨⟨b', hb', h1⟩, h2, ⟨a', ha, h4⟩, h3⟩ =>
          cases h2; subst h4; subst h1
          obtain ⟨ce, f1, f, f2, f3⟩ := hw.at hwa ha
          obtain ⟨ce2, k1, cfs, k2, k3⟩ := hw.at hwb hb'
          subst f2; subst k2
          exact va_astq hx hb hK.1 hP hD hS a (t + 3) b ci f1 hT k1 hc g3 d (fun H1 locs1 hP1 hD1 hS1 => hgo tl _ H1 locs1 ls cr clv (hw.set f1 (e := .inr (t + 3, n, (i.toNatClampNeg, .ref b) :: u, dd)) ⟨_, rfl, rx_look_upd (g := va_rf) (fun _ => rfl) f3 ⟨b', hb', rfl⟩⟩) hP1 hD1 hS1 hlv hl h3)
      · cases h
    · cases h
  · cases h
end AR
end

section
/-! NEW CELLS, CALLS, ENDS -/
section CA
variable {G : rx_G} {MT : Nat → rx_M} {M : rx_M} {pc : Nat}
noncomputable def rx_new (ci : Nat) (fs : List Value) (RC RS pc' : Nat) : rx_T := fun _ st => cond (Nat.ble (st.2.2.2.1 + 1) RC && Nat.ble (st.2.2.2.2 + fs.length) RS) (rx_fN st.2.2.1.length (fun n => some (.inl (pc', (st.1, .ref n :: st.2.1, st.2.2.1 ++ [.inl (ci, fs)], st.2.2.2.1 + 1, st.2.2.2.2 + fs.length))))) none
def rx_consts (σ : Nat → Int32) (fs : List Value) : Prop := ∀ ρ, rx_l ρ σ fs fs
theorem rx_w.fresh {ρ : List Nat} {σ : Nat → Int32} {cy : Nat → ClassId} {ws : rx_W} {cws : va_W} (h : rx_w ρ σ cy ws cws) (q : Nat) : (ρ ++ [q])[ws.length]? = some q := by
  have : ρ.length = ws.length := by rw [← h.1, List.length_map, h.2.1]
  rw [List.getElem?_append_right (by omega), this]
  simp
theorem rx_sd_new {ci index N : Nat} {C : String} {T : u_T} {ty : Nat → FieldType} {fs : List Value} (hin : ∀ w ∈ u_ws C T N, w ∈ G.gT) (hty : ∀ k, k < N → parseFieldDescriptor (T k).2.2.1 = some (ty k)) (hc : G.cl[ci]? = some (C, T, N)) (hl0 : Cond.classLink M.1.cls index C ∈ G.gT) (hin0 : Cond.instantiable C N ∈ G.gT) (hini : Cond.initialized C ∈ G.gT) (hfs : ∀ j, j < N → defaultValue (ty j) = vp_V fs j) (hlen : fs.length = N) (hcs : rx_consts G.sg fs) (d : decode M.2.1 pc = .ok (.new index, 3)) : rx_Sd G MT M pc (rx_new ci fs M.2.2.2.2.1.cells M.2.2.2.2.1.slots (pc + 3)) := by
  intro p e s m args below meth c A X rec hrec st o h ρ0 r hgo
  obtain ⟨hx, hb, hml, hr, hown, hts, hlk, hnm, hK, hA⟩ := X
  obtain ⟨lv, sk, ws, c0, s0⟩ := st
  intro tl cws H locs ls cst clv hw hP hD hS hlv hl hst
  unfold rx_new at h
  simp only [rx_fN_eq] at h hst hlv hw
  obtain ⟨g1, g2⟩ := rx_cond_some h
  rw [Bool.and_eq_true] at g1
  cases g2
  subst hlen
  refine va_new (fs := fs) hx hb hts hin ty hty hown (hts _ hl0) (hts _ hin0) (hts _ hini) hK.1 hP hD hS hA hc hfs (Nat.le_of_ble_eq_true g1.1) (Nat.le_of_ble_eq_true g1.2) d (fun q H1 hP1 hD1 hS1 => ?_)
  have e1 : ρ0 ++ (tl ++ [q]) = (ρ0 ++ tl) ++ [q] := by rw [List.append_assoc]
  refine hgo (tl ++ [q]) _ H1 locs ls (.ref q :: cst) clv ?_ hP1 hD1 hS1 ?_ hl ?_
  · rw [e1]; exact hw.new (e := .inl (ci, fs)) ⟨_, rfl, hcs _⟩
  · rw [e1]; exact hlv.mono
  · rw [e1]; exact ⟨⟨q, hw.fresh q, rfl⟩, hst.mono⟩
theorem rx_ra_same {U : State} {c1 c2 : ClassId} {ty : FieldType} (h1 : va_RA U c1 ty) (h2 : va_RA U c2 ty) : c1 = c2 := by
  cases ty with
  | object C =>
    obtain ⟨_, _, _, _, _, e1⟩ := h1
    obtain ⟨_, _, _, _, _, e2⟩ := h2
    exact Option.some.inj (e1.symm.trans e2)
  | _ => exact Option.some.inj (Eq.trans (Eq.symm h1) h2)
theorem rx_new_cls {D : va_G} {cl : List vw_C} {TY : List (ClassId × FieldType)} {s : State} {cA c1 : ClassId} {ty : FieldType} {t : Nat} (h : va_K D cl (TY ++ [(cA, ty)]) s) (ht : TY[t]? = some (c1, ty)) : cA = c1 := by
  have hl : t < TY.length := (List.getElem?_eq_some_iff.mp ht).1
  have h1 := (h.2 t (c1, ty) (by rw [List.getElem?_append_left hl]; exact ht)).2
  have h2 := (h.2 TY.length (cA, ty) (by rw [List.getElem?_append_right (Nat.le_refl _)]; simp)).2
  exact rx_ra_same h2 h1
/-- a kind's first value -/
def rx_d0 : Nat → Value
  | 0 => .int 0
  | 1 => .long 0
  | 2 => .int 0
  | _ => .null
noncomputable def rx_nwa (tag RC RS pc' : Nat) : rx_T := fun _ st => match st.2.1 with
  | .int n :: sk => cond (decide (n < 0)) none (rx_fN n.toNatClampNeg (fun N => cond (Nat.ble (st.2.2.2.1 + 1) RC && (Nat.ble (st.2.2.2.2 + N) RS && Nat.ble N 60000000)) (rx_fN st.2.2.1.length (fun k => some (.inl (pc', (st.1, .ref k :: sk, st.2.2.1 ++ [.inr (tag, N, [], rx_d0 tag)], st.2.2.2.1 + 1, st.2.2.2.2 + N))))) none))
  | _ => none
theorem rx_nwa_some {tag RC RS pc' : Nat} {rec : rx_C} {lv : rx_L} {sk : List Value} {ws : rx_W} {c0 s0 : Nat} {o : rx_O} (h : rx_nwa tag RC RS pc' rec (lv, sk, ws, c0, s0) = some o) : ∃ (n : Int32) (sr : List Value), sk = .int n :: sr ∧ ¬ n < 0 ∧ c0 + 1 ≤ RC ∧ s0 + n.toNatClampNeg ≤ RS ∧ n.toNatClampNeg ≤ 60000000 ∧ o = .inl (pc', (lv, .ref ws.length :: sr, ws ++ [.inr (tag, n.toNatClampNeg, [], rx_d0 tag)], c0 + 1, s0 + n.toNatClampNeg)) := by
  unfold rx_nwa at h
  simp only at h
  split at h
  · next n sr =>
    cases hb : decide (n < 0) with
    | true => rw [hb] at h; cases h
    | false =>
      rw [hb] at h
      simp only [cond_false, rx_fN_eq] at h
      obtain ⟨g1, g2⟩ := rx_cond_some h
      simp only [Bool.and_eq_true] at g1
      cases g2
      exact ⟨n, sr, rfl, by simpa using hb, Nat.le_of_ble_eq_true g1.1, Nat.le_of_ble_eq_true g1.2.1, Nat.le_of_ble_eq_true g1.2.2, rfl⟩
  · cases h
theorem rx_arr_i (N : Nat) (cA : ClassId) : vp_cell cA (N, .inl (fun _ => 0)) = arrV cA N (fun _ => defaultValue .int) := rfl
theorem rx_arr_z (N : Nat) (cA : ClassId) : vp_cell cA (N, .inl (fun _ => 0)) = arrV cA N (fun _ => defaultValue .boolean) := rfl
theorem rx_arr_l (N : Nat) (cA : ClassId) : vp_cell cA (N, .inr (.inl (fun _ => 0))) = arrV cA N (fun _ => defaultValue .long) := rfl
theorem rx_sd_newI (hT : rx_TYOk G) (hw0 : Cond.arrayClass .int ∈ G.gT) {at' : ArrayType} (hat : newarray.typeOf at' = .int) (d : decode M.2.1 pc = .ok (.newarray at', 2)) : rx_Sd G MT M pc (rx_nwa 0 M.2.2.2.2.1.cells M.2.2.2.2.1.slots (pc + 2)) := by
  intro p e s m args below meth c A X rec hrec st o h ρ0 r hgo
  obtain ⟨hx, hb, hml, hr, hown, hts, hlk, hnm, hK, hA⟩ := X
  obtain ⟨lv, sk, ws, c0, s0⟩ := st
  intro tl cws H locs ls cst clv hw hP hD hS hlv hl hst
  obtain ⟨n, sr, rfl, g1, g2, g3, g4, rfl⟩ := rx_nwa_some h
  match cst, hst with
  | w1 :: cr, ⟨h1, h3⟩ =>
    cases h1
    refine va_newa (a0 := (n.toNatClampNeg, .inl (fun _ => 0))) hx hb (by rw [hat]; exact hts _ hw0) hat hK.1 hP hD hS hA (rx_arr_i _) g1 rfl (by simp only [componentBytes]; omega) g2 g3 d (fun q cA H1 hK1 hP1 hD1 hS1 => ?_)
    have := rx_new_cls hK1 hT.1
    subst this
    have e1 : ρ0 ++ (tl ++ [q]) = (ρ0 ++ tl) ++ [q] := by rw [List.append_assoc]
    refine hgo (tl ++ [q]) _ H1 locs ls (.ref q :: cr) clv ?_ hP1 hD1 hS1 ?_ hl ?_
    · rw [e1]; exact hw.new (e := .inr (0, n.toNatClampNeg, [], .int 0)) ⟨_, rfl, fun _ => rfl⟩
    · rw [e1]; exact hlv.mono
    · rw [e1]; exact ⟨⟨q, hw.fresh q, rfl⟩, h3.mono⟩
theorem rx_sd_newZ (hT : rx_TYOk G) (hw0 : Cond.arrayClass .boolean ∈ G.gT) {at' : ArrayType} (hat : newarray.typeOf at' = .boolean) (d : decode M.2.1 pc = .ok (.newarray at', 2)) : rx_Sd G MT M pc (rx_nwa 2 M.2.2.2.2.1.cells M.2.2.2.2.1.slots (pc + 2)) := by
  intro p e s m args below meth c A X rec hrec st o h ρ0 r hgo
  obtain ⟨hx, hb, hml, hr, hown, hts, hlk, hnm, hK, hA⟩ := X
  obtain ⟨lv, sk, ws, c0, s0⟩ := st
  intro tl cws H locs ls cst clv hw hP hD hS hlv hl hst
  obtain ⟨n, sr, rfl, g1, g2, g3, g4, rfl⟩ := rx_nwa_some h
  match cst, hst with
  | w1 :: cr, ⟨h1, h3⟩ =>
    cases h1
    refine va_newa (a0 := (n.toNatClampNeg, .inl (fun _ => 0))) hx hb (by rw [hat]; exact hts _ hw0) hat hK.1 hP hD hS hA (rx_arr_z _) g1 rfl (by simp only [componentBytes]; omega) g2 g3 d (fun q cA H1 hK1 hP1 hD1 hS1 => ?_)
    have := rx_new_cls hK1 hT.2.2
    subst this
    have e1 : ρ0 ++ (tl ++ [q]) = (ρ0 ++ tl) ++ [q] := by rw [List.append_assoc]
    refine hgo (tl ++ [q]) _ H1 locs ls (.ref q :: cr) clv ?_ hP1 hD1 hS1 ?_ hl ?_
    · rw [e1]; exact hw.new (e := .inr (2, n.toNatClampNeg, [], .int 0)) ⟨_, rfl, fun _ => rfl⟩
    · rw [e1]; exact hlv.mono
    · rw [e1]; exact ⟨⟨q, hw.fresh q, rfl⟩, h3.mono⟩
theorem rx_sd_newL (hT : rx_TYOk G) (hw0 : Cond.arrayClass .long ∈ G.gT) {at' : ArrayType} (hat : newarray.typeOf at' = .long) (d : decode M.2.1 pc = .ok (.newarray at', 2)) : rx_Sd G MT M pc (rx_nwa 1 M.2.2.2.2.1.cells M.2.2.2.2.1.slots (pc + 2)) := by
  intro p e s m args below meth c A X rec hrec st o h ρ0 r hgo
  obtain ⟨hx, hb, hml, hr, hown, hts, hlk, hnm, hK, hA⟩ := X
  obtain ⟨lv, sk, ws, c0, s0⟩ := st
  intro tl cws H locs ls cst clv hw hP hD hS hlv hl hst
  obtain ⟨n, sr, rfl, g1, g2, g3, g4, rfl⟩ := rx_nwa_some h
  match cst, hst with
  | w1 :: cr, ⟨h1, h3⟩ =>
    cases h1
    refine va_newa (a0 := (n.toNatClampNeg, .inr (.inl (fun _ => 0)))) hx hb (by rw [hat]; exact hts _ hw0) hat hK.1 hP hD hS hA (rx_arr_l _) g1 rfl (by simp only [componentBytes]; omega) g2 g3 d (fun q cA H1 hK1 hP1 hD1 hS1 => ?_)
    have := rx_new_cls hK1 hT.2.1
    subst this
    have e1 : ρ0 ++ (tl ++ [q]) = (ρ0 ++ tl) ++ [q] := by rw [List.append_assoc]
    refine hgo (tl ++ [q]) _ H1 locs ls (.ref q :: cr) clv ?_ hP1 hD1 hS1 ?_ hl ?_
    · rw [e1]; exact hw.new (e := .inr (1, n.toNatClampNeg, [], .long 0)) ⟨_, rfl, fun _ => rfl⟩
    · rw [e1]; exact hlv.mono
    · rw [e1]; exact ⟨⟨q, hw.fresh q, rfl⟩, h3.mono⟩
theorem rx_sd_newq {t index : Nat} {C : String} (hT : G.TY[t + 3]? = some (G.cy (t + 3), .object C)) (hO : C ∈ G.OC) (hl0 : Cond.classLink M.1.cls index C ∈ G.gT) (d : decode M.2.1 pc = .ok (.anewarray index, 3)) : rx_Sd G MT M pc (rx_nwa (t + 3) M.2.2.2.2.1.cells M.2.2.2.2.1.slots (pc + 3)) := by
  intro p e s m args below meth c A X rec hrec st o h ρ0 r hgo
  obtain ⟨hx, hb, hml, hr, hown, hts, hlk, hnm, hK, hA⟩ := X
  obtain ⟨lv, sk, ws, c0, s0⟩ := st
  intro tl cws H locs ls cst clv hw hP hD hS hlv hl hst
  obtain ⟨n, sr, rfl, g1, g2, g3, g4, rfl⟩ := rx_nwa_some h
  match cst, hst with
  | w1 :: cr, ⟨h1, h3⟩ =>
    cases h1
    refine va_newq hx hb hown (hts _ hl0) (hK.2.2 C hO) hK.1 hP hD hS hA g1 rfl (by omega) g2 g3 d (fun q cA H1 hK1 hP1 hD1 hS1 => ?_)
    have := rx_new_cls hK1 hT
    subst this
    have e1 : ρ0 ++ (tl ++ [q]) = (ρ0 ++ tl) ++ [q] := by rw [List.append_assoc]
    refine hgo (tl ++ [q]) _ H1 locs ls (.ref q :: cr) clv ?_ hP1 hD1 hS1 ?_ hl ?_
    · rw [e1]; exact hw.new (e := .inr (t + 3, n.toNatClampNeg, [], .null)) ⟨_, rfl, fun _ => rfl⟩
    · rw [e1]; exact hlv.mono
    · rw [e1]; exact ⟨⟨q, hw.fresh q, rfl⟩, h3.mono⟩
/-- Object.<init> -/
def rx_obj (RL pc' : Nat) : rx_T := fun _ st => match st.2.1 with
  | .ref _ :: sk => cond (Nat.ble ((sk.map rx_cat).sum + 12) RL) (some (.inl (pc', (st.1, sk, st.2.2)))) none
  | _ => none
theorem rx_sd_obj {index : Nat} (hl0 : Cond.methodLink M.1.cls index objectInit ∈ G.gT) (hi0 : Cond.instanceMethod objectInit ∈ G.gT) (hc0 : Cond.code objectInit ⟨#[0xb1]⟩ 1 none ∈ G.gT) (hf : 1 ≤ M.2.2.2.2.1.frames) (d : decode M.2.1 pc = .ok (.invokespecial index, 3)) : rx_Sd G MT M pc (rx_obj M.2.2.2.2.1.locals (pc + 3)) := by
  intro p e s m args below meth c A X rec hrec st o h ρ0 r hgo
  obtain ⟨hx, hb, hml, hr, hown, hts, hlk, hnm, hK, hA⟩ := X
  obtain ⟨lv, sk, ws, c0, s0⟩ := st
  intro tl cws H locs ls cst clv hw hP hD hS hlv hl hst
  unfold rx_obj at h
  simp only at h hst hlv hw
  match sk, cst, h, hst with
  | .ref a :: sr, w :: cr, h, ⟨⟨a', ha, hwe⟩, h3⟩ =>
    subst hwe
    simp only at h
    obtain ⟨g1, g2⟩ := rx_cond_some h
    cases g2
    have hs := Nat.le_of_ble_eq_true g1
    refine W.objInit hx hb hown (hts _ hl0) (hts _ hi0) (hts _ hc0) (g := F0 m pc ls (.ref a' :: cr)) rfl (by rw [hml]; exact hl.1) rfl d hf (by rw [h3.cats]; simpa [JFrame.monitorRoom] using hs) ?_
    refine W.eq (g2 := F0 m (pc + 3) ls cr) rfl ?_
    exact hgo tl cws H locs ls cr clv hw hP hD hS hlv hl h3
/-- behind a call -/
theorem rx_behind {p : Program} {l : Launch} {e : Env} {R : Room} {s : State} {m : MethodId} {args : Array Value} {below : List Frame} {meth : Method} {c : Code} {H : Heap} {locs : List Loc} {cells slots : Nat} {Q : State → Prop} {pc : Nat} {ls : Array Slot} {rest st0 : List Value} {a : Array Value} {A0 A1 : Nat → Prop} {H0 : Heap} {mc ms : Nat} {free : Addr → Prop} {ρ : List Nat} {r : rx_R}
    (hr : va_Run p l e R s m args below meth c H locs cells slots mc ms (F0 m pc ls st0) rest (rx_Q G ρ r A1 a) free) (hS : va_S A0 H0 H locs) (hA : ∀ q, q < H.size → A1 q → A0 q) (hf : ∀ q, free q → A0 q)
    (kk : ∀ (v : Option Value) (tl : List Nat) (cws : va_W) (H1 : Heap) (locs1 : List Loc), rx_o (ρ ++ tl) G.sg r.1 v → rx_w (ρ ++ tl) G.sg G.cy r.2 cws → va_P G.D G.cl cws H1 → va_D A1 cws → va_S A0 H0 H1 locs1 → W p l e R s m args below meth c H1 locs1 (cells + mc) (slots + ms) Q (F0 m (pc + 3) ls (v.toList ++ rest))) : W p l e R s m args below meth c H locs cells slots Q (F0 m pc ls st0) := by
  intro T hT X
  obtain ⟨v, st₀, t, T', L, h0, X', hL, e1, e2, ⟨⟨v', tl, cws, hv, hp, hb, hP, hD⟩, hz, hk⟩, st⟩ := hr T hT X
  cases hv
  rw [h0] at hz hk
  obtain ⟨t2, a1, b1⟩ := kk v tl cws T'.heap (locs ++ L) hp hb (by rw [e1]; exact hP) hD
    ⟨Nat.le_trans hS.1 (by rw [e1]; exact hz), fun q h1 h2 => by rw [e1, hk q (Nat.lt_of_lt_of_le h1 hS.1) (fun z => h2 (hA q (Nat.lt_of_lt_of_le h1 hS.1) z))]; exact hS.2.1 q h1 h2, fun q hq => by
      rcases List.mem_append.mp hq with h | h
      · exact hS.2.2 q h
      · exact hf _ (hL q h)⟩ T' rfl X'
  exact ⟨t2, st t2 a1, b1⟩
def rx_recv (ci : Nat) (ws : rx_W) : List Value → Bool
  | .ref k :: _ => match ws[k]? with
    | some (.inl (ci', _)) => Nat.beq ci ci'
    | _ => false
  | _ => false
/-- a call of method 'mid' with n values (the receiver first); virt: the receiver is an object of class ci -/
def rx_cl (mid n ci : Nat) (virt : Bool) (mc ms RC RS pc' : Nat) : rx_T := fun rec st => cond (Nat.beq (st.2.1.take n).length n && (Nat.ble ((st.2.1.drop n).map rx_cat).sum 8 && (Nat.ble (st.2.2.2.1 + mc) RC && (Nat.ble (st.2.2.2.2 + ms) RS && (!virt || rx_recv ci st.2.2.1 (st.2.1.take n).reverse))))) (match rec mid (st.2.1.take n).reverse st.2.2.1 with
  | none => none
  | some (v, ws') => some (.inl (pc', (st.1, v.toList ++ st.2.1.drop n, ws', st.2.2.2.1 + mc, st.2.2.2.2 + ms)))) none
/-- how a call is linked: what the tables say, out of a contract -/
def rx_Lk (G : rx_G) (MT : Nat → rx_M) (M : rx_M) (pc mid n ci : Nat) (virt : Bool) : Prop :=
  ∀ (p : Program) (e : Env) (s : State) (m : MethodId) (args : Array Value) (below : List Frame) (meth : Method) (c : Code) (A : Nat → Prop) (H : Heap) (locs : List Loc) (cells slots : Nat) (ls : Array Slot) (ca rest : List Value) (Pc : Array Value → State → Prop) (Qc : Array Value → State → Outcome → State → Prop) (free : Addr → Prop), rx_X G M p s m args meth c A → ls.size = M.2.2.1 →
    Met G.l (MT mid).1 (rx_ws G (MT mid)) (MT mid).2.2.2.2.1 Pc Qc (MT mid).2.2.2.2.1.cells (MT mid).2.2.2.2.1.slots free → FrameBlind Pc → (∀ U : State, U.heap = H → s.WarmedH U.vm → Pc ca.toArray U) → ca.length = n →
    (virt = true → ∃ (b : Nat) (As : List Value) (C : vw_C) (cell : Cell), ca = .ref b :: As ∧ G.cl[ci]? = some C ∧ H[b]? = some cell ∧ cell.vm.isStatics = false ∧ s.vm.findClass C.1 = some cell.cls) → (rest.map fun v => v.category).sum ≤ 8 → cells + (MT mid).2.2.2.2.1.cells ≤ M.2.2.2.2.1.cells → slots + (MT mid).2.2.2.2.1.slots ≤ M.2.2.2.2.1.slots →
    va_Run p G.l e M.2.2.2.2.1 s m args below meth c H locs cells slots (MT mid).2.2.2.2.1.cells (MT mid).2.2.2.2.1.slots (F0 m pc ls (ca.reverse ++ rest)) rest (Qc ca.toArray) free
theorem rx_sd_cl {mid n ci : Nat} {virt : Bool} {mc ms : Nat} (hL : rx_Lk G MT M pc mid n ci virt) (hci : virt = true → ∃ C, G.cl[ci]? = some C) (hmc : (MT mid).2.2.2.2.1.cells = mc) (hms : (MT mid).2.2.2.2.1.slots = ms) : rx_Sd G MT M pc (rx_cl mid n ci virt mc ms M.2.2.2.2.1.cells M.2.2.2.2.1.slots (pc + 3)) := by
  intro p e s m args below meth c A X rec hrec st o h ρ0 r hgo
  have X0 := X
  obtain ⟨hx, hb, hml, hr, hown, hts, hlk, hnm, hK, hA⟩ := X
  obtain ⟨lv, sk, ws, c0, s0⟩ := st
  intro tl cws H locs ls cst clv hw hP hD hS hlv hl hst
  unfold rx_cl at h
  simp only at h hst hlv hw
  obtain ⟨g1, g2⟩ := rx_cond_some h
  simp only [Bool.and_eq_true] at g1
  obtain ⟨k1, k2, k3, k4, k5⟩ := g1
  subst hmc; subst hms
  cases hrc : rec mid (sk.take n).reverse ws with
  | none => rw [hrc] at g2; cases g2
  | some r1 =>
    obtain ⟨v1, ws1⟩ := r1
    rw [hrc] at g2
    cases g2
    have ht := hst.take n
    have hca := ht.1.rev
    have hM := hrec mid _ ws _ hrc (ρ0 ++ tl) cws H.size ((cst.take n).reverse) hw hca
    have hF : ∀ q, va_A cws H.size q → A q := by
      intro q hq
      rcases hq with ⟨k, e', hk⟩ | hq
      · exact hD.2 k (q, e') hk
      · exact hA q (Nat.le_trans hS.1 hq)
    have hlen : ((cst.take n).reverse).length = n := by
      rw [List.length_reverse, ← ht.1.len]
      exact Nat.eq_of_beq_eq_true k1
    have hrun := hL p e s m args below meth c A H locs c0 s0 ls ((cst.take n).reverse) (cst.drop n) _ _ _ X0 hl.1 hM (rx_Pc.blind G _ cws H.size) (fun U hU hW => ⟨rfl, by rw [hU], by rw [hU]; exact hP, hK.warm hW, hD.weaken (fun _ _ _ _ => trivial)⟩) hlen (fun hv => by
      subst hv
      simp only [Bool.not_true, Bool.false_or] at k5
      unfold rx_recv at k5
      split at k5
      · next k t hk =>
        split at k5
        · next ci' fs hwk =>
          have e1 := Nat.eq_of_beq_eq_true k5
          subst e1
          rw [hk] at hca
          obtain ⟨C, hC⟩ := hci rfl
          cases hcr : (cst.take n).reverse with
          | nil => rw [hcr] at hca; exact hca.elim
          | cons w As =>
            rw [hcr] at hca
            obtain ⟨⟨b, hb', hwb⟩, -⟩ := hca
            subst hwb
            obtain ⟨ce, f1, cfs, f2, f3⟩ := hw.at hwk hb'
            subst f2
            obtain ⟨cell, q1, q2, q3⟩ := va_recv hK.1 hP hC f1
            exact ⟨b, As, C, cell, rfl, hC, q1, q2, q3⟩
        · cases k5
      · cases k5) (by rw [ht.2.cats]; exact Nat.le_of_ble_eq_true k2) (Nat.le_of_ble_eq_true k3) (Nat.le_of_ble_eq_true k4)
    rw [List.reverse_reverse, List.take_append_drop] at hrun
    refine rx_behind hrun hS (fun q _ hq => hF q hq) hF (fun v t2 cws2 H2 locs2 e1 e2 e3 e4 e5 => ?_)
    have e6 : ρ0 ++ (tl ++ t2) = (ρ0 ++ tl) ++ t2 := by rw [List.append_assoc]
    refine hgo (tl ++ t2) cws2 H2 locs2 ls _ clv ?_ e3 (e4.weaken (fun k q _ hq => hF _ hq)) e5 ?_ hl ?_
    · rw [e6]; exact e2
    · rw [e6]; exact hlv.mono
    · rw [e6]
      refine rx_l.app ?_ ht.2.mono
      match v1, v, e1 with
      | none, none, _ => trivial
      | some x, some y, e1 => exact ⟨e1, trivial⟩
end CA
end
