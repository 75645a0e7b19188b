theorem cx_turn_share [Mul (cx_S Nat)] [One (cx_S Nat)] [Add (cx_S Nat)] [Zero (cx_S Nat)] [Inhabited (cx_Idx Nat)] [Inhabited (PLift cx_Natl)] {n : Nat} [Zero (cx_Ex n)] [Add (cx_Ex n)] [Mul (cx_S (cx_Ex n))] [One (cx_S (cx_Ex n))] [Add (cx_S (cx_Ex n))] [Zero (cx_S (cx_Ex n))] [Inhabited (cx_Idx (cx_Ex n))] [Inhabited (PLift (cx_Exl n))] [∀ s : cx_Sd n, Add (cx_MM s)] [∀ s : cx_Sd n, Inhabited (PLift (cx_MGl (cx_MM s)))] [∀ s : cx_Sd n, Inhabited (cx_Tord (cx_Ex n) (cx_MM s))] [Inhabited (PLift (cx_MMl n))] {s : cx_Sd n} {v : cx_Pv n → Fin n → Rat} (h : cx_Ok s v) {k : Fin n} {L N : cx_Pl_ n} (hL : ∀ x, v x k = cx_vl x.1 L)
    (hN : ∀ x : cx_Pv n, cx_vl x.1 N = cx_mo (v x) (fun i => (cx_pos (s.b i k) : Int)) + cx_mo (v x) (fun i => (cx_pos (- s.b i k) : Int))) :
    ∃ Q : cx_Pl_ n, (∀ y ∈ Q, 0 < y.1) ∧ (∀ a, cx_co (cx_pmz Q L) a = cx_co N a) ∧ ∀ x, cx_stepv s.b k (v x) k = cx_vl x.1 Q := by
  obtain ⟨Q, hQ, hv⟩ := cx_ok_laurent (cx_ok_turn h k) k
  let Q' : cx_Pl_ n := Q.map fun y => ((y.1 : Int), y.2)
  have hval : ∀ x : cx_Pv n, cx_stepv s.b k (v x) k = cx_vl x.1 Q' := fun x => by
    rw [hv x]
    unfold cx_vl
    show _ = cx_sm (Q.map fun y => ((y.1 : Int), y.2)) _
    rw [cx_sm_map]
    exact cx_sm_congr (fun y _ => by rw [cx_nat_int])
  refine ⟨Q', fun y hy => ?_, cx_vl_unique (fun x => ?_), hval⟩
  · obtain ⟨z, hz, rfl⟩ := List.mem_map.1 hy
    have := hQ z hz
    show (0 : Int) < (z.1 : Int)
    omega
  · rw [cx_vl_pmz x.2, ← hval x, ← hL x, hN x]
    unfold cx_stepv
    rw [if_pos rfl]
    have h0 := h.1 x k
    have : (v x k)⁻¹ * v x k = 1 := Rat.inv_mul_cancel _ (by grind)
    grind
def cx_Gt [Mul (cx_S Nat)] [One (cx_S Nat)] [Add (cx_S Nat)] [Zero (cx_S Nat)] [Inhabited (cx_Idx Nat)] [Inhabited (PLift cx_Natl)] {n : Nat} [Zero (cx_Ex n)] [Add (cx_Ex n)] [Mul (cx_S (cx_Ex n))] [One (cx_S (cx_Ex n))] [Add (cx_S (cx_Ex n))] [Zero (cx_S (cx_Ex n))] [Inhabited (cx_Idx (cx_Ex n))] [Inhabited (PLift (cx_Exl n))] [∀ s : cx_Sd n, Add (cx_MM s)] [∀ s : cx_Sd n, Inhabited (PLift (cx_MGl (cx_MM s)))] [∀ s : cx_Sd n, Inhabited (cx_Tord (cx_Ex n) (cx_MM s))] [Inhabited (PLift (cx_MMl n))] (a b : cx_Xp n) : Prop := ∃ i, (∀ j, j < i → a j = b j) ∧ b i < a i
theorem cx_Gt.irrefl [Mul (cx_S Nat)] [One (cx_S Nat)] [Add (cx_S Nat)] [Zero (cx_S Nat)] [Inhabited (cx_Idx Nat)] [Inhabited (PLift cx_Natl)] {n : Nat} [Zero (cx_Ex n)] [Add (cx_Ex n)] [Mul (cx_S (cx_Ex n))] [One (cx_S (cx_Ex n))] [Add (cx_S (cx_Ex n))] [Zero (cx_S (cx_Ex n))] [Inhabited (cx_Idx (cx_Ex n))] [Inhabited (PLift (cx_Exl n))] [∀ s : cx_Sd n, Add (cx_MM s)] [∀ s : cx_Sd n, Inhabited (PLift (cx_MGl (cx_MM s)))] [∀ s : cx_Sd n, Inhabited (cx_Tord (cx_Ex n) (cx_MM s))] [Inhabited (PLift (cx_MMl n))] (a : cx_Xp n) : ¬ cx_Gt a a := fun ⟨i, _, h⟩ => by omega
theorem cx_Gt.trans [Mul (cx_S Nat)] [One (cx_S Nat)] [Add (cx_S Nat)] [Zero (cx_S Nat)] [Inhabited (cx_Idx Nat)] [Inhabited (PLift cx_Natl)] {n : Nat} [Zero (cx_Ex n)] [Add (cx_Ex n)] [Mul (cx_S (cx_Ex n))] [One (cx_S (cx_Ex n))] [Add (cx_S (cx_Ex n))] [Zero (cx_S (cx_Ex n))] [Inhabited (cx_Idx (cx_Ex n))] [Inhabited (PLift (cx_Exl n))] [∀ s : cx_Sd n, Add (cx_MM s)] [∀ s : cx_Sd n, Inhabited (PLift (cx_MGl (cx_MM s)))] [∀ s : cx_Sd n, Inhabited (cx_Tord (cx_Ex n) (cx_MM s))] [Inhabited (PLift (cx_MMl n))] {a b c : cx_Xp n} (h : cx_Gt a b) (h' : cx_Gt b c) : cx_Gt a c := by
  obtain ⟨i, h1, h2⟩ := h
  obtain ⟨j, h3, h4⟩ := h'
  by_cases hij : i < j
  · exact ⟨i, fun l hl => (h1 l hl).trans (h3 l (by omega)), by rw [← h3 i hij]; exact h2⟩
  · by_cases hji : j < i
    · exact ⟨j, fun l hl => (h1 l (by omega)).trans (h3 l hl), by rw [h1 j hji]; exact h4⟩
    · have : i = j := by omega
      subst this
      exact ⟨i, fun l hl => (h1 l hl).trans (h3 l hl), by omega⟩
theorem cx_Gt.total [Mul (cx_S Nat)] [One (cx_S Nat)] [Add (cx_S Nat)] [Zero (cx_S Nat)] [Inhabited (cx_Idx Nat)] [Inhabited (PLift cx_Natl)] {n : Nat} [Zero (cx_Ex n)] [Add (cx_Ex n)] [Mul (cx_S (cx_Ex n))] [One (cx_S (cx_Ex n))] [Add (cx_S (cx_Ex n))] [Zero (cx_S (cx_Ex n))] [Inhabited (cx_Idx (cx_Ex n))] [Inhabited (PLift (cx_Exl n))] [∀ s : cx_Sd n, Add (cx_MM s)] [∀ s : cx_Sd n, Inhabited (PLift (cx_MGl (cx_MM s)))] [∀ s : cx_Sd n, Inhabited (cx_Tord (cx_Ex n) (cx_MM s))] [Inhabited (PLift (cx_MMl n))] (a b : cx_Xp n) : a = b ∨ cx_Gt a b ∨ cx_Gt b a := by
  by_cases h : ∃ i, a i ≠ b i
  · right

    have : ∃ i, a i ≠ b i ∧ ∀ j, j < i → a j = b j := by
      obtain ⟨i, hi⟩ := h
      have main : ∀ m : Nat, ∀ i : Fin n, i.1 < m → a i ≠ b i → ∃ i, a i ≠ b i ∧ ∀ j, j < i → a j = b j := by
        intro m
        induction m with
        | zero => intro i h; omega
        | succ m ih =>
          intro i him hi
          by_cases hj : ∃ j, j < i ∧ a j ≠ b j
          · obtain ⟨j, hj, hne⟩ := hj
            exact ih j (by omega) hne
          · exact ⟨i, hi, fun j hj' => Classical.byContradiction (fun hne => hj ⟨j, hj', hne⟩)⟩
      exact main (i.1 + 1) i (by omega) hi
    obtain ⟨i, hi, hlt⟩ := this
    by_cases hc : b i < a i
    · exact .inl ⟨i, hlt, hc⟩
    · exact .inr ⟨i, fun j hj => (hlt j hj).symm, by omega⟩
  · left
    funext i
    exact Classical.byContradiction (fun hne => h ⟨i, hne⟩)
theorem cx_Gt.add [Mul (cx_S Nat)] [One (cx_S Nat)] [Add (cx_S Nat)] [Zero (cx_S Nat)] [Inhabited (cx_Idx Nat)] [Inhabited (PLift cx_Natl)] {n : Nat} [Zero (cx_Ex n)] [Add (cx_Ex n)] [Mul (cx_S (cx_Ex n))] [One (cx_S (cx_Ex n))] [Add (cx_S (cx_Ex n))] [Zero (cx_S (cx_Ex n))] [Inhabited (cx_Idx (cx_Ex n))] [Inhabited (PLift (cx_Exl n))] [∀ s : cx_Sd n, Add (cx_MM s)] [∀ s : cx_Sd n, Inhabited (PLift (cx_MGl (cx_MM s)))] [∀ s : cx_Sd n, Inhabited (cx_Tord (cx_Ex n) (cx_MM s))] [Inhabited (PLift (cx_MMl n))] {a b : cx_Xp n} (h : cx_Gt a b) (c : cx_Xp n) : cx_Gt (fun i => a i + c i) (fun i => b i + c i) := by
  obtain ⟨i, h1, h2⟩ := h
  exact ⟨i, fun j hj => by show a j + c j = b j + c j; rw [h1 j hj], by show b i + c i < a i + c i; omega⟩
theorem cx_Gt.asymm [Mul (cx_S Nat)] [One (cx_S Nat)] [Add (cx_S Nat)] [Zero (cx_S Nat)] [Inhabited (cx_Idx Nat)] [Inhabited (PLift cx_Natl)] {n : Nat} [Zero (cx_Ex n)] [Add (cx_Ex n)] [Mul (cx_S (cx_Ex n))] [One (cx_S (cx_Ex n))] [Add (cx_S (cx_Ex n))] [Zero (cx_S (cx_Ex n))] [Inhabited (cx_Idx (cx_Ex n))] [Inhabited (PLift (cx_Exl n))] [∀ s : cx_Sd n, Add (cx_MM s)] [∀ s : cx_Sd n, Inhabited (PLift (cx_MGl (cx_MM s)))] [∀ s : cx_Sd n, Inhabited (cx_Tord (cx_Ex n) (cx_MM s))] [Inhabited (PLift (cx_MMl n))] {a b : cx_Xp n} (h : cx_Gt a b) : ¬ cx_Gt b a := fun h' => cx_Gt.irrefl a (h.trans h')
abbrev cx_Shr [Mul (cx_S Nat)] [One (cx_S Nat)] [Add (cx_S Nat)] [Zero (cx_S Nat)] [Inhabited (cx_Idx Nat)] [Inhabited (PLift cx_Natl)] {n : Nat} [Zero (cx_Ex n)] [Add (cx_Ex n)] [Mul (cx_S (cx_Ex n))] [One (cx_S (cx_Ex n))] [Add (cx_S (cx_Ex n))] [Zero (cx_S (cx_Ex n))] [Inhabited (cx_Idx (cx_Ex n))] [Inhabited (PLift (cx_Exl n))] [∀ s : cx_Sd n, Add (cx_MM s)] [∀ s : cx_Sd n, Inhabited (PLift (cx_MGl (cx_MM s)))] [∀ s : cx_Sd n, Inhabited (cx_Tord (cx_Ex n) (cx_MM s))] [Inhabited (PLift (cx_MMl n))] (l : cx_Pl_ n) : Prop := (l.Pairwise (fun y z => cx_Gt y.2 z.2)) ∧ (∀ y ∈ l, 0 < y.1)
theorem cx_Shr.srt [Mul (cx_S Nat)] [One (cx_S Nat)] [Add (cx_S Nat)] [Zero (cx_S Nat)] [Inhabited (cx_Idx Nat)] [Inhabited (PLift cx_Natl)] {n : Nat} [Zero (cx_Ex n)] [Add (cx_Ex n)] [Mul (cx_S (cx_Ex n))] [One (cx_S (cx_Ex n))] [Add (cx_S (cx_Ex n))] [Zero (cx_S (cx_Ex n))] [Inhabited (cx_Idx (cx_Ex n))] [Inhabited (PLift (cx_Exl n))] [∀ s : cx_Sd n, Add (cx_MM s)] [∀ s : cx_Sd n, Inhabited (PLift (cx_MGl (cx_MM s)))] [∀ s : cx_Sd n, Inhabited (cx_Tord (cx_Ex n) (cx_MM s))] [Inhabited (PLift (cx_MMl n))] {l : cx_Pl_ n} (hh_ : cx_Shr l) : l.Pairwise (fun y z => cx_Gt y.2 z.2) := hh_.1
theorem cx_Shr.pos [Mul (cx_S Nat)] [One (cx_S Nat)] [Add (cx_S Nat)] [Zero (cx_S Nat)] [Inhabited (cx_Idx Nat)] [Inhabited (PLift cx_Natl)] {n : Nat} [Zero (cx_Ex n)] [Add (cx_Ex n)] [Mul (cx_S (cx_Ex n))] [One (cx_S (cx_Ex n))] [Add (cx_S (cx_Ex n))] [Zero (cx_S (cx_Ex n))] [Inhabited (cx_Idx (cx_Ex n))] [Inhabited (PLift (cx_Exl n))] [∀ s : cx_Sd n, Add (cx_MM s)] [∀ s : cx_Sd n, Inhabited (PLift (cx_MGl (cx_MM s)))] [∀ s : cx_Sd n, Inhabited (cx_Tord (cx_Ex n) (cx_MM s))] [Inhabited (PLift (cx_MMl n))] {l : cx_Pl_ n} (hh_ : cx_Shr l) : ∀ y ∈ l, 0 < y.1 := hh_.2
theorem cx_Shr.tail [Mul (cx_S Nat)] [One (cx_S Nat)] [Add (cx_S Nat)] [Zero (cx_S Nat)] [Inhabited (cx_Idx Nat)] [Inhabited (PLift cx_Natl)] {n : Nat} [Zero (cx_Ex n)] [Add (cx_Ex n)] [Mul (cx_S (cx_Ex n))] [One (cx_S (cx_Ex n))] [Add (cx_S (cx_Ex n))] [Zero (cx_S (cx_Ex n))] [Inhabited (cx_Idx (cx_Ex n))] [Inhabited (PLift (cx_Exl n))] [∀ s : cx_Sd n, Add (cx_MM s)] [∀ s : cx_Sd n, Inhabited (PLift (cx_MGl (cx_MM s)))] [∀ s : cx_Sd n, Inhabited (cx_Tord (cx_Ex n) (cx_MM s))] [Inhabited (PLift (cx_MMl n))] {y : Int × cx_Xp n} {l : cx_Pl_ n} (h : cx_Shr (y :: l)) : cx_Shr l := ⟨(List.pairwise_cons.1 h.srt).2, fun z hz => h.pos z (by simp [hz])⟩
theorem cx_co_none [Mul (cx_S Nat)] [One (cx_S Nat)] [Add (cx_S Nat)] [Zero (cx_S Nat)] [Inhabited (cx_Idx Nat)] [Inhabited (PLift cx_Natl)] {n : Nat} [Zero (cx_Ex n)] [Add (cx_Ex n)] [Mul (cx_S (cx_Ex n))] [One (cx_S (cx_Ex n))] [Add (cx_S (cx_Ex n))] [Zero (cx_S (cx_Ex n))] [Inhabited (cx_Idx (cx_Ex n))] [Inhabited (PLift (cx_Exl n))] [∀ s : cx_Sd n, Add (cx_MM s)] [∀ s : cx_Sd n, Inhabited (PLift (cx_MGl (cx_MM s)))] [∀ s : cx_Sd n, Inhabited (cx_Tord (cx_Ex n) (cx_MM s))] [Inhabited (PLift (cx_MMl n))] {l : cx_Pl_ n} {a : cx_Xp n} (h : ∀ y ∈ l, y.2 ≠ a) : cx_co l a = 0 := by
  classical
  induction l with
  | nil => rfl
  | cons y l ih => rw [cx_co_cons, if_neg (h y (by simp)), ih (fun z hz => h z (by simp [hz]))]; omega
theorem cx_Shr.at [Mul (cx_S Nat)] [One (cx_S Nat)] [Add (cx_S Nat)] [Zero (cx_S Nat)] [Inhabited (cx_Idx Nat)] [Inhabited (PLift cx_Natl)] {n : Nat} [Zero (cx_Ex n)] [Add (cx_Ex n)] [Mul (cx_S (cx_Ex n))] [One (cx_S (cx_Ex n))] [Add (cx_S (cx_Ex n))] [Zero (cx_S (cx_Ex n))] [Inhabited (cx_Idx (cx_Ex n))] [Inhabited (PLift (cx_Exl n))] [∀ s : cx_Sd n, Add (cx_MM s)] [∀ s : cx_Sd n, Inhabited (PLift (cx_MGl (cx_MM s)))] [∀ s : cx_Sd n, Inhabited (cx_Tord (cx_Ex n) (cx_MM s))] [Inhabited (PLift (cx_MMl n))] {l : cx_Pl_ n} (h : cx_Shr l) {y : Int × cx_Xp n} (hy : y ∈ l) : cx_co l y.2 = y.1 := by
  classical
  induction l with
  | nil => simp at hy
  | cons z l ih =>
    have hs := List.pairwise_cons.1 h.srt
    rw [cx_co_cons]
    rcases List.mem_cons.1 hy with rfl | hy
    · rw [if_pos rfl, cx_co_none (fun z hz e => cx_Gt.irrefl y.2 (by have := hs.1 z hz; rw [e] at this; exact this))]; omega
    · rw [if_neg (fun e : z.2 = y.2 => cx_Gt.irrefl y.2 (by have := hs.1 y hy; rw [e] at this; exact this)), ih h.tail hy]; omega
theorem cx_Shr.nonneg [Mul (cx_S Nat)] [One (cx_S Nat)] [Add (cx_S Nat)] [Zero (cx_S Nat)] [Inhabited (cx_Idx Nat)] [Inhabited (PLift cx_Natl)] {n : Nat} [Zero (cx_Ex n)] [Add (cx_Ex n)] [Mul (cx_S (cx_Ex n))] [One (cx_S (cx_Ex n))] [Add (cx_S (cx_Ex n))] [Zero (cx_S (cx_Ex n))] [Inhabited (cx_Idx (cx_Ex n))] [Inhabited (PLift (cx_Exl n))] [∀ s : cx_Sd n, Add (cx_MM s)] [∀ s : cx_Sd n, Inhabited (PLift (cx_MGl (cx_MM s)))] [∀ s : cx_Sd n, Inhabited (cx_Tord (cx_Ex n) (cx_MM s))] [Inhabited (PLift (cx_MMl n))] {l : cx_Pl_ n} (h : ∀ y ∈ l, 0 < y.1) (a : cx_Xp n) : 0 ≤ cx_co l a := by
  classical
  induction l with
  | nil => exact Int.le_refl 0
  | cons y l ih =>
    rw [cx_co_cons]
    have h1 := ih (fun z hz => h z (by simp [hz]))
    have h2 := h y (by simp)
    by_cases e : y.2 = a
    · rw [if_pos e]; omega
    · rw [if_neg e]; omega
theorem cx_co_mem [Mul (cx_S Nat)] [One (cx_S Nat)] [Add (cx_S Nat)] [Zero (cx_S Nat)] [Inhabited (cx_Idx Nat)] [Inhabited (PLift cx_Natl)] {n : Nat} [Zero (cx_Ex n)] [Add (cx_Ex n)] [Mul (cx_S (cx_Ex n))] [One (cx_S (cx_Ex n))] [Add (cx_S (cx_Ex n))] [Zero (cx_S (cx_Ex n))] [Inhabited (cx_Idx (cx_Ex n))] [Inhabited (PLift (cx_Exl n))] [∀ s : cx_Sd n, Add (cx_MM s)] [∀ s : cx_Sd n, Inhabited (PLift (cx_MGl (cx_MM s)))] [∀ s : cx_Sd n, Inhabited (cx_Tord (cx_Ex n) (cx_MM s))] [Inhabited (PLift (cx_MMl n))] {l : cx_Pl_ n} {a : cx_Xp n} (h : cx_co l a ≠ 0) : ∃ y ∈ l, y.2 = a := by
  refine Classical.byContradiction (fun hno => h (cx_co_none (fun y hy e => hno ⟨y, hy, e⟩)))
theorem cx_Shr.eq [Mul (cx_S Nat)] [One (cx_S Nat)] [Add (cx_S Nat)] [Zero (cx_S Nat)] [Inhabited (cx_Idx Nat)] [Inhabited (PLift cx_Natl)] {n : Nat} [Zero (cx_Ex n)] [Add (cx_Ex n)] [Mul (cx_S (cx_Ex n))] [One (cx_S (cx_Ex n))] [Add (cx_S (cx_Ex n))] [Zero (cx_S (cx_Ex n))] [Inhabited (cx_Idx (cx_Ex n))] [Inhabited (PLift (cx_Exl n))] [∀ s : cx_Sd n, Add (cx_MM s)] [∀ s : cx_Sd n, Inhabited (PLift (cx_MGl (cx_MM s)))] [∀ s : cx_Sd n, Inhabited (cx_Tord (cx_Ex n) (cx_MM s))] [Inhabited (PLift (cx_MMl n))] : ∀ {l l' : cx_Pl_ n}, cx_Shr l → cx_Shr l' → (∀ a, cx_co l a = cx_co l' a) → l = l'
  | [], [], _, _, _ => rfl
  | [], y :: l', _, h', e => by
    exfalso
    have := h'.at (y := y) (by simp)
    have h2 := h'.pos y (by simp)
    rw [← e] at this
    have : cx_co ([] : cx_Pl_ n) y.2 = 0 := rfl
    omega
  | y :: l, [], h, _, e => by
    exfalso
    have := h.at (y := y) (by simp)
    have h2 := h.pos y (by simp)
    rw [e] at this
    have : cx_co ([] : cx_Pl_ n) y.2 = 0 := rfl
    omega
  | y :: l, z :: l', h, h', e => by
    have hs := List.pairwise_cons.1 h.srt
    have hs' := List.pairwise_cons.1 h'.srt
    have hyz : y.2 = z.2 := by
      rcases cx_Gt.total y.2 z.2 with e1 | e1 | e1
      · exact e1
      · exfalso
        have h1 := h.at (y := y) (by simp)
        have h2 := h.pos y (by simp)
        rw [e] at h1
        obtain ⟨w, hw, ew⟩ := cx_co_mem (l := z :: l') (a := y.2) (by omega)
        rcases List.mem_cons.1 hw with rfl | hw
        · rw [ew] at e1; exact cx_Gt.irrefl _ e1
        · have := hs'.1 w hw
          rw [ew] at this
          exact e1.asymm this
      · exfalso
        have h1 := h'.at (y := z) (by simp)
        have h2 := h'.pos z (by simp)
        rw [← e] at h1
        obtain ⟨w, hw, ew⟩ := cx_co_mem (l := y :: l) (a := z.2) (by omega)
        rcases List.mem_cons.1 hw with rfl | hw
        · rw [ew] at e1; exact cx_Gt.irrefl _ e1
        · have := hs.1 w hw
          rw [ew] at this
          exact e1.asymm this
    have hy1 : y.1 = z.1 := by
      have h1 := h.at (y := y) (by simp)
      have h2 := h'.at (y := z) (by simp)
      rw [e, hyz] at h1
      omega
    have hyz' : y = z := Prod.ext hy1 hyz
    subst hyz'
    rw [cx_Shr.eq h.tail h'.tail (fun a => by
      have := e a
      rw [cx_co_cons, cx_co_cons] at this
      omega)]
noncomputable def cx_less [Mul (cx_S Nat)] [One (cx_S Nat)] [Add (cx_S Nat)] [Zero (cx_S Nat)] [Inhabited (cx_Idx Nat)] [Inhabited (PLift cx_Natl)] {n : Nat} [Zero (cx_Ex n)] [Add (cx_Ex n)] [Mul (cx_S (cx_Ex n))] [One (cx_S (cx_Ex n))] [Add (cx_S (cx_Ex n))] [Zero (cx_S (cx_Ex n))] [Inhabited (cx_Idx (cx_Ex n))] [Inhabited (PLift (cx_Exl n))] [∀ s : cx_Sd n, Add (cx_MM s)] [∀ s : cx_Sd n, Inhabited (PLift (cx_MGl (cx_MM s)))] [∀ s : cx_Sd n, Inhabited (cx_Tord (cx_Ex n) (cx_MM s))] [Inhabited (PLift (cx_MMl n))] : cx_Pl_ n → cx_Xp n → Int → cx_Pl_ n
  | [], _, _ => []
  | y :: l, a, c => @ite _ (y.2 = a) (Classical.propDecidable _) (if y.1 = c then l else (y.1 - c, a) :: l) (y :: cx_less l a c)
theorem cx_less_exp [Mul (cx_S Nat)] [One (cx_S Nat)] [Add (cx_S Nat)] [Zero (cx_S Nat)] [Inhabited (cx_Idx Nat)] [Inhabited (PLift cx_Natl)] {n : Nat} [Zero (cx_Ex n)] [Add (cx_Ex n)] [Mul (cx_S (cx_Ex n))] [One (cx_S (cx_Ex n))] [Add (cx_S (cx_Ex n))] [Zero (cx_S (cx_Ex n))] [Inhabited (cx_Idx (cx_Ex n))] [Inhabited (PLift (cx_Exl n))] [∀ s : cx_Sd n, Add (cx_MM s)] [∀ s : cx_Sd n, Inhabited (PLift (cx_MGl (cx_MM s)))] [∀ s : cx_Sd n, Inhabited (cx_Tord (cx_Ex n) (cx_MM s))] [Inhabited (PLift (cx_MMl n))] {l : cx_Pl_ n} {a : cx_Xp n} {c : Int} {y : Int × cx_Xp n} (h : y ∈ cx_less l a c) : ∃ z ∈ l, z.2 = y.2 := by
  classical
  induction l with
  | nil => simp [cx_less] at h
  | cons z l ih =>
    unfold cx_less at h
    by_cases e : z.2 = a
    · rw [if_pos e] at h
      by_cases e1 : z.1 = c
      · rw [if_pos e1] at h; exact ⟨y, by simp [h], rfl⟩
      · rw [if_neg e1] at h
        rcases List.mem_cons.1 h with rfl | h
        · exact ⟨z, by simp, e⟩
        · exact ⟨y, by simp [h], rfl⟩
    · rw [if_neg e] at h
      rcases List.mem_cons.1 h with rfl | h
      · exact ⟨y, by simp, rfl⟩
      · obtain ⟨w, hw, ew⟩ := ih h
        exact ⟨w, by simp [hw], ew⟩
theorem cx_less_shr [Mul (cx_S Nat)] [One (cx_S Nat)] [Add (cx_S Nat)] [Zero (cx_S Nat)] [Inhabited (cx_Idx Nat)] [Inhabited (PLift cx_Natl)] {n : Nat} [Zero (cx_Ex n)] [Add (cx_Ex n)] [Mul (cx_S (cx_Ex n))] [One (cx_S (cx_Ex n))] [Add (cx_S (cx_Ex n))] [Zero (cx_S (cx_Ex n))] [Inhabited (cx_Idx (cx_Ex n))] [Inhabited (PLift (cx_Exl n))] [∀ s : cx_Sd n, Add (cx_MM s)] [∀ s : cx_Sd n, Inhabited (PLift (cx_MGl (cx_MM s)))] [∀ s : cx_Sd n, Inhabited (cx_Tord (cx_Ex n) (cx_MM s))] [Inhabited (PLift (cx_MMl n))] {l : cx_Pl_ n} (h : cx_Shr l) {a : cx_Xp n} {c : Int} (hc : 0 < c) (hle : c ≤ cx_co l a) : cx_Shr (cx_less l a c) ∧ ∀ b, cx_co (cx_less l a c) b = cx_co l b - (@ite _ (b = a) (Classical.propDecidable _) c 0) := by
  classical
  induction l with
  | nil => exfalso; have : cx_co ([] : cx_Pl_ n) a = 0 := rfl; omega
  | cons y l ih =>
    have hs := List.pairwise_cons.1 h.srt
    unfold cx_less
    by_cases e : y.2 = a
    · have hy : cx_co (y :: l) a = y.1 := by rw [← e]; exact h.at (by simp)
      rw [if_pos e]
      by_cases e1 : y.1 = c
      · rw [if_pos e1]
        refine ⟨h.tail, fun b => ?_⟩
        rw [cx_co_cons]
        by_cases hb : b = a
        · rw [if_pos hb, if_pos (by rw [e, hb])]; omega
        · rw [if_neg hb, if_neg (fun e2 => hb (by rw [← e2]; exact e))]; omega
      · rw [if_neg e1]
        refine ⟨⟨List.pairwise_cons.2 ⟨fun z hz => by rw [← e]; exact hs.1 z hz, hs.2⟩, fun z hz => ?_⟩, fun b => ?_⟩
        · rcases List.mem_cons.1 hz with rfl | hz
          · show 0 < y.1 - c; omega
          · exact h.pos z (by simp [hz])
        · rw [cx_co_cons, cx_co_cons]
          by_cases hb : b = a
          · rw [if_pos hb.symm, if_pos hb, if_pos (by rw [e, hb])]; omega
          · rw [if_neg (fun e2 => hb e2.symm), if_neg hb, if_neg (fun e2 => hb (by rw [← e2]; exact e))]; omega
    · rw [if_neg e]
      have hle' : c ≤ cx_co l a := by rw [cx_co_cons, if_neg e] at hle; omega
      obtain ⟨h1, h2⟩ := ih h.tail hle'
      refine ⟨⟨List.pairwise_cons.2 ⟨fun z hz => ?_, h1.srt⟩, fun z hz => ?_⟩, fun b => ?_⟩
      · obtain ⟨w, hw, ew⟩ := cx_less_exp hz
        rw [← ew]; exact hs.1 w hw
      · rcases List.mem_cons.1 hz with rfl | hz
        · exact h.pos z (by simp)
        · exact h1.pos z hz
      · rw [cx_co_cons, cx_co_cons, h2 b]; omega
noncomputable def cx_lessAll [Mul (cx_S Nat)] [One (cx_S Nat)] [Add (cx_S Nat)] [Zero (cx_S Nat)] [Inhabited (cx_Idx Nat)] [Inhabited (PLift cx_Natl)] {n : Nat} [Zero (cx_Ex n)] [Add (cx_Ex n)] [Mul (cx_S (cx_Ex n))] [One (cx_S (cx_Ex n))] [Add (cx_S (cx_Ex n))] [Zero (cx_S (cx_Ex n))] [Inhabited (cx_Idx (cx_Ex n))] [Inhabited (PLift (cx_Exl n))] [∀ s : cx_Sd n, Add (cx_MM s)] [∀ s : cx_Sd n, Inhabited (PLift (cx_MGl (cx_MM s)))] [∀ s : cx_Sd n, Inhabited (cx_Tord (cx_Ex n) (cx_MM s))] [Inhabited (PLift (cx_MMl n))] (A : cx_Pl_ n) (r : Int × cx_Xp n) : cx_Pl_ n → cx_Pl_ n
  | [] => A
  | y :: B => cx_lessAll (cx_less A (fun i => r.2 i + y.2 i) (r.1 * y.1)) r B
theorem cx_lessAll_shr [Mul (cx_S Nat)] [One (cx_S Nat)] [Add (cx_S Nat)] [Zero (cx_S Nat)] [Inhabited (cx_Idx Nat)] [Inhabited (PLift cx_Natl)] {n : Nat} [Zero (cx_Ex n)] [Add (cx_Ex n)] [Mul (cx_S (cx_Ex n))] [One (cx_S (cx_Ex n))] [Add (cx_S (cx_Ex n))] [Zero (cx_S (cx_Ex n))] [Inhabited (cx_Idx (cx_Ex n))] [Inhabited (PLift (cx_Exl n))] [∀ s : cx_Sd n, Add (cx_MM s)] [∀ s : cx_Sd n, Inhabited (PLift (cx_MGl (cx_MM s)))] [∀ s : cx_Sd n, Inhabited (cx_Tord (cx_Ex n) (cx_MM s))] [Inhabited (PLift (cx_MMl n))] {r : Int × cx_Xp n} (hr : 0 < r.1) {C : cx_Pl_ n} (hC : ∀ y ∈ C, 0 < y.1) : ∀ {B A : cx_Pl_ n}, (∀ y ∈ B, 0 < y.1) → cx_Shr A → (∀ a, cx_co A a = cx_co C a + cx_co (cx_shz r B) a) →
    cx_Shr (cx_lessAll A r B) ∧ ∀ a, cx_co (cx_lessAll A r B) a = cx_co C a
  | [], A, _, hA, he => ⟨hA, fun a => by show cx_co A a = _; rw [he a]; show cx_co C a + 0 = _; omega⟩
  | y :: B, A, hB, hA, he => by
    classical
    have hy := hB y (by simp)
    have hpos : 0 < r.1 * y.1 := Int.mul_pos hr hy
    have e1 : ∀ a, cx_co (cx_shz r (y :: B)) a = (if (fun i => r.2 i + y.2 i) = a then r.1 * y.1 else 0) + cx_co (cx_shz r B) a := fun a => rfl
    have hsB : ∀ z ∈ cx_shz r B, 0 < z.1 := fun z hz => by
      obtain ⟨w, hw, rfl⟩ := List.mem_map.1 hz
      exact Int.mul_pos hr (hB w (by simp [hw]))
    have h1 := cx_less_shr hA (a := fun i => r.2 i + y.2 i) hpos (by
      rw [he, e1, if_pos rfl]
      have := cx_Shr.nonneg hC (fun i => r.2 i + y.2 i)
      have := cx_Shr.nonneg hsB (fun i => r.2 i + y.2 i)
      omega)
    show cx_Shr (cx_lessAll (cx_less A (fun i => r.2 i + y.2 i) (r.1 * y.1)) r B) ∧ ∀ a, cx_co (cx_lessAll (cx_less A (fun i => r.2 i + y.2 i) (r.1 * y.1)) r B) a = cx_co C a
    refine cx_lessAll_shr hr hC (B := B) (fun z hz => hB z (by simp [hz])) h1.1 (fun a => ?_)
    rw [h1.2, he, e1]
    by_cases ha : a = fun i => r.2 i + y.2 i
    · rw [if_pos ha.symm, if_pos ha]; omega
    · rw [if_neg (fun e => ha e.symm), if_neg ha]; omega
theorem cx_last_mul [Mul (cx_S Nat)] [One (cx_S Nat)] [Add (cx_S Nat)] [Zero (cx_S Nat)] [Inhabited (cx_Idx Nat)] [Inhabited (PLift cx_Natl)] {n : Nat} [Zero (cx_Ex n)] [Add (cx_Ex n)] [Mul (cx_S (cx_Ex n))] [One (cx_S (cx_Ex n))] [Add (cx_S (cx_Ex n))] [Zero (cx_S (cx_Ex n))] [Inhabited (cx_Idx (cx_Ex n))] [Inhabited (PLift (cx_Exl n))] [∀ s : cx_Sd n, Add (cx_MM s)] [∀ s : cx_Sd n, Inhabited (PLift (cx_MGl (cx_MM s)))] [∀ s : cx_Sd n, Inhabited (cx_Tord (cx_Ex n) (cx_MM s))] [Inhabited (PLift (cx_MMl n))] {R B : cx_Pl_ n} {r b : Int × cx_Xp n} (hR : cx_Shr (R ++ [r])) (hB : cx_Shr (B ++ [b])) :
    cx_co (cx_pmz (R ++ [r]) (B ++ [b])) (fun i => r.2 i + b.2 i) = r.1 * b.1 ∧ ∀ a, cx_co (cx_pmz (R ++ [r]) (B ++ [b])) a ≠ 0 → a = (fun i => r.2 i + b.2 i) ∨ cx_Gt a (fun i => r.2 i + b.2 i) := by
  have hlR : ∀ y ∈ R, cx_Gt y.2 r.2 := fun y hy => (List.pairwise_append.1 hR.srt).2.2 y hy r (by simp)
  have hlB : ∀ y ∈ B, cx_Gt y.2 b.2 := fun y hy => (List.pairwise_append.1 hB.srt).2.2 y hy b (by simp)
  have hBge : ∀ y ∈ B ++ [b], y.2 = b.2 ∨ cx_Gt y.2 b.2 := fun y hy => by
    rcases List.mem_append.1 hy with h | h
    · exact .inr (hlB y h)
    · have : y = b := by simpa using h
      subst this; exact .inl rfl
  constructor
  · rw [cx_co_pmz, List.map_append, List.sum_append]
    have z : (R.map fun y => y.1 * cx_co (B ++ [b]) (fun i => (r.2 i + b.2 i) - y.2 i)).sum = 0 := by
      have key : ∀ y ∈ R, y.1 * cx_co (B ++ [b]) (fun i => (r.2 i + b.2 i) - y.2 i) = 0 := by
        intro y hy
        rw [cx_co_none (fun z hz e => ?_), Int.mul_zero]
        have hg := hlR y hy

        have h1 : cx_Gt b.2 z.2 := by
          have h2 := hg.add (fun i => b.2 i - y.2 i)
          have e1 : (fun i => y.2 i + (b.2 i - y.2 i)) = b.2 := funext fun i => by omega
          have e2 : (fun i => r.2 i + (b.2 i - y.2 i)) = z.2 := funext fun i => by rw [e]; show r.2 i + (b.2 i - y.2 i) = r.2 i + b.2 i - y.2 i; omega
          rw [e1, e2] at h2
          exact h2
        rcases hBge z hz with h | h
        · rw [h] at h1; exact cx_Gt.irrefl _ h1
        · exact h1.asymm h
      clear hR hlR
      induction R with
      | nil => rfl
      | cons y R ih => rw [List.map_cons, List.sum_cons, key y (by simp), ih (fun z hz => key z (by simp [hz]))]; rfl
    rw [z]
    show 0 + (r.1 * cx_co (B ++ [b]) (fun i => (r.2 i + b.2 i) - r.2 i) + 0) = _
    have e : (fun i => (r.2 i + b.2 i) - r.2 i) = b.2 := funext fun i => by omega
    rw [e, hB.at (by simp)]; omega
  · intro a ha
    rw [cx_co_pmz] at ha
    have : ∃ y ∈ R ++ [r], cx_co (B ++ [b]) (fun i => a i - y.2 i) ≠ 0 := by
      refine Classical.byContradiction (fun hno => ha ?_)
      have key : ∀ y ∈ R ++ [r], y.1 * cx_co (B ++ [b]) (fun i => a i - y.2 i) = 0 := fun y hy => by
        have : cx_co (B ++ [b]) (fun i => a i - y.2 i) = 0 := Classical.byContradiction (fun h => hno ⟨y, hy, h⟩)
        rw [this, Int.mul_zero]
      generalize R ++ [r] = l at key
      induction l with
      | nil => rfl
      | cons y l ih => rw [List.map_cons, List.sum_cons, key y (by simp), ih (fun z hz => key z (by simp [hz]))]; rfl
    obtain ⟨y, hy, hne⟩ := this
    obtain ⟨z, hz, ez⟩ := cx_co_mem hne
    have ea : a = fun i => y.2 i + z.2 i := funext fun i => by
      have : z.2 i = a i - y.2 i := congrFun ez i
      omega
    have hyr : y.2 = r.2 ∨ cx_Gt y.2 r.2 := by
      rcases List.mem_append.1 hy with h | h
      · exact .inr (hlR y h)
      · have : y = r := by simpa using h
        subst this; exact .inl rfl
    have comm : ∀ u w : cx_Xp n, (fun i => u i + w i) = fun i => w i + u i := fun u w => funext fun i => by omega
    rw [ea]
    rcases hyr with h1 | h1
    · rcases hBge z hz with h2 | h2
      · left; rw [h1, h2]
      · right; rw [h1, comm r.2 z.2, comm r.2 b.2]; exact h2.add r.2
    · right
      have h3 := h1.add z.2
      rcases hBge z hz with h2 | h2
      · rw [h2] at h3 ⊢; exact h3
      · have h4 := h2.add r.2
        rw [comm z.2 r.2, comm b.2 r.2] at h4
        exact h3.trans h4
theorem cx_divide_step [Mul (cx_S Nat)] [One (cx_S Nat)] [Add (cx_S Nat)] [Zero (cx_S Nat)] [Inhabited (cx_Idx Nat)] [Inhabited (PLift cx_Natl)] {n : Nat} [Zero (cx_Ex n)] [Add (cx_Ex n)] [Mul (cx_S (cx_Ex n))] [One (cx_S (cx_Ex n))] [Add (cx_S (cx_Ex n))] [Zero (cx_S (cx_Ex n))] [Inhabited (cx_Idx (cx_Ex n))] [Inhabited (PLift (cx_Exl n))] [∀ s : cx_Sd n, Add (cx_MM s)] [∀ s : cx_Sd n, Inhabited (PLift (cx_MGl (cx_MM s)))] [∀ s : cx_Sd n, Inhabited (cx_Tord (cx_Ex n) (cx_MM s))] [Inhabited (PLift (cx_MMl n))] {R B A : cx_Pl_ n} {r b : Int × cx_Xp n} (hR : cx_Shr (R ++ [r])) (hB : cx_Shr (B ++ [b])) (hA : cx_Shr A) (he : ∀ a, cx_co A a = cx_co (cx_pmz (R ++ [r]) (B ++ [b])) a) :
    ∃ A' x, A = A' ++ [x] ∧ x.1 = r.1 * b.1 ∧ (∀ i, x.2 i = r.2 i + b.2 i) ∧ x.1 / b.1 = r.1 ∧ cx_Shr (cx_lessAll A r (B ++ [b])) ∧ ∀ a, cx_co (cx_lessAll A r (B ++ [b])) a = cx_co (cx_pmz R (B ++ [b])) a := by
  obtain ⟨h1, h2⟩ := cx_last_mul hR hB
  have hr := hR.pos r (by simp)
  have hb := hB.pos b (by simp)
  have hne : A ≠ [] := by
    intro e
    have := he (fun i => r.2 i + b.2 i)
    rw [e, h1] at this
    have h3 := Int.mul_pos hr hb
    have : cx_co ([] : cx_Pl_ n) (fun i => r.2 i + b.2 i) = 0 := rfl
    omega
  obtain ⟨A', x, rfl⟩ : ∃ A' x, A = A' ++ [x] := ⟨A.dropLast, A.getLast hne, (List.dropLast_concat_getLast hne).symm⟩
  have hx := hA.at (y := x) (by simp)
  have hxp := hA.pos x (by simp)
  have hx2 : x.2 = fun i => r.2 i + b.2 i := by
    have hn : cx_co (cx_pmz (R ++ [r]) (B ++ [b])) x.2 ≠ 0 := by rw [← he, hx]; omega
    rcases h2 x.2 hn with h | h
    · exact h
    · exfalso
      have h3 : cx_co (A' ++ [x]) (fun i => r.2 i + b.2 i) ≠ 0 := by
        rw [he, h1]
        have := Int.mul_pos hr hb
        omega
      obtain ⟨w, hw, ew⟩ := cx_co_mem h3
      have hle : w.2 = x.2 ∨ cx_Gt w.2 x.2 := by
        rcases List.mem_append.1 hw with hw | hw
        · exact .inr ((List.pairwise_append.1 hA.srt).2.2 w hw x (by simp))
        · have : w = x := by simpa using hw
          subst this; exact .inl rfl
      rw [← ew] at h
      rcases hle with e | e
      · rw [e] at h; exact cx_Gt.irrefl _ h
      · exact h.asymm e
  have hx1 : x.1 = r.1 * b.1 := by rw [← hx, he, hx2, h1]
  have hRp : ∀ y ∈ cx_pmz R (B ++ [b]), 0 < y.1 := fun y hy => by
    obtain ⟨z, hz, hy⟩ := List.mem_flatMap.1 hy
    obtain ⟨w, hw, rfl⟩ := List.mem_map.1 hy
    exact Int.mul_pos (hR.pos z (by simp [hz])) (hB.pos w hw)
  refine ⟨A', x, rfl, hx1, fun i => by rw [hx2], by rw [hx1]; exact Int.mul_ediv_cancel _ (by omega), ?_⟩
  refine cx_lessAll_shr hr hRp (fun y hy => hB.pos y hy) hA (fun a => ?_)
  rw [he]
  have : cx_pmz (R ++ [r]) (B ++ [b]) = cx_pmz R (B ++ [b]) ++ cx_shz r (B ++ [b]) := by
    unfold cx_pmz
    rw [List.flatMap_append]
    simp
  rw [this, cx_co_app]
