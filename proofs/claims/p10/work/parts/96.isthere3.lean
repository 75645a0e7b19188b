/-! The reference: isThere, its first half and the whole -/
theorem ord_put {B : pm_A} {k x : Int} (h : ordn B k) : ordn (pm_upd B 16 k x) k := fun j j0 j1 => by rw [upd_n2 (by omega)]; exact h j j0 j1
theorem it_36 {A : pm_A} {i k lk : Int} {v5 : pm_V} (i0 : 0 ≤ i) (i1 : i ≤ 149) (k0 : 0 ≤ k) (k1 : k ≤ 5) (H : ∀ B v4, it_I A B → ordn B k → Tm pmt (an_sh wM) o_X10_isThere 80 ([(2, 0), (0, i), (0, lk), (0, k), v4, v5], [], B) (it_post A)) : ∀ (n : Nat) (l : Int) (B : pm_A), (6 - l).toNat < n → 0 ≤ l → l ≤ 6 → it_I A B → ordn B k → Tm pmt (an_sh wM) o_X10_isThere 36 ([(2, 0), (0, i), (0, lk), (0, k), (0, l), v5], [], B) (it_post A) := by
  intro n
  induction n with
  | zero => intro l B h; omega
  | succ n ih =>
    intro l B hn l0 l1 hB ho
    have p6 := fM_0_7 hB.1 (by omega) km0
    have c23 := pM_23 hB.1
    have c27 := pM_27 hB.1
    have c35 := pM_35 hB.1
    refine wq_ok srt_isThere (fr := []) (cuts := [36, 80]) (J := fun pc st => (pc = 80 ∧ st = ([(2, 0), (0, i), (0, lk), (0, k), (0, l), v5], [], B)) ∨ (pc = 36 ∧ l < 6 ∧ (st = ([(2, 0), (0, i), (0, lk), (0, k), (0, l + 1), v5], [], B) ∨ st = ([(2, 0), (0, i), (0, lk), (0, k), (0, l + 1), v5], [], pm_upd B (B 0 23) k l)))) ?_ 40 36 _ ?_
    · rintro pc st (⟨rfl, rfl⟩ | ⟨rfl, hl, rfl | rfl⟩)
      · exact H B _ hB ho
      · exact ih (l + 1) B (by omega) (by omega) (by omega) hB ho
      · rw [c23]
        exact ih (l + 1) _ (by omega) (by omega) (by omega) (it_put hB (by omega) (by omega)) (ord_put ho)
    · refine ⟨oM_0 (by omega) km0 7 rfl, ?_⟩
      refine ⟨fun h => Or.inl ⟨rfl, rfl⟩, fun h => ?_⟩
      have hl : l < 6 := by omega
      refine ⟨oM_0 (by omega) km0 27 rfl, ?_⟩
      refine ⟨⟨by omega, by omega⟩, ?_⟩
      refine ⟨⟨by omega, by omega⟩, ?_⟩
      refine ⟨aM_17 (r := B 0 27) (by rw [c27]; omega) (by rw [c27]; exact km17) (by omega) (by omega), ?_⟩
      refine ⟨oM_0 (by omega) km0 35 rfl, ?_⟩
      refine ⟨aM_23 (r := B 0 35) (by rw [c35]; omega) (by rw [c35]; exact km23) k0 (by omega), ?_⟩
      refine ⟨fun _ => ?_, fun _ => ?_⟩
      · refine ⟨⟨by omega, by omega⟩, ?_⟩
        exact Or.inr ⟨rfl, hl, Or.inl rfl⟩
      · refine ⟨oM_0 (by omega) km0 23 rfl, ?_⟩
        refine ⟨tM_16 (r := B 0 23) (by rw [c23]; omega) (by rw [c23]; exact km16) k0 (by omega) rfl, ?_⟩
        refine ⟨⟨by omega, by omega⟩, ?_⟩
        exact Or.inr ⟨rfl, hl, Or.inr rfl⟩
theorem it_14 {A : pm_A} {i : Int} (i0 : 0 ≤ i) (i1 : i ≤ 149) (H : ∀ B v2 v3 v4 v5, it_I A B → Tm pmt (an_sh wM) o_X10_isThere 219 ([(2, 0), (0, i), v2, v3, v4, v5], [], B) (it_post A)) : ∀ (n : Nat) (lk k : Int) (v4 v5 : pm_V) (B : pm_A), (6 - k).toNat < n → 0 ≤ k → k ≤ 6 → (lk = 0 ∨ lk = 1) → it_I A B → (¬ lk = 0 → ordn B k) → Tm pmt (an_sh wM) o_X10_isThere 14 ([(2, 0), (0, i), (0, lk), (0, k), v4, v5], [], B) (it_post A) := by
  intro n
  induction n with
  | zero => intro lk k v4 v5 B h; omega
  | succ n ih =>
    intro lk k v4 v5 B hn k0 k1 hl hB ho
    have p7 := it_0 hB (j := 7) (by omega) (by omega)
    have p6 := fM_0_7 hB.1 (by omega) km0
    have c23 := pM_23 hB.1
    refine wq_ok srt_isThere (fr := []) (cuts := [36, 104]) (J := fun pc st => (pc = 104 ∧ (¬ lk = 0 → B 0 7 ≤ k) ∧ st = ([(2, 0), (0, i), (0, lk), (0, 0), v4, v5], [], B)) ∨ (pc = 36 ∧ k < 6 ∧ ¬ lk = 0 ∧ st = ([(2, 0), (0, i), (0, lk), (0, k), (0, 0), v5], [], pm_upd B (B 0 23) k (-1)))) ?_ 40 14 _ ?_
    · rintro pc st (⟨rfl, hq, rfl⟩ | ⟨rfl, hk, hq, rfl⟩)
      · exact it_104 i0 i1 H _ lk 0 v4 v5 B (Nat.lt_succ_self _) (by omega) (by omega) hl hB (fun q j j0 j1 => ho q j j0 (by have := hq q; omega))
      · rw [c23]
        refine it_36 i0 i1 k0 (by omega) (fun C w4 hC hC2 => ?_) _ 0 _ (Nat.lt_succ_self _) (by omega) (by omega) (it_put hB (by omega) (by omega)) (ord_put (ho hq))
        have d23 := pM_23 hC.1
        have e1 := eM_16 hC.1 (r := 16) (by omega) km16 k0 (show k < 6 by omega)
        refine wq_ok srt_isThere (fr := []) (cuts := [14]) (J := fun pc st => pc = 14 ∧ ∃ l2, (l2 = 0 ∨ l2 = 1) ∧ (¬ l2 = 0 → ¬ C (C 0 23) k = -1) ∧ st = ([(2, 0), (0, i), (0, l2), (0, k + 1), w4, v5], [], C)) ?_ 30 80 _ ?_
        · rintro pc st ⟨rfl, l2, h2, h3, rfl⟩
          rw [d23] at h3
          refine ih l2 (k + 1) w4 v5 C (by omega) (by omega) (by omega) h2 hC (fun q j j0 j1 => ?_)
          by_cases w : j = k
          · rw [w]; have := h3 q; omega
          · exact hC2 j j0 (by omega)
        · refine ⟨oM_0 (by omega) km0 23 rfl, ?_⟩
          refine ⟨aM_16 (r := C 0 23) (by rw [d23]; omega) (by rw [d23]; exact km16) k0 (by omega), ?_⟩
          refine ⟨fun q => ?_, fun q => ?_⟩
          · refine ⟨⟨by omega, by omega⟩, ?_⟩
            exact ⟨rfl, 0, Or.inl rfl, fun w => absurd rfl w, rfl⟩
          · refine ⟨⟨by omega, by omega⟩, ?_⟩
            exact ⟨rfl, 1, Or.inr rfl, fun _ => q, rfl⟩
    · refine ⟨oM_0 (by omega) km0 7 rfl, ?_⟩
      refine ⟨fun h => Or.inl ⟨rfl, fun _ => h, rfl⟩, fun h => ?_⟩
      refine ⟨fun q => Or.inl ⟨rfl, fun w => absurd q w, rfl⟩, fun q => ?_⟩
      have hk : k < 6 := by omega
      refine ⟨oM_0 (by omega) km0 23 rfl, ?_⟩
      refine ⟨tM_16 (r := B 0 23) (by rw [c23]; omega) (by rw [c23]; exact km16) k0 (by omega) rfl, ?_⟩
      exact Or.inr ⟨rfl, hk, q, rfl⟩
theorem it_2 {A : pm_A} : ∀ (n : Nat) (i : Int) (v2 v3 v4 v5 : pm_V) (B : pm_A), (150 - i).toNat < n → 0 ≤ i → i ≤ 150 → it_I A B → Tm pmt (an_sh wM) o_X10_isThere 2 ([(2, 0), (0, i), v2, v3, v4, v5], [], B) (it_post A) := by
  intro n
  induction n with
  | zero => intro i v2 v3 v4 v5 B h; omega
  | succ n ih =>
    intro i v2 v3 v4 v5 B hn i0 i1 hB
    have s0 := fM_0_24 hB.1 (by omega) km0
    refine wq_ok srt_isThere (fr := []) (cuts := [14]) (J := fun pc st => pc = 14 ∧ i < 150 ∧ st = ([(2, 0), (0, i), (0, 1), (0, 0), v4, v5], [], B)) ?_ 30 2 _ ?_
    · rintro pc st ⟨rfl, hi, rfl⟩
      refine it_14 i0 (by omega) (fun C w2 w3 w4 w5 hC => ?_) _ 1 0 v4 v5 B (Nat.lt_succ_self _) (by omega) (by omega) (Or.inr rfl) hB (fun _ j j0 j1 => by omega)
      refine wq_ok srt_isThere (fr := []) (cuts := [2]) (J := fun pc st => pc = 2 ∧ st = ([(2, 0), (0, i + 1), w2, w3, w4, w5], [], C)) ?_ 30 219 _ ?_
      · rintro pc st ⟨rfl, rfl⟩
        exact ih (i + 1) w2 w3 w4 w5 C (by omega) (by omega) (by omega) hC
      · refine ⟨⟨by omega, by omega⟩, ?_⟩
        exact ⟨rfl, rfl⟩
    · refine ⟨oM_0 (by omega) km0 24 rfl, ?_⟩
      refine ⟨fun h => ?_, fun h => ?_⟩
      · exact ⟨rfl, 0, rfl, ⟨by omega, by omega⟩, hB⟩
      · exact ⟨rfl, by omega, rfl⟩
theorem isThere_ct {A : pm_A} (hA : gH wM A) : Cl pmt (an_sh wM) 158 [(2, 0)] A (it_post A) := by
  refine Cl.of (Nat.le_of_ble_eq_true rfl) ?_
  refine wq_ok (full := o_X10_isThere) srt_isThere (fr := []) (cuts := [2]) (J := fun pc st => pc = 2 ∧ ∃ v2 v3 v4 v5, st = ([(2, 0), (0, 0), v2, v3, v4, v5], [], A)) ?_ 30 0 _ ?_
  · rintro pc st ⟨rfl, v2, v3, v4, v5, rfl⟩
    exact it_2 _ 0 v2 v3 v4 v5 A (Nat.lt_succ_self _) (by omega) (by omega) ⟨hA, fun _ _ _ _ _ => rfl⟩
  · exact ⟨rfl, _, _, _, _, rfl⟩
