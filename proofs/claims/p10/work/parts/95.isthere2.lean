/-! The reference: isThere, the rest -/
theorem it_104 {A : pm_A} {i : Int} (i0 : 0 ≤ i) (i1 : i ≤ 149) (H : ∀ B v2 v3 v4 v5, it_I A B → Tm pmt (an_sh wM) o_X10_isThere 219 ([(2, 0), (0, i), v2, v3, v4, v5], [], B) (it_post A)) : ∀ (n : Nat) (lk k : Int) (v4 v5 : pm_V) (B : pm_A), (12 - k).toNat < n → 0 ≤ k → k ≤ 12 → (lk = 0 ∨ lk = 1) → it_I A B → (¬ lk = 0 → ordn B (A 0 7)) → Tm pmt (an_sh wM) o_X10_isThere 104 ([(2, 0), (0, i), (0, lk), (0, k), v4, v5], [], B) (it_post A) := by
  intro n
  induction n with
  | zero => intro lk k v4 v5 B h; omega
  | succ n ih =>
    intro lk k v4 v5 B hn k0 k1 hl hB ho
    have p7 := it_0 hB (j := 7) (by omega) (by omega)
    have p6 := fM_0_7 hB.1 (by omega) km0
    have h6 := fM_0_8 hB.1 (by omega) km0
    have c23 := pM_23 hB.1
    have fin : Tm pmt (an_sh wM) o_X10_isThere 213 ([(2, 0), (0, i), (0, lk), (0, k), v4, v5], [], B) (it_post A) := by
      refine wq_ok srt_isThere (fr := []) (cuts := [219]) (J := fun pc st => pc = 219 ∧ st = ([(2, 0), (0, i), (0, lk), (0, k), v4, v5], [], B)) ?_ 20 213 _ ?_
      · rintro pc st ⟨rfl, rfl⟩
        exact H B _ _ _ _ hB
      · refine ⟨fun _ => ⟨rfl, rfl⟩, fun _ => ?_⟩
        exact ⟨rfl, 1, rfl, ⟨by omega, by omega⟩, hB⟩
    refine wq_ok srt_isThere (fr := []) (cuts := [144, 213]) (J := fun pc st => (pc = 213 ∧ st = ([(2, 0), (0, i), (0, lk), (0, k), v4, v5], [], B)) ∨ (pc = 144 ∧ k < 12 ∧ ∃ r : Int, (0 ≤ r ∧ r ≤ 11) ∧ st = ([(2, 0), (0, i), (0, lk), (0, k), (0, r), (0, 0)], [], B))) ?_ 40 104 _ ?_
    · rintro pc st (⟨rfl, rfl⟩ | ⟨rfl, hk, r, hr, rfl⟩)
      · exact fin
      · refine it_144 hB i0 i1 k0 (by omega) hr.1 hr.2 (fun l2 j h2 h3 => ?_) _ lk 0 (Nat.lt_succ_self _) (by omega) (by omega) hl ho
        refine wq_ok srt_isThere (fr := []) (cuts := [104]) (J := fun pc st => pc = 104 ∧ st = ([(2, 0), (0, i), (0, l2), (0, k + 1), (0, r), (0, j)], [], B)) ?_ 20 207 _ ?_
        · rintro pc st ⟨rfl, rfl⟩
          exact ih l2 (k + 1) _ _ B (by omega) (by omega) (by omega) h2 hB h3
        · refine ⟨⟨by omega, by omega⟩, ?_⟩
          exact ⟨rfl, rfl⟩
    · refine ⟨oM_0 (by omega) km0 7 rfl, ?_⟩
      refine ⟨oM_0 (by omega) km0 8 rfl, ?_⟩
      refine ⟨⟨by omega, by omega⟩, ?_⟩
      refine ⟨fun h => Or.inl ⟨rfl, rfl⟩, fun h => ?_⟩
      refine ⟨fun q => Or.inl ⟨rfl, rfl⟩, fun q => ?_⟩
      have hk : k < 12 := by omega
      refine ⟨oM_0 (by omega) km0 7 rfl, ?_⟩
      refine ⟨fun h2 => ?_, fun h2 => ?_⟩
      · exact Or.inr ⟨rfl, hk, k, ⟨k0, by omega⟩, rfl⟩
      · have hk2 : k < B 0 7 := h2
        have oj := ho q k k0 (by omega)
        have oj2 := eM_16 hB.1 (r := 16) (by omega) km16 k0 (show k < 6 by omega)
        have e23 : B (B 0 23) k = B 16 k := by rw [c23]
        refine ⟨oM_0 (by omega) km0 23 rfl, ?_⟩
        refine ⟨aM_16 (r := B 0 23) (by rw [c23]; omega) (by rw [c23]; exact km16) k0 (by omega), ?_⟩
        exact Or.inr ⟨rfl, hk, B (B 0 23) k, ⟨by rw [e23]; omega, by rw [e23]; omega⟩, rfl⟩
