/-! The reference: placeIn -/
theorem srt_placeIn : pm_srt o_X10_placeIn = true := by decide +kernel
theorem km0 : wM.2 0 = 0 := by decide
theorem km1 : wM.2 1 = 1 := by decide
def pi_post (A : pm_A) (r : pm_R) : Prop := ∃ x, r.1 = some (0, x) ∧ (0 ≤ x ∧ x ≤ 200) ∧ gH wM r.2 ∧ gFr wM [] A r.2
theorem pi_9 {A : pm_A} {p : Int} (p0 : 0 ≤ p) (p1 : p ≤ 151) : ∀ (n : Nat) (lo hi : Int) (v4 : pm_V) (B : pm_A), (hi - lo).toNat < n → 0 ≤ lo → lo ≤ 200 → hi ≤ 200 → gH wM B → gFr wM [] A B → Tm pmt (an_sh wM) o_X10_placeIn 9 ([(2, 0), (0, p), (0, lo), (0, hi), v4], [], B) (pi_post A) := by
  intro n
  induction n with
  | zero => intro lo hi v4 B h; omega
  | succ n ih =>
    intro lo hi v4 B hn l0 l1 h1 hB hF
    refine wq_ok srt_placeIn (fr := []) (cuts := [28]) (J := fun pc st => pc = 28 ∧ lo < hi ∧ ∃ x C, gH wM C ∧ gFr wM [] A C ∧ st = ([(2, 0), (0, p), (0, lo), (0, hi), (0, (lo + hi) / 2)], [(0, x)], C)) ?_ 30 9 _ ?_
    · rintro pc st ⟨rfl, hl, x, C, hC, hC2, rfl⟩
      refine wq_ok srt_placeIn (fr := []) (cuts := [9]) (J := fun pc st => pc = 9 ∧ ((st = ([(2, 0), (0, p), (0, lo), (0, (lo + hi) / 2), (0, (lo + hi) / 2)], [], C)) ∨ (st = ([(2, 0), (0, p), (0, (lo + hi) / 2 + 1), (0, hi), (0, (lo + hi) / 2)], [], C)))) ?_ 30 28 _ ?_
      · rintro pc st ⟨rfl, rfl | rfl⟩
        · exact ih lo ((lo + hi) / 2) _ C (by omega) (by omega) (by omega) (by omega) hC hC2
        · exact ih ((lo + hi) / 2 + 1) hi _ C (by omega) (by omega) (by omega) (by omega) hC hC2
      · refine ⟨fun _ => ?_, fun _ => ?_⟩
        · exact ⟨rfl, Or.inl rfl⟩
        · refine ⟨⟨by omega, by omega⟩, ?_⟩
          exact ⟨rfl, Or.inr rfl⟩
    · refine ⟨fun h => ?_, fun h => ?_⟩
      · exact ⟨rfl, lo, rfl, ⟨l0, l1⟩, hB, hF⟩
      · refine ⟨⟨by omega, by omega⟩, ?_⟩
        refine ⟨⟨by omega, by omega, by omega, by omega⟩, ?_⟩
        refine ⟨rM_0 (by omega) km0, ?_⟩
        refine Cl.gct q_X10_against_0 (A := B) (a := [(2, 0), (0, p), (0, (lo + hi) / 2)]) ⟨gv_ref (by omega) km0, ⟨rfl, p0, p1⟩, ⟨rfl, by simp only; omega, by simp only; omega⟩, trivial⟩ hB ?_
        rintro ⟨r1, C⟩ g1 g2 g3
        simp only at g1 g2 g3
        match r1, g1 with
        | some (0, x), _ => exact ⟨rfl, h, x, C, g2, gFr_tr hF g3 (fun _ hx => hx), rfl⟩
        | some (n + 1, x), ⟨⟨q, _⟩, _⟩ => exact absurd q (by intro q; cases q)
        | none, q => exact absurd q (by intro q; cases q)
theorem placeIn_ct {A : pm_A} {p : Int} (hA : gH wM A) (p0 : 0 ≤ p) (p1 : p ≤ 151) : Cl pmt (an_sh wM) 173 [(2, 0), (0, p)] A (pi_post A) := by
  have a1 := pM_1 hA
  have m0 := eM_1 hA (r := A 0 1) (by rw [a1]; omega) (by rw [a1]; exact km1) p0 (show p < 152 by omega)
  refine Cl.of (Nat.le_of_ble_eq_true rfl) ?_
  refine wq_ok (full := o_X10_placeIn) srt_placeIn (fr := []) (cuts := [9]) (J := fun pc st => pc = 9 ∧ ∃ v4, st = ([(2, 0), (0, p), (0, 0), (0, A (A 0 1) p), v4], [], A)) ?_ 30 0 _ ?_
  · rintro pc st ⟨rfl, v4, rfl⟩
    exact pi_9 p0 p1 _ 0 _ v4 A (Nat.lt_succ_self _) (by omega) (by omega) m0.2 hA (fun _ _ _ _ _ => rfl)
  · refine ⟨oM_0 (by omega) km0 1 rfl, ?_⟩
    refine ⟨aM_1 (r := A 0 1) (by rw [a1]; omega) (by rw [a1]; exact km1) p0 (by omega), ?_⟩
    exact ⟨rfl, _, rfl⟩
