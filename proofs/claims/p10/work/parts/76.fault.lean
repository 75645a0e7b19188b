/-! Draft.findSizes, Draft.fault -/
theorem srt_findSizes : pm_srt o_X2_findSizes = true := by decide +kernel
theorem srt_fault : pm_srt o_X2_fault = true := by decide +kernel
theorem srt_signum : pm_srt o_J6_signum_0f7a4 = true := by decide +kernel
def sgn (x : Int) : Int := pp_bi 4 (pp_bi 7 x 31) (pp_bi 8 (-x) 31)
theorem sgn_all : (List.range 5999).all (fun k => decide (sgn ((k : Int) - 2999) = Int.sign ((k : Int) - 2999))) = true := by decide +kernel
theorem sgn_val {x : Int} (h1 : -2999 ≤ x) (h2 : x ≤ 2999) : sgn x = Int.sign x := by
  have := List.all_eq_true.mp sgn_all (x + 2999).toNat (List.mem_range.mpr (by omega))
  have h := of_decide_eq_true this
  have e : (((x + 2999).toNat : Nat) : Int) - 2999 = x := by omega
  rw [e] at h
  exact h
theorem signum_ct {A : pm_A} (sh : pm_Sh) {x : Int} (h1 : -2999 ≤ x) (h2 : x ≤ 2999) : Cl pmt sh 0 [(0, x)] A (fun r => r = (some (0, Int.sign x), A)) := by
  rw [← sgn_val h1 h2]
  refine Cl.of (Nat.le_of_ble_eq_true rfl) ?_
  refine wq_ok (full := o_J6_signum_0f7a4) srt_signum (fr := []) (cuts := []) (J := fun pc st => False) (fun _ _ h => h.elim) 20 0 _ ?_
  refine ⟨⟨by omega, by omega⟩, ?_⟩
  exact ⟨rfl, rfl⟩
theorem fs_same {A B : pm_A} {d : Int} (hA : gH wX A) (hd0 : 0 ≤ d) (hdk : wX.2 d = 3) (hF : gFr wX [10011, 10017] A B) : B d 0 = A d 0 ∧ B d 2 = A d 2 ∧ B d 3 = A d 3 ∧ B d 4 = A d 4 ∧ ∀ k, 0 ≤ k → B (A d 2) k = A (A d 2) k := by
  have t0 := fX_3_2 hA hd0 hdk
  refine ⟨hF d 0 hd0 (by omega) ?_, hF d 2 hd0 (by omega) ?_, hF d 3 hd0 (by omega) ?_, hF d 4 hd0 (by omega) ?_, fun k k0 => hF _ k t0.1 k0 ?_⟩
  · unfold mcode; rw [shX_3 hdk]; show ¬ (200 : Nat) ∈ [10011, 10017]; decide
  · unfold mcode; rw [shX_3 hdk]; show ¬ (202 : Nat) ∈ [10011, 10017]; decide
  · unfold mcode; rw [shX_3 hdk]; show ¬ (203 : Nat) ∈ [10011, 10017]; decide
  · unfold mcode; rw [shX_3 hdk]; show ¬ (204 : Nat) ∈ [10011, 10017]; decide
  · unfold mcode; rw [shX_16 t0.2]; show ¬ (10000 + wX.2 (A d 2) : Nat) ∈ [10011, 10017]; rw [t0.2]; decide
theorem fs_H {A B : pm_A} {d : Int} (hh : sg_H A d) (hB : gH wX B) (hF : gFr wX [10011, 10017] A B) : sg_H B d := by
  obtain ⟨hA, ⟨hd0, hdk⟩, hsy⟩ := hh
  obtain ⟨e0, e2, e3, e4, et⟩ := fs_same hA hd0 hdk hF
  refine ⟨hB, ⟨hd0, hdk⟩, fun i j i0 i1 j0 j1 => ?_⟩
  rw [e0] at i1 j1
  rw [e2, et _ (by omega), et _ (by omega)]
  exact hsy i j i0 i1 j0 j1
theorem fs_fr {A B : pm_A} {d : Int} (hA : gH wX A) (hd0 : 0 ≤ d) (hdk : wX.2 d = 3) (hF : sg_fr A B d) : gFr wX [10011, 10017] A B := by
  have s0 := fX_3_3 hA hd0 hdk
  have g0 := fX_3_4 hA hd0 hdk
  exact fun r j r0 j0 hm => hF r j (fun q => hm (by rw [q]; exact mX_11 s0.2 rfl)) (fun q => hm (by rw [q]; exact mX_17 g0.2 rfl))
def fs_post (A : pm_A) (N : Int) (r : pm_R) : Prop := ∃ x, r.1 = some (0, x) ∧ 0 ≤ x ∧ x ≤ N ∧ gH wX r.2 ∧ gFr wX [10011, 10017] A r.2
def fs_L (d i j : Int) (v3 v4 v5 v6 : pm_V) : List pm_V := [(2, d), (0, i), (0, j), v3, v4, v5, v6]
theorem fs_52 {A B : pm_A} {d i : Int} (hB : gH wX B) (hF : gFr wX [10011, 10017] A B) (hd0 : 0 ≤ d) (hdk : wX.2 d = 3) (hi0 : 0 ≤ i) (hi1 : i ≤ 5) (H : ∀ j v3 v4 v5 v6, Tm pmt (an_sh wX) o_X2_findSizes 114 ([(2, d), (0, i), (0, j), v3, v4, v5, v6], [], B) (fs_post A 1)) : ∀ (n : Nat) (j : Int) (v3 v4 v5 v6 : pm_V), (i - j).toNat < n → 0 ≤ j → j ≤ i → Tm pmt (an_sh wX) o_X2_findSizes 52 ([(2, d), (0, i), (0, j), v3, v4, v5, v6], [], B) (fs_post A 1) := by
  have s0 := fX_3_3 hB hd0 hdk
  have t0 := fX_3_2 hB hd0 hdk
  intro n
  induction n with
  | zero => intro j v3 v4 v5 v6 h; omega
  | succ n ih =>
    intro j v3 v4 v5 v6 hn hj0 hj1
    refine wq_ok srt_findSizes (fr := [75, 95, 101]) (cuts := [52, 114]) (J := fun pc st => (pc = 52 ∧ j < i ∧ ∃ v3 v4 v5 v6, st = ([(2, d), (0, i), (0, j + 1), v3, v4, v5, v6], [], B)) ∨ (pc = 114 ∧ st = ([(2, d), (0, i), (0, j), v3, v4, v5, v6], [], B))) ?_ 60 52 _ ?_
    · rintro pc st (⟨rfl, hj, w3, w4, w5, w6, rfl⟩ | ⟨rfl, rfl⟩)
      · exact ih (j + 1) w3 w4 w5 w6 (by omega) (by omega) (by omega)
      · exact H j v3 v4 v5 v6
    · refine ⟨fun h => Or.inr ⟨rfl, rfl⟩, fun h => ?_⟩
      refine ⟨oX_3 hd0 hdk 3 rfl, ?_⟩
      refine ⟨aX_11 s0.1 s0.2 (by omega) (by omega), ?_⟩
      refine ⟨oX_3 hd0 hdk 2 rfl, ?_⟩
      refine ⟨⟨by omega, by omega⟩, ?_⟩
      refine ⟨⟨by omega, by omega⟩, ?_⟩
      refine ⟨aX_16 t0.1 t0.2 (by omega) (by omega), ?_⟩
      refine ⟨oX_3 hd0 hdk 3 rfl, ?_⟩
      refine ⟨aX_11 s0.1 s0.2 (by omega) (by omega), ?_⟩
      refine ⟨oX_3 hd0 hdk 2 rfl, ?_⟩
      refine ⟨⟨by omega, by omega⟩, ?_⟩
      refine ⟨⟨by omega, by omega⟩, ?_⟩
      refine ⟨aX_16 t0.1 t0.2 (by omega) (by omega), ?_⟩
      refine ⟨fun _ => ?_, fun _ => ?_, fun _ => ?_⟩
      · refine ⟨fun q => absurd q (by decide), fun _ => ?_⟩
        exact ⟨rfl, 0, rfl, by omega, by omega, hB, hF⟩
      · refine ⟨fun _ => ?_, fun q => absurd rfl q⟩
        refine ⟨⟨by omega, by omega⟩, ?_⟩
        exact Or.inl ⟨rfl, h, _, _, _, _, rfl⟩
      · refine ⟨fun q => absurd q (by decide), fun _ => ?_⟩
        exact ⟨rfl, 0, rfl, by omega, by omega, hB, hF⟩
theorem fs_42 {A B : pm_A} {d : Int} (hB : gH wX B) (hF : gFr wX [10011, 10017] A B) (hd0 : 0 ≤ d) (hdk : wX.2 d = 3) : ∀ (n : Nat) (i : Int) (v2 v3 v4 v5 v6 : pm_V), (B d 0 - i).toNat < n → 0 ≤ i → i ≤ B d 0 → Tm pmt (an_sh wX) o_X2_findSizes 42 ([(2, d), (0, i), v2, v3, v4, v5, v6], [], B) (fs_post A 1) := by
  have p6 := fX_3_0 hB hd0 hdk
  intro n
  induction n with
  | zero => intro i v2 v3 v4 v5 v6 h; omega
  | succ n ih =>
    intro i v2 v3 v4 v5 v6 hn hi0 hi1
    refine wq_ok srt_findSizes (fr := []) (cuts := [52]) (J := fun pc st => pc = 52 ∧ i < B d 0 ∧ st = ([(2, d), (0, i), (0, 0), v3, v4, v5, v6], [], B)) ?_ 60 42 _ ?_
    · rintro pc st ⟨rfl, hi, rfl⟩
      refine fs_52 hB hF hd0 hdk hi0 (by omega) (fun j w3 w4 w5 w6 => ?_) _ 0 v3 v4 v5 v6 (Nat.lt_succ_self _) (by omega) hi0
      refine wq_ok srt_findSizes (fr := []) (cuts := [42]) (J := fun pc st => pc = 42 ∧ st = ([(2, d), (0, i + 1), (0, j), w3, w4, w5, w6], [], B)) ?_ 60 114 _ ?_
      · rintro pc st ⟨rfl, rfl⟩
        exact ih (i + 1) _ w3 w4 w5 w6 (by omega) (by omega) (by omega)
      · refine ⟨⟨by omega, by omega⟩, ?_⟩
        exact ⟨rfl, rfl⟩
    · refine ⟨oX_3 hd0 hdk 0 rfl, ?_⟩
      refine ⟨fun h => ?_, fun h => ?_⟩
      · exact ⟨rfl, 1, rfl, by omega, by omega, hB, hF⟩
      · exact ⟨rfl, h, rfl⟩
theorem fs_10 {A : pm_A} {d : Int} (hh : sg_H A d) : ∀ (n : Nat) (i : Int) (B : pm_A) (v2 v3 v4 v5 v6 : pm_V), (A d 0 - i).toNat < n → 0 ≤ i → i ≤ A d 0 → gH wX B → gFr wX [10011, 10017] A B → Tm pmt (an_sh wX) o_X2_findSizes 10 ([(2, d), (0, i), v2, v3, v4, v5, v6], [], B) (fs_post A 1) := by
  intro n
  induction n with
  | zero => intro i B v2 v3 v4 v5 v6 h; omega
  | succ n ih =>
    intro i B v2 v3 v4 v5 v6 hn hi0 hi1 hB hF
    have hh0 := hh
    obtain ⟨hA, ⟨hd0, hdk⟩, hsy⟩ := hh
    have hHB := fs_H hh0 hB hF
    obtain ⟨e0, e2, e3, e4, et⟩ := fs_same hA hd0 hdk hF
    have p6 := fX_3_0 hA hd0 hdk
    have s0 := fX_3_3 hB hd0 hdk
    refine wq_ok srt_findSizes (fr := []) (cuts := [10, 42]) (J := fun pc st => (pc = 10 ∧ i < A d 0 ∧ ∃ C, gH wX C ∧ gFr wX [10011, 10017] A C ∧ st = ([(2, d), (0, i + 1), v2, v3, v4, v5, v6], [], C)) ∨ (pc = 42 ∧ st = ([(2, d), (0, 0), v2, v3, v4, v5, v6], [], B))) ?_ 60 10 _ ?_
    · rintro pc st (⟨rfl, hi, C, hC, hC2, rfl⟩ | ⟨rfl, rfl⟩)
      · exact ih (i + 1) C v2 v3 v4 v5 v6 (by omega) (by omega) (by omega) hC hC2
      · exact fs_42 hB hF hd0 hdk _ 0 v2 v3 v4 v5 v6 (Nat.lt_succ_self _) (by omega) (by rw [e0]; omega)
    · refine ⟨oX_3 hd0 hdk 0 rfl, ?_⟩
      refine ⟨fun h => Or.inr ⟨rfl, rfl⟩, fun h => ?_⟩
      have hi : i < A d 0 := by rw [← e0]; exact h
      refine ⟨oX_3 hd0 hdk 3 rfl, ?_⟩
      refine ⟨aX_11 s0.1 s0.2 (by omega) (by omega), ?_⟩
      refine ⟨fun _ => ?_, fun _ => ?_, fun _ => ?_⟩
      · refine ⟨fun _ => ?_, fun q => absurd q (by decide)⟩
        refine ⟨⟨by omega, by omega⟩, ?_⟩
        exact Or.inl ⟨rfl, hi, B, hB, hF, rfl⟩
      · refine ⟨fun q => absurd rfl q, fun _ => ?_⟩
        refine ⟨rX_3 hd0 hdk, ?_⟩
        refine (group_ct hHB hi0 h).imp ?_
        rintro ⟨r1, C⟩ ⟨q1, q2, q3⟩
        simp only at q1 q2 q3
        subst q1
        refine ⟨⟨by omega, by omega⟩, ?_⟩
        exact Or.inl ⟨rfl, hi, C, q2, gFr_tr hF (fs_fr hB hd0 hdk q3) (fun _ hx => hx), rfl⟩
      · refine ⟨fun _ => ?_, fun q => absurd q (by decide)⟩
        refine ⟨⟨by omega, by omega⟩, ?_⟩
        exact Or.inl ⟨rfl, hi, B, hB, hF, rfl⟩
theorem findSizes_ct {A : pm_A} {d : Int} (hh : sg_H A d) : Cl pmt (an_sh wX) 22 [(2, d)] A (fs_post A 1) := by
  have hh0 := hh
  obtain ⟨hA, ⟨hd0, hdk⟩, hsy⟩ := hh
  have p6 := fX_3_0 hA hd0 hdk
  have s0 := fX_3_3 hA hd0 hdk
  refine Cl.of (Nat.le_of_ble_eq_true rfl) ?_
  refine wq_ok (full := o_X2_findSizes) srt_findSizes (fr := []) (cuts := [10]) (J := fun pc st => pc = 10 ∧ ∃ B v2 v3 v4 v5 v6, gH wX B ∧ gFr wX [10011, 10017] A B ∧ st = ([(2, d), (0, 0), v2, v3, v4, v5, v6], [], B)) ?_ 30 0 _ ?_
  · rintro pc st ⟨rfl, B, v2, v3, v4, v5, v6, hB, hF, rfl⟩
    exact fs_10 hh0 _ 0 B v2 v3 v4 v5 v6 (Nat.lt_succ_self _) (by omega) p6.1 hB hF
  · refine ⟨oX_3 hd0 hdk 3 rfl, ?_⟩
    refine ⟨rfl, ?_⟩
    refine Cl.gct q_J7_fill_d0a16_0 (A := A) (a := [(2, A d 3), (1, 0)]) ⟨gv_ref s0.1 s0.2, ⟨rfl, by decide, by decide⟩, trivial⟩ hA ?_
    rintro ⟨r1, C⟩ g1 g2 g3
    simp only at g1 g2 g3
    cases r1 with
    | some v => exact absurd g1 (by intro q; cases q)
    | none =>
      exact ⟨rfl, C, _, _, _, _, _, g2, gFr_tr (fun _ _ _ _ _ => rfl) g3 (fun x hx => by
        cases hx with
        | head => exact List.Mem.head _
        | tail _ q => cases q), rfl⟩
def zs (A : pm_A) (d i j : Int) : Prop := A (A d 2) (i * 6 + j) = 0 ↔ A (A d 2) (j * 6 + i) = 0
theorem fa_44 {A : pm_A} {d i : Int} (hA : gH wX A) (hd0 : 0 ≤ d) (hdk : wX.2 d = 3) (hi0 : 0 ≤ i) (hi1 : i ≤ 5) (H : (∀ j, 0 ≤ j → j < i → zs A d i j) → ∀ j v3 v4, Tm pmt (an_sh wX) o_X2_fault 95 ([(2, d), (0, i), (0, j), v3, v4], [], A) (fs_post A 3)) : ∀ (n : Nat) (j : Int) (v3 v4 : pm_V), (i - j).toNat < n → 0 ≤ j → j ≤ i → (∀ k, 0 ≤ k → k < j → zs A d i k) → Tm pmt (an_sh wX) o_X2_fault 44 ([(2, d), (0, i), (0, j), v3, v4], [], A) (fs_post A 3) := by
  have t0 := fX_3_2 hA hd0 hdk
  intro n
  induction n with
  | zero => intro j v3 v4 h; omega
  | succ n ih =>
    intro j v3 v4 hn hj0 hj1 hz
    have b1 : j < i → _ := fun h => eX_16 hA t0.1 t0.2 (j := i * 6 + j) (by omega) (by omega)
    have b2 : j < i → _ := fun h => eX_16 hA t0.1 t0.2 (j := j * 6 + i) (by omega) (by omega)
    refine wq_ok srt_fault (fr := []) (cuts := [44, 95]) (J := fun pc st => (pc = 44 ∧ j < i ∧ zs A d i j ∧ ∃ v3 v4, st = ([(2, d), (0, i), (0, j + 1), v3, v4], [], A)) ∨ (pc = 95 ∧ i ≤ j ∧ st = ([(2, d), (0, i), (0, j), v3, v4], [], A))) ?_ 60 44 _ ?_
    · rintro pc st (⟨rfl, hj, hq, w3, w4, rfl⟩ | ⟨rfl, hj, rfl⟩)
      · refine ih (j + 1) w3 w4 (by omega) (by omega) (by omega) (fun k k0 k1 => ?_)
        by_cases e : k = j
        · rw [e]; exact hq
        · exact hz k k0 (by omega)
      · exact H (fun k k0 k1 => hz k k0 (by omega)) j v3 v4
    · refine ⟨fun h => Or.inr ⟨rfl, h, rfl⟩, fun h => ?_⟩
      have c1 := b1 h
      have c2 := b2 h
      refine ⟨oX_3 hd0 hdk 2 rfl, ?_⟩
      refine ⟨⟨by omega, by omega⟩, ?_⟩
      refine ⟨⟨by omega, by omega⟩, ?_⟩
      refine ⟨aX_16 t0.1 t0.2 (by omega) (by omega), ?_⟩
      refine ⟨oX_3 hd0 hdk 2 rfl, ?_⟩
      refine ⟨⟨by omega, by omega⟩, ?_⟩
      refine ⟨⟨by omega, by omega⟩, ?_⟩
      refine ⟨aX_16 t0.1 t0.2 (by omega) (by omega), ?_⟩
      refine ⟨rfl, ?_⟩
      refine (signum_ct (an_sh wX) c1.1 c1.2).imp ?_
      rintro r rfl
      refine ⟨rfl, ?_⟩
      refine (signum_ct (an_sh wX) c2.1 c2.2).imp ?_
      rintro r rfl
      have s2 : -1 ≤ Int.sign (A (A d 2) (j * 6 + i)) ∧ Int.sign (A (A d 2) (j * 6 + i)) ≤ 1 := by
        rcases Int.lt_trichotomy (A (A d 2) (j * 6 + i)) 0 with q | q | q
        · rw [Int.sign_eq_neg_one_of_neg q]; decide
        · rw [q]; decide
        · rw [Int.sign_eq_one_of_pos q]; decide
      refine ⟨⟨by omega, by omega⟩, ?_⟩
      refine ⟨fun q => ?_, fun _ => ?_⟩
      · refine ⟨⟨by omega, by omega⟩, ?_⟩
        refine Or.inl ⟨rfl, h, ?_, _, _, rfl⟩
        have q2 : Int.sign (A (A d 2) (i * 6 + j)) = - Int.sign (A (A d 2) (j * 6 + i)) := q
        constructor
        · intro z
          rw [z] at q2
          exact Int.sign_eq_zero_iff_zero.mp (by have : Int.sign 0 = 0 := rfl; omega)
        · intro z
          rw [z] at q2
          exact Int.sign_eq_zero_iff_zero.mp (by have : Int.sign 0 = 0 := rfl; omega)
      · exact ⟨rfl, 2, rfl, by omega, by omega, hA, fun _ _ _ _ _ => rfl⟩
theorem fa_34 {A : pm_A} {d : Int} (hA : gH wX A) (hd0 : 0 ≤ d) (hdk : wX.2 d = 3) : ∀ (n : Nat) (i : Int) (v2 v3 v4 : pm_V), (A d 0 - i).toNat < n → 0 ≤ i → i ≤ A d 0 → (∀ k j, k < i → 0 ≤ j → j < k → zs A d k j) → Tm pmt (an_sh wX) o_X2_fault 34 ([(2, d), (0, i), v2, v3, v4], [], A) (fs_post A 3) := by
  have p6 := fX_3_0 hA hd0 hdk
  intro n
  induction n with
  | zero => intro i v2 v3 v4 h; omega
  | succ n ih =>
    intro i v2 v3 v4 hn hi0 hi1 hz
    refine wq_ok srt_fault (fr := []) (cuts := [44, 102]) (J := fun pc st => (pc = 44 ∧ i < A d 0 ∧ st = ([(2, d), (0, i), (0, 0), v3, v4], [], A)) ∨ (pc = 102 ∧ A d 0 ≤ i ∧ st = ([(2, d), (0, i), v2, v3, v4], [(2, d)], A))) ?_ 60 34 _ ?_
    · rintro pc st (⟨rfl, hi, rfl⟩ | ⟨rfl, hi, rfl⟩)
      · refine fa_44 hA hd0 hdk hi0 (by omega) (fun hr j w3 w4 => ?_) _ 0 v3 v4 (Nat.lt_succ_self _) (by omega) hi0 (fun k k0 k1 => by omega)
        refine wq_ok srt_fault (fr := []) (cuts := [34]) (J := fun pc st => pc = 34 ∧ st = ([(2, d), (0, i + 1), (0, j), w3, w4], [], A)) ?_ 60 95 _ ?_
        · rintro pc st ⟨rfl, rfl⟩
          refine ih (i + 1) _ w3 w4 (by omega) (by omega) (by omega) (fun k j k1 j0 j1 => ?_)
          by_cases e : k = i
          · rw [e]; exact hr j j0 (by omega)
          · exact hz k j (by omega) j0 j1
        · refine ⟨⟨by omega, by omega⟩, ?_⟩
          exact ⟨rfl, rfl⟩
      · have hh : sg_H A d := ⟨hA, ⟨hd0, hdk⟩, fun a b a0 a1 b0 b1 q => by
          rcases Int.lt_trichotomy a b with c | c | c
          · exact fun z => q ((hz b a (by omega) a0 c).mp z)
          · rw [c] at q ⊢; exact q
          · exact fun z => q ((hz a b (by omega) b0 c).mpr z)⟩
        refine wq_ok srt_fault (fr := []) (cuts := []) (J := fun pc st => False) (fun _ _ h => h.elim) 60 102 _ ?_
        refine ⟨rX_3 hd0 hdk, ?_⟩
        refine (findSizes_ct hh).imp ?_
        rintro ⟨r1, C⟩ ⟨x, e, x0, x1, g1, g2⟩
        simp only at e g1 g2
        subst e
        refine ⟨fun q => ?_, fun q => ?_⟩
        · exact ⟨rfl, 3, rfl, by omega, by omega, g1, g2⟩
        · exact ⟨rfl, 0, rfl, by omega, by omega, g1, g2⟩
    · refine ⟨oX_3 hd0 hdk 0 rfl, ?_⟩
      refine ⟨fun h => Or.inr ⟨rfl, h, rfl⟩, fun h => Or.inl ⟨rfl, h, rfl⟩⟩
theorem fa_2 {A : pm_A} {d : Int} (hA : gH wX A) (hd0 : 0 ≤ d) (hdk : wX.2 d = 3) : ∀ (n : Nat) (i : Int) (v2 v3 v4 : pm_V), (A d 0 - i).toNat < n → 0 ≤ i → i ≤ A d 0 → Tm pmt (an_sh wX) o_X2_fault 2 ([(2, d), (0, i), v2, v3, v4], [], A) (fs_post A 3) := by
  have p6 := fX_3_0 hA hd0 hdk
  have t0 := fX_3_2 hA hd0 hdk
  intro n
  induction n with
  | zero => intro i v2 v3 v4 h; omega
  | succ n ih =>
    intro i v2 v3 v4 hn hi0 hi1
    refine wq_ok srt_fault (fr := []) (cuts := [2, 34]) (J := fun pc st => (pc = 2 ∧ i < A d 0 ∧ st = ([(2, d), (0, i + 1), v2, v3, v4], [], A)) ∨ (pc = 34 ∧ st = ([(2, d), (0, 0), v2, v3, v4], [], A))) ?_ 60 2 _ ?_
    · rintro pc st (⟨rfl, hi, rfl⟩ | ⟨rfl, rfl⟩)
      · exact ih (i + 1) v2 v3 v4 (by omega) (by omega) (by omega)
      · exact fa_34 hA hd0 hdk _ 0 v2 v3 v4 (Nat.lt_succ_self _) (by omega) p6.1 (fun k j k1 j0 j1 => by omega)
    · refine ⟨oX_3 hd0 hdk 0 rfl, ?_⟩
      refine ⟨fun h => Or.inr ⟨rfl, rfl⟩, fun h => ?_⟩
      refine ⟨oX_3 hd0 hdk 2 rfl, ?_⟩
      refine ⟨⟨by omega, by omega⟩, ?_⟩
      refine ⟨⟨by omega, by omega⟩, ?_⟩
      refine ⟨aX_16 t0.1 t0.2 (by omega) (by omega), ?_⟩
      refine ⟨fun _ => ?_, fun _ => ?_⟩
      · refine ⟨⟨by omega, by omega⟩, ?_⟩
        exact Or.inl ⟨rfl, h, rfl⟩
      · exact ⟨rfl, 1, rfl, by omega, by omega, hA, fun _ _ _ _ _ => rfl⟩
theorem fault_ct {A : pm_A} {d : Int} (hA : gH wX A) (hd0 : 0 ≤ d) (hdk : wX.2 d = 3) : Cl pmt (an_sh wX) 21 [(2, d)] A (fs_post A 3) := by
  have p6 := fX_3_0 hA hd0 hdk
  refine Cl.of (Nat.le_of_ble_eq_true rfl) ?_
  refine wq_ok (full := o_X2_fault) srt_fault (fr := []) (cuts := [2]) (J := fun pc st => pc = 2 ∧ ∃ v2 v3 v4, st = ([(2, d), (0, 0), v2, v3, v4], [], A)) ?_ 10 0 _ ?_
  · rintro pc st ⟨rfl, v2, v3, v4, rfl⟩
    exact fa_2 hA hd0 hdk _ 0 v2 v3 v4 (Nat.lt_succ_self _) (by omega) p6.1
  · exact ⟨rfl, _, _, _, rfl⟩
theorem q_X2_fault_0 : gCt wX pmt 21 Q_X2_fault_0 := by
  rintro l A ⟨hl, hA⟩
  match l, hl with
  | [x], ⟨h1, _⟩ =>
    obtain ⟨d, rfl, hd0, hdk⟩ := gRf (a := (2, 3, 0)) rfl h1
    refine Cl.imp (Q := fs_post A 3) (fault_ct hA hd0 hdk) ?_
    rintro ⟨r, B⟩ ⟨x, e, k1, k2, k3, k4⟩
    simp only at e k3 k4
    subst e
    exact ⟨⟨⟨rfl, k1, k2⟩, Nat.lt_of_sub_eq_succ rfl⟩, k3, k4⟩
