section
/-! the reference's rings, exactly: ring, fence, flip -/
def rngP (A : pm_A) (sl n : Int) (r : pm_R) : Prop := (r = (some (0, 0), A) ∧ ¬ okG sl n) ∨ (okG sl n ∧ r.1 = some (0, 1) ∧ r.2 31 sl = n ∧ (∀ f : Int, 0 ≤ f → f < 100 → r.2 32 (100 * sl + f) = 0) ∧ (∀ s : Int, s ≠ sl → r.2 31 s = A 31 s) ∧ ∀ j : Int, (j < 100 * sl ∨ 100 * sl + 100 ≤ j) → r.2 32 j = A 32 j)
theorem rge_30 {A : pm_A} {sl n : Int} (ho : okG sl n) : ∀ (m : Nat) (i : Int) (B : pm_A), (100 - i).toNat < m → 0 ≤ i → i ≤ 100 → gH wM B → B 31 sl = n → (∀ f : Int, 0 ≤ f → f < i → B 32 (100 * sl + f) = 0) → (∀ s : Int, s ≠ sl → B 31 s = A 31 s) → (∀ j : Int, (j < 100 * sl ∨ 100 * sl + 100 ≤ j) → B 32 j = A 32 j) → Tm pmt (an_sh wM) o_X10_ring 30 ([(2, 0), (0, sl), (0, n), (0, i)], [], B) (rngP A sl n) := by
  have ho2 := ho
  unfold okG at ho2
  intro m
  induction m with
  | zero => intro i B h; omega
  | succ m ih =>
    intro i B hm i0 i1 hB e31 hz hs hj
    have c49 := pM_49 hB
    refine wq_ok srt_Mring (fr := []) (cuts := [30]) (J := fun pc st => (pc = 30 ∧ (i < 100) ∧ st = ([(2, 0), (0, sl), (0, n), (0, i + 1)], [], pm_upd B (B 0 49) ((100 * sl) + i) 0))) ?_ 19 30 _ ?_
    · rintro pc st (⟨rfl, h0, rfl⟩)
      rw [c49]
      refine ih (i + 1) _ (by omega) (by omega) (by omega) (uM_32 hB kn32 (by omega) (by omega)) (by rw [upd_o (by omega)]; exact e31) (fun f f0 f1 => ?_) (fun s h => by rw [upd_o (by omega)]; exact hs s h) (fun j h => by rw [upd_o (by omega)]; exact hj j h)
      by_cases e : f = i
      · rw [e, upd_at]
      · rw [upd_o (by omega)]; exact hz f f0 (by omega)
    · refine ⟨fun h0 => ?_, fun h0 => ?_⟩
      · exact ⟨rfl, Or.inr ⟨ho, rfl, e31, fun f f0 f1 => hz f f0 (by omega), hs, hj⟩⟩
      · refine ⟨oM_0 (by omega) km0 49 rfl, ?_⟩
        refine ⟨⟨by omega, by omega⟩, ?_⟩
        refine ⟨⟨by omega, by omega⟩, ?_⟩
        refine ⟨tM_32 (r := B 0 49) (by rw [c49]; omega) (by rw [c49]; exact kn32) (by omega) (by omega) rfl, ?_⟩
        refine ⟨⟨by omega, by omega⟩, ?_⟩
        exact ⟨rfl, h0, rfl⟩
theorem mring_ex {A : pm_A} {sl n : Int} (hA : gH wM A) : Cl pmt (an_sh wM) 177 [(2, 0), (0, sl), (0, n)] A (rngP A sl n) := by
  have c48 := pM_48 hA
  refine Cl.of (Nat.le_of_ble_eq_true rfl) ?_
  refine wq_ok (full := o_X10_ring) srt_Mring (fr := []) (cuts := [5]) (J := fun pc st => (pc = 5 ∧ ∃ x : Int, ((x = 1 ∧ (sl = 0 ∨ sl = 1)) ∨ (x = 0 ∧ ¬ (sl = 0 ∨ sl = 1))) ∧ st = ([(2, 0), (0, sl), (0, n), (9, 0)], [(0, x)], A))) ?_ 7 0 _ ?_
  · rintro pc st (⟨rfl, x, hx, rfl⟩)
    refine wq_ok srt_Mring (fr := []) (cuts := [30]) (J := fun pc st => (pc = 30 ∧ (¬ x = 0) ∧ (4 ≤ n) ∧ (n ≤ 10) ∧ st = ([(2, 0), (0, sl), (0, n), (0, 0)], [], pm_upd A (A 0 48) sl n))) ?_ 19 5 _ ?_
    · rintro pc st (⟨rfl, h0, h1, h2, rfl⟩)
      have hs : sl = 0 ∨ sl = 1 := by omega
      rw [c48]
      exact rge_30 ⟨hs, by omega, by omega⟩ _ 0 _ (Nat.lt_succ_self _) (by omega) (by omega) (uM_31 hA kn31 (by omega) (by omega)) (by rw [upd_at]) (fun f f0 f1 => by omega) (fun s h => upd_o (by omega)) (fun j h => upd_o (by omega))
    · refine ⟨fun h0 => ?_, fun h0 => ?_⟩
      · exact ⟨rfl, Or.inl ⟨rfl, by unfold okG; omega⟩⟩
      · refine ⟨fun h1 => ?_, fun h1 => ?_⟩
        · exact ⟨rfl, Or.inl ⟨rfl, by unfold okG; omega⟩⟩
        · refine ⟨fun h2 => ?_, fun h2 => ?_⟩
          · refine ⟨oM_0 (by omega) km0 48 rfl, ?_⟩
            refine ⟨tM_31 (r := A 0 48) (by rw [c48]; omega) (by rw [c48]; exact kn31) (by omega) (by omega) rfl, ?_⟩
            exact ⟨rfl, h0, h1, h2, rfl⟩
          · exact ⟨rfl, Or.inl ⟨rfl, by unfold okG; omega⟩⟩
  · refine ⟨rM_0 (by omega) km0, ?_⟩
    refine (MisSlot_ex).imp ?_
    rintro ⟨r1, C⟩ ⟨q1, x, q2, hx⟩
    simp only at q1 q2
    subst q1
    subst q2
    exact ⟨rfl, x, hx, rfl⟩
def okF (n : Int) (F : Int → Int) (a b : Int) : Prop := (inC n a ∧ inC n b ∧ ¬ a = b ∧ ¬ neigh n a b) ∧ F (fcd a b) = 0 ∧ ∀ f : Int, 0 ≤ f → f < 100 → F f = 1 → ¬ crossd (min a b) (max a b) (f / 10) (f % 10)
def fncP (A : pm_A) (sl a b : Int) (r : pm_R) : Prop := (r = (some (0, -1), A) ∧ ¬ ((sl = 0 ∨ sl = 1) ∧ okF (A 31 sl) (fcs A sl) a b)) ∨ (((sl = 0 ∨ sl = 1) ∧ okF (A 31 sl) (fcs A sl) a b) ∧ r.2 = pm_upd A 32 (100 * sl + fcd a b) 1 ∧ r.1 = some (0, cntF (fcs r.2 sl) 100))
theorem fe_147 {A : pm_A} {sl a b : Int} {w2 w3 w6 : pm_V} (hA : gH wM A) (hs : sl = 0 ∨ sl = 1) (ho : okF (A 31 sl) (fcs A sl) a b) : Tm pmt (an_sh wM) o_X10_fence 147 ([(2, 0), (0, sl), w2, w3, (0, min a b), (0, max a b), w6], [], A) (fncP A sl a b) := by
  have c49 := pM_49 hA
  have b31 := eM_31 hA (r := 31) (by omega) kn31 (j := sl) (by omega) (by omega)
  have ho2 := ho.1
  unfold inC at ho2
  have e : 100 * sl + 10 * min a b + max a b = 100 * sl + fcd a b := by unfold fcd; omega
  have h166 : ∀ B, B = pm_upd A 32 (100 * sl + fcd a b) 1 → Tm pmt (an_sh wM) o_X10_fence 166 ([(2, 0), (0, sl), w2, w3, (0, min a b), (0, max a b), w6], [], B) (fncP A sl a b) := fun B hB => by
    have hg : gH wM B := by rw [hB]; exact uM_32 hA kn32 (by omega) (by omega)
    refine wq_ok srt_Mfence (fr := []) (cuts := [171]) (J := fun pc st => (pc = 171 ∧ st = ([(2, 0), (0, sl), w2, w3, (0, min a b), (0, max a b), w6], [(0, cntF (fcs B sl) 100)], B))) ?_ 7 166 _ ?_
    · rintro pc st (⟨rfl, rfl⟩)
      refine wq_ok srt_Mfence (fr := []) (cuts := []) (J := fun _ _ => False) ?_ 5 171 _ ?_
      · intro pc st h; exact h.elim
      · exact ⟨rfl, Or.inr ⟨⟨hs, ho⟩, hB, rfl⟩⟩
    · refine ⟨rM_0 (by omega) km0, ?_⟩
      refine (fences_ex hg (by omega) (by omega)).imp ?_
      rintro r rfl
      exact ⟨rfl, rfl⟩
  refine wq_ok srt_Mfence (fr := []) (cuts := [166]) (J := fun pc st => (pc = 166 ∧ st = ([(2, 0), (0, sl), w2, w3, (0, min a b), (0, max a b), w6], [], pm_upd A (A 0 49) (((100 * sl) + (10 * (min a b))) + (max a b)) 1))) ?_ 18 147 _ ?_
  · rintro pc st (⟨rfl, rfl⟩)
    rw [c49, e]
    exact h166 _ rfl
  · refine ⟨oM_0 (by omega) km0 49 rfl, ?_⟩
    refine ⟨⟨by omega, by omega⟩, ?_⟩
    refine ⟨⟨by omega, by omega⟩, ?_⟩
    refine ⟨⟨by omega, by omega⟩, ?_⟩
    refine ⟨⟨by omega, by omega⟩, ?_⟩
    refine ⟨tM_32 (r := A 0 49) (by rw [c49]; omega) (by rw [c49]; exact kn32) (by omega) (by omega) rfl, ?_⟩
    exact ⟨rfl, rfl⟩
theorem fe_97 {A : pm_A} {sl a b : Int} {w2 w3 : pm_V} (hA : gH wM A) (hs : sl = 0 ∨ sl = 1) (ho : (inC (A 31 sl) a ∧ inC (A 31 sl) b ∧ ¬ a = b ∧ ¬ neigh (A 31 sl) a b) ∧ fcs A sl (fcd a b) = 0) : ∀ (m : Nat) (i : Int), (100 - i).toNat < m → 0 ≤ i → i ≤ 100 → (∀ f : Int, 0 ≤ f → f < i → fcs A sl f = 1 → ¬ crossd (min a b) (max a b) (f / 10) (f % 10)) → Tm pmt (an_sh wM) o_X10_fence 97 ([(2, 0), (0, sl), w2, w3, (0, min a b), (0, max a b), (0, i)], [], A) (fncP A sl a b) := by
  have c49 := pM_49 hA
  intro m
  induction m with
  | zero => intro i h; omega
  | succ m ih =>
    intro i hm i0 i1 hc
    have b32 : i < 100 → 0 ≤ A 32 (100 * sl + i) ∧ A 32 (100 * sl + i) ≤ 1 := fun h => eM_32 hA (r := 32) (by omega) kn32 (by omega) (by omega)
    have go : i < 100 → (fcs A sl i = 1 → ¬ crossd (min a b) (max a b) (i / 10) (i % 10)) → Tm pmt (an_sh wM) o_X10_fence 97 ([(2, 0), (0, sl), w2, w3, (0, min a b), (0, max a b), (0, i + 1)], [], A) (fncP A sl a b) := fun hi1 hx => by
      refine ih (i + 1) (by omega) (by omega) (by omega) (fun f f0 f1 => ?_)
      by_cases e : f = i
      · rw [e]; exact hx
      · exact hc f f0 (by omega)
    refine wq_ok srt_Mfence (fr := []) (cuts := [97, 136, 147]) (J := fun pc st => (pc = 147 ∧ (100 ≤ i) ∧ st = ([(2, 0), (0, sl), w2, w3, (0, min a b), (0, max a b), (0, i)], [], A)) ∨ (pc = 97 ∧ (i < 100) ∧ ((A (A 0 49) ((100 * sl) + i)) = 0) ∧ st = ([(2, 0), (0, sl), w2, w3, (0, min a b), (0, max a b), (0, i + 1)], [], A)) ∨ (pc = 136 ∧ (i < 100) ∧ (¬ (A (A 0 49) ((100 * sl) + i)) = 0) ∧ ∃ x : Int, ((x = 1 ∧ crossd (min a b) (max a b) (i / 10) (i % 10)) ∨ (x = 0 ∧ ¬ crossd (min a b) (max a b) (i / 10) (i % 10))) ∧ st = ([(2, 0), (0, sl), w2, w3, (0, min a b), (0, max a b), (0, i)], [(0, x)], A))) ?_ 25 97 _ ?_
    · rintro pc st (⟨rfl, h0, rfl⟩ | ⟨rfl, h0, h1, rfl⟩ | ⟨rfl, h0, h1, x, hx, rfl⟩)
      · exact fe_147 hA hs ⟨ho.1, ho.2, fun f f0 f1 => hc f f0 (by omega)⟩
      · rw [c49] at h1
        exact go (by omega) (fun e => by unfold fcs at e; omega)
      · rw [c49] at h1
        have k1 : fcs A sl i = 1 := by have := b32 h0; unfold fcs; omega
        have k0 := h0
        clear h0 h1
        refine wq_ok srt_Mfence (fr := []) (cuts := [97]) (J := fun pc st => (pc = 97 ∧ (x = 0) ∧ st = ([(2, 0), (0, sl), w2, w3, (0, min a b), (0, max a b), (0, i + 1)], [], A))) ?_ 8 136 _ ?_
        · rintro pc st (⟨rfl, h0, rfl⟩)
          exact go (by omega) (fun _ => (by rcases hx with ⟨e, _⟩ | ⟨_, e⟩; omega; exact e))
        · refine ⟨fun h0 => ?_, fun h0 => ?_⟩
          · refine ⟨⟨by omega, by omega⟩, ?_⟩
            exact ⟨rfl, h0, rfl⟩
          · exact ⟨rfl, Or.inl ⟨rfl, fun q => q.2.2.2 i i0 (by omega) k1 (by rcases hx with ⟨_, e⟩ | ⟨e, _⟩; exact e; omega)⟩⟩
    · refine ⟨fun h0 => ?_, fun h0 => ?_⟩
      · exact Or.inl (⟨rfl, h0, rfl⟩)
      · refine ⟨oM_0 (by omega) km0 49 rfl, ?_⟩
        refine ⟨⟨by omega, by omega⟩, ?_⟩
        refine ⟨⟨by omega, by omega⟩, ?_⟩
        refine ⟨aM_32 (r := A 0 49) (by rw [c49]; omega) (by rw [c49]; exact kn32) (by omega) (by omega), ?_⟩
        have e1 : A (A 0 49) ((100 * sl) + i) = A 32 ((100 * sl) + i) := by rw [c49]
        refine ⟨fun h1 => ?_, fun h1 => ?_⟩
        · refine ⟨⟨by omega, by omega⟩, ?_⟩
          exact Or.inr (Or.inl (⟨rfl, h0, h1, rfl⟩))
        · refine ⟨⟨by omega, by omega, by omega, by omega⟩, ?_⟩
          refine ⟨⟨by omega, by omega, by omega, by omega⟩, ?_⟩
          refine ⟨rfl, ?_⟩
          refine (Mcross_ex (a := min a b) (b := max a b) (c := i / 10) (d := i % 10)).imp ?_
          rintro ⟨r1, C⟩ ⟨q1, x, q2, hx⟩
          simp only at q1 q2
          subst q1
          subst q2
          exact Or.inr (Or.inr (⟨rfl, h0, h1, x, hx, rfl⟩))
theorem mfence_ex {A : pm_A} {sl a b : Int} (hA : gH wM A) : Cl pmt (an_sh wM) 138 [(2, 0), (0, sl), (0, a), (0, b)] A (fncP A sl a b) := by
  have c48 := pM_48 hA
  have c49 := pM_49 hA
  refine Cl.of (Nat.le_of_ble_eq_true rfl) ?_
  refine wq_ok (full := o_X10_fence) srt_Mfence (fr := []) (cuts := [5]) (J := fun pc st => (pc = 5 ∧ ∃ x : Int, ((x = 1 ∧ (sl = 0 ∨ sl = 1)) ∨ (x = 0 ∧ ¬ (sl = 0 ∨ sl = 1))) ∧ st = ([(2, 0), (0, sl), (0, a), (0, b), (9, 0), (9, 0), (9, 0)], [(0, x)], A))) ?_ 7 0 _ ?_
  · rintro pc st (⟨rfl, x, hx, rfl⟩)
    by_cases hs : sl = 0 ∨ sl = 1
    · have b31 := eM_31 hA (r := 31) (by omega) kn31 (j := sl) (by omega) (by omega)
      refine wq_ok srt_Mfence (fr := []) (cuts := [52]) (J := fun pc st => (pc = 52 ∧ (¬ x = 0) ∧ (0 ≤ a) ∧ (a < (A (A 0 48) sl)) ∧ (0 ≤ b) ∧ (b < (A (A 0 48) sl)) ∧ (¬ a = b) ∧ ∃ z : Int, ((z = 1 ∧ neigh (A (A 0 48) sl) a b) ∨ (z = 0 ∧ ¬ neigh (A (A 0 48) sl) a b)) ∧ st = ([(2, 0), (0, sl), (0, a), (0, b), (9, 0), (9, 0), (9, 0)], [(0, z)], A))) ?_ 31 5 _ ?_
      · rintro pc st (⟨rfl, h0, h1, h2, h3, h4, h5, z, hz, rfl⟩)
        rw [c48] at h2 h4 hz
        have k1 := h1
        have k2 := h2
        have k3 := h3
        have k4 := h4
        have k5 := h5
        clear h0 h1 h2 h3 h4 h5
        refine wq_ok srt_Mfence (fr := []) (cuts := [62]) (J := fun pc st => (pc = 62 ∧ (z = 0) ∧ st = ([(2, 0), (0, sl), (0, a), (0, b), (9, 0), (9, 0), (9, 0)], [(0, min a b)], A))) ?_ 8 52 _ ?_
        · rintro pc st (⟨rfl, h0, rfl⟩)
          have hnn : ¬ neigh (A 31 sl) a b := (by rcases hz with ⟨e, _⟩ | ⟨_, e⟩; omega; exact e)
          clear h0
          refine wq_ok srt_Mfence (fr := []) (cuts := [69]) (J := fun pc st => (pc = 69 ∧ st = ([(2, 0), (0, sl), (0, a), (0, b), (0, min a b), (9, 0), (9, 0)], [(0, max a b)], A))) ?_ 8 62 _ ?_
          · rintro pc st (⟨rfl, rfl⟩)
            refine wq_ok srt_Mfence (fr := []) (cuts := [97]) (J := fun pc st => (pc = 97 ∧ ((A (A 0 49) (((100 * sl) + (10 * (min a b))) + (max a b))) = 0) ∧ st = ([(2, 0), (0, sl), (0, a), (0, b), (0, min a b), (0, max a b), (0, 0)], [], A))) ?_ 21 69 _ ?_
            · rintro pc st (⟨rfl, h0, rfl⟩)
              rw [c49] at h0
              refine fe_97 hA hs ⟨⟨⟨k1, k2⟩, ⟨k3, k4⟩, k5, hnn⟩, ?_⟩ _ 0 (Nat.lt_succ_self _) (by omega) (by omega) (fun f f0 f1 => by omega)
              show A 32 (100 * sl + fcd a b) = 0
              rw [show 100 * sl + fcd a b = 100 * sl + 10 * min a b + max a b by unfold fcd; omega]
              exact h0
            · refine ⟨oM_0 (by omega) km0 49 rfl, ?_⟩
              refine ⟨⟨by omega, by omega⟩, ?_⟩
              refine ⟨⟨by omega, by omega⟩, ?_⟩
              refine ⟨⟨by omega, by omega⟩, ?_⟩
              refine ⟨⟨by omega, by omega⟩, ?_⟩
              refine ⟨aM_32 (r := A 0 49) (by rw [c49]; omega) (by rw [c49]; exact kn32) (by omega) (by omega), ?_⟩
              have e1 : A (A 0 49) (((100 * sl) + (10 * (min a b))) + (max a b)) = A 32 (((100 * sl) + (10 * (min a b))) + (max a b)) := by rw [c49]
              refine ⟨fun h0 => ?_, fun h0 => ?_⟩
              · exact ⟨rfl, h0, rfl⟩
              · exact ⟨rfl, Or.inl ⟨rfl, fun q => by have q1 := q.2.2.1; unfold fcs at q1; rw [show 100 * sl + fcd a b = 100 * sl + 10 * min a b + max a b by unfold fcd; omega] at q1; rw [c49] at h0; exact h0 q1⟩⟩
          · refine ⟨rfl, ?_⟩
            refine (greater_ex).imp ?_
            rintro r rfl
            exact ⟨rfl, rfl⟩
        · refine ⟨fun h0 => ?_, fun h0 => ?_⟩
          · refine ⟨rfl, ?_⟩
            refine (lesser_ex).imp ?_
            rintro r rfl
            exact ⟨rfl, h0, rfl⟩
          · exact ⟨rfl, Or.inl ⟨rfl, fun q => q.2.1.2.2.2 (by rcases hz with ⟨_, e⟩ | ⟨e, _⟩; exact e; omega)⟩⟩
      · refine ⟨fun h0 => ?_, fun h0 => ?_⟩
        · exact ⟨rfl, Or.inl ⟨rfl, fun q => by have q1 := q.2.1; unfold inC at q1; (try rw [c48] at *); omega⟩⟩
        · refine ⟨fun h1 => ?_, fun h1 => ?_⟩
          · exact ⟨rfl, Or.inl ⟨rfl, fun q => by have q1 := q.2.1; unfold inC at q1; (try rw [c48] at *); omega⟩⟩
          · refine ⟨oM_0 (by omega) km0 48 rfl, ?_⟩
            refine ⟨aM_31 (r := A 0 48) (by rw [c48]; omega) (by rw [c48]; exact kn31) (by omega) (by omega), ?_⟩
            have e1 : A (A 0 48) sl = A 31 sl := by rw [c48]
            refine ⟨fun h2 => ?_, fun h2 => ?_⟩
            · exact ⟨rfl, Or.inl ⟨rfl, fun q => by have q1 := q.2.1; unfold inC at q1; (try rw [c48] at *); omega⟩⟩
            · refine ⟨fun h3 => ?_, fun h3 => ?_⟩
              · exact ⟨rfl, Or.inl ⟨rfl, fun q => by have q1 := q.2.1; unfold inC at q1; (try rw [c48] at *); omega⟩⟩
              · refine ⟨oM_0 (by omega) km0 48 rfl, ?_⟩
                refine ⟨aM_31 (r := A 0 48) (by rw [c48]; omega) (by rw [c48]; exact kn31) (by omega) (by omega), ?_⟩
                have e2 : A (A 0 48) sl = A 31 sl := by rw [c48]
                refine ⟨fun h4 => ?_, fun h4 => ?_⟩
                · exact ⟨rfl, Or.inl ⟨rfl, fun q => by have q1 := q.2.1; unfold inC at q1; (try rw [c48] at *); omega⟩⟩
                · refine ⟨fun h5 => ?_, fun h5 => ?_⟩
                  · exact ⟨rfl, Or.inl ⟨rfl, fun q => by have q1 := q.2.1; unfold inC at q1; (try rw [c48] at *); omega⟩⟩
                  · refine ⟨oM_0 (by omega) km0 48 rfl, ?_⟩
                    refine ⟨aM_31 (r := A 0 48) (by rw [c48]; omega) (by rw [c48]; exact kn31) (by omega) (by omega), ?_⟩
                    have e3 : A (A 0 48) sl = A 31 sl := by rw [c48]
                    refine ⟨rfl, ?_⟩
                    refine (MareNeighbours_ex (n := A (A 0 48) sl) (x := a) (y := b) (by rw [c48]; exact b31.1) (by rw [c48]; exact b31.2) (by omega) (by rw [c48] at h2; omega) (by omega) (by rw [c48] at h4; omega)).imp ?_
                    rintro ⟨r1, C⟩ ⟨q1, z, q2, hz⟩
                    simp only at q1 q2
                    subst q1
                    subst q2
                    exact ⟨rfl, h0, h1, h2, h3, h4, h5, z, hz, rfl⟩
    · have ex : x = 0 := by
        rcases hx with ⟨_, e⟩ | ⟨e, _⟩
        · exact absurd e hs
        · exact e
      refine wq_ok srt_Mfence (fr := []) (cuts := [8]) (J := fun pc st => (pc = 8 ∧ (¬ x = 0) ∧ st = ([(2, 0), (0, sl), (0, a), (0, b), (9, 0), (9, 0), (9, 0)], [], A))) ?_ 7 5 _ ?_
      · rintro pc st (⟨rfl, h0, rfl⟩)
        omega
      · refine ⟨fun h0 => ?_, fun h0 => ?_⟩
        · exact ⟨rfl, Or.inl ⟨rfl, fun q => hs q.1⟩⟩
        · exact ⟨rfl, h0, rfl⟩
  · refine ⟨rM_0 (by omega) km0, ?_⟩
    refine (MisSlot_ex).imp ?_
    rintro ⟨r1, C⟩ ⟨q1, x, q2, hx⟩
    simp only at q1 q2
    subst q1
    subst q2
    exact ⟨rfl, x, hx, rfl⟩
def okL (n : Int) (F : Int → Int) (a b : Int) : Prop := cntF F 100 = n - 3 ∧ inC n a ∧ inC n b ∧ ¬ a = b ∧ F (fcd a b) = 1
def flpP (A : pm_A) (sl a b : Int) (r : pm_R) : Prop := (r = (some (0, -1), A) ∧ ¬ ((sl = 0 ∨ sl = 1) ∧ okL (A 31 sl) (fcs A sl) a b)) ∨ (((sl = 0 ∨ sl = 1) ∧ okL (A 31 sl) (fcs A sl) a b) ∧ ∃ i o, oth (A 31 sl) (fcs A sl) (fcd a b) i o ∧ r.2 = pm_upd (pm_upd A 32 (100 * sl + fcd a b) 0) 32 (100 * sl + cod i o) 1 ∧ r.1 = some (0, 100 * min i o + max i o))
theorem named_eq {A : pm_A} {f : Int} (f0 : 0 ≤ f) (f1 : f ≤ 99) : Cl pmt (an_sh wM) 167 [(0, f)] A (fun r => r = (some (0, 100 * (f / 10) + f % 10), A)) := by
  refine Cl.of (Nat.le_of_ble_eq_true rfl) ?_
  refine wq_ok (full := o_X10_named) srt_Mnamed (fr := []) (cuts := []) (J := fun _ _ => False) ?_ 14 0 _ ?_
  · intro pc st h; exact h.elim
  · refine ⟨⟨by omega, by omega, by omega, by omega⟩, ?_⟩
    refine ⟨(show r32 (100 * (f / 10) : Int) from ⟨by omega, by omega⟩), ?_⟩
    refine ⟨⟨by omega, by omega, by omega, by omega⟩, ?_⟩
    refine ⟨(show r32 ((100 * (f / 10)) + (f % 10) : Int) from ⟨by omega, by omega⟩), ?_⟩
    exact ⟨rfl, rfl⟩
theorem le_51 {A : pm_A} {sl a b : Int} (h : RI A) (hs : sl = 0 ∨ sl = 1) (hcut : cntF (fcs A sl) 100 = A 31 sl - 3) (a0 : 0 ≤ a) (a1 : a < A 31 sl) (b0 : 0 ≤ b) (b1 : b < A 31 sl) (hab : ¬ a = b) : Tm pmt (an_sh wM) o_X10_flip 51 ([(2, 0), (0, sl), (0, a), (0, b), (9, 0)], [], A) (flpP A sl a b) := by
  have c49 := pM_49 h.g
  have b31 := eM_31 h.g (r := 31) (by omega) kn31 (j := sl) (by omega) (by omega)
  have hC : cutS (A 31 sl) (fcs A sl) := ⟨h.2.2 sl hs, hcut⟩
  have h67 : ∀ f, f = fcd a b → 0 ≤ f → f < 100 → Tm pmt (an_sh wM) o_X10_flip 67 ([(2, 0), (0, sl), (0, a), (0, b), (0, f)], [], A) (flpP A sl a b) := fun f hfe f0 f1 => by
    have b32 := eM_32 h.g (r := 32) (by omega) kn32 (j := 100 * sl + f) (by omega) (by omega)
    refine wq_ok srt_Mflip (fr := []) (cuts := [89]) (J := fun pc st => (pc = 89 ∧ ∃ C i o, fcs A sl f = 1 ∧ oth (A 31 sl) (fcs A sl) f i o ∧ C = pm_upd (pm_upd A 32 (100 * sl + f) 0) 32 (100 * sl + cod i o) 1 ∧ st = ([(2, 0), (0, sl), (0, a), (0, b), (0, f)], [(0, cod i o)], C))) ?_ 17 67 _ ?_
    · rintro pc st (⟨rfl, C, i, o, hf, ho, q3, rfl⟩)
      refine wq_ok srt_Mflip (fr := []) (cuts := [92]) (J := fun pc st => (pc = 92 ∧ st = ([(2, 0), (0, sl), (0, a), (0, b), (0, f)], [(0, 100 * (cod i o / 10) + cod i o % 10)], C))) ?_ 5 89 _ ?_
      · rintro pc st (⟨rfl, rfl⟩)
        refine wq_ok srt_Mflip (fr := []) (cuts := []) (J := fun _ _ => False) ?_ 6 92 _ ?_
        · intro pc st h; exact h.elim
        · exact ⟨rfl, Or.inr ⟨⟨hs, hcut, ⟨a0, a1⟩, ⟨b0, b1⟩, hab, by rw [← hfe]; exact hf⟩, i, o, by rw [← hfe]; exact ho, by rw [← hfe]; exact q3, by have hb := cod_b hC.1 f0 f1 hf ho; rw [hb.2.2.1, hb.2.2.2.1]⟩⟩
      · refine ⟨rfl, ?_⟩
        have hb := cod_b hC.1 f0 f1 hf ho
        refine (named_eq hb.1 (by omega)).imp ?_
        rintro r rfl
        exact ⟨rfl, rfl⟩
    · refine ⟨oM_0 (by omega) km0 49 rfl, ?_⟩
      refine ⟨⟨by omega, by omega⟩, ?_⟩
      refine ⟨⟨by omega, by omega⟩, ?_⟩
      refine ⟨aM_32 (r := A 0 49) (by rw [c49]; omega) (by rw [c49]; exact kn32) (by omega) (by omega), ?_⟩
      have e1 : A (A 0 49) ((100 * sl) + f) = A 32 ((100 * sl) + f) := by rw [c49]
      refine ⟨fun h0 => ?_, fun h0 => ?_⟩
      · exact ⟨rfl, Or.inl ⟨rfl, fun q => by have q1 := q.2.2.2.2.2; rw [← hfe] at q1; unfold fcs at q1; rw [c49] at h0; omega⟩⟩
      · refine ⟨rM_0 (by omega) km0, ?_⟩
        have hf : fcs A sl f = 1 := by rw [c49] at h0; unfold fcs; omega
        refine (flips_ex h.g (by omega) (by omega) hC f0 f1 hf).imp ?_
        rintro ⟨r1, C⟩ ⟨i, o, ho, q1, q2, q3⟩
        simp only at q1 q2 q3
        subst q1
        exact ⟨rfl, C, i, o, hf, ho, q3, rfl⟩
  refine wq_ok srt_Mflip (fr := []) (cuts := [58]) (J := fun pc st => (pc = 58 ∧ st = ([(2, 0), (0, sl), (0, a), (0, b), (9, 0)], [(0, min a b), (0, 10)], A))) ?_ 8 51 _ ?_
  · rintro pc st (⟨rfl, rfl⟩)
    refine wq_ok srt_Mflip (fr := []) (cuts := [64]) (J := fun pc st => (pc = 64 ∧ st = ([(2, 0), (0, sl), (0, a), (0, b), (9, 0)], [(0, max a b), (0, 10 * (min a b))], A))) ?_ 8 58 _ ?_
    · rintro pc st (⟨rfl, rfl⟩)
      refine wq_ok srt_Mflip (fr := []) (cuts := [67]) (J := fun pc st => (pc = 67 ∧ st = ([(2, 0), (0, sl), (0, a), (0, b), (0, (10 * (min a b)) + (max a b))], [], A))) ?_ 7 64 _ ?_
      · rintro pc st (⟨rfl, rfl⟩)
        exact h67 _ (by unfold fcd; rfl) (by omega) (by omega)
      · refine ⟨⟨by omega, by omega⟩, ?_⟩
        exact ⟨rfl, rfl⟩
    · refine ⟨⟨by omega, by omega⟩, ?_⟩
      refine ⟨rfl, ?_⟩
      refine (greater_ex).imp ?_
      rintro r rfl
      exact ⟨rfl, rfl⟩
  · refine ⟨rfl, ?_⟩
    refine (lesser_ex).imp ?_
    rintro r rfl
    exact ⟨rfl, rfl⟩
theorem mflip_ex {A : pm_A} {sl a b : Int} (h : RI A) : Cl pmt (an_sh wM) 143 [(2, 0), (0, sl), (0, a), (0, b)] A (flpP A sl a b) := by
  have c48 := pM_48 h.g
  have h8 : sl = 0 ∨ sl = 1 → Tm pmt (an_sh wM) o_X10_flip 8 ([(2, 0), (0, sl), (0, a), (0, b), (9, 0)], [], A) (flpP A sl a b) := fun hs => by
    have b31 := eM_31 h.g (r := 31) (by omega) kn31 (j := sl) (by omega) (by omega)
    refine wq_ok srt_Mflip (fr := []) (cuts := [13]) (J := fun pc st => (pc = 13 ∧ ∃ x : Int, ((x = 1 ∧ (cntF (fcs A sl) 100 = A 31 sl - 3)) ∨ (x = 0 ∧ ¬ (cntF (fcs A sl) 100 = A 31 sl - 3))) ∧ st = ([(2, 0), (0, sl), (0, a), (0, b), (9, 0)], [(0, x)], A))) ?_ 7 8 _ ?_
    · rintro pc st (⟨rfl, x, hx, rfl⟩)
      refine wq_ok srt_Mflip (fr := []) (cuts := [51]) (J := fun pc st => (pc = 51 ∧ (¬ x = 0) ∧ (0 ≤ a) ∧ (a < (A (A 0 48) sl)) ∧ (0 ≤ b) ∧ (b < (A (A 0 48) sl)) ∧ (¬ a = b) ∧ st = ([(2, 0), (0, sl), (0, a), (0, b), (9, 0)], [], A))) ?_ 26 13 _ ?_
      · rintro pc st (⟨rfl, h0, h1, h2, h3, h4, h5, rfl⟩)
        rw [c48] at h2 h4
        exact le_51 h hs (by rcases hx with ⟨_, e⟩ | ⟨e, _⟩; exact e; omega) h1 h2 h3 h4 h5
      · refine ⟨fun h0 => ?_, fun h0 => ?_⟩
        · exact ⟨rfl, Or.inl ⟨rfl, fun q => by have q1 := q.2; unfold okL inC at q1; (try rw [c48] at *); rcases hx with ⟨_, e⟩ | ⟨e0, e⟩ <;> omega⟩⟩
        · refine ⟨fun h1 => ?_, fun h1 => ?_⟩
          · exact ⟨rfl, Or.inl ⟨rfl, fun q => by have q1 := q.2; unfold okL inC at q1; (try rw [c48] at *); rcases hx with ⟨_, e⟩ | ⟨e0, e⟩ <;> omega⟩⟩
          · refine ⟨oM_0 (by omega) km0 48 rfl, ?_⟩
            refine ⟨aM_31 (r := A 0 48) (by rw [c48]; omega) (by rw [c48]; exact kn31) (by omega) (by omega), ?_⟩
            have e1 : A (A 0 48) sl = A 31 sl := by rw [c48]
            refine ⟨fun h2 => ?_, fun h2 => ?_⟩
            · exact ⟨rfl, Or.inl ⟨rfl, fun q => by have q1 := q.2; unfold okL inC at q1; (try rw [c48] at *); rcases hx with ⟨_, e⟩ | ⟨e0, e⟩ <;> omega⟩⟩
            · refine ⟨fun h3 => ?_, fun h3 => ?_⟩
              · exact ⟨rfl, Or.inl ⟨rfl, fun q => by have q1 := q.2; unfold okL inC at q1; (try rw [c48] at *); rcases hx with ⟨_, e⟩ | ⟨e0, e⟩ <;> omega⟩⟩
              · refine ⟨oM_0 (by omega) km0 48 rfl, ?_⟩
                refine ⟨aM_31 (r := A 0 48) (by rw [c48]; omega) (by rw [c48]; exact kn31) (by omega) (by omega), ?_⟩
                have e2 : A (A 0 48) sl = A 31 sl := by rw [c48]
                refine ⟨fun h4 => ?_, fun h4 => ?_⟩
                · exact ⟨rfl, Or.inl ⟨rfl, fun q => by have q1 := q.2; unfold okL inC at q1; (try rw [c48] at *); rcases hx with ⟨_, e⟩ | ⟨e0, e⟩ <;> omega⟩⟩
                · refine ⟨fun h5 => ?_, fun h5 => ?_⟩
                  · exact ⟨rfl, h0, h1, h2, h3, h4, h5, rfl⟩
                  · exact ⟨rfl, Or.inl ⟨rfl, fun q => by have q1 := q.2; unfold okL inC at q1; (try rw [c48] at *); rcases hx with ⟨_, e⟩ | ⟨e0, e⟩ <;> omega⟩⟩
    · refine ⟨rM_0 (by omega) km0, ?_⟩
      refine (isCutting_ex h.g (sl := sl) (by omega) (by omega)).imp ?_
      rintro ⟨r1, C⟩ ⟨q1, x, q2, hx⟩
      simp only at q1 q2
      subst q1
      subst q2
      exact ⟨rfl, x, hx, rfl⟩
  refine Cl.of (Nat.le_of_ble_eq_true rfl) ?_
  refine wq_ok (full := o_X10_flip) srt_Mflip (fr := []) (cuts := [5]) (J := fun pc st => (pc = 5 ∧ ∃ x : Int, ((x = 1 ∧ (sl = 0 ∨ sl = 1)) ∨ (x = 0 ∧ ¬ (sl = 0 ∨ sl = 1))) ∧ st = ([(2, 0), (0, sl), (0, a), (0, b), (9, 0)], [(0, x)], A))) ?_ 7 0 _ ?_
  · rintro pc st (⟨rfl, x, hx, rfl⟩)
    refine wq_ok srt_Mflip (fr := []) (cuts := [8]) (J := fun pc st => (pc = 8 ∧ (¬ x = 0) ∧ st = ([(2, 0), (0, sl), (0, a), (0, b), (9, 0)], [], A))) ?_ 7 5 _ ?_
    · rintro pc st (⟨rfl, h0, rfl⟩)
      exact h8 (by rcases hx with ⟨_, e⟩ | ⟨e, _⟩; exact e; omega)
    · refine ⟨fun h0 => ?_, fun h0 => ?_⟩
      · exact ⟨rfl, Or.inl ⟨rfl, fun q => absurd q.1 (by rcases hx with ⟨e, _⟩ | ⟨_, e⟩; omega; exact e)⟩⟩
      · exact ⟨rfl, h0, rfl⟩
  · refine ⟨rM_0 (by omega) km0, ?_⟩
    refine (MisSlot_ex).imp ?_
    rintro ⟨r1, C⟩ ⟨q1, x, q2, hx⟩
    simp only at q1 q2
    subst q1
    subst q2
    exact ⟨rfl, x, hx, rfl⟩
end

section
/-! the class's fence, flip -/
def stF (F : Int → Int) (f : Int) : Int → Int := fun x => if x = f then 1 else F x
theorem fcd_c {a b : Int} (a0 : 0 ≤ a) (a9 : a ≤ 9) (b0 : 0 ≤ b) (b9 : b ≤ 9) : fcd a b / 10 = min a b ∧ fcd a b % 10 = max a b ∧ 0 ≤ fcd a b ∧ fcd a b < 100 := by unfold fcd; omega
theorem p45 {k : Nat} (h : k ≤ 44) : 2 ^ k < 35184372088832 := Nat.lt_of_le_of_lt (Nat.pow_le_pow_right (by omega) h) (by decide)
theorem tb_2 {k j : Nat} : Nat.testBit (2 ^ k) j = decide (k = j) := by
  by_cases e : k = j
  · subst e; rw [Nat.testBit_two_pow_self, decide_eq_true rfl]
  · rw [Nat.testBit_two_pow_of_ne e, decide_eq_false e]
theorem bI_ne {a b c d : Int} (a0 : 0 ≤ a) (ab : a < b) (b9 : b ≤ 9) (c0 : 0 ≤ c) (cd : c < d) (d9 : d ≤ 9) : (bI a b).toNat = (bI c d).toNat ↔ 10 * c + d = 10 * a + b := by
  have h1 := bI_b a0 ab b9
  have h2 := bI_b c0 cd d9
  constructor
  · intro h
    have := bI_inj a0 ab b9 c0 cd d9 (by omega)
    omega
  · intro h
    have e1 : c = a := by omega
    have e2 : d = b := by omega
    rw [e1, e2]
theorem rgV_set {V : Nat} {F : Int → Int} (h : rgV V F) {a b : Int} (a0 : 0 ≤ a) (ab : a < b) (b9 : b ≤ 9) : rgV (V ||| 2 ^ (bI a b).toNat) (stF F (10 * a + b)) := by
  have hb := bI_b a0 ab b9
  refine ⟨Nat.or_lt_two_pow (n := 45) h.1 (p45 (by omega)), fun c d c0 cd d9 => ?_⟩
  rw [Nat.testBit_or, tb_2, Bool.or_eq_true, decide_eq_true_eq, bI_ne a0 ab b9 c0 cd d9, h.2 c d c0 cd d9]
  unfold stF
  by_cases e : 10 * c + d = 10 * a + b
  · rw [if_pos e]; simp [e]
  · rw [if_neg e]; simp [e]
theorem rgV_flip {V : Nat} {F : Int → Int} (h : rgV V F) {a b c d : Int} (a0 : 0 ≤ a) (ab : a < b) (b9 : b ≤ 9) (c0 : 0 ≤ c) (cd : c < d) (d9 : d ≤ 9) (hf : F (10 * a + b) = 1) (hg : F (10 * c + d) = 0) : rgV (V ^^^ (2 ^ (bI a b).toNat ^^^ 2 ^ (bI c d).toNat)) (flF F (10 * a + b) (10 * c + d)) := by
  have hb := bI_b a0 ab b9
  have hd := bI_b c0 cd d9
  have hne : 10 * c + d ≠ 10 * a + b := fun e => by rw [e] at hg; omega
  refine ⟨Nat.xor_lt_two_pow (n := 45) h.1 (Nat.xor_lt_two_pow (n := 45) (p45 (by omega)) (p45 (by omega))), fun x y x0 xy y9 => ?_⟩
  have k := h.2 x y x0 xy y9
  have k1 := bI_ne a0 ab b9 x0 xy y9
  have k2 := bI_ne c0 cd d9 x0 xy y9
  rw [Nat.testBit_xor, Nat.testBit_xor, tb_2, tb_2]
  unfold flF
  by_cases e2 : 10 * x + y = 10 * c + d
  · rw [if_pos e2, decide_eq_true (k2.mpr e2)]
    have e1 : ¬ 10 * x + y = 10 * a + b := fun e => hne (e2.symm.trans e)
    rw [decide_eq_false (fun q => e1 (k1.mp q))]
    have : Nat.testBit V (bI x y).toNat = false := by
      cases hv : Nat.testBit V (bI x y).toNat with
      | false => rfl
      | true => have := k.mp hv; rw [e2] at this; omega
    rw [this]; simp
  · rw [if_neg e2, decide_eq_false (fun q => e2 (k2.mp q))]
    by_cases e1 : 10 * x + y = 10 * a + b
    · rw [if_pos e1, decide_eq_true (k1.mpr e1)]
      have : Nat.testBit V (bI x y).toNat = true := k.mpr (by rw [e1]; exact hf)
      rw [this]; simp
    · rw [if_neg e1, decide_eq_false (fun q => e1 (k1.mp q))]
      simp only [Bool.xor_false]
      exact k
def xfP (A : pm_A) (r n : Int) (F : Int → Int) (a b : Int) (q : pm_R) : Prop := (q = (some (0, -1), A) ∧ ¬ okF n F a b) ∨ (okF n F a b ∧ (∃ V : Nat, q.2 = pm_upd A r 1 (V : Int) ∧ rgV V (stF F (fcd a b))) ∧ q.1 = some (0, cntF (stF F (fcd a b)) 100))
theorem srt_Xfence : pm_srt o_X9_fence = true := by decide +kernel
theorem okF_put {n : Int} {F : Int → Int} {a b : Int} (hS : rgS n F) (ho : okF n F a b) : rgS n (stF F (fcd a b)) := by
  have hn := hS.1
  obtain ⟨⟨h1, h2, h3, h4⟩, h5, h6⟩ := ho
  unfold inC at h1 h2
  have k := fcd_c h1.1 (by omega) h2.1 (by omega)
  refine rgS_put hS k.2.2.1 k.2.2.2 ?_ ?_ (by unfold stF; rw [if_pos rfl]) (fun f f0 f1 hf => by unfold stF; rw [if_neg hf])
  · rw [k.1, k.2.1]
    refine ⟨by omega, by omega, fun e => h4 ?_⟩
    unfold neigh at *; omega
  · rw [k.1, k.2.1]; exact h6
theorem xf_82 {A : pm_A} {r n s a b : Int} {F : Int → Int} (hA : gH wX A) (r0 : 0 ≤ r) (rk : wX.2 r = 9) (h : rgX A r n F) (hS : rgS n F) (ho : okF n F a b) : Tm pmt (an_sh wX) o_X9_fence 82 ([(2, 0), (0, s), (0, a), (0, b), (2, r)], [], A) (xfP A r n F a b) := by
  have hn := hS.1
  obtain ⟨e0, V, e1, hV⟩ := h
  have ho2 := ho.1
  unfold inC at ho2
  have hb := bI_b (a := min a b) (b := max a b) (by omega) (by omega) (by omega)
  have hv : pp_lb 4 (A r 1) (shl1 (bI (min a b) (max a b))) = ((V ||| 2 ^ (bI (min a b) (max a b)).toNat : Nat) : Int) := by
    rw [e1, shl1_nat hb.1 hb.2]
    exact nl_or (Nat.lt_trans hV.1 (by decide)) (Nat.lt_trans (p45 (by omega)) (by decide))
  have hV2 := rgV_set hV (a := min a b) (b := max a b) (by omega) (by omega) (by omega)
  have h97 : ∀ B, B = pm_upd A r 1 ((V ||| 2 ^ (bI (min a b) (max a b)).toNat : Nat) : Int) → Tm pmt (an_sh wX) o_X9_fence 97 ([(2, 0), (0, s), (0, a), (0, b), (2, r)], [], B) (xfP A r n F a b) := fun B hB => by
    have hX : rgX B r n (stF F (fcd a b)) := ⟨by rw [hB, upd_o (by omega)]; exact e0, _, by rw [hB, upd_at], hV2⟩
    refine wq_ok srt_Xfence (fr := []) (cuts := [102]) (J := fun pc st => (pc = 102 ∧ st = ([(2, 0), (0, s), (0, a), (0, b), (2, r)], [(0, cntF (stF F (fcd a b)) 100)], B))) ?_ 6 97 _ ?_
    · rintro pc st (⟨rfl, rfl⟩)
      refine wq_ok srt_Xfence (fr := []) (cuts := []) (J := fun _ _ => False) ?_ 5 102 _ ?_
      · intro pc st h; exact h.elim
      · exact ⟨rfl, Or.inr ⟨ho, ⟨_, hB, hV2⟩, rfl⟩⟩
    · refine ⟨rX_9 r0 rk, ?_⟩
      refine (xcount_ex r0 rk hX (okF_put hS ho)).imp ?_
      rintro r rfl
      exact ⟨rfl, rfl⟩
  refine wq_ok srt_Xfence (fr := []) (cuts := [93]) (J := fun pc st => (pc = 93 ∧ st = ([(2, 0), (0, s), (0, a), (0, b), (2, r)], [(1, shl1 (bI (min a b) (max a b))), (1, A r 1), (2, r)], A))) ?_ 10 82 _ ?_
  · rintro pc st (⟨rfl, rfl⟩)
    refine wq_ok srt_Xfence (fr := []) (cuts := [97]) (J := fun pc st => (pc = 97 ∧ st = ([(2, 0), (0, s), (0, a), (0, b), (2, r)], [], pm_upd A r 1 (pp_lb 4 (A r 1) (shl1 (bI (min a b) (max a b))))))) ?_ 7 93 _ ?_
    · rintro pc st (⟨rfl, rfl⟩)
      rw [hv]
      exact h97 _ rfl
    · refine ⟨oX_9 r0 rk 1 rfl, ?_⟩
      exact ⟨rfl, rfl⟩
  · refine ⟨oX_9 r0 rk 1 rfl, ?_⟩
    refine ⟨rfl, ?_⟩
    refine (xbit_ex (a := a) (b := b) (by omega) (by omega) (by omega) (by omega)).imp ?_
    rintro r rfl
    exact ⟨rfl, rfl⟩
theorem xf_17 {A : pm_A} {r n s a b : Int} {F : Int → Int} (hA : gH wX A) (r0 : 0 ≤ r) (rk : wX.2 r = 9) (h : rgX A r n F) (hS : rgS n F) : Tm pmt (an_sh wX) o_X9_fence 17 ([(2, 0), (0, s), (0, a), (0, b), (2, r)], [], A) (xfP A r n F a b) := by
  have hn := hS.1
  refine wq_ok srt_Xfence (fr := []) (cuts := [23]) (J := fun pc st => (pc = 23 ∧ ∃ z1 : Int, ((z1 = 1 ∧ inC n a) ∨ (z1 = 0 ∧ ¬ inC n a)) ∧ st = ([(2, 0), (0, s), (0, a), (0, b), (2, r)], [(0, z1)], A))) ?_ 7 17 _ ?_
  · rintro pc st (⟨rfl, z1, hz1, rfl⟩)
    refine wq_ok srt_Xfence (fr := []) (cuts := [32]) (J := fun pc st => (pc = 32 ∧ (¬ z1 = 0) ∧ ∃ z2 : Int, ((z2 = 1 ∧ inC n b) ∨ (z2 = 0 ∧ ¬ inC n b)) ∧ st = ([(2, 0), (0, s), (0, a), (0, b), (2, r)], [(0, z2)], A))) ?_ 8 23 _ ?_
    · rintro pc st (⟨rfl, h0, z2, hz2, rfl⟩)
      have k1 : inC n a := (by rcases hz1 with ⟨_, e⟩ | ⟨e, _⟩; exact e; omega)
      clear h0
      refine wq_ok srt_Xfence (fr := []) (cuts := [47]) (J := fun pc st => (pc = 47 ∧ (¬ z2 = 0) ∧ (¬ a = b) ∧ ∃ z3 : Int, ((z3 = 1 ∧ neigh n a b) ∨ (z3 = 0 ∧ ¬ neigh n a b)) ∧ st = ([(2, 0), (0, s), (0, a), (0, b), (2, r)], [(0, z3)], A))) ?_ 12 32 _ ?_
      · rintro pc st (⟨rfl, h0, h1, z3, hz3, rfl⟩)
        have k2 : inC n b := (by rcases hz2 with ⟨_, e⟩ | ⟨e, _⟩; exact e; omega)
        have k3 : ¬ a = b := by assumption
        clear h0 h1
        have k1x := k1
        have k2x := k2
        unfold inC at k1x k2x
        refine wq_ok srt_Xfence (fr := []) (cuts := [59]) (J := fun pc st => (pc = 59 ∧ (z3 = 0) ∧ ∃ z4 : Int, ((z4 = 1 ∧ hsP F a b) ∨ (z4 = 0 ∧ ¬ hsP F a b)) ∧ st = ([(2, 0), (0, s), (0, a), (0, b), (2, r)], [(0, z4)], A))) ?_ 9 47 _ ?_
        · rintro pc st (⟨rfl, h0, z4, hz4, rfl⟩)
          have k4 : ¬ neigh n a b := (by rcases hz3 with ⟨e, _⟩ | ⟨_, e⟩; omega; exact e)
          clear h0
          refine wq_ok srt_Xfence (fr := []) (cuts := [77]) (J := fun pc st => (pc = 77 ∧ (z4 = 0) ∧ ∃ z5 : Int, ((z5 = 1 ∧ crs n F (min a b) (max a b)) ∨ (z5 = 0 ∧ ¬ crs n F (min a b) (max a b))) ∧ st = ([(2, 0), (0, s), (0, a), (0, b), (2, r)], [(0, z5)], A))) ?_ 13 59 _ ?_
          · rintro pc st (⟨rfl, h0, z5, hz5, rfl⟩)
            have k5 : F (fcd a b) = 0 := by
              have kk := fcd_c (a := a) (b := b) (by omega) (by omega) (by omega) (by omega)
              refine (hS.2.1 _ kk.2.2.1 kk.2.2.2).resolve_right (fun e => absurd (show hsP F a b from ⟨k3, e⟩) (by rcases hz4 with ⟨e, _⟩ | ⟨_, e⟩; omega; exact e))
            clear h0
            refine wq_ok srt_Xfence (fr := []) (cuts := [82]) (J := fun pc st => (pc = 82 ∧ (z5 = 0) ∧ st = ([(2, 0), (0, s), (0, a), (0, b), (2, r)], [], A))) ?_ 7 77 _ ?_
            · rintro pc st (⟨rfl, h0, rfl⟩)
              refine xf_82 hA r0 rk h hS ⟨⟨k1, k2, k3, k4⟩, k5, fun f f0 f1 hf hc => ?_⟩
              exact absurd ((crs_iff hS (by omega) (by omega)).mpr ⟨f, f0, f1, hf, hc⟩) (by rcases hz5 with ⟨e, _⟩ | ⟨_, e⟩; omega; exact e)
            · refine ⟨fun h0 => ?_, fun h0 => ?_⟩
              · exact ⟨rfl, h0, rfl⟩
              · exact ⟨rfl, Or.inl ⟨rfl, fun q => by obtain ⟨f, f0, f1, hf, hc⟩ := (crs_iff hS (lo := min a b) (hi := max a b) (by omega) (by omega)).mp (by rcases hz5 with ⟨_, e⟩ | ⟨e, _⟩; exact e; omega); exact q.2.2 f f0 f1 hf hc⟩⟩
          · refine ⟨fun h0 => ?_, fun h0 => ?_⟩
            · exact ⟨rfl, Or.inl ⟨rfl, fun q => by have := (show hsP F a b from (by rcases hz4 with ⟨_, e⟩ | ⟨e, _⟩; exact e; omega)).2; have q5 := q.2.1; omega⟩⟩
            · refine ⟨rX_9 r0 rk, ?_⟩
              refine (xcrossed_ex r0 rk h hS (lo := min a b) (hi := max a b) (by omega) (by omega) (by omega)).imp ?_
              rintro ⟨r1, C⟩ ⟨q1, z5, q2, hz5⟩
              simp only at q1 q2
              subst q1
              subst q2
              exact ⟨rfl, h0, z5, hz5, rfl⟩
        · refine ⟨fun h0 => ?_, fun h0 => ?_⟩
          · refine ⟨rX_9 r0 rk, ?_⟩
            refine (xhas_ex r0 rk h (a := a) (b := b) (by omega) (by omega) (by omega) (by omega)).imp ?_
            rintro ⟨r1, C⟩ ⟨q1, z4, q2, hz4⟩
            simp only at q1 q2
            subst q1
            subst q2
            exact ⟨rfl, h0, z4, hz4, rfl⟩
          · exact ⟨rfl, Or.inl ⟨rfl, fun q => q.1.2.2.2 (by rcases hz3 with ⟨_, e⟩ | ⟨e, _⟩; exact e; omega)⟩⟩
      · refine ⟨fun h0 => ?_, fun h0 => ?_⟩
        · exact ⟨rfl, Or.inl ⟨rfl, fun q => absurd q.1.2.1 (by rcases hz2 with ⟨e, _⟩ | ⟨_, e⟩; omega; exact e)⟩⟩
        · refine ⟨fun h1 => ?_, fun h1 => ?_⟩
          · exact ⟨rfl, Or.inl ⟨rfl, fun q => q.1.2.2.1 (by omega)⟩⟩
          · refine ⟨rX_9 r0 rk, ?_⟩
            refine (xngb_ex r0 rk h hn.1 hn.2 (a := a) (b := b) k1.1 k1.2 (show inC n b from (by rcases hz2 with ⟨_, e⟩ | ⟨e, _⟩; exact e; omega)).1 (show inC n b from (by rcases hz2 with ⟨_, e⟩ | ⟨e, _⟩; exact e; omega)).2).imp ?_
            rintro ⟨r1, C⟩ ⟨q1, z3, q2, hz3⟩
            simp only at q1 q2
            subst q1
            subst q2
            exact ⟨rfl, h0, h1, z3, hz3, rfl⟩
    · refine ⟨fun h0 => ?_, fun h0 => ?_⟩
      · exact ⟨rfl, Or.inl ⟨rfl, fun q => absurd q.1.1 (by rcases hz1 with ⟨e, _⟩ | ⟨_, e⟩; omega; exact e)⟩⟩
      · refine ⟨rX_9 r0 rk, ?_⟩
        refine (xcorner_ex r0 rk h (a := b)).imp ?_
        rintro ⟨r1, C⟩ ⟨q1, z2, q2, hz2⟩
        simp only at q1 q2
        subst q1
        subst q2
        exact ⟨rfl, h0, z2, hz2, rfl⟩
  · refine ⟨rX_9 r0 rk, ?_⟩
    refine (xcorner_ex r0 rk h (a := a)).imp ?_
    rintro ⟨r1, C⟩ ⟨q1, z1, q2, hz1⟩
    simp only at q1 q2
    subst q1
    subst q2
    exact ⟨rfl, z1, hz1, rfl⟩
theorem xfence_ex {A : pm_A} {n s a b : Int} {F : Int → Int} (hA : gH wX A) (h : s = 0 ∨ s = 1 → rgX A (A (A 0 13) s) n F ∧ rgS n F) : Cl pmt (an_sh wX) 89 [(2, 0), (0, s), (0, a), (0, b)] A (fun q => (q = (some (0, -1), A) ∧ ¬ (s = 0 ∨ s = 1)) ∨ ((s = 0 ∨ s = 1) ∧ xfP A (A (A 0 13) s) n F a b q)) := by
  have p0 := fX_0_13 hA (Int.le_refl 0) kk0
  have h9 : s = 0 ∨ s = 1 → Tm pmt (an_sh wX) o_X9_fence 9 ([(2, 0), (0, s), (0, a), (0, b), (9, 0)], [], A) (fun q => (q = (some (0, -1), A) ∧ ¬ (s = 0 ∨ s = 1)) ∨ ((s = 0 ∨ s = 1) ∧ xfP A (A (A 0 13) s) n F a b q)) := fun hs => by
    have e0 := eX_34 hA p0.1 p0.2 (j := s) (by omega) (by omega)
    refine wq_ok srt_Xfence (fr := []) (cuts := [17]) (J := fun pc st => (pc = 17 ∧ st = ([(2, 0), (0, s), (0, a), (0, b), (2, A (A 0 13) s)], [], A))) ?_ 10 9 _ ?_
    · rintro pc st (⟨rfl, rfl⟩)
      exact (xf_17 hA e0.1 e0.2 (h hs).1 (h hs).2).imp (fun q hq => Or.inr ⟨hs, hq⟩)
    · refine ⟨oX_0 (Int.le_refl 0) kk0 13 rfl, ?_⟩
      refine ⟨aX_34 (fX_0_13 hA (Int.le_refl 0) kk0).1 (fX_0_13 hA (Int.le_refl 0) kk0).2 (by omega) (by omega), ?_⟩
      exact ⟨rfl, rfl⟩
  refine Cl.of (Nat.le_of_ble_eq_true rfl) ?_
  refine wq_ok (full := o_X9_fence) srt_Xfence (fr := []) (cuts := [4]) (J := fun pc st => (pc = 4 ∧ ∃ x : Int, ((x = 1 ∧ (s = 0 ∨ s = 1)) ∨ (x = 0 ∧ ¬ (s = 0 ∨ s = 1))) ∧ st = ([(2, 0), (0, s), (0, a), (0, b), (9, 0)], [(0, x)], A))) ?_ 6 0 _ ?_
  · rintro pc st (⟨rfl, x, hx, rfl⟩)
    refine wq_ok srt_Xfence (fr := []) (cuts := [9]) (J := fun pc st => (pc = 9 ∧ (¬ x = 0) ∧ st = ([(2, 0), (0, s), (0, a), (0, b), (9, 0)], [], A))) ?_ 7 4 _ ?_
    · rintro pc st (⟨rfl, h0, rfl⟩)
      exact h9 (by rcases hx with ⟨_, e⟩ | ⟨e, _⟩; exact e; omega)
    · refine ⟨fun h0 => ?_, fun h0 => ?_⟩
      · exact ⟨rfl, h0, rfl⟩
      · exact ⟨rfl, Or.inl ⟨rfl, (by rcases hx with ⟨e, _⟩ | ⟨_, e⟩; omega; exact e)⟩⟩
  · refine ⟨rfl, ?_⟩
    refine (xa_isSlot).imp ?_
    rintro ⟨r1, C⟩ ⟨q1, x, q2, hx⟩
    simp only at q1 q2
    subst q1
    subst q2
    exact ⟨rfl, x, hx, rfl⟩
def xlP (A : pm_A) (r n : Int) (F : Int → Int) (a b : Int) (q : pm_R) : Prop := (q = (some (0, -1), A) ∧ ¬ okL n F a b) ∨ (okL n F a b ∧ ∃ i o, oth n F (fcd a b) i o ∧ (∃ V : Nat, q.2 = pm_upd A r 1 (V : Int) ∧ rgV V (flF F (fcd a b) (cod i o))) ∧ q.1 = some (0, 100 * min i o + max i o))
theorem srt_Xflip : pm_srt o_X9_flip = true := by decide +kernel
theorem xl_82 {A : pm_A} {r n s a b i o : Int} {F : Int → Int} (hA : gH wX A) (r0 : 0 ≤ r) (rk : wX.2 r = 9) (h : rgX A r n F) (hS : rgS n F) (ho : okL n F a b) (hq : oth n F (fcd a b) i o) : Tm pmt (an_sh wX) o_X9_flip 82 ([(2, 0), (0, s), (0, a), (0, b), (2, r), (0, 100 * min i o + max i o)], [], A) (xlP A r n F a b) := by
  have hn := hS.1
  obtain ⟨e0, V, e1, hV⟩ := h
  have ho2 := ho.2
  unfold inC at ho2
  have kk := fcd_c (a := a) (b := b) (by omega) (by omega) (by omega) (by omega)
  have cb := cod_b hS kk.2.2.1 kk.2.2.2 ho.2.2.2.2 hq
  have hq2 := hq
  obtain ⟨q1, ⟨q2, q3, q4⟩, _⟩ := hq2
  have m1 : min i o < max i o := by omega
  have hb := bI_b (a := min a b) (b := max a b) (by omega) (by omega) (by omega)
  have hd := bI_b (a := min i o) (b := max i o) (by omega) m1 (by omega)
  have hv : pp_lb 5 (A r 1) (pp_lb 5 (shl1 (bI (min a b) (max a b))) (shl1 (bI (min i o) (max i o)))) = ((V ^^^ (2 ^ (bI (min a b) (max a b)).toNat ^^^ 2 ^ (bI (min i o) (max i o)).toNat) : Nat) : Int) := by
    rw [e1, shl1_nat hb.1 hb.2, shl1_nat hd.1 hd.2, nl_xor (Nat.lt_trans (p45 (by omega)) (by decide)) (Nat.lt_trans (p45 (by omega)) (by decide))]
    exact nl_xor (Nat.lt_trans hV.1 (by decide)) (Nat.lt_trans (Nat.xor_lt_two_pow (n := 45) (p45 (by omega)) (p45 (by omega))) (by decide))
  have hV2 : rgV (V ^^^ (2 ^ (bI (min a b) (max a b)).toNat ^^^ 2 ^ (bI (min i o) (max i o)).toNat)) (flF F (fcd a b) (cod i o)) := rgV_flip hV (a := min a b) (b := max a b) (c := min i o) (d := max i o) (by omega) (by omega) (by omega) (by omega) m1 (by omega) ho.2.2.2.2 cb.2.2.2.2.2
  have ed : (100 * min i o + max i o) / 100 = min i o := by omega
  have em : (100 * min i o + max i o) % 100 = max i o := by omega
  have mm : min (min i o) (max i o) = min i o := by omega
  have mx : max (min i o) (max i o) = max i o := by omega
  refine wq_ok srt_Xflip (fr := []) (cuts := [93]) (J := fun pc st => (pc = 93 ∧ st = ([(2, 0), (0, s), (0, a), (0, b), (2, r), (0, 100 * min i o + max i o)], [(1, shl1 (bI (min a b) (max a b))), (1, A r 1), (2, r)], A))) ?_ 10 82 _ ?_
  · rintro pc st (⟨rfl, rfl⟩)
    refine wq_ok srt_Xflip (fr := []) (cuts := [106]) (J := fun pc st => (pc = 106 ∧ st = ([(2, 0), (0, s), (0, a), (0, b), (2, r), (0, 100 * min i o + max i o)], [(1, shl1 (bI (min i o) (max i o))), (1, shl1 (bI (min a b) (max a b))), (1, A r 1), (2, r)], A))) ?_ 11 93 _ ?_
    · rintro pc st (⟨rfl, rfl⟩)
      refine wq_ok srt_Xflip (fr := []) (cuts := []) (J := fun _ _ => False) ?_ 9 106 _ ?_
      · intro pc st h; exact h.elim
      · refine ⟨oX_9 r0 rk 1 rfl, ?_⟩
        exact ⟨rfl, Or.inr ⟨ho, i, o, hq, ⟨_, by rw [hv], hV2⟩, rfl⟩⟩
    · refine ⟨⟨by omega, by omega, by omega, by omega⟩, ?_⟩
      refine ⟨⟨by omega, by omega, by omega, by omega⟩, ?_⟩
      refine ⟨rfl, ?_⟩
      rw [ed, em]
      have xb := xbit_ex (A := A) (a := min i o) (b := max i o) (by omega) (by omega) (by omega) (by omega)
      rw [mm, mx] at xb
      refine xb.imp ?_
      rintro r rfl
      exact ⟨rfl, rfl⟩
  · refine ⟨oX_9 r0 rk 1 rfl, ?_⟩
    refine ⟨rfl, ?_⟩
    refine (xbit_ex (a := a) (b := b) (by omega) (by omega) (by omega) (by omega)).imp ?_
    rintro r rfl
    exact ⟨rfl, rfl⟩
theorem xl_29 {A : pm_A} {r n s a b : Int} {F : Int → Int} (hA : gH wX A) (r0 : 0 ≤ r) (rk : wX.2 r = 9) (h : rgX A r n F) (hS : rgS n F) (hcut : cntF F 100 = n - 3) : Tm pmt (an_sh wX) o_X9_flip 29 ([(2, 0), (0, s), (0, a), (0, b), (2, r), (9, 0)], [], A) (xlP A r n F a b) := by
  have hn := hS.1
  refine wq_ok srt_Xflip (fr := []) (cuts := [35]) (J := fun pc st => (pc = 35 ∧ ∃ z1 : Int, ((z1 = 1 ∧ inC n a) ∨ (z1 = 0 ∧ ¬ inC n a)) ∧ st = ([(2, 0), (0, s), (0, a), (0, b), (2, r), (9, 0)], [(0, z1)], A))) ?_ 7 29 _ ?_
  · rintro pc st (⟨rfl, z1, hz1, rfl⟩)
    refine wq_ok srt_Xflip (fr := []) (cuts := [44]) (J := fun pc st => (pc = 44 ∧ (¬ z1 = 0) ∧ ∃ z2 : Int, ((z2 = 1 ∧ inC n b) ∨ (z2 = 0 ∧ ¬ inC n b)) ∧ st = ([(2, 0), (0, s), (0, a), (0, b), (2, r), (9, 0)], [(0, z2)], A))) ?_ 8 35 _ ?_
    · rintro pc st (⟨rfl, h0, z2, hz2, rfl⟩)
      have k1 : inC n a := (by rcases hz1 with ⟨_, e⟩ | ⟨e, _⟩; exact e; omega)
      clear h0
      refine wq_ok srt_Xflip (fr := []) (cuts := [54]) (J := fun pc st => (pc = 54 ∧ (¬ z2 = 0) ∧ ∃ z3 : Int, ((z3 = 1 ∧ hsP F a b) ∨ (z3 = 0 ∧ ¬ hsP F a b)) ∧ st = ([(2, 0), (0, s), (0, a), (0, b), (2, r), (9, 0)], [(0, z3)], A))) ?_ 9 44 _ ?_
      · rintro pc st (⟨rfl, h0, z3, hz3, rfl⟩)
        have k2 : inC n b := (by rcases hz2 with ⟨_, e⟩ | ⟨e, _⟩; exact e; omega)
        clear h0
        have k1x := k1
        have k2x := k2
        unfold inC at k1x k2x
        have kk := fcd_c (a := a) (b := b) (by omega) (by omega) (by omega) (by omega)
        refine wq_ok srt_Xflip (fr := []) (cuts := [74]) (J := fun pc st => (pc = 74 ∧ hsP F a b ∧ ∃ i o, oth n F (fcd a b) i o ∧ st = ([(2, 0), (0, s), (0, a), (0, b), (2, r), (9, 0)], [(0, 100 * min i o + max i o)], A))) ?_ 13 54 _ ?_
        · rintro pc st (⟨rfl, k4, i, o, hq, rfl⟩)
          refine wq_ok srt_Xflip (fr := []) (cuts := [82]) (J := fun pc st => (pc = 82 ∧ (¬ (100 * min i o + max i o) = ((-1))) ∧ st = ([(2, 0), (0, s), (0, a), (0, b), (2, r), (0, 100 * min i o + max i o)], [], A))) ?_ 10 74 _ ?_
          · rintro pc st (⟨rfl, h0, rfl⟩)
            exact xl_82 hA r0 rk h hS ⟨hcut, k1, k2, k4.1, k4.2⟩ hq
          · refine ⟨fun h0 => ?_, fun h0 => ?_⟩
            · exact absurd (show False by obtain ⟨q1, ⟨q2, _⟩, _⟩ := hq; omega) (fun q => q)
            · exact ⟨rfl, h0, rfl⟩
        · refine ⟨fun h0 => ?_, fun h0 => ?_⟩
          · refine ⟨rX_9 r0 rk, ?_⟩
            have k4 : hsP F a b := (by rcases hz3 with ⟨_, e⟩ | ⟨e, _⟩; exact e; omega)
            have xo := xother_ex r0 rk h ⟨hS, hcut⟩ kk.2.2.1 kk.2.2.2 k4.2
            rw [kk.1, kk.2.1] at xo
            refine xo.imp ?_
            rintro ⟨r1, C⟩ ⟨q1, i, o, hq, q2⟩
            simp only at q1 q2
            subst q1
            subst q2
            exact ⟨rfl, k4, i, o, hq, rfl⟩
          · exact ⟨rfl, Or.inl ⟨rfl, fun q => absurd (show hsP F a b from ⟨q.2.2.2.1, q.2.2.2.2⟩) (by rcases hz3 with ⟨e, _⟩ | ⟨_, e⟩; omega; exact e)⟩⟩
      · refine ⟨fun h0 => ?_, fun h0 => ?_⟩
        · exact ⟨rfl, Or.inl ⟨rfl, fun q => absurd q.2.2.1 (by rcases hz2 with ⟨e, _⟩ | ⟨_, e⟩; omega; exact e)⟩⟩
        · refine ⟨rX_9 r0 rk, ?_⟩
          refine (xhas_ex r0 rk h (a := a) (b := b) k1.1 (by have := k1.2; omega) (show inC n b from (by rcases hz2 with ⟨_, e⟩ | ⟨e, _⟩; exact e; omega)).1 (by have := (show inC n b from (by rcases hz2 with ⟨_, e⟩ | ⟨e, _⟩; exact e; omega)).2; omega)).imp ?_
          rintro ⟨r1, C⟩ ⟨q1, z3, q2, hz3⟩
          simp only at q1 q2
          subst q1
          subst q2
          exact ⟨rfl, h0, z3, hz3, rfl⟩
    · refine ⟨fun h0 => ?_, fun h0 => ?_⟩
      · exact ⟨rfl, Or.inl ⟨rfl, fun q => absurd q.2.1 (by rcases hz1 with ⟨e, _⟩ | ⟨_, e⟩; omega; exact e)⟩⟩
      · refine ⟨rX_9 r0 rk, ?_⟩
        refine (xcorner_ex r0 rk h (a := b)).imp ?_
        rintro ⟨r1, C⟩ ⟨q1, z2, q2, hz2⟩
        simp only at q1 q2
        subst q1
        subst q2
        exact ⟨rfl, h0, z2, hz2, rfl⟩
  · refine ⟨rX_9 r0 rk, ?_⟩
    refine (xcorner_ex r0 rk h (a := a)).imp ?_
    rintro ⟨r1, C⟩ ⟨q1, z1, q2, hz1⟩
    simp only at q1 q2
    subst q1
    subst q2
    exact ⟨rfl, z1, hz1, rfl⟩
theorem xflip_ex {A : pm_A} {n s a b : Int} {F : Int → Int} (hA : gH wX A) (h : s = 0 ∨ s = 1 → rgX A (A (A 0 13) s) n F ∧ rgS n F) : Cl pmt (an_sh wX) 91 [(2, 0), (0, s), (0, a), (0, b)] A (fun q => (q = (some (0, -1), A) ∧ ¬ (s = 0 ∨ s = 1)) ∨ ((s = 0 ∨ s = 1) ∧ xlP A (A (A 0 13) s) n F a b q)) := by
  have p0 := fX_0_13 hA (Int.le_refl 0) kk0
  have h7 : s = 0 ∨ s = 1 → Tm pmt (an_sh wX) o_X9_flip 7 ([(2, 0), (0, s), (0, a), (0, b), (9, 0), (9, 0)], [], A) (fun q => (q = (some (0, -1), A) ∧ ¬ (s = 0 ∨ s = 1)) ∨ ((s = 0 ∨ s = 1) ∧ xlP A (A (A 0 13) s) n F a b q)) := fun hs => by
    have e0 := eX_34 hA p0.1 p0.2 (j := s) (by omega) (by omega)
    refine wq_ok srt_Xflip (fr := []) (cuts := [16]) (J := fun pc st => (pc = 16 ∧ ∃ x : Int, ((x = 1 ∧ (cntF F 100 = n - 3)) ∨ (x = 0 ∧ ¬ (cntF F 100 = n - 3))) ∧ st = ([(2, 0), (0, s), (0, a), (0, b), (9, 0), (9, 0)], [(0, x)], A))) ?_ 9 7 _ ?_
    · rintro pc st (⟨rfl, x, hx, rfl⟩)
      refine wq_ok srt_Xflip (fr := []) (cuts := [29]) (J := fun pc st => (pc = 29 ∧ (¬ x = 0) ∧ st = ([(2, 0), (0, s), (0, a), (0, b), (2, A (A 0 13) s), (9, 0)], [], A))) ?_ 11 16 _ ?_
      · rintro pc st (⟨rfl, h0, rfl⟩)
        exact (xl_29 hA e0.1 e0.2 (h hs).1 (h hs).2 (by rcases hx with ⟨_, e⟩ | ⟨e, _⟩; exact e; omega)).imp (fun q hq => Or.inr ⟨hs, hq⟩)
      · refine ⟨fun h0 => ?_, fun h0 => ?_⟩
        · refine ⟨oX_0 (Int.le_refl 0) kk0 13 rfl, ?_⟩
          refine ⟨aX_34 (fX_0_13 hA (Int.le_refl 0) kk0).1 (fX_0_13 hA (Int.le_refl 0) kk0).2 (by omega) (by omega), ?_⟩
          exact ⟨rfl, h0, rfl⟩
        · exact ⟨rfl, Or.inr ⟨hs, Or.inl ⟨rfl, fun q => absurd q.1 (by rcases hx with ⟨e, _⟩ | ⟨_, e⟩; omega; exact e)⟩⟩⟩
    · refine ⟨oX_0 (Int.le_refl 0) kk0 13 rfl, ?_⟩
      refine ⟨aX_34 (fX_0_13 hA (Int.le_refl 0) kk0).1 (fX_0_13 hA (Int.le_refl 0) kk0).2 (by omega) (by omega), ?_⟩
      refine ⟨rX_9 (eX_34 hA (fX_0_13 hA (Int.le_refl 0) kk0).1 (fX_0_13 hA (Int.le_refl 0) kk0).2 (j := s) (by omega) (by omega)).1 (eX_34 hA (fX_0_13 hA (Int.le_refl 0) kk0).1 (fX_0_13 hA (Int.le_refl 0) kk0).2 (j := s) (by omega) (by omega)).2, ?_⟩
      refine (xcut_ex e0.1 e0.2 (h hs).1 (h hs).2).imp ?_
      rintro ⟨r1, C⟩ ⟨q1, x, q2, hx⟩
      simp only at q1 q2
      subst q1
      subst q2
      exact ⟨rfl, x, hx, rfl⟩
  refine Cl.of (Nat.le_of_ble_eq_true rfl) ?_
  refine wq_ok (full := o_X9_flip) srt_Xflip (fr := []) (cuts := [4]) (J := fun pc st => (pc = 4 ∧ ∃ x : Int, ((x = 1 ∧ (s = 0 ∨ s = 1)) ∨ (x = 0 ∧ ¬ (s = 0 ∨ s = 1))) ∧ st = ([(2, 0), (0, s), (0, a), (0, b), (9, 0), (9, 0)], [(0, x)], A))) ?_ 6 0 _ ?_
  · rintro pc st (⟨rfl, x, hx, rfl⟩)
    refine wq_ok srt_Xflip (fr := []) (cuts := [7]) (J := fun pc st => (pc = 7 ∧ (¬ x = 0) ∧ st = ([(2, 0), (0, s), (0, a), (0, b), (9, 0), (9, 0)], [], A))) ?_ 7 4 _ ?_
    · rintro pc st (⟨rfl, h0, rfl⟩)
      exact h7 (by rcases hx with ⟨_, e⟩ | ⟨e, _⟩; exact e; omega)
    · refine ⟨fun h0 => ?_, fun h0 => ?_⟩
      · exact ⟨rfl, Or.inl ⟨rfl, (by rcases hx with ⟨e, _⟩ | ⟨_, e⟩; omega; exact e)⟩⟩
      · exact ⟨rfl, h0, rfl⟩
  · refine ⟨rfl, ?_⟩
    refine (xa_isSlot).imp ?_
    rintro ⟨r1, C⟩ ⟨q1, x, q2, hx⟩
    simp only at q1 q2
    subst q1
    subst q2
    exact ⟨rfl, x, hx, rfl⟩
end

section
/-! way of the reference: the rings stay as they were -/
def wzP (A : pm_A) (r : pm_R) : Prop := ri_post r ∧ (∀ s : Int, r.2 31 s = A 31 s) ∧ ∀ j : Int, 0 ≤ j → j < 200 → r.2 32 j = A 32 j
theorem wz_94 {A B : pm_A} {n m f : Int} (hB : wyF A B) (h : b1I n (B 33) (B 34) f m) (n0 : 4 ≤ n) (n1 : n ≤ 10) (f0 : 0 ≤ f) (f1 : f < 100) (hv : vdF n f) (H : ∀ (C : pm_A) (m' : Int), wyF A C → b1I n (C 33) (C 34) (f + 1) m' → Tm pmt (an_sh wM) o_X10_way 44 ([(2, 0), (0, n), (0, m'), (0, f + 1), (9, 0), (9, 0), (9, 0), (9, 0), (9, 0), (9, 0)], [], C)  (wzP A)) : Tm pmt (an_sh wM) o_X10_way 94 ([(2, 0), (0, n), (0, m), (0, f), (9, 0), (9, 0), (9, 0), (9, 0), (9, 0), (9, 0)], [], B)  (wzP A) := by
  have hm := h.m34 n0 n1 f0 f1 hv
  have c50 := pM_50 hB.1
  have h101 : ∀ C, C = pm_upd B 33 f m → Tm pmt (an_sh wM) o_X10_way 101 ([(2, 0), (0, n), (0, m), (0, f), (9, 0), (9, 0), (9, 0), (9, 0), (9, 0), (9, 0)], [], C)  (wzP A) := fun C hC => by
    have hg : gH wM C := by rw [hC]; exact uM_33 hB.1 kn33 (by omega) (by omega)
    have c51 := pM_51 hg
    refine wq_ok srt_Mway (fr := []) (cuts := [44]) (J := fun pc st => (pc = 44 ∧ st = ([(2, 0), (0, n), (0, m + 1), (0, f + 1), (9, 0), (9, 0), (9, 0), (9, 0), (9, 0), (9, 0)], [], pm_upd C (C 0 51) m f))) ?_ 13 101 _ ?_
    · rintro pc st (⟨rfl, rfl⟩)
      rw [c51]
      refine H _ _ ⟨uM_34 hg kn34 (by omega) (by omega), fun r j h1 h2 => by rw [upd_o (by omega), hC, upd_o (by omega)]; exact hB.2 r j h1 h2⟩ ?_
      refine h.take f0 hv ?_ (fun g hg => ?_) ?_ (fun b hb => ?_)
      · rw [upd_o (by omega), hC, upd_at]
      · rw [upd_o (by omega), hC, upd_o (by omega)]
      · rw [upd_at]
      · rw [upd_o (by omega), hC, upd_o (by omega)]
    · refine ⟨oM_0 (by omega) km0 51 rfl, ?_⟩
      refine ⟨tM_34 (r := C 0 51) (by rw [c51]; omega) (by rw [c51]; exact kn34) (by omega) (by omega) rfl, ?_⟩
      refine ⟨⟨by omega, by omega⟩, ?_⟩
      refine ⟨⟨by omega, by omega⟩, ?_⟩
      exact ⟨rfl, rfl⟩
  refine wq_ok srt_Mway (fr := []) (cuts := [101]) (J := fun pc st => (pc = 101 ∧ st = ([(2, 0), (0, n), (0, m), (0, f), (9, 0), (9, 0), (9, 0), (9, 0), (9, 0), (9, 0)], [], pm_upd B (B 0 50) f m))) ?_ 10 94 _ ?_
  · rintro pc st (⟨rfl, rfl⟩)
    rw [c50]
    exact h101 _ rfl
  · refine ⟨oM_0 (by omega) km0 50 rfl, ?_⟩
    refine ⟨tM_33 (r := B 0 50) (by rw [c50]; omega) (by rw [c50]; exact kn33) (by omega) (by omega) rfl, ?_⟩
    exact ⟨rfl, rfl⟩
theorem wz_57 {A B : pm_A} {n m f : Int} (hB : wyF A B) (h : b1I n (B 33) (B 34) f m) (hf : B 33 f = -1) (n0 : 4 ≤ n) (n1 : n ≤ 10) (f0 : 0 ≤ f) (f1 : f < 100) (H : ∀ (C : pm_A) (m' : Int), wyF A C → b1I n (C 33) (C 34) (f + 1) m' → Tm pmt (an_sh wM) o_X10_way 44 ([(2, 0), (0, n), (0, m'), (0, f + 1), (9, 0), (9, 0), (9, 0), (9, 0), (9, 0), (9, 0)], [], C)  (wzP A)) : Tm pmt (an_sh wM) o_X10_way 57 ([(2, 0), (0, n), (0, m), (0, f), (9, 0), (9, 0), (9, 0), (9, 0), (9, 0), (9, 0)], [], B)  (wzP A) := by
  have sk : ¬ vdF n f → Tm pmt (an_sh wM) o_X10_way 44 ([(2, 0), (0, n), (0, m), (0, f + 1), (9, 0), (9, 0), (9, 0), (9, 0), (9, 0), (9, 0)], [], B)  (wzP A) := fun hv => H B m hB (h.skip f0 hv hf)
  refine wq_ok srt_Mway (fr := []) (cuts := [44, 88]) (J := fun pc st => (pc = 44 ∧ ((f % 10) ≤ (f / 10)) ∧ st = ([(2, 0), (0, n), (0, m), (0, f + 1), (9, 0), (9, 0), (9, 0), (9, 0), (9, 0), (9, 0)], [], B)) ∨ (pc = 44 ∧ ((f / 10) < (f % 10)) ∧ (n ≤ (f % 10)) ∧ st = ([(2, 0), (0, n), (0, m), (0, f + 1), (9, 0), (9, 0), (9, 0), (9, 0), (9, 0), (9, 0)], [], B)) ∨ (pc = 88 ∧ ((f / 10) < (f % 10)) ∧ ((f % 10) < n) ∧ ∃ z : Int, ((z = 1 ∧ neigh n (f / 10) (f % 10)) ∨ (z = 0 ∧ ¬ neigh n (f / 10) (f % 10))) ∧ st = ([(2, 0), (0, n), (0, m), (0, f), (9, 0), (9, 0), (9, 0), (9, 0), (9, 0), (9, 0)], [(0, z)], B))) ?_ 24 57 _ ?_
  · rintro pc st (⟨rfl, h0, rfl⟩ | ⟨rfl, h0, h1, rfl⟩ | ⟨rfl, h0, h1, z, hz, rfl⟩)
    · exact sk (fun hv => by have a := hv.1; have b := hv.2.1; omega)
    · exact sk (fun hv => by have a := hv.1; have b := hv.2.1; omega)
    · have g0 : f / 10 < f % 10 := by assumption
      have g1 : f % 10 < n := by assumption
      refine wq_ok srt_Mway (fr := []) (cuts := [44, 94]) (J := fun pc st => (pc = 94 ∧ (z = 0) ∧ st = ([(2, 0), (0, n), (0, m), (0, f), (9, 0), (9, 0), (9, 0), (9, 0), (9, 0), (9, 0)], [], B)) ∨ (pc = 44 ∧ (¬ z = 0) ∧ st = ([(2, 0), (0, n), (0, m), (0, f + 1), (9, 0), (9, 0), (9, 0), (9, 0), (9, 0), (9, 0)], [], B))) ?_ 9 88 _ ?_
      · rintro pc st (⟨rfl, h0, rfl⟩ | ⟨rfl, h0, rfl⟩)
        · refine wz_94 hB h n0 n1 f0 f1 ⟨g0, g1, ?_⟩ H
          rcases hz with ⟨e, _⟩ | ⟨_, e⟩
          · omega
          · exact e
        · refine sk (fun hv => hv.2.2 ?_)
          rcases hz with ⟨_, e⟩ | ⟨e, _⟩
          · exact e
          · omega
      · refine ⟨fun h0 => ?_, fun h0 => ?_⟩
        · exact Or.inl (⟨rfl, h0, rfl⟩)
        · refine ⟨⟨by omega, by omega⟩, ?_⟩
          exact Or.inr (⟨rfl, h0, rfl⟩)
  · refine ⟨⟨by omega, by omega, by omega, by omega⟩, ?_⟩
    refine ⟨⟨by omega, by omega, by omega, by omega⟩, ?_⟩
    refine ⟨fun h0 => ?_, fun h0 => ?_⟩
    · refine ⟨⟨by omega, by omega⟩, ?_⟩
      exact Or.inl (⟨rfl, h0, rfl⟩)
    · refine ⟨⟨by omega, by omega, by omega, by omega⟩, ?_⟩
      refine ⟨fun h1 => ?_, fun h1 => ?_⟩
      · refine ⟨⟨by omega, by omega⟩, ?_⟩
        exact Or.inr (Or.inl (⟨rfl, h0, h1, rfl⟩))
      · refine ⟨⟨by omega, by omega, by omega, by omega⟩, ?_⟩
        refine ⟨⟨by omega, by omega, by omega, by omega⟩, ?_⟩
        refine ⟨rfl, ?_⟩
        refine (MareNeighbours_ex (n := n) (x := f / 10) (y := f % 10) n0 n1 (by omega) (by omega) (by omega) (by omega)).imp ?_
        rintro ⟨r1, C⟩ ⟨q1, z, q2, hz⟩
        simp only at q1 q2
        subst q1
        subst q2
        exact Or.inr (Or.inr (⟨rfl, h0, h1, z, hz, rfl⟩))
theorem wz_44 {A : pm_A} {n : Int} (n0 : 4 ≤ n) (n1 : n ≤ 10) (H : ∀ (C : pm_A) (m : Int), wyF A C → bmS n (C 33) (C 34) m → 0 ≤ m → Tm pmt (an_sh wM) o_X10_way 117 ([(2, 0), (0, n), (0, m), (0, 100), (9, 0), (9, 0), (9, 0), (9, 0), (9, 0), (9, 0)], [], C)  (wzP A)) : ∀ (k : Nat) (f m : Int) (B : pm_A), (100 - f).toNat < k → 0 ≤ f → f ≤ 100 → wyF A B → b1I n (B 33) (B 34) f m → Tm pmt (an_sh wM) o_X10_way 44 ([(2, 0), (0, n), (0, m), (0, f), (9, 0), (9, 0), (9, 0), (9, 0), (9, 0), (9, 0)], [], B)  (wzP A) := by
  intro k
  induction k with
  | zero => intro f m B h; omega
  | succ k ih =>
    intro f m B hk f0 f1 hB h
    have c50 := pM_50 hB.1
    have hm := cntF_b (vdc n) f.toNat
    have hm1 := h.1
    refine wq_ok srt_Mway (fr := []) (cuts := [57, 117]) (J := fun pc st => (pc = 117 ∧ (100 ≤ f) ∧ st = ([(2, 0), (0, n), (0, m), (0, f), (9, 0), (9, 0), (9, 0), (9, 0), (9, 0), (9, 0)], [], B)) ∨ (pc = 57 ∧ (f < 100) ∧ st = ([(2, 0), (0, n), (0, m), (0, f), (9, 0), (9, 0), (9, 0), (9, 0), (9, 0), (9, 0)], [], pm_upd B (B 0 50) f ((-1))))) ?_ 13 44 _ ?_
    · rintro pc st (⟨rfl, h0, rfl⟩ | ⟨rfl, h0, rfl⟩)
      · have e : f = 100 := by omega
        subst e
        exact H B m hB (h.bmS n0 n1) (by omega)
      · rw [c50]
        refine wz_57 (B := pm_upd B 33 f (-1)) ⟨uM_33 hB.1 kn33 (by omega) (by omega), fun r j h1 h2 => by rw [upd_o (by omega)]; exact hB.2 r j h1 h2⟩ ?_ (by rw [upd_at]) n0 n1 f0 (by omega) (fun C m' hC h => ih (f + 1) m' C (by omega) (by omega) (by omega) hC h)
        refine ⟨h.1, fun g g0 g1 => ?_, fun b b0 b1 => ?_⟩
        · have e : pm_upd B 33 f (-1) 33 g = B 33 g := upd_o (by omega)
          rw [e]
          exact (h.2.1 g g0 g1).imp (fun ⟨a1, a2, a3, a4⟩ => ⟨a1, a2, a3, by rw [upd_o (by omega)]; exact a4⟩) id
        · have a := h.2.2 b b0 b1
          have e : pm_upd B 33 f (-1) 34 b = B 34 b := upd_o (by omega)
          rw [e]
          exact ⟨a.1, a.2.1, by rw [upd_o (by omega)]; exact a.2.2⟩
    · refine ⟨fun h0 => ?_, fun h0 => ?_⟩
      · exact Or.inl (⟨rfl, h0, rfl⟩)
      · refine ⟨oM_0 (by omega) km0 50 rfl, ?_⟩
        refine ⟨tM_33 (r := B 0 50) (by rw [c50]; omega) (by rw [c50]; exact kn33) (by omega) (by omega) rfl, ?_⟩
        exact Or.inr (⟨rfl, h0, rfl⟩)
theorem wz_119 {A : pm_A} {n m : Int} {bm bf : Int → Int} (H : ∀ (C : pm_A) (i : Int), wyF A C → C 33 = bm → C 34 = bf → (∀ i : Int, 0 ≤ i → i < 200 → C 38 i = A 32 i) → Tm pmt (an_sh wM) o_X10_way 144 ([(2, 0), (0, n), (0, m), (0, i), (9, 0), (9, 0), (9, 0), (9, 0), (9, 0), (9, 0)], [], C)  (wzP A)) : ∀ (k : Nat) (i : Int) (B : pm_A), (200 - i).toNat < k → 0 ≤ i → i ≤ 200 → wyF A B → B 33 = bm → B 34 = bf → (∀ j : Int, 0 ≤ j → j < i → B 38 j = A 32 j) → Tm pmt (an_sh wM) o_X10_way 119 ([(2, 0), (0, n), (0, m), (0, i), (9, 0), (9, 0), (9, 0), (9, 0), (9, 0), (9, 0)], [], B)  (wzP A) := by
  intro k
  induction k with
  | zero => intro i B h; omega
  | succ k ih =>
    intro i B hk i0 i1 hB e33 e34 hs
    have c49 := pM_49 hB.1
    have c57 := pM_57 hB.1
    have b32 : i < 200 → 0 ≤ B 32 i ∧ B 32 i ≤ 1 := fun h => eM_32 hB.1 (r := 32) (by omega) kn32 i0 h
    refine wq_ok srt_Mway (fr := []) (cuts := [119, 144]) (J := fun pc st => (pc = 144 ∧ (200 ≤ i) ∧ st = ([(2, 0), (0, n), (0, m), (0, i), (9, 0), (9, 0), (9, 0), (9, 0), (9, 0), (9, 0)], [], B)) ∨ (pc = 119 ∧ (i < 200) ∧ st = ([(2, 0), (0, n), (0, m), (0, i + 1), (9, 0), (9, 0), (9, 0), (9, 0), (9, 0), (9, 0)], [], pm_upd B (B 0 57) i (B (B 0 49) i)))) ?_ 18 119 _ ?_
    · rintro pc st (⟨rfl, h0, rfl⟩ | ⟨rfl, h0, rfl⟩)
      · exact H B i hB e33 e34 (fun j j0 j1 => hs j j0 (by omega))
      · rw [c57, c49]
        have b := b32 (by omega)
        refine ih (i + 1) _ (by omega) (by omega) (by omega) ⟨uM_38 hB.1 kn38 b.1 b.2, fun r j h1 h2 => by rw [upd_o (by omega)]; exact hB.2 r j h1 h2⟩ (by rw [← e33]; funext j; exact upd_o (by omega)) (by rw [← e34]; funext j; exact upd_o (by omega)) (fun j j0 j1 => ?_)
        by_cases e : j = i
        · rw [e, upd_at]; exact hB.2 32 i (by omega) (by omega)
        · rw [upd_o (by omega)]; exact hs j j0 (by omega)
    · refine ⟨fun h0 => ?_, fun h0 => ?_⟩
      · exact Or.inl (⟨rfl, h0, rfl⟩)
      · refine ⟨oM_0 (by omega) km0 57 rfl, ?_⟩
        refine ⟨oM_0 (by omega) km0 49 rfl, ?_⟩
        refine ⟨aM_32 (r := B 0 49) (by rw [c49]; omega) (by rw [c49]; exact kn32) (by omega) (by omega), ?_⟩
        have e1 : B (B 0 49) i = B 32 i := by rw [c49]
        refine ⟨tM_38 (r := B 0 57) (by rw [c57]; omega) (by rw [c57]; exact kn38) (by omega) (by omega) (okZ (by rw [c49]; exact (b32 (by omega)).1) (by rw [c49]; exact (b32 (by omega)).2)), ?_⟩
        refine ⟨⟨by omega, by omega⟩, ?_⟩
        exact Or.inr (⟨rfl, h0, rfl⟩)
theorem wz_260 {A B : pm_A} {n m bg c b cm wm : Int} {bm bf V fa : Int → Int} (hw : wyS A B n bm bf V fa cm wm) (hb : bmS n bm bf m) (h : bfsI n bm bf m V fa cm c b) (c0 : 0 ≤ c) (c1 : c < cm) (b0 : 0 ≤ b) (b1 : b < m) {g v : Int} (hv : mfl n bm bf (V c) b v) (iv : i64 v) (hno : ∀ d : Int, 0 ≤ d → d < cm → ¬ V d = v) (H : ∀ (C : pm_A) (V' fa' : Int → Int) (cm' : Int) (w7 w8 w9 : pm_V), wyS A C n bm bf V' fa' cm' wm → bfsI n bm bf m V' fa' cm' c (b + 1) → c < cm' → Tm pmt (an_sh wM) o_X10_way 188 ([(2, 0), (0, n), (0, m), (1, bg), (9, 0), (0, c), (0, b + 1), w7, w8, w9], [], C)  (wzP A)) : Tm pmt (an_sh wM) o_X10_way 260 ([(2, 0), (0, n), (0, m), (1, bg), (9, 0), (0, c), (0, b), (0, g), (1, v), (9, 0)], [], B)  (wzP A) := by
  have room := bfs_room hb h b0 b1 hv hno
  have hm35 := hb.1
  have hl := h.1.1
  have hfc := h.1.2.2.2.2.2.2 c c0 c1
  have hvb := i64_b iv
  obtain ⟨h1, h2, h3, h4, h5, h6, h7, h8, h9, h10⟩ := hw
  have c52 := pM_52 h1
  have h271 : ∀ B1, B1 = pm_upd B 35 cm v → Tm pmt (an_sh wM) o_X10_way 271 ([(2, 0), (0, n), (0, m), (1, bg), (9, 0), (0, c), (0, b), (0, g), (1, v), (9, 0)], [], B1)  (wzP A) := fun B1 hB1 => by
    have g1 : gH wM B1 := by rw [hB1]; exact uM_35 h1 kn35 hvb.1 hvb.2
    have c53 := pM_53 g1
    have k54 : B1 0 54 = cm := by rw [hB1, upd_o (by omega)]; exact h7
    have k36 : B1 36 c = fa c := by rw [hB1, upd_o (by omega), h6]
    have h289 : ∀ B2, B2 = pm_upd B1 36 cm (fa c + 1) → Tm pmt (an_sh wM) o_X10_way 289 ([(2, 0), (0, n), (0, m), (1, bg), (9, 0), (0, c), (0, b), (0, g), (1, v), (9, 0)], [], B2)  (wzP A) := fun B2 hB2 => by
      have g2 : gH wM B2 := by rw [hB2]; exact uM_36 g1 kn36 (by omega) (by omega)
      have j54 : B2 0 54 = cm := by rw [hB2, upd_o (by omega)]; exact k54
      refine wq_ok srt_Mway (fr := []) (cuts := [188]) (J := fun pc st => (pc = 188 ∧ st = ([(2, 0), (0, n), (0, m), (1, bg), (9, 0), (0, c), (0, b + 1), (0, g), (1, v), (9, 0)], [], pm_upd B2 0 54 ((B2 0 54) + 1)))) ?_ 13 289 _ ?_
      · rintro pc st (⟨rfl, rfl⟩)
        rw [j54]
        have ho : ∀ r j : Int, ¬ (r = 0 ∧ j = 54) → ¬ (r = 36 ∧ j = cm) → ¬ (r = 35 ∧ j = cm) → pm_upd B2 0 54 (cm + 1) r j = B r j := fun r j a1 a2 a3 => by rw [upd_o (by omega), hB2, upd_o (by omega), hB1, upd_o (by omega)]
        refine H _ (pm_upd B2 0 54 (cm + 1) 35) (pm_upd B2 0 54 (cm + 1) 36) (cm + 1) _ _ _ ⟨uM_0_54 g2 (by omega) (by omega), fun r j a1 a2 => by rw [ho r j (by omega) (by omega) (by omega)]; exact h2 r j a1 a2, by rw [← h3]; funext j; exact ho 33 j (by omega) (by omega) (by omega), by rw [← h4]; funext j; exact ho 34 j (by omega) (by omega) (by omega), rfl, rfl, by rw [upd_at], by rw [ho 0 55 (by omega) (by omega) (by omega)]; exact h8, fun i i0 i1 => by rw [ho 38 i (by omega) (by omega) (by omega)]; exact h9 i i0 i1, h10.1, h10.2.1, by rw [ho 35 0 (by omega) (by omega) (by omega), h5]; exact h10.2.2⟩ ?_ (by omega)
        refine bfs_new hb h c0 c1 b0 b1 hv hno (fun d hd => ?_) ?_ (fun d hd => ?_) ?_
        · rw [ho 35 d (by omega) (by omega) (by omega), h5]
        · rw [upd_o (by omega), hB2, upd_o (by omega), hB1, upd_at]
        · rw [ho 36 d (by omega) (by omega) (by omega), h6]
        · rw [upd_o (by omega), hB2, upd_at]
      · refine ⟨oM_0 (by omega) km0 54 rfl, ?_⟩
        refine ⟨⟨by omega, by omega⟩, ?_⟩
        refine ⟨oM_0 (by omega) km0 54 rfl, ?_⟩
        refine ⟨⟨by omega, by omega⟩, ?_⟩
        exact ⟨rfl, rfl⟩
    refine wq_ok srt_Mway (fr := []) (cuts := [289]) (J := fun pc st => (pc = 289 ∧ st = ([(2, 0), (0, n), (0, m), (1, bg), (9, 0), (0, c), (0, b), (0, g), (1, v), (9, 0)], [], pm_upd B1 (B1 0 53) (B1 0 54) ((B1 (B1 0 53) c) + 1)))) ?_ 16 271 _ ?_
    · rintro pc st (⟨rfl, rfl⟩)
      rw [c53, k54, k36]
      exact h289 _ rfl
    · refine ⟨oM_0 (by omega) km0 53 rfl, ?_⟩
      refine ⟨oM_0 (by omega) km0 54 rfl, ?_⟩
      refine ⟨oM_0 (by omega) km0 53 rfl, ?_⟩
      refine ⟨aM_36 (r := B1 0 53) (by rw [c53]; omega) (by rw [c53]; exact kn36) (by omega) (by omega), ?_⟩
      have e1 : B1 (B1 0 53) c = B1 36 c := by rw [c53]
      refine ⟨(by rw [c53, k36]; exact ⟨by omega, by omega⟩), ?_⟩
      refine ⟨tM_36 (r := B1 0 53) (by rw [c53]; omega) (by rw [c53]; exact kn36) (by omega) (by omega) rfl, ?_⟩
      exact ⟨rfl, rfl⟩
  refine wq_ok srt_Mway (fr := []) (cuts := [271]) (J := fun pc st => (pc = 271 ∧ st = ([(2, 0), (0, n), (0, m), (1, bg), (9, 0), (0, c), (0, b), (0, g), (1, v), (9, 0)], [], pm_upd B (B 0 52) (B 0 54) v))) ?_ 11 260 _ ?_
  · rintro pc st (⟨rfl, rfl⟩)
    rw [c52, h7]
    exact h271 _ rfl
  · refine ⟨oM_0 (by omega) km0 52 rfl, ?_⟩
    refine ⟨oM_0 (by omega) km0 54 rfl, ?_⟩
    refine ⟨tM_35 (r := B 0 52) (by rw [c52]; omega) (by rw [c52]; exact kn35) (by omega) (by omega) rfl, ?_⟩
    exact ⟨rfl, rfl⟩
theorem wz_214 {A B : pm_A} {n m bg c b cm wm : Int} {bm bf V fa : Int → Int} (hw : wyS A B n bm bf V fa cm wm) (hb : bmS n bm bf m) (h : bfsI n bm bf m V fa cm c b) (c0 : 0 ≤ c) (c1 : c < cm) (b0 : 0 ≤ b) (b1 : b < m) (ht : ¬ tbt (V c) b = 0) {w7 w8 w9 : pm_V} (H : ∀ (C : pm_A) (V' fa' : Int → Int) (cm' : Int) (w7 w8 w9 : pm_V), wyS A C n bm bf V' fa' cm' wm → bfsI n bm bf m V' fa' cm' c (b + 1) → c < cm' → Tm pmt (an_sh wM) o_X10_way 188 ([(2, 0), (0, n), (0, m), (1, bg), (9, 0), (0, c), (0, b + 1), w7, w8, w9], [], C)  (wzP A)) : Tm pmt (an_sh wM) o_X10_way 214 ([(2, 0), (0, n), (0, m), (1, bg), (9, 0), (0, c), (0, b), w7, w8, w9], [], B)  (wzP A) := by
  have hl := h.1.1
  obtain ⟨F, hF, hV⟩ := h.1.2.2.1 c c0 c1
  have hn := hF.1.1
  obtain ⟨d0, d1, _⟩ := hb.2.2 b b0 b1
  have hm := hb.1
  have hFb : F (bf b) = 1 := by
    have := msk_bit hF.1 hb b0 b1
    rw [← hV] at this
    omega
  have hw0 := hw
  obtain ⟨h1, h2, h3, h4, h5, h6, h7, h8, h9, h10⟩ := hw
  have c52 := pM_52 h1
  have ev : B (B 0 52) c = V c := by rw [c52, h5]
  refine wq_ok srt_Mway (fr := []) (cuts := [226]) (J := fun pc st => (pc = 226 ∧ ∃ B1, tkB_post B 1 (bitsV bm F 100) (none, B1) ∧ st = ([(2, 0), (0, n), (0, m), (1, bg), (9, 0), (0, c), (0, b), w7, w8, w9], [], B1))) ?_ 11 214 _ ?_
  · rintro pc st (⟨rfl, B1, hk, rfl⟩)
    have g1 : gH wM B1 := hk.2.1
    have eF := tk_F hb hF h3 hk
    have hw1 : wyS A B1 n bm bf V fa cm wm := hw0.c32 g1 hk.2.2.1
    have hC : cutS n (fcs B1 1) := cutS_congr hF eF
    have hf : fcs B1 1 (bf b) = 1 := by rw [eF _ d0 d1]; exact hFb
    have e31 : B1 31 1 = n := by rw [hw1.2.1 31 1 (by omega) (by omega)]; exact h10.2.1
    have c51 := pM_51 g1
    have ef : B1 (B1 0 51) b = bf b := by rw [c51, hw1.2.2.2.1]
    refine wq_ok srt_Mway (fr := []) (cuts := [238]) (J := fun pc st => (pc = 238 ∧ ∃ B2 i o, oth n (fcs B1 1) (bf b) i o ∧ gH wM B2 ∧ B2 = pm_upd (pm_upd B1 32 (100 * 1 + bf b) 0) 32 (100 * 1 + cod i o) 1 ∧ st = ([(2, 0), (0, n), (0, m), (1, bg), (9, 0), (0, c), (0, b), w7, w8, w9], [(0, cod i o)], B2))) ?_ 11 226 _ ?_
    · rintro pc st (⟨rfl, B2, i, o, ho, q2, q3, rfl⟩)
      have hcb := cod_b hC.1 d0 d1 hf ho
      have hw2 : wyS A B2 n bm bf V fa cm wm := hw1.c32 q2 (fun q j hq => by rw [q3, upd_o (by omega), upd_o (by omega)])
      obtain ⟨k1, k2, k3, k4, k5, k6, k7, k8, k9, k10⟩ := hw2
      have hw2 : wyS A B2 n bm bf V fa cm wm := ⟨k1, k2, k3, k4, k5, k6, k7, k8, k9, k10⟩
      have hmf : mfl n bm bf (V c) b (bitsV (B2 33) (fcs B2 1) 100) := wy_mfl hb hF b0 b1 hV k3 eF hf ho hcb.1 hcb.2.1 q3
      refine wq_ok srt_Mway (fr := []) (cuts := [245]) (J := fun pc st => (pc = 245 ∧ st = ([(2, 0), (0, n), (0, m), (1, bg), (9, 0), (0, c), (0, b), (0, cod i o), w8, w9], [(1, bitsV (B2 33) (fcs B2 1) 100)], B2))) ?_ 8 238 _ ?_
      · rintro pc st (⟨rfl, rfl⟩)
        refine wq_ok srt_Mway (fr := []) (cuts := [253]) (J := fun pc st => (pc = 253 ∧ ∃ x, ((x = -1 ∧ ∀ d : Int, 0 ≤ d → d < B2 0 54 → ¬ B2 35 d = bitsV (B2 33) (fcs B2 1) 100) ∨ (0 ≤ x ∧ x < B2 0 54 ∧ B2 35 x = bitsV (B2 33) (fcs B2 1) 100)) ∧ st = ([(2, 0), (0, n), (0, m), (1, bg), (9, 0), (0, c), (0, b), (0, cod i o), (1, bitsV (B2 33) (fcs B2 1) 100), (9, 0)], [(0, x)], B2))) ?_ 8 245 _ ?_
        · rintro pc st (⟨rfl, x, hx, rfl⟩)
          refine wq_ok srt_Mway (fr := []) (cuts := [188, 260]) (J := fun pc st => (pc = 260 ∧ (x = ((-1))) ∧ st = ([(2, 0), (0, n), (0, m), (1, bg), (9, 0), (0, c), (0, b), (0, cod i o), (1, bitsV (B2 33) (fcs B2 1) 100), (9, 0)], [], B2)) ∨ (pc = 188 ∧ (¬ x = ((-1))) ∧ st = ([(2, 0), (0, n), (0, m), (1, bg), (9, 0), (0, c), (0, b + 1), (0, cod i o), (1, bitsV (B2 33) (fcs B2 1) 100), (9, 0)], [], B2))) ?_ 10 253 _ ?_
          · rintro pc st (⟨rfl, h0, rfl⟩ | ⟨rfl, h0, rfl⟩)
            · exact wz_260 hw2 hb h c0 c1 b0 b1 hmf (bitsV_i64 _ _ _) (fun d k0 k1 => by rcases hx with ⟨_, hx⟩ | hx; exact (by have := hx d k0 (by omega); rwa [k5] at this); omega) H
            · refine H B2 V fa cm _ _ _ hw2 ?_ c1
              rcases hx with hx | ⟨x0, x1, x2⟩
              · exact absurd hx.1 h0
              · exact bfs_old hb h c1 hmf x0 (by omega) (by rw [← x2, k5])
          · refine ⟨fun h0 => ?_, fun h0 => ?_⟩
            · exact Or.inl (⟨rfl, h0, rfl⟩)
            · refine ⟨⟨by omega, by omega⟩, ?_⟩
              exact Or.inr (⟨rfl, h0, rfl⟩)
        · refine ⟨rM_0 (by omega) km0, ?_⟩
          refine (cuttingOf_ex q2).imp ?_
          rintro ⟨r1, C⟩ ⟨p1, x, p2, hx⟩
          simp only at p1 p2
          subst p1
          subst p2
          exact ⟨rfl, x, hx, rfl⟩
      · refine ⟨rM_0 (by omega) km0, ?_⟩
        refine (bits_ex (sl := 1) q2 (by omega) (by omega)).imp ?_
        rintro r rfl
        exact ⟨rfl, rfl⟩
    · refine ⟨oM_0 (by omega) km0 51 rfl, ?_⟩
      refine ⟨aM_34 (r := B1 0 51) (by rw [c51]; omega) (by rw [c51]; exact kn34) (by omega) (by omega), ?_⟩
      have e1 : B1 (B1 0 51) b = B1 34 b := by rw [c51]
      refine ⟨rM_0 (by omega) km0, ?_⟩
      rw [ef]
      refine (flips_ex (sl := 1) g1 (by omega) (by omega) (by rw [e31]; exact hC) d0 d1 hf).imp ?_
      rintro ⟨r1, B2⟩ ⟨i, o, ho, q1, q2, q3⟩
      simp only at q1 q2 q3
      subst q1
      rw [e31] at ho
      exact ⟨rfl, B2, i, o, ho, q2, q3, rfl⟩
  · refine ⟨oM_0 (by omega) km0 52 rfl, ?_⟩
    refine ⟨aM_35 (r := B 0 52) (by rw [c52]; omega) (by rw [c52]; exact kn35) (by omega) (by omega), ?_⟩
    have e1 : B (B 0 52) c = B 35 c := by rw [c52]
    refine ⟨rM_0 (by omega) km0, ?_⟩
    refine (takesBits_ex (sl := 1) h1 (by omega) (by omega)).imp ?_
    rintro ⟨r1, B1⟩ hk
    have q1 := hk.1
    simp only at q1
    subst q1
    rw [ev, hV] at hk
    exact ⟨rfl, B1, hk, rfl⟩
theorem wz_188 {A : pm_A} {n m bg c wm : Int} {bm bf : Int → Int} (hb : bmS n bm bf m) (c0 : 0 ≤ c) (H : ∀ (C : pm_A) (V fa : Int → Int) (cm : Int) (w6 w7 w8 w9 : pm_V), wyS A C n bm bf V fa cm wm → bfsI n bm bf m V fa cm (c + 1) 0 → Tm pmt (an_sh wM) o_X10_way 305 ([(2, 0), (0, n), (0, m), (1, bg), (9, 0), (0, c), w6, w7, w8, w9], [], C)  (wzP A)) : ∀ (k : Nat) (b : Int) (w7 w8 w9 : pm_V) (B : pm_A) (V fa : Int → Int) (cm : Int), (35 - b).toNat < k → 0 ≤ b → b ≤ 35 → wyS A B n bm bf V fa cm wm → bfsI n bm bf m V fa cm c b → c < cm → Tm pmt (an_sh wM) o_X10_way 188 ([(2, 0), (0, n), (0, m), (1, bg), (9, 0), (0, c), (0, b), w7, w8, w9], [], B)  (wzP A) := by
  have hm := hb.1
  intro k
  induction k with
  | zero => intro b w7 w8 w9 B V fa cm h; omega
  | succ k ih =>
    intro b w7 w8 w9 B V fa cm hk b0 b1 hw h c1
    have hl := h.1.1
    have hw0 := hw
    obtain ⟨h1, h2, h3, h4, h5, h6, h7, h8, h9, h10⟩ := hw
    have c52 := pM_52 h1
    have ev : B (B 0 52) c = V c := by rw [c52, h5]
    refine wq_ok srt_Mway (fr := []) (cuts := [188, 214, 305]) (J := fun pc st => (pc = 305 ∧ (m ≤ b) ∧ st = ([(2, 0), (0, n), (0, m), (1, bg), (9, 0), (0, c), (0, b), w7, w8, w9], [], B)) ∨ (pc = 214 ∧ (b < m) ∧ (0 < (tbt (B (B 0 52) c) b)) ∧ st = ([(2, 0), (0, n), (0, m), (1, bg), (9, 0), (0, c), (0, b), w7, w8, w9], [], B)) ∨ (pc = 188 ∧ (b < m) ∧ ((tbt (B (B 0 52) c) b) = 0) ∧ st = ([(2, 0), (0, n), (0, m), (1, bg), (9, 0), (0, c), (0, b + 1), w7, w8, w9], [], B)) ∨ (pc = 214 ∧ (b < m) ∧ ((tbt (B (B 0 52) c) b) < 0) ∧ st = ([(2, 0), (0, n), (0, m), (1, bg), (9, 0), (0, c), (0, b), w7, w8, w9], [], B))) ?_ 22 188 _ ?_
    · rintro pc st (⟨rfl, h0, rfl⟩ | ⟨rfl, h0, h1_, rfl⟩ | ⟨rfl, h0, h1_, rfl⟩ | ⟨rfl, h0, h1_, rfl⟩)
      · exact H B V fa cm _ _ _ _ hw0 (bfs_next h c0 (by omega))
      · rw [ev] at h1_
        exact wz_214 hw0 hb h c0 c1 b0 (by omega) (by omega) (fun C V' fa' cm' w7 w8 w9 hC hI hc => ih (b + 1) w7 w8 w9 C V' fa' cm' (by omega) (by omega) (by omega) hC hI hc)
      · rw [ev] at h1_
        exact ih (b + 1) _ _ _ B V fa cm (by omega) (by omega) (by omega) hw0 (bfs_skip hb h h1_) c1
      · rw [ev] at h1_
        exact wz_214 hw0 hb h c0 c1 b0 (by omega) (by omega) (fun C V' fa' cm' w7 w8 w9 hC hI hc => ih (b + 1) w7 w8 w9 C V' fa' cm' (by omega) (by omega) (by omega) hC hI hc)
    · refine ⟨fun h0 => ?_, fun h0 => ?_⟩
      · exact Or.inl (⟨rfl, h0, rfl⟩)
      · refine ⟨oM_0 (by omega) km0 52 rfl, ?_⟩
        refine ⟨aM_35 (r := B 0 52) (by rw [c52]; omega) (by rw [c52]; exact kn35) (by omega) (by omega), ?_⟩
        have e1 : B (B 0 52) c = B 35 c := by rw [c52]
        refine ⟨fun h1_ => ?_, fun h1_ => ?_, fun h1_ => ?_⟩
        · refine ⟨fun _ => ?_, fun hh => absurd hh (by decide)⟩
          exact Or.inr (Or.inl (⟨rfl, h0, h1_, rfl⟩))
        · refine ⟨fun hh => absurd hh (by decide), fun _ => ?_⟩
          refine ⟨⟨by omega, by omega⟩, ?_⟩
          exact Or.inr (Or.inr (Or.inl (⟨rfl, h0, h1_, rfl⟩)))
        · refine ⟨fun _ => ?_, fun hh => absurd hh (by decide)⟩
          exact Or.inr (Or.inr (Or.inr (⟨rfl, h0, h1_, rfl⟩)))
theorem wz_176 {A : pm_A} {n m bg wm : Int} {bm bf : Int → Int} (hb : bmS n bm bf m) (m0 : 0 ≤ m) (H : ∀ (C : pm_A) (V fa : Int → Int) (cm c : Int) (w6 w7 w8 w9 : pm_V), wyS A C n bm bf V fa cm wm → bfsI n bm bf m V fa cm c 0 → cm ≤ c → Tm pmt (an_sh wM) o_X10_way 311 ([(2, 0), (0, n), (0, m), (1, bg), (9, 0), (0, c), w6, w7, w8, w9], [], C)  (wzP A)) : ∀ (k : Nat) (c : Int) (w6 w7 w8 w9 : pm_V) (B : pm_A) (V fa : Int → Int) (cm : Int), (1430 - c).toNat < k → 0 ≤ c → c ≤ 1430 → wyS A B n bm bf V fa cm wm → bfsI n bm bf m V fa cm c 0 → Tm pmt (an_sh wM) o_X10_way 176 ([(2, 0), (0, n), (0, m), (1, bg), (9, 0), (0, c), w6, w7, w8, w9], [], B)  (wzP A) := by
  intro k
  induction k with
  | zero => intro c w6 w7 w8 w9 B V fa cm h; omega
  | succ k ih =>
    intro c w6 w7 w8 w9 B V fa cm hk c0 c1 hw h
    have hl := h.1.1
    have h7 := hw.2.2.2.2.2.2.1
    have h305 : c < 1430 → ∀ (C : pm_A) (V fa : Int → Int) (cm : Int) (w6 w7 w8 w9 : pm_V), wyS A C n bm bf V fa cm wm → bfsI n bm bf m V fa cm (c + 1) 0 → Tm pmt (an_sh wM) o_X10_way 305 ([(2, 0), (0, n), (0, m), (1, bg), (9, 0), (0, c), w6, w7, w8, w9], [], C)  (wzP A) := fun hc C V fa cm w6 w7 w8 w9 hw h => by
      refine wq_ok srt_Mway (fr := []) (cuts := [176]) (J := fun pc st => (pc = 176 ∧ st = ([(2, 0), (0, n), (0, m), (1, bg), (9, 0), (0, c + 1), w6, w7, w8, w9], [], C))) ?_ 7 305 _ ?_
      · rintro pc st (⟨rfl, rfl⟩)
        exact ih (c + 1) _ _ _ _ C V fa cm (by omega) (by omega) (by omega) hw h
      · refine ⟨⟨by omega, by omega⟩, ?_⟩
        exact ⟨rfl, rfl⟩
    refine wq_ok srt_Mway (fr := []) (cuts := [188, 311]) (J := fun pc st => (pc = 311 ∧ ((B 0 54) ≤ c) ∧ st = ([(2, 0), (0, n), (0, m), (1, bg), (9, 0), (0, c), w6, w7, w8, w9], [], B)) ∨ (pc = 188 ∧ (c < (B 0 54)) ∧ st = ([(2, 0), (0, n), (0, m), (1, bg), (9, 0), (0, c), (0, 0), w7, w8, w9], [], B))) ?_ 11 176 _ ?_
    · rintro pc st (⟨rfl, h0, rfl⟩ | ⟨rfl, h0, rfl⟩)
      · rw [h7] at h0
        exact H B V fa cm c _ _ _ _ hw h h0
      · rw [h7] at h0
        exact wz_188 hb c0 (h305 (by omega)) _ 0 _ _ _ B V fa cm (Nat.lt_succ_self _) (by omega) (by omega) hw h h0
    · refine ⟨oM_0 (by omega) km0 54 rfl, ?_⟩
      refine ⟨fun h0 => ?_, fun h0 => ?_⟩
      · exact Or.inl (⟨rfl, h0, rfl⟩)
      · exact Or.inr (⟨rfl, h0, rfl⟩)
set_option maxRecDepth 4000 in
theorem wz_474 {A : pm_A} {n m bg here wm : Int} {bm bf V fa : Int → Int} {cm : Int} (hA : RI A) : ∀ (k : Nat) (i : Int) (w7 w8 w9 : pm_V) (B : pm_A), (200 - i).toNat < k → 0 ≤ i → i ≤ 200 → wyS A B n bm bf V fa cm wm → (∀ j : Int, 0 ≤ j → j < i → B 32 j = A 32 j) → Tm pmt (an_sh wM) o_X10_way 474 ([(2, 0), (0, n), (0, m), (1, bg), (9, 0), (0, here), (0, i), w7, w8, w9], [], B)  (wzP A) := by
  intro k
  induction k with
  | zero => intro i w7 w8 w9 B h; omega
  | succ k ih =>
    intro i w7 w8 w9 B hk i0 i1 hw hs
    have hw0 := hw
    obtain ⟨h1, h2, h3, h4, h5, h6, h7, h8, h9, h10⟩ := hw
    have c49 := pM_49 h1
    have c57 := pM_57 h1
    have b38 : i < 200 → 0 ≤ B 38 i ∧ B 38 i ≤ 1 := fun h => eM_38 h1 (r := 38) (by omega) kn38 i0 h
    have fin : 200 ≤ i → RI B := fun hi => hA.ring h1 (fun r j a1 a2 a3 a4 a5 a6 a7 a8 a9 => h2 r j (by omega) a9) (fun t ht => by
      rw [h2 31 t (by omega) (by omega)]
      exact rgS_congr (hA.2.2 t ht) (fun x x0 x1 => hs _ (by omega) (by omega)))
    refine wq_ok srt_Mway (fr := []) (cuts := [474]) (J := fun pc st => (pc = 474 ∧ (i < 200) ∧ st = ([(2, 0), (0, n), (0, m), (1, bg), (9, 0), (0, here), (0, i + 1), w7, w8, w9], [], pm_upd B (B 0 49) i (B (B 0 57) i)))) ?_ 18 474 _ ?_
    · rintro pc st (⟨rfl, h0, rfl⟩)
      rw [c49, c57]
      have b := b38 (by omega)
      refine ih (i + 1) _ _ _ _ (by omega) (by omega) (by omega) (hw0.c32 (uM_32 h1 kn32 b.1 b.2) (fun q j hq => upd_o (by omega))) (fun j j0 j1 => ?_)
      by_cases e : j = i
      · rw [e, upd_at]; exact h9 i i0 (by omega)
      · rw [upd_o (by omega)]; exact hs j j0 (by omega)
    · refine ⟨fun h0 => ?_, fun h0 => ?_⟩
      · refine ⟨oM_0 (by omega) km0 55 rfl, ?_⟩
        exact ⟨rfl, ⟨⟨_, rfl⟩, fin (by omega)⟩, fun s => h2 31 s (by omega) (by omega), fun j j0 j1 => hs j j0 (by omega)⟩
      · refine ⟨oM_0 (by omega) km0 49 rfl, ?_⟩
        refine ⟨oM_0 (by omega) km0 57 rfl, ?_⟩
        refine ⟨aM_38 (r := B 0 57) (by rw [c57]; omega) (by rw [c57]; exact kn38) (by omega) (by omega), ?_⟩
        have e1 : B (B 0 57) i = B 38 i := by rw [c57]
        refine ⟨tM_32 (r := B 0 49) (by rw [c49]; omega) (by rw [c49]; exact kn32) (by omega) (by omega) (okZ (by rw [c57]; exact (b38 (by omega)).1) (by rw [c57]; exact (b38 (by omega)).2)), ?_⟩
        refine ⟨⟨by omega, by omega⟩, ?_⟩
        exact ⟨rfl, h0, rfl⟩
set_option maxRecDepth 4000 in
theorem wz_425 {A B : pm_A} {n m bg here th b cc cm wm : Int} {bm bf V fa : Int → Int} (hw : wyS A B n bm bf V fa cm wm) (hb : bmS n bm bf m) (h : bfsI n bm bf m V fa cm cc 0) (hcc : cm ≤ cc) (p0 : 0 ≤ here) (p1 : here < cm) (b0 : 0 ≤ b) (b1 : b < m) (w0 : 0 ≤ wm) (w1 : wm < 64) (hd : dnI n bm bf m V fa cm here th b) {g x : Int} (x0 : 0 ≤ x) (x1 : x < cm) (hx : fa x = fa here - 1) (H : ∀ (C : pm_A) (th' : Int) (w8 w9 : pm_V), wyS A C n bm bf V fa cm wm → dnI n bm bf m V fa cm here th' (b - 1) → Tm pmt (an_sh wM) o_X10_way 341 ([(2, 0), (0, n), (0, m), (1, bg), (9, 0), (0, here), (0, th'), (0, b + (-1)), w8, w9], [], C)  (wzP A)) : Tm pmt (an_sh wM) o_X10_way 425 ([(2, 0), (0, n), (0, m), (1, bg), (9, 0), (0, here), (0, th), (0, b), (0, g), (0, x)], [], B)  (wzP A) := by
  have hm := hb.1
  have hw0 := hw
  obtain ⟨h1, h2, h3, h4, h5, h6, h7, h8, h9, h10⟩ := hw
  have c51 := pM_51 h1
  have c56 := pM_56 h1
  obtain ⟨d0, d1, _⟩ := hb.2.2 b b0 b1
  have ef : B (B 0 51) b = bf b := by rw [c51, h4]
  refine wq_ok srt_Mway (fr := []) (cuts := [447]) (J := fun pc st => (pc = 447 ∧ ∃ z, 0 ≤ z ∧ z ≤ 999 ∧ st = ([(2, 0), (0, n), (0, m), (1, bg), (9, 0), (0, here), (0, x), (0, b), (0, g), (0, x)], [(0, z), (0, B 0 55), (2, B 0 56)], B))) ?_ 15 425 _ ?_
  · rintro pc st (⟨rfl, z, z0, z1, rfl⟩)
    refine wq_ok srt_Mway (fr := []) (cuts := [341]) (J := fun pc st => (pc = 341 ∧ st = ([(2, 0), (0, n), (0, m), (1, bg), (9, 0), (0, here), (0, x), (0, b + (-1)), (0, g), (0, x)], [], pm_upd B (B 0 56) (B 0 55) z))) ?_ 8 447 _ ?_
    · rintro pc st (⟨rfl, rfl⟩)
      rw [c56]
      exact H _ x _ _ ⟨uM_37 h1 kn37 (by omega) (by omega), fun r j a1 a2 => by rw [upd_o (by omega)]; exact h2 r j a1 a2, by rw [← h3]; funext j; exact upd_o (by omega), by rw [← h4]; funext j; exact upd_o (by omega), by rw [← h5]; funext j; exact upd_o (by omega), by rw [← h6]; funext j; exact upd_o (by omega), by rw [upd_o (by omega)]; exact h7, by rw [upd_o (by omega)]; exact h8, fun i i0 i1 => by rw [upd_o (by omega)]; exact h9 i i0 i1, h10⟩ (Or.inr ⟨x0, x1, hx⟩)
    · refine ⟨tM_37 (r := B 0 56) (by rw [c56]; omega) (by rw [c56]; exact kn37) (by omega) (by omega) rfl, ?_⟩
      refine ⟨⟨by omega, by omega⟩, ?_⟩
      exact ⟨rfl, rfl⟩
  · refine ⟨oM_0 (by omega) km0 56 rfl, ?_⟩
    refine ⟨oM_0 (by omega) km0 55 rfl, ?_⟩
    refine ⟨oM_0 (by omega) km0 51 rfl, ?_⟩
    refine ⟨aM_34 (r := B 0 51) (by rw [c51]; omega) (by rw [c51]; exact kn34) (by omega) (by omega), ?_⟩
    have e1 : B (B 0 51) b = B 34 b := by rw [c51]
    refine ⟨rfl, ?_⟩
    rw [ef]
    refine (named_ex d0 (by omega)).imp ?_
    rintro ⟨r1, D⟩ ⟨q1, z, q2, z0, z1⟩
    simp only at q1 q2
    subst q1
    subst q2
    exact ⟨rfl, z, z0, z1, rfl⟩
set_option maxRecDepth 4000 in
theorem wz_366 {A B : pm_A} {n m bg here th b cc cm wm : Int} {bm bf V fa : Int → Int} (hw : wyS A B n bm bf V fa cm wm) (hb : bmS n bm bf m) (h : bfsI n bm bf m V fa cm cc 0) (hcc : cm ≤ cc) (p0 : 0 ≤ here) (p1 : here < cm) (b0 : 0 ≤ b) (b1 : b < m) (w0 : 0 ≤ wm) (w1 : wm < 64) (hd : dnI n bm bf m V fa cm here th b) (ht : ¬ tbt (V here) b = 0) {w8 w9 : pm_V} (H : ∀ (C : pm_A) (th' : Int) (w8 w9 : pm_V), wyS A C n bm bf V fa cm wm → dnI n bm bf m V fa cm here th' (b - 1) → Tm pmt (an_sh wM) o_X10_way 341 ([(2, 0), (0, n), (0, m), (1, bg), (9, 0), (0, here), (0, th'), (0, b + (-1)), w8, w9], [], C)  (wzP A)) : Tm pmt (an_sh wM) o_X10_way 366 ([(2, 0), (0, n), (0, m), (1, bg), (9, 0), (0, here), (0, th), (0, b), w8, w9], [], B)  (wzP A) := by
  have hl := h.1.1
  obtain ⟨F, hF, hV⟩ := h.1.2.2.1 here p0 p1
  have hfh := h.1.2.2.2.2.2.2 here p0 p1
  have hn := hF.1.1
  obtain ⟨d0, d1, _⟩ := hb.2.2 b b0 b1
  have hm := hb.1
  have hFb : F (bf b) = 1 := by
    have := msk_bit hF.1 hb b0 b1
    rw [← hV] at this
    omega
  have hw0 := hw
  obtain ⟨h1, h2, h3, h4, h5, h6, h7, h8, h9, h10⟩ := hw
  have c52 := pM_52 h1
  have ev : B (B 0 52) here = V here := by rw [c52, h5]
  refine wq_ok srt_Mway (fr := []) (cuts := [378]) (J := fun pc st => (pc = 378 ∧ ∃ B1, tkB_post B 0 (bitsV bm F 100) (none, B1) ∧ st = ([(2, 0), (0, n), (0, m), (1, bg), (9, 0), (0, here), (0, th), (0, b), w8, w9], [], B1))) ?_ 11 366 _ ?_
  · rintro pc st (⟨rfl, B1, hk, rfl⟩)
    have g1 : gH wM B1 := hk.2.1
    have eF := tk_F hb hF h3 hk
    have hw1 : wyS A B1 n bm bf V fa cm wm := hw0.c32 g1 hk.2.2.1
    have hC : cutS n (fcs B1 0) := cutS_congr hF eF
    have hf : fcs B1 0 (bf b) = 1 := by rw [eF _ d0 d1]; exact hFb
    have e31 : B1 31 0 = n := by rw [hw1.2.1 31 0 (by omega) (by omega)]; exact h10.1
    have c51 := pM_51 g1
    have ef : B1 (B1 0 51) b = bf b := by rw [c51, hw1.2.2.2.1]
    refine wq_ok srt_Mway (fr := []) (cuts := [390]) (J := fun pc st => (pc = 390 ∧ ∃ B2 i o, oth n (fcs B1 0) (bf b) i o ∧ gH wM B2 ∧ B2 = pm_upd (pm_upd B1 32 (100 * 0 + bf b) 0) 32 (100 * 0 + cod i o) 1 ∧ st = ([(2, 0), (0, n), (0, m), (1, bg), (9, 0), (0, here), (0, th), (0, b), w8, w9], [(0, cod i o)], B2))) ?_ 11 378 _ ?_
    · rintro pc st (⟨rfl, B2, i, o, ho, q2, q3, rfl⟩)
      have hcb := cod_b hC.1 d0 d1 hf ho
      have hw2 : wyS A B2 n bm bf V fa cm wm := hw1.c32 q2 (fun q j hq => by rw [q3, upd_o (by omega), upd_o (by omega)])
      obtain ⟨k1, k2, k3, k4, k5, k6, k7, k8, k9, k10⟩ := hw2
      have hw2 : wyS A B2 n bm bf V fa cm wm := ⟨k1, k2, k3, k4, k5, k6, k7, k8, k9, k10⟩
      have hmf : mfl n bm bf (V here) b (bitsV (B2 33) (fcs B2 0) 100) := wy_mfl hb hF b0 b1 hV k3 eF hf ho hcb.1 hcb.2.1 q3
      refine wq_ok srt_Mway (fr := []) (cuts := [398]) (J := fun pc st => (pc = 398 ∧ st = ([(2, 0), (0, n), (0, m), (1, bg), (9, 0), (0, here), (0, th), (0, b), (0, cod i o), w9], [(1, bitsV (B2 33) (fcs B2 0) 100), (2, 0)], B2))) ?_ 9 390 _ ?_
      · rintro pc st (⟨rfl, rfl⟩)
        refine wq_ok srt_Mway (fr := []) (cuts := [401]) (J := fun pc st => (pc = 401 ∧ ∃ x, ((x = -1 ∧ ∀ d : Int, 0 ≤ d → d < B2 0 54 → ¬ B2 35 d = bitsV (B2 33) (fcs B2 0) 100) ∨ (0 ≤ x ∧ x < B2 0 54 ∧ B2 35 x = bitsV (B2 33) (fcs B2 0) 100)) ∧ st = ([(2, 0), (0, n), (0, m), (1, bg), (9, 0), (0, here), (0, th), (0, b), (0, cod i o), w9], [(0, x)], B2))) ?_ 5 398 _ ?_
        · rintro pc st (⟨rfl, x, hx, rfl⟩)
          have hx2 : 0 ≤ x ∧ x < cm ∧ V x = bitsV (B2 33) (fcs B2 0) 100 := by
            rcases hx with ⟨_, hx⟩ | ⟨y0, y1, y2⟩
            · obtain ⟨e, e0, e1, e2, _⟩ := h.2.2 here b _ p0 p1 b0 b1 (by omega) hmf
              exact absurd (by rw [k5]; exact e2) (hx e e0 (by omega))
            · exact ⟨y0, by omega, by rw [← k5]; exact y2⟩
          obtain ⟨x0, x1, x2⟩ := hx2
          have c53 := pM_53 q2
          refine wq_ok srt_Mway (fr := []) (cuts := [341, 425]) (J := fun pc st => (pc = 425 ∧ ((B2 (B2 0 53) x) = ((B2 (B2 0 53) here) - 1)) ∧ st = ([(2, 0), (0, n), (0, m), (1, bg), (9, 0), (0, here), (0, th), (0, b), (0, cod i o), (0, x)], [], B2)) ∨ (pc = 341 ∧ (¬ (B2 (B2 0 53) x) = ((B2 (B2 0 53) here) - 1)) ∧ st = ([(2, 0), (0, n), (0, m), (1, bg), (9, 0), (0, here), (0, th), (0, b + (-1)), (0, cod i o), (0, x)], [], B2))) ?_ 20 401 _ ?_
          · rintro pc st (⟨rfl, h0, rfl⟩ | ⟨rfl, h0, rfl⟩)
            · rw [c53, k6] at h0
              exact wz_425 hw2 hb h hcc p0 p1 b0 b1 w0 w1 hd x0 x1 h0 H
            · rw [c53, k6] at h0
              refine H B2 th _ _ hw2 (hd.imp (fun ⟨a1, a2⟩ => ⟨a1, fun b' w e y0 y1 y2 y3 y4 y5 => ?_⟩) id)
              by_cases eb : b' = b
              · rw [eb] at y2
                have e1 : w = bitsV (B2 33) (fcs B2 0) 100 := mfl_det hb b0 b1 y2 hmf
                have e2 : e = x := h.1.at y3 y4 x0 x1 (by rw [y5, e1, x2])
                rw [e2]; exact h0
              · exact a2 b' w e (by omega) y1 y2 y3 y4 y5
          · refine ⟨oM_0 (by omega) km0 53 rfl, ?_⟩
            refine ⟨aM_36 (r := B2 0 53) (by rw [c53]; omega) (by rw [c53]; exact kn36) (by omega) (by omega), ?_⟩
            have e1 : B2 (B2 0 53) x = B2 36 x := by rw [c53]
            refine ⟨oM_0 (by omega) km0 53 rfl, ?_⟩
            refine ⟨aM_36 (r := B2 0 53) (by rw [c53]; omega) (by rw [c53]; exact kn36) (by omega) (by omega), ?_⟩
            have e2 : B2 (B2 0 53) here = B2 36 here := by rw [c53]
            refine ⟨(by rw [c53, k6]; exact ⟨by omega, by omega⟩), ?_⟩
            refine ⟨fun h0 => ?_, fun h0 => ?_⟩
            · exact Or.inl (⟨rfl, h0, rfl⟩)
            · refine ⟨⟨by omega, by omega⟩, ?_⟩
              exact Or.inr (⟨rfl, h0, rfl⟩)
        · refine ⟨rM_0 (by omega) km0, ?_⟩
          refine (cuttingOf_ex q2).imp ?_
          rintro ⟨r1, C⟩ ⟨p1_, x, p2_, hx⟩
          simp only at p1_ p2_
          subst p1_
          subst p2_
          exact ⟨rfl, x, hx, rfl⟩
      · refine ⟨rM_0 (by omega) km0, ?_⟩
        refine (bits_ex (sl := 0) q2 (by omega) (by omega)).imp ?_
        rintro r rfl
        exact ⟨rfl, rfl⟩
    · refine ⟨oM_0 (by omega) km0 51 rfl, ?_⟩
      refine ⟨aM_34 (r := B1 0 51) (by rw [c51]; omega) (by rw [c51]; exact kn34) (by omega) (by omega), ?_⟩
      have e1 : B1 (B1 0 51) b = B1 34 b := by rw [c51]
      refine ⟨rM_0 (by omega) km0, ?_⟩
      rw [ef]
      refine (flips_ex (sl := 0) g1 (by omega) (by omega) (by rw [e31]; exact hC) d0 d1 hf).imp ?_
      rintro ⟨r1, B2⟩ ⟨i, o, ho, q1, q2, q3⟩
      simp only at q1 q2 q3
      subst q1
      rw [e31] at ho
      exact ⟨rfl, B2, i, o, ho, q2, q3, rfl⟩
  · refine ⟨oM_0 (by omega) km0 52 rfl, ?_⟩
    refine ⟨aM_35 (r := B 0 52) (by rw [c52]; omega) (by rw [c52]; exact kn35) (by omega) (by omega), ?_⟩
    have e1 : B (B 0 52) here = B 35 here := by rw [c52]
    refine ⟨rM_0 (by omega) km0, ?_⟩
    refine (takesBits_ex (sl := 0) h1 (by omega) (by omega)).imp ?_
    rintro ⟨r1, B1⟩ hk
    have q1 := hk.1
    simp only at q1
    subst q1
    rw [ev, hV] at hk
    exact ⟨rfl, B1, hk, rfl⟩
set_option maxRecDepth 4000 in
theorem wz_341 {A : pm_A} {n m bg here cc cm wm : Int} {bm bf V fa : Int → Int} (hb : bmS n bm bf m) (h : bfsI n bm bf m V fa cm cc 0) (hcc : cm ≤ cc) (p0 : 0 ≤ here) (p1 : here < cm) (w0 : 0 ≤ wm) (w1 : wm < 64) (H : ∀ (C : pm_A) (th b : Int) (w8 w9 : pm_V), wyS A C n bm bf V fa cm wm → dnI n bm bf m V fa cm here th b → b < 0 → Tm pmt (an_sh wM) o_X10_way 454 ([(2, 0), (0, n), (0, m), (1, bg), (9, 0), (0, here), (0, th), (0, b), w8, w9], [], C)  (wzP A)) : ∀ (k : Nat) (b th : Int) (w8 w9 : pm_V) (B : pm_A), (b + 1).toNat < k → -1 ≤ b → b < m → wyS A B n bm bf V fa cm wm → dnI n bm bf m V fa cm here th b → Tm pmt (an_sh wM) o_X10_way 341 ([(2, 0), (0, n), (0, m), (1, bg), (9, 0), (0, here), (0, th), (0, b), w8, w9], [], B)  (wzP A) := by
  have hm := hb.1
  have hl := h.1.1
  intro k
  induction k with
  | zero => intro b th w8 w9 B h; omega
  | succ k ih =>
    intro b th w8 w9 B hk b0 b1 hw hd
    have hw0 := hw
    obtain ⟨h1, h2, h3, h4, h5, h6, h7, h8, h9, h10⟩ := hw
    have c52 := pM_52 h1
    have ev : B (B 0 52) here = V here := by rw [c52, h5]
    refine wq_ok srt_Mway (fr := []) (cuts := [341, 366, 454]) (J := fun pc st => (pc = 454 ∧ (b < 0) ∧ st = ([(2, 0), (0, n), (0, m), (1, bg), (9, 0), (0, here), (0, th), (0, b), w8, w9], [], B)) ∨ (pc = 366 ∧ (0 ≤ b) ∧ (0 < (tbt (B (B 0 52) here) b)) ∧ st = ([(2, 0), (0, n), (0, m), (1, bg), (9, 0), (0, here), (0, th), (0, b), w8, w9], [], B)) ∨ (pc = 341 ∧ (0 ≤ b) ∧ ((tbt (B (B 0 52) here) b) = 0) ∧ st = ([(2, 0), (0, n), (0, m), (1, bg), (9, 0), (0, here), (0, th), (0, b + (-1)), w8, w9], [], B)) ∨ (pc = 366 ∧ (0 ≤ b) ∧ ((tbt (B (B 0 52) here) b) < 0) ∧ st = ([(2, 0), (0, n), (0, m), (1, bg), (9, 0), (0, here), (0, th), (0, b), w8, w9], [], B))) ?_ 21 341 _ ?_
    · rintro pc st (⟨rfl, h0, rfl⟩ | ⟨rfl, h0, h1_, rfl⟩ | ⟨rfl, h0, h1_, rfl⟩ | ⟨rfl, h0, h1_, rfl⟩)
      · exact H B th b _ _ hw0 hd h0
      · rw [ev] at h1_
        exact wz_366 hw0 hb h hcc p0 p1 h0 b1 w0 w1 hd (by omega) (fun C th' w8 w9 hC hD => by rw [show b + -1 = b - 1 by omega]; exact ih (b - 1) th' w8 w9 C (by omega) (by omega) (by omega) hC hD)
      · rw [ev] at h1_
        rw [show b + -1 = b - 1 by omega]
        refine ih (b - 1) th _ _ B (by omega) (by omega) (by omega) hw0 (hd.imp (fun ⟨a1, a2⟩ => ⟨a1, fun b' w e y0 y1 y2 y3 y4 y5 => ?_⟩) id)
        by_cases eb : b' = b
        · rw [eb] at y2; exact absurd h1_ (mfl_bit hb (by omega) b1 y2)
        · exact a2 b' w e (by omega) y1 y2 y3 y4 y5
      · rw [ev] at h1_
        exact wz_366 hw0 hb h hcc p0 p1 h0 b1 w0 w1 hd (by omega) (fun C th' w8 w9 hC hD => by rw [show b + -1 = b - 1 by omega]; exact ih (b - 1) th' w8 w9 C (by omega) (by omega) (by omega) hC hD)
    · refine ⟨fun h0 => ?_, fun h0 => ?_⟩
      · exact Or.inl (⟨rfl, h0, rfl⟩)
      · refine ⟨oM_0 (by omega) km0 52 rfl, ?_⟩
        refine ⟨aM_35 (r := B 0 52) (by rw [c52]; omega) (by rw [c52]; exact kn35) (by omega) (by omega), ?_⟩
        have e1 : B (B 0 52) here = B 35 here := by rw [c52]
        refine ⟨fun h1_ => ?_, fun h1_ => ?_, fun h1_ => ?_⟩
        · refine ⟨fun _ => ?_, fun hh => absurd hh (by decide)⟩
          exact Or.inr (Or.inl (⟨rfl, h0, h1_, rfl⟩))
        · refine ⟨fun hh => absurd hh (by decide), fun _ => ?_⟩
          refine ⟨⟨by omega, by omega⟩, ?_⟩
          exact Or.inr (Or.inr (Or.inl (⟨rfl, h0, h1_, rfl⟩)))
        · refine ⟨fun _ => ?_, fun hh => absurd hh (by decide)⟩
          exact Or.inr (Or.inr (Or.inr (⟨rfl, h0, h1_, rfl⟩)))
set_option maxRecDepth 4000 in
theorem wz_323 {A : pm_A} {n m bg cc cm : Int} {bm bf V fa : Int → Int} (hA : RI A) (hb : bmS n bm bf m) (m0 : 0 ≤ m) (h : bfsI n bm bf m V fa cm cc 0) (hcc : cm ≤ cc) : ∀ (k : Nat) (here wm : Int) (w6 w7 w8 w9 : pm_V) (B : pm_A), (fa here).toNat < k → 0 ≤ here → here < cm → 0 ≤ wm → wm + fa here ≤ 14 → wyS A B n bm bf V fa cm wm → Tm pmt (an_sh wM) o_X10_way 323 ([(2, 0), (0, n), (0, m), (1, bg), (9, 0), (0, here), w6, w7, w8, w9], [], B)  (wzP A) := by
  have hm := hb.1
  have hl := h.1.1
  intro k
  induction k with
  | zero => intro here wm w6 w7 w8 w9 B h; omega
  | succ k ih =>
    intro here wm w6 w7 w8 w9 B hk p0 p1 w0 w1 hw
    have hfh := h.1.2.2.2.2.2.2 here p0 p1
    have hw0 := hw
    obtain ⟨h1, h2, h3, h4, h5, h6, h7, h8, h9, h10⟩ := hw
    have c53 := pM_53 h1
    have ev : B (B 0 53) here = fa here := by rw [c53, h6]
    have h454 : 0 < fa here → ∀ (C : pm_A) (th b : Int) (w8 w9 : pm_V), wyS A C n bm bf V fa cm wm → dnI n bm bf m V fa cm here th b → b < 0 → Tm pmt (an_sh wM) o_X10_way 454 ([(2, 0), (0, n), (0, m), (1, bg), (9, 0), (0, here), (0, th), (0, b), w8, w9], [], C)  (wzP A) := fun hf C th b w8 w9 hC hD hb0 => by
      obtain ⟨t0, t1, t2⟩ := hD.end hb h.1 hb0 p0 p1 hf
      obtain ⟨h1, h2, h3, h4, h5, h6, h7, h8, h9, h10⟩ := hC
      refine wq_ok srt_Mway (fr := []) (cuts := [323]) (J := fun pc st => (pc = 323 ∧ st = ([(2, 0), (0, n), (0, m), (1, bg), (9, 0), (0, th), (0, th), (0, b), w8, w9], [], pm_upd C 0 55 ((C 0 55) + 1)))) ?_ 14 454 _ ?_
      · rintro pc st (⟨rfl, rfl⟩)
        rw [h8]
        exact ih th (wm + 1) _ _ _ _ _ (by omega) t0 t1 (by omega) (by omega) ⟨uM_0_55 h1 (by omega) (by omega), fun r j a1 a2 => by rw [upd_o (by omega)]; exact h2 r j a1 a2, by rw [← h3]; funext j; exact upd_o (by omega), by rw [← h4]; funext j; exact upd_o (by omega), by rw [← h5]; funext j; exact upd_o (by omega), by rw [← h6]; funext j; exact upd_o (by omega), by rw [upd_o (by omega)]; exact h7, by rw [upd_at], fun i i0 i1 => by rw [upd_o (by omega)]; exact h9 i i0 i1, h10⟩
      · refine ⟨oM_0 (by omega) km0 55 rfl, ?_⟩
        refine ⟨⟨by omega, by omega⟩, ?_⟩
        refine ⟨oM_0 (by omega) km0 55 rfl, ?_⟩
        exact ⟨rfl, rfl⟩
    refine wq_ok srt_Mway (fr := []) (cuts := [341, 474]) (J := fun pc st => (pc = 474 ∧ ((B (B 0 53) here) ≤ 0) ∧ st = ([(2, 0), (0, n), (0, m), (1, bg), (9, 0), (0, here), (0, 0), w7, w8, w9], [], B)) ∨ (pc = 341 ∧ (0 < (B (B 0 53) here)) ∧ st = ([(2, 0), (0, n), (0, m), (1, bg), (9, 0), (0, here), (0, (-1)), (0, m - 1), w8, w9], [], B))) ?_ 16 323 _ ?_
    · rintro pc st (⟨rfl, h0, rfl⟩ | ⟨rfl, h0, rfl⟩)
      · exact wz_474 hA _ 0 _ _ _ B (Nat.lt_succ_self _) (by omega) (by omega) hw0 (fun j j0 j1 => by omega)
      · rw [ev] at h0
        exact wz_341 hb h hcc p0 p1 w0 (by omega) (h454 h0) _ (m - 1) (-1) _ _ B (Nat.lt_succ_self _) (by omega) (by omega) hw0 (Or.inl ⟨rfl, fun b' w e y0 y1 => by omega⟩)
    · refine ⟨oM_0 (by omega) km0 53 rfl, ?_⟩
      refine ⟨aM_36 (r := B 0 53) (by rw [c53]; omega) (by rw [c53]; exact kn36) (by omega) (by omega), ?_⟩
      have e1 : B (B 0 53) here = B 36 here := by rw [c53]
      refine ⟨fun h0 => ?_, fun h0 => ?_⟩
      · exact Or.inl (⟨rfl, h0, rfl⟩)
      · refine ⟨⟨by omega, by omega⟩, ?_⟩
        exact Or.inr (⟨rfl, h0, rfl⟩)
theorem wz_311 {A B : pm_A} {n m cc cm wm : Int} {bm bf V fa G : Int → Int} (hA : RI A) (hb : bmS n bm bf m) (m0 : 0 ≤ m) (h : bfsI n bm bf m V fa cm cc 0) (hcc : cm ≤ cc) (hw : wyS A B n bm bf V fa cm wm) (hF : cutS n (fcs A 1)) (hG : cutS n G) {w6 w7 w8 w9 : pm_V} : Tm pmt (an_sh wM) o_X10_way 311 ([(2, 0), (0, n), (0, m), (1, bitsV bm G 100), (9, 0), (0, cc), w6, w7, w8, w9], [], B)  (wzP A) := by
  obtain ⟨e, e0, e1, e2, e3⟩ := bfs_end hb h hcc hF hG hw.2.2.2.2.2.2.2.2.2.2.2
  obtain ⟨h1, h2, h3, h4, h5, h6, h7, h8, h9, h10⟩ := hw
  have h316 : ∀ C, C = pm_upd B 0 55 0 → Tm pmt (an_sh wM) o_X10_way 316 ([(2, 0), (0, n), (0, m), (1, bitsV bm G 100), (9, 0), (0, cc), w6, w7, w8, w9], [], C)  (wzP A) := fun C hC => by
    have g : gH wM C := by rw [hC]; exact uM_0_55 h1 (by omega) (by omega)
    have hw : wyS A C n bm bf V fa cm 0 := ⟨g, fun r j a1 a2 => by rw [hC, upd_o (by omega)]; exact h2 r j a1 a2, by rw [← h3, hC]; funext j; exact upd_o (by omega), by rw [← h4, hC]; funext j; exact upd_o (by omega), by rw [← h5, hC]; funext j; exact upd_o (by omega), by rw [← h6, hC]; funext j; exact upd_o (by omega), by rw [hC, upd_o (by omega)]; exact h7, by rw [hC, upd_at], fun i i0 i1 => by rw [hC, upd_o (by omega)]; exact h9 i i0 i1, h10⟩
    obtain ⟨k1, k2, k3, k4, k5, k6, k7, k8, k9, k10⟩ := hw
    have hw : wyS A C n bm bf V fa cm 0 := ⟨k1, k2, k3, k4, k5, k6, k7, k8, k9, k10⟩
    refine wq_ok srt_Mway (fr := []) (cuts := [321]) (J := fun pc st => (pc = 321 ∧ ∃ x, ((x = -1 ∧ ∀ d : Int, 0 ≤ d → d < C 0 54 → ¬ C 35 d = bitsV bm G 100) ∨ (0 ≤ x ∧ x < C 0 54 ∧ C 35 x = bitsV bm G 100)) ∧ st = ([(2, 0), (0, n), (0, m), (1, bitsV bm G 100), (9, 0), (0, cc), w6, w7, w8, w9], [(0, x)], C))) ?_ 7 316 _ ?_
    · rintro pc st (⟨rfl, x, hx, rfl⟩)
      refine wq_ok srt_Mway (fr := []) (cuts := [323]) (J := fun pc st => (pc = 323 ∧ st = ([(2, 0), (0, n), (0, m), (1, bitsV bm G 100), (9, 0), (0, x), w6, w7, w8, w9], [], C))) ?_ 6 321 _ ?_
      · rintro pc st (⟨rfl, rfl⟩)
        have hx2 : x = e := by
          rcases hx with ⟨_, hx⟩ | ⟨y0, y1, y2⟩
          · exact absurd (by rw [k5]; exact e2) (hx e e0 (by omega))
          · exact h.1.at y0 (by omega) e0 e1 (by rw [e2, ← k5]; exact y2)
        subst hx2
        exact wz_323 hA hb m0 h hcc _ x 0 _ _ _ _ C (Nat.lt_succ_self _) e0 e1 (by omega) (by omega) hw
      · exact ⟨rfl, rfl⟩
    · refine ⟨rM_0 (by omega) km0, ?_⟩
      refine (cuttingOf_ex g).imp ?_
      rintro ⟨r1, D⟩ ⟨p1, x, p2, hx⟩
      simp only at p1 p2
      subst p1
      subst p2
      exact ⟨rfl, x, hx, rfl⟩
  refine wq_ok srt_Mway (fr := []) (cuts := [316]) (J := fun pc st => (pc = 316 ∧ st = ([(2, 0), (0, n), (0, m), (1, bitsV bm G 100), (9, 0), (0, cc), w6, w7, w8, w9], [], pm_upd B 0 55 0))) ?_ 8 311 _ ?_
  · rintro pc st (⟨rfl, rfl⟩)
    exact h316 _ rfl
  · refine ⟨oM_0 (by omega) km0 55 rfl, ?_⟩
    exact ⟨rfl, rfl⟩
theorem wz_144 {A B : pm_A} {n m i : Int} {bm bf : Int → Int} (hA : RI A) (hb : bmS n bm bf m) (m0 : 0 ≤ m) (hB : wyF A B) (e33 : B 33 = bm) (e34 : B 34 = bf) (hs : ∀ i : Int, 0 ≤ i → i < 200 → B 38 i = A 32 i) (h0 : cutS n (fcs A 0)) (h1 : cutS n (fcs A 1)) (a0 : A 31 0 = n) (a1 : A 31 1 = n) : Tm pmt (an_sh wM) o_X10_way 144 ([(2, 0), (0, n), (0, m), (0, i), (9, 0), (9, 0), (9, 0), (9, 0), (9, 0), (9, 0)], [], B)  (wzP A) := by
  have ef0 : fcs B 0 = fcs A 0 := funext fun f => hB.2 32 _ (by omega) (by omega)
  have hG : bitsV (B 33) (fcs B 0) 100 = bitsV bm (fcs A 0) 100 := by rw [e33, ef0]
  have hvb := i64_b (bitsV_i64 bm (fcs A 1) 100)
  have h155 : ∀ C, C = pm_upd B 0 54 1 → Tm pmt (an_sh wM) o_X10_way 155 ([(2, 0), (0, n), (0, m), (1, bitsV bm (fcs A 0) 100), (9, 0), (9, 0), (9, 0), (9, 0), (9, 0), (9, 0)], [], C)  (wzP A) := fun C hC => by
    have g : gH wM C := by rw [hC]; exact uM_0_54 hB.1 (by omega) (by omega)
    have c52 := pM_52 g
    have ef1 : fcs C 1 = fcs A 1 := funext fun f => by
      show C 32 _ = A 32 _
      rw [hC, upd_o (by omega)]; exact hB.2 32 _ (by omega) (by omega)
    have f33 : C 33 = bm := by rw [← e33, hC]; funext j; exact upd_o (by omega)
    have h166 : ∀ D, D = pm_upd C 35 0 (bitsV bm (fcs A 1) 100) → Tm pmt (an_sh wM) o_X10_way 166 ([(2, 0), (0, n), (0, m), (1, bitsV bm (fcs A 0) 100), (9, 0), (9, 0), (9, 0), (9, 0), (9, 0), (9, 0)], [], D)  (wzP A) := fun D hD => by
      have gD : gH wM D := by rw [hD]; exact uM_35 g kn35 hvb.1 hvb.2
      have c53 := pM_53 gD
      refine wq_ok srt_Mway (fr := []) (cuts := [176]) (J := fun pc st => (pc = 176 ∧ st = ([(2, 0), (0, n), (0, m), (1, bitsV bm (fcs A 0) 100), (9, 0), (0, 0), (9, 0), (9, 0), (9, 0), (9, 0)], [], pm_upd D (D 0 53) 0 0))) ?_ 12 166 _ ?_
      · rintro pc st (⟨rfl, rfl⟩)
        rw [c53]
        have ho : ∀ r j : Int, ¬ (r = 0 ∧ j = 54) → ¬ (r = 36 ∧ j = 0) → ¬ (r = 35 ∧ j = 0) → pm_upd D 36 0 0 r j = B r j := fun r j b1 b2 b3 => by rw [upd_o (by omega), hD, upd_o (by omega), hC, upd_o (by omega)]
        have v0 : pm_upd D 36 0 0 35 0 = bitsV bm (fcs A 1) 100 := by rw [upd_o (by omega), hD, upd_at]
        refine wz_176 hb m0 (bm := bm) (bf := bf) (wm := B 0 55) (fun C V fa cm c w6 w7 w8 w9 hw hI hcm => ?_) _ 0 _ _ _ _ _ (pm_upd D 36 0 0 35) (pm_upd D 36 0 0 36) 1 (Nat.lt_succ_self _) (by omega) (by omega) ⟨uM_36 gD kn36 (by omega) (by omega), fun r j b1 b2 => by rw [ho r j (by omega) (by omega) (by omega)]; exact hB.2 r j (by omega) b2, by rw [← e33]; funext j; exact ho 33 j (by omega) (by omega) (by omega), by rw [← e34]; funext j; exact ho 34 j (by omega) (by omega) (by omega), rfl, rfl, by rw [upd_o (by omega), hD, upd_o (by omega), hC, upd_at], by rw [ho 0 55 (by omega) (by omega) (by omega)], fun i i0 i1 => by rw [ho 38 i (by omega) (by omega) (by omega)]; exact hs i i0 i1, a0, a1, v0⟩ (bfs_init h1 v0 (by rw [upd_at]))
        exact wz_311 hA hb m0 hI hcm hw h1 h0
      · refine ⟨oM_0 (by omega) km0 53 rfl, ?_⟩
        refine ⟨tM_36 (r := D 0 53) (by rw [c53]; omega) (by rw [c53]; exact kn36) (by omega) (by omega) rfl, ?_⟩
        exact ⟨rfl, rfl⟩
    refine wq_ok srt_Mway (fr := []) (cuts := [165]) (J := fun pc st => (pc = 165 ∧ st = ([(2, 0), (0, n), (0, m), (1, bitsV bm (fcs A 0) 100), (9, 0), (9, 0), (9, 0), (9, 0), (9, 0), (9, 0)], [(1, bitsV (C 33) (fcs C 1) 100), (0, 0), (2, C 0 52)], C))) ?_ 10 155 _ ?_
    · rintro pc st (⟨rfl, rfl⟩)
      rw [f33, ef1]
      refine wq_ok srt_Mway (fr := []) (cuts := [166]) (J := fun pc st => (pc = 166 ∧ st = ([(2, 0), (0, n), (0, m), (1, bitsV bm (fcs A 0) 100), (9, 0), (9, 0), (9, 0), (9, 0), (9, 0), (9, 0)], [], pm_upd C (C 0 52) 0 (bitsV bm (fcs A 1) 100)))) ?_ 6 165 _ ?_
      · rintro pc st (⟨rfl, rfl⟩)
        rw [c52]
        exact h166 _ rfl
      · refine ⟨tM_35 (r := C 0 52) (by rw [c52]; omega) (by rw [c52]; exact kn35) (by omega) (by omega) rfl, ?_⟩
        exact ⟨rfl, rfl⟩
    · refine ⟨oM_0 (by omega) km0 52 rfl, ?_⟩
      refine ⟨rM_0 (by omega) km0, ?_⟩
      refine (bits_ex (sl := 1) g (by omega) (by omega)).imp ?_
      rintro r rfl
      exact ⟨rfl, rfl⟩
  refine wq_ok srt_Mway (fr := []) (cuts := [149]) (J := fun pc st => (pc = 149 ∧ st = ([(2, 0), (0, n), (0, m), (0, i), (9, 0), (9, 0), (9, 0), (9, 0), (9, 0), (9, 0)], [(1, bitsV (B 33) (fcs B 0) 100)], B))) ?_ 7 144 _ ?_
  · rintro pc st (⟨rfl, rfl⟩)
    rw [hG]
    refine wq_ok srt_Mway (fr := []) (cuts := [155]) (J := fun pc st => (pc = 155 ∧ st = ([(2, 0), (0, n), (0, m), (1, bitsV bm (fcs A 0) 100), (9, 0), (9, 0), (9, 0), (9, 0), (9, 0), (9, 0)], [], pm_upd B 0 54 1))) ?_ 9 149 _ ?_
    · rintro pc st (⟨rfl, rfl⟩)
      exact h155 _ rfl
    · refine ⟨oM_0 (by omega) km0 54 rfl, ?_⟩
      exact ⟨rfl, rfl⟩
  · refine ⟨rM_0 (by omega) km0, ?_⟩
    refine (bits_ex (sl := 0) hB.1 (by omega) (by omega)).imp ?_
    rintro r rfl
    exact ⟨rfl, rfl⟩
theorem mway_ex {A : pm_A} (h : RI A) : Cl pmt (an_sh wM) 202 [(2, 0)] A (wzP A) := by
  have c48 := pM_48 h.g
  have b0 := eM_31 h.g (r := 31) (by omega) kn31 (j := 0) (by omega) (by omega)
  have h33 : cntF (fcs A 0) 100 = A 31 0 - 3 → cntF (fcs A 1) 100 = A 31 1 - 3 → A 31 0 = A 31 1 → Tm pmt (an_sh wM) o_X10_way 33 ([(2, 0), (9, 0), (9, 0), (9, 0), (9, 0), (9, 0), (9, 0), (9, 0), (9, 0), (9, 0)], [], A)  (wzP A) := fun k0 k1 k2 => by
    have q0 : cutS (A 31 0) (fcs A 0) := ⟨h.2.2 0 (Or.inl rfl), k0⟩
    have q1 : cutS (A 31 0) (fcs A 1) := by rw [k2]; exact ⟨h.2.2 1 (Or.inr rfl), k1⟩
    refine wq_ok srt_Mway (fr := []) (cuts := [44]) (J := fun pc st => (pc = 44 ∧ st = ([(2, 0), (0, A (A 0 48) 0), (0, 0), (0, 0), (9, 0), (9, 0), (9, 0), (9, 0), (9, 0), (9, 0)], [], A))) ?_ 14 33 _ ?_
    · rintro pc st (⟨rfl, rfl⟩)
      rw [c48]
      refine wz_44 b0.1 b0.2 (fun C m hC hb m0 => ?_) _ 0 0 A (Nat.lt_succ_self _) (by omega) (by omega) ⟨h.g, fun _ _ _ _ => rfl⟩ ⟨rfl, fun g g0 g1 => by omega, fun b b0 b1 => by omega⟩
      refine wq_ok srt_Mway (fr := []) (cuts := [119]) (J := fun pc st => (pc = 119 ∧ st = ([(2, 0), (0, A 31 0), (0, m), (0, 0), (9, 0), (9, 0), (9, 0), (9, 0), (9, 0), (9, 0)], [], C))) ?_ 7 117 _ ?_
      · rintro pc st (⟨rfl, rfl⟩)
        exact wz_119 (fun D i hD f33 f34 hs => wz_144 h hb m0 hD f33 f34 hs q0 q1 rfl k2.symm) _ 0 C (Nat.lt_succ_self _) (by omega) (by omega) hC rfl rfl (fun j j0 j1 => by omega)
      · exact ⟨rfl, rfl⟩
    · refine ⟨oM_0 (by omega) km0 48 rfl, ?_⟩
      refine ⟨aM_31 (r := A 0 48) (by rw [c48]; omega) (by rw [c48]; exact kn31) (by omega) (by omega), ?_⟩
      have e1 : A (A 0 48) 0 = A 31 0 := by rw [c48]
      exact ⟨rfl, rfl⟩
  refine Cl.of (Nat.le_of_ble_eq_true rfl) ?_
  refine wq_ok (full := o_X10_way) srt_Mway (fr := []) (cuts := [5]) (J := fun pc st => (pc = 5 ∧ ∃ x : Int, ((x = 1 ∧ (cntF (fcs A 0) 100 = A 31 0 - 3)) ∨ (x = 0 ∧ ¬ (cntF (fcs A 0) 100 = A 31 0 - 3))) ∧ st = ([(2, 0), (9, 0), (9, 0), (9, 0), (9, 0), (9, 0), (9, 0), (9, 0), (9, 0), (9, 0)], [(0, x)], A))) ?_ 7 0 _ ?_
  · rintro pc st (⟨rfl, x, hx, rfl⟩)
    refine wq_ok srt_Mway (fr := []) (cuts := [13]) (J := fun pc st => (pc = 13 ∧ (¬ x = 0) ∧ ∃ y : Int, ((y = 1 ∧ (cntF (fcs A 1) 100 = A 31 1 - 3)) ∨ (y = 0 ∧ ¬ (cntF (fcs A 1) 100 = A 31 1 - 3))) ∧ st = ([(2, 0), (9, 0), (9, 0), (9, 0), (9, 0), (9, 0), (9, 0), (9, 0), (9, 0), (9, 0)], [(0, y)], A))) ?_ 8 5 _ ?_
    · rintro pc st (⟨rfl, h0, y, hy, rfl⟩)
      refine wq_ok srt_Mway (fr := []) (cuts := [33]) (J := fun pc st => (pc = 33 ∧ (¬ y = 0) ∧ ((A (A 0 48) 0) = (A (A 0 48) 1)) ∧ st = ([(2, 0), (9, 0), (9, 0), (9, 0), (9, 0), (9, 0), (9, 0), (9, 0), (9, 0), (9, 0)], [], A))) ?_ 16 13 _ ?_
      · rintro pc st (⟨rfl, h0, h1, rfl⟩)
        rw [c48] at h1
        refine h33 ?_ ?_ h1
        · rcases hx with ⟨_, e⟩ | ⟨e, _⟩
          · exact e
          · omega
        · rcases hy with ⟨_, e⟩ | ⟨e, _⟩
          · exact e
          · omega
      · refine ⟨fun h0 => ?_, fun h0 => ?_⟩
        · exact ⟨rfl, ⟨⟨_, rfl⟩, h⟩, fun _ => rfl, fun _ _ _ => rfl⟩
        · refine ⟨oM_0 (by omega) km0 48 rfl, ?_⟩
          refine ⟨aM_31 (r := A 0 48) (by rw [c48]; omega) (by rw [c48]; exact kn31) (by omega) (by omega), ?_⟩
          have e1 : A (A 0 48) 0 = A 31 0 := by rw [c48]
          refine ⟨oM_0 (by omega) km0 48 rfl, ?_⟩
          refine ⟨aM_31 (r := A 0 48) (by rw [c48]; omega) (by rw [c48]; exact kn31) (by omega) (by omega), ?_⟩
          have e2 : A (A 0 48) 1 = A 31 1 := by rw [c48]
          refine ⟨fun h1 => ?_, fun h1 => ?_⟩
          · exact ⟨rfl, h0, h1, rfl⟩
          · exact ⟨rfl, ⟨⟨_, rfl⟩, h⟩, fun _ => rfl, fun _ _ _ => rfl⟩
    · refine ⟨fun h0 => ?_, fun h0 => ?_⟩
      · exact ⟨rfl, ⟨⟨_, rfl⟩, h⟩, fun _ => rfl, fun _ _ _ => rfl⟩
      · refine ⟨rM_0 (by omega) km0, ?_⟩
        refine (isCutting_ex h.g (sl := 1) (by omega) (by omega)).imp ?_
        rintro ⟨r1, C⟩ ⟨q1, y, q2, hy⟩
        simp only at q1 q2
        subst q1
        subst q2
        exact ⟨rfl, h0, y, hy, rfl⟩
  · refine ⟨rM_0 (by omega) km0, ?_⟩
    refine (isCutting_ex h.g (sl := 0) (by omega) (by omega)).imp ?_
    rintro ⟨r1, C⟩ ⟨q1, x, q2, hx⟩
    simp only at q1 q2
    subst q1
    subst q2
    exact ⟨rfl, x, hx, rfl⟩
end

section
/-! what each call writes; the rings of both sides stay alike -/
theorem shY : an_sh wY = an_sh wX := by
  funext r
  unfold an_sh
  show (match (KX.set 8 (0, 3, 3, [(0, (-2147483648), 64), (2, 35, 0), (2, 36, 0)]) ++ [(0, 6, 2, [(0, 4, 10), (1, (-9223372036854775808), 9223372036854775807)])])[if r = 419 then 36 else wX.2 r]? with
    | some k => (k.1, k.2.1, k.2.2.1)
    | none => (2, 0, 0)) = match KX[wX.2 r]? with
    | some k => (k.1, k.2.1, k.2.2.1)
    | none => (2, 0, 0)
  by_cases e : r = 419
  · subst e
    decide
  · rw [if_neg e]
    have key : ∀ i : Nat, i < 36 → (match (KX.set 8 (0, 3, 3, [(0, (-2147483648), 64), (2, 35, 0), (2, 36, 0)]) ++ [(0, 6, 2, [(0, 4, 10), (1, (-9223372036854775808), 9223372036854775807)])])[i]? with
      | some k => (k.1, k.2.1, k.2.2.1)
      | none => (2, 0, 0)) = match KX[i]? with
      | some k => (k.1, k.2.1, k.2.2.1)
      | none => (2, 0, 0) := by
      intro i hi
      have : ∀ j : Fin 36, (match (KX.set 8 (0, 3, 3, [(0, (-2147483648), 64), (2, 35, 0), (2, 36, 0)]) ++ [(0, 6, 2, [(0, 4, 10), (1, (-9223372036854775808), 9223372036854775807)])])[j.1]? with
        | some k => (k.1, k.2.1, k.2.2.1)
        | none => ((2, 0, 0) : Nat × Nat × Int)) = match KX[j.1]? with
        | some k => (k.1, k.2.1, k.2.2.1)
        | none => (2, 0, 0) := by decide +kernel
      exact this ⟨i, hi⟩
    by_cases l : wX.2 r < 36
    · exact key _ l
    · have hw : wX.2 r = 9999 := by
        show (if r < 0 then 9999 else kdXl.getD r.toNat 9999) = 9999
        have l : ¬ (if r < 0 then 9999 else kdXl.getD r.toNat 9999) < 36 := l
        by_cases r0 : r < 0
        · rw [if_pos r0]
        · rw [if_neg r0] at l ⊢
          by_cases lr : r.toNat < kdXl.length
          · have hall : kdXl.all (fun x => decide (x < 36)) = true := by decide +kernel
            have hm := List.all_eq_true.mp hall (kdXl[r.toNat]) (List.getElem_mem lr)
            rw [List.getD_eq_getElem?_getD, List.getElem?_eq_getElem lr] at l
            exact absurd (of_decide_eq_true hm) l
          · exact getD_ge (by omega)
      rw [hw]
      rfl
theorem fx_table {n : Nat} {A : pm_A} {a1 a2 : Int} {r : pm_R} (h : pm_call pmt (an_sh wX) n 111 [(2, 0), (0, a1), (0, a2)] A = some r) (hK : gK wY A) : gK wY r.2 ∧ gFk wY [300, 301, 10016] A r.2 := by
  rw [← shY] at h
  exact (ksX n 111 ([3, 1, 1], 2, [300, 301, 10016]) (List.contains_iff_mem.mp (by decide +kernel)) [(2, 0), (0, a1), (0, a2)] A r ⟨⟨rfl, Int.le_refl 0, by decide⟩, (by show ¬ (0 : Nat) = 1; decide), (by show ¬ (0 : Nat) = 1; decide), trivial⟩ hK h).2
theorem fm_table {n : Nat} {A : pm_A} {a1 a2 : Int} {r : pm_R} (h : pm_call pmt (an_sh wM) n 187 [(2, 0), (0, a1), (0, a2)] A = some r) (hK : gK wM A) : gK wM r.2 ∧ gFk wM [12, 13, 10007] A r.2 := by
  exact (ksM n 187 ([3, 1, 1], 2, [12, 13, 10007]) (List.contains_iff_mem.mp (by decide +kernel)) [(2, 0), (0, a1), (0, a2)] A r ⟨⟨rfl, Int.le_refl 0, by decide⟩, (by show ¬ (0 : Nat) = 1; decide), (by show ¬ (0 : Nat) = 1; decide), trivial⟩ hK h).2
theorem fx_arrows {n : Nat} {A : pm_A} {a1 a2 a3 : Int} {r : pm_R} (h : pm_call pmt (an_sh wX) n 84 [(2, 0), (0, a1), (0, a2), (0, a3)] A = some r) (hK : gK wY A) : gK wY r.2 ∧ gFk wY [10016] A r.2 := by
  rw [← shY] at h
  exact (ksX n 84 ([3, 1, 1, 1], 2, [10016]) (List.contains_iff_mem.mp (by decide +kernel)) [(2, 0), (0, a1), (0, a2), (0, a3)] A r ⟨⟨rfl, Int.le_refl 0, by decide⟩, (by show ¬ (0 : Nat) = 1; decide), (by show ¬ (0 : Nat) = 1; decide), (by show ¬ (0 : Nat) = 1; decide), trivial⟩ hK h).2
theorem fm_arrows {n : Nat} {A : pm_A} {a1 a2 a3 : Int} {r : pm_R} (h : pm_call pmt (an_sh wM) n 126 [(2, 0), (0, a1), (0, a2), (0, a3)] A = some r) (hK : gK wM A) : gK wM r.2 ∧ gFk wM [10007] A r.2 := by
  exact (ksM n 126 ([3, 1, 1, 1], 2, [10007]) (List.contains_iff_mem.mp (by decide +kernel)) [(2, 0), (0, a1), (0, a2), (0, a3)] A r ⟨⟨rfl, Int.le_refl 0, by decide⟩, (by show ¬ (0 : Nat) = 1; decide), (by show ¬ (0 : Nat) = 1; decide), (by show ¬ (0 : Nat) = 1; decide), trivial⟩ hK h).2
theorem fx_begin {n : Nat} {A : pm_A} {r : pm_R} (h : pm_call pmt (an_sh wX) n 87 [(2, 0)] A = some r) (hK : gK wY A) : gK wY r.2 ∧ gFk wY [4, 100, 101, 200, 201, 10010, 10011, 10014, 10015, 10017] A r.2 := by
  rw [← shY] at h
  exact (ksX n 87 ([3], 2, [4, 100, 101, 200, 201, 10010, 10011, 10014, 10015, 10017]) (List.contains_iff_mem.mp (by decide +kernel)) [(2, 0)] A r ⟨⟨rfl, Int.le_refl 0, by decide⟩, trivial⟩ hK h).2
theorem fm_begin {n : Nat} {A : pm_A} {r : pm_R} (h : pm_call pmt (an_sh wM) n 129 [(2, 0)] A = some r) (hK : gK wM A) : gK wM r.2 ∧ gFk wM [7, 8, 10, 10001, 10002, 10003, 10005, 10008, 10009, 10010, 10011] A r.2 := by
  exact (ksM n 129 ([3], 2, [7, 8, 10, 10001, 10002, 10003, 10005, 10008, 10009, 10010, 10011]) (List.contains_iff_mem.mp (by decide +kernel)) [(2, 0)] A r ⟨⟨rfl, Int.le_refl 0, by decide⟩, trivial⟩ hK h).2
theorem fx_size {n : Nat} {A : pm_A} {a1 : Int} {r : pm_R} (h : pm_call pmt (an_sh wX) n 108 [(2, 0), (0, a1)] A = some r) (hK : gK wY A) : gK wY r.2 ∧ gFk wY [] A r.2 := by
  rw [← shY] at h
  exact (ksX n 108 ([3, 1], 2, []) (List.contains_iff_mem.mp (by decide +kernel)) [(2, 0), (0, a1)] A r ⟨⟨rfl, Int.le_refl 0, by decide⟩, (by show ¬ (0 : Nat) = 1; decide), trivial⟩ hK h).2
theorem fm_size {n : Nat} {A : pm_A} {a1 : Int} {r : pm_R} (h : pm_call pmt (an_sh wM) n 184 [(2, 0), (0, a1)] A = some r) (hK : gK wM A) : gK wM r.2 ∧ gFk wM [] A r.2 := by
  exact (ksM n 184 ([3, 1], 2, []) (List.contains_iff_mem.mp (by decide +kernel)) [(2, 0), (0, a1)] A r ⟨⟨rfl, Int.le_refl 0, by decide⟩, (by show ¬ (0 : Nat) = 1; decide), trivial⟩ hK h).2
theorem fx_turn {n : Nat} {A : pm_A} {a1 : Int} {r : pm_R} (h : pm_call pmt (an_sh wX) n 115 [(2, 0), (0, a1)] A = some r) (hK : gK wY A) : gK wY r.2 ∧ gFk wY [4, 200, 201, 400, 10010, 10012, 10014, 10015, 10018, 10019] A r.2 := by
  rw [← shY] at h
  exact (ksX n 115 ([3, 1], 2, [4, 200, 201, 400, 10010, 10012, 10014, 10015, 10018, 10019]) (List.contains_iff_mem.mp (by decide +kernel)) [(2, 0), (0, a1)] A r ⟨⟨rfl, Int.le_refl 0, by decide⟩, (by show ¬ (0 : Nat) = 1; decide), trivial⟩ hK h).2
theorem fm_turn {n : Nat} {A : pm_A} {a1 : Int} {r : pm_R} (h : pm_call pmt (an_sh wM) n 198 [(2, 0), (0, a1)] A = some r) (hK : gK wM A) : gK wM r.2 ∧ gFk wM [4, 5, 10, 10001, 10002, 10003, 10004, 10005, 10006, 10012] A r.2 := by
  exact (ksM n 198 ([3, 1], 2, [4, 5, 10, 10001, 10002, 10003, 10004, 10005, 10006, 10012]) (List.contains_iff_mem.mp (by decide +kernel)) [(2, 0), (0, a1)] A r ⟨⟨rfl, Int.le_refl 0, by decide⟩, (by show ¬ (0 : Nat) = 1; decide), trivial⟩ hK h).2
theorem fx_back {n : Nat} {A : pm_A} {r : pm_R} (h : pm_call pmt (an_sh wX) n 86 [(2, 0)] A = some r) (hK : gK wY A) : gK wY r.2 ∧ gFk wY [4, 200, 201, 400, 10010, 10012, 10014, 10015, 10018] A r.2 := by
  rw [← shY] at h
  exact (ksX n 86 ([3], 2, [4, 200, 201, 400, 10010, 10012, 10014, 10015, 10018]) (List.contains_iff_mem.mp (by decide +kernel)) [(2, 0)] A r ⟨⟨rfl, Int.le_refl 0, by decide⟩, trivial⟩ hK h).2
theorem fm_back {n : Nat} {A : pm_A} {r : pm_R} (h : pm_call pmt (an_sh wM) n 128 [(2, 0)] A = some r) (hK : gK wM A) : gK wM r.2 ∧ gFk wM [4, 5, 10, 10001, 10002, 10003, 10004, 10005, 10012] A r.2 := by
  exact (ksM n 128 ([3], 2, [4, 5, 10, 10001, 10002, 10003, 10004, 10005, 10012]) (List.contains_iff_mem.mp (by decide +kernel)) [(2, 0)] A r ⟨⟨rfl, Int.le_refl 0, by decide⟩, trivial⟩ hK h).2
theorem fx_b {n : Nat} {A : pm_A} {a1 a2 : Int} {r : pm_R} (h : pm_call pmt (an_sh wX) n 85 [(2, 0), (0, a1), (0, a2)] A = some r) (hK : gK wY A) : gK wY r.2 ∧ gFk wY [] A r.2 := by
  rw [← shY] at h
  exact (ksX n 85 ([3, 1, 1], 2, []) (List.contains_iff_mem.mp (by decide +kernel)) [(2, 0), (0, a1), (0, a2)] A r ⟨⟨rfl, Int.le_refl 0, by decide⟩, (by show ¬ (0 : Nat) = 1; decide), (by show ¬ (0 : Nat) = 1; decide), trivial⟩ hK h).2
theorem fm_b {n : Nat} {A : pm_A} {a1 a2 : Int} {r : pm_R} (h : pm_call pmt (an_sh wM) n 127 [(2, 0), (0, a1), (0, a2)] A = some r) (hK : gK wM A) : gK wM r.2 ∧ gFk wM [] A r.2 := by
  exact (ksM n 127 ([3, 1, 1], 2, []) (List.contains_iff_mem.mp (by decide +kernel)) [(2, 0), (0, a1), (0, a2)] A r ⟨⟨rfl, Int.le_refl 0, by decide⟩, (by show ¬ (0 : Nat) = 1; decide), (by show ¬ (0 : Nat) = 1; decide), trivial⟩ hK h).2
theorem fx_terms {n : Nat} {A : pm_A} {a1 : Int} {r : pm_R} (h : pm_call pmt (an_sh wX) n 114 [(2, 0), (0, a1)] A = some r) (hK : gK wY A) : gK wY r.2 ∧ gFk wY [] A r.2 := by
  rw [← shY] at h
  exact (ksX n 114 ([3, 1], 2, []) (List.contains_iff_mem.mp (by decide +kernel)) [(2, 0), (0, a1)] A r ⟨⟨rfl, Int.le_refl 0, by decide⟩, (by show ¬ (0 : Nat) = 1; decide), trivial⟩ hK h).2
theorem fm_terms {n : Nat} {A : pm_A} {a1 : Int} {r : pm_R} (h : pm_call pmt (an_sh wM) n 194 [(2, 0), (0, a1)] A = some r) (hK : gK wM A) : gK wM r.2 ∧ gFk wM [] A r.2 := by
  exact (ksM n 194 ([3, 1], 2, []) (List.contains_iff_mem.mp (by decide +kernel)) [(2, 0), (0, a1)] A r ⟨⟨rfl, Int.le_refl 0, by decide⟩, (by show ¬ (0 : Nat) = 1; decide), trivial⟩ hK h).2
theorem fx_term {n : Nat} {A : pm_A} {a1 a2 a3 : Int} {r : pm_R} (h : pm_call pmt (an_sh wX) n 113 [(2, 0), (0, a1), (0, a2), (0, a3)] A = some r) (hK : gK wY A) : gK wY r.2 ∧ gFk wY [] A r.2 := by
  rw [← shY] at h
  exact (ksX n 113 ([3, 1, 1, 1], 3, []) (List.contains_iff_mem.mp (by decide +kernel)) [(2, 0), (0, a1), (0, a2), (0, a3)] A r ⟨⟨rfl, Int.le_refl 0, by decide⟩, (by show ¬ (0 : Nat) = 1; decide), (by show ¬ (0 : Nat) = 1; decide), (by show ¬ (0 : Nat) = 1; decide), trivial⟩ hK h).2
theorem fm_term {n : Nat} {A : pm_A} {a1 a2 a3 : Int} {r : pm_R} (h : pm_call pmt (an_sh wM) n 193 [(2, 0), (0, a1), (0, a2), (0, a3)] A = some r) (hK : gK wM A) : gK wM r.2 ∧ gFk wM [] A r.2 := by
  exact (ksM n 193 ([3, 1, 1, 1], 3, []) (List.contains_iff_mem.mp (by decide +kernel)) [(2, 0), (0, a1), (0, a2), (0, a3)] A r ⟨⟨rfl, Int.le_refl 0, by decide⟩, (by show ¬ (0 : Nat) = 1; decide), (by show ¬ (0 : Nat) = 1; decide), (by show ¬ (0 : Nat) = 1; decide), trivial⟩ hK h).2
theorem fx_least {n : Nat} {A : pm_A} {a1 a2 : Int} {r : pm_R} (h : pm_call pmt (an_sh wX) n 100 [(2, 0), (0, a1), (0, a2)] A = some r) (hK : gK wY A) : gK wY r.2 ∧ gFk wY [] A r.2 := by
  rw [← shY] at h
  exact (ksX n 100 ([3, 1, 1], 2, []) (List.contains_iff_mem.mp (by decide +kernel)) [(2, 0), (0, a1), (0, a2)] A r ⟨⟨rfl, Int.le_refl 0, by decide⟩, (by show ¬ (0 : Nat) = 1; decide), (by show ¬ (0 : Nat) = 1; decide), trivial⟩ hK h).2
theorem fm_least {n : Nat} {A : pm_A} {a1 a2 : Int} {r : pm_R} (h : pm_call pmt (an_sh wM) n 162 [(2, 0), (0, a1), (0, a2)] A = some r) (hK : gK wM A) : gK wM r.2 ∧ gFk wM [] A r.2 := by
  exact (ksM n 162 ([3, 1, 1], 2, []) (List.contains_iff_mem.mp (by decide +kernel)) [(2, 0), (0, a1), (0, a2)] A r ⟨⟨rfl, Int.le_refl 0, by decide⟩, (by show ¬ (0 : Nat) = 1; decide), (by show ¬ (0 : Nat) = 1; decide), trivial⟩ hK h).2
theorem fx_ones {n : Nat} {A : pm_A} {a1 : Int} {r : pm_R} (h : pm_call pmt (an_sh wX) n 101 [(2, 0), (0, a1)] A = some r) (hK : gK wY A) : gK wY r.2 ∧ gFk wY [] A r.2 := by
  rw [← shY] at h
  exact (ksX n 101 ([3, 1], 3, []) (List.contains_iff_mem.mp (by decide +kernel)) [(2, 0), (0, a1)] A r ⟨⟨rfl, Int.le_refl 0, by decide⟩, (by show ¬ (0 : Nat) = 1; decide), trivial⟩ hK h).2
theorem fm_ones {n : Nat} {A : pm_A} {a1 : Int} {r : pm_R} (h : pm_call pmt (an_sh wM) n 169 [(2, 0), (0, a1)] A = some r) (hK : gK wM A) : gK wM r.2 ∧ gFk wM [] A r.2 := by
  exact (ksM n 169 ([3, 1], 3, []) (List.contains_iff_mem.mp (by decide +kernel)) [(2, 0), (0, a1)] A r ⟨⟨rfl, Int.le_refl 0, by decide⟩, (by show ¬ (0 : Nat) = 1; decide), trivial⟩ hK h).2
theorem fx_keep {n : Nat} {A : pm_A} {a1 : Int} {r : pm_R} (h : pm_call pmt (an_sh wX) n 99 [(2, 0), (0, a1)] A = some r) (hK : gK wY A) : gK wY r.2 ∧ gFk wY [100, 101, 200, 201, 10010, 10011, 10014, 10015] A r.2 := by
  rw [← shY] at h
  exact (ksX n 99 ([3, 1], 2, [100, 101, 200, 201, 10010, 10011, 10014, 10015]) (List.contains_iff_mem.mp (by decide +kernel)) [(2, 0), (0, a1)] A r ⟨⟨rfl, Int.le_refl 0, by decide⟩, (by show ¬ (0 : Nat) = 1; decide), trivial⟩ hK h).2
theorem fm_keep {n : Nat} {A : pm_A} {a1 : Int} {r : pm_R} (h : pm_call pmt (an_sh wM) n 160 [(2, 0), (0, a1)] A = some r) (hK : gK wM A) : gK wM r.2 ∧ gFk wM [10001, 10002, 10003, 10013, 10014, 10015] A r.2 := by
  exact (ksM n 160 ([3, 1], 2, [10001, 10002, 10003, 10013, 10014, 10015]) (List.contains_iff_mem.mp (by decide +kernel)) [(2, 0), (0, a1)] A r ⟨⟨rfl, Int.le_refl 0, by decide⟩, (by show ¬ (0 : Nat) = 1; decide), trivial⟩ hK h).2
theorem fx_same {n : Nat} {A : pm_A} {a1 : Int} {r : pm_R} (h : pm_call pmt (an_sh wX) n 106 [(2, 0), (0, a1)] A = some r) (hK : gK wY A) : gK wY r.2 ∧ gFk wY [10013] A r.2 := by
  rw [← shY] at h
  exact (ksX n 106 ([3, 1], 2, [10013]) (List.contains_iff_mem.mp (by decide +kernel)) [(2, 0), (0, a1)] A r ⟨⟨rfl, Int.le_refl 0, by decide⟩, (by show ¬ (0 : Nat) = 1; decide), trivial⟩ hK h).2
theorem fm_same {n : Nat} {A : pm_A} {a1 : Int} {r : pm_R} (h : pm_call pmt (an_sh wM) n 180 [(2, 0), (0, a1)] A = some r) (hK : gK wM A) : gK wM r.2 ∧ gFk wM [10016] A r.2 := by
  exact (ksM n 180 ([3, 1], 2, [10016]) (List.contains_iff_mem.mp (by decide +kernel)) [(2, 0), (0, a1)] A r ⟨⟨rfl, Int.le_refl 0, by decide⟩, (by show ¬ (0 : Nat) = 1; decide), trivial⟩ hK h).2
theorem fx_all {n : Nat} {A : pm_A} {r : pm_R} (h : pm_call pmt (an_sh wX) n 83 [(2, 0)] A = some r) (hK : gK wY A) : gK wY r.2 ∧ gFk wY [10, 100, 101, 200, 201, 501, 507, 510, 511, 513, 514, 10010, 10012, 10014, 10015, 10017, 10018, 10019, 10023, 10024, 10025, 10026, 10027, 10028, 10029] A r.2 := by
  rw [← shY] at h
  exact (ksX n 83 ([3], 2, [10, 100, 101, 200, 201, 501, 507, 510, 511, 513, 514, 10010, 10012, 10014, 10015, 10017, 10018, 10019, 10023, 10024, 10025, 10026, 10027, 10028, 10029]) (List.contains_iff_mem.mp (by decide +kernel)) [(2, 0)] A r ⟨⟨rfl, Int.le_refl 0, by decide⟩, trivial⟩ hK h).2
theorem fm_all {n : Nat} {A : pm_A} {r : pm_R} (h : pm_call pmt (an_sh wM) n 123 [(2, 0)] A = some r) (hK : gK wM A) : gK wM r.2 ∧ gFk wM [4, 5, 24, 25, 26, 29, 30, 36, 10001, 10002, 10003, 10004, 10005, 10012, 10016, 10017, 10018, 10019, 10020, 10021, 10022, 10023] A r.2 := by
  exact (ksM n 123 ([3], 2, [4, 5, 24, 25, 26, 29, 30, 36, 10001, 10002, 10003, 10004, 10005, 10012, 10016, 10017, 10018, 10019, 10020, 10021, 10022, 10023]) (List.contains_iff_mem.mp (by decide +kernel)) [(2, 0)] A r ⟨⟨rfl, Int.le_refl 0, by decide⟩, trivial⟩ hK h).2
theorem fx_what {n : Nat} {A : pm_A} {a1 a2 : Int} {r : pm_R} (h : pm_call pmt (an_sh wX) n 120 [(2, 0), (0, a1), (0, a2)] A = some r) (hK : gK wY A) : gK wY r.2 ∧ gFk wY [] A r.2 := by
  rw [← shY] at h
  exact (ksX n 120 ([3, 1, 1], 3, []) (List.contains_iff_mem.mp (by decide +kernel)) [(2, 0), (0, a1), (0, a2)] A r ⟨⟨rfl, Int.le_refl 0, by decide⟩, (by show ¬ (0 : Nat) = 1; decide), (by show ¬ (0 : Nat) = 1; decide), trivial⟩ hK h).2
theorem fm_what {n : Nat} {A : pm_A} {a1 a2 : Int} {r : pm_R} (h : pm_call pmt (an_sh wM) n 203 [(2, 0), (0, a1), (0, a2)] A = some r) (hK : gK wM A) : gK wM r.2 ∧ gFk wM [] A r.2 := by
  exact (ksM n 203 ([3, 1, 1], 3, []) (List.contains_iff_mem.mp (by decide +kernel)) [(2, 0), (0, a1), (0, a2)] A r ⟨⟨rfl, Int.le_refl 0, by decide⟩, (by show ¬ (0 : Nat) = 1; decide), (by show ¬ (0 : Nat) = 1; decide), trivial⟩ hK h).2
theorem fx_finite {n : Nat} {A : pm_A} {r : pm_R} (h : pm_call pmt (an_sh wX) n 90 [(2, 0)] A = some r) (hK : gK wY A) : gK wY r.2 ∧ gFk wY [605, 700, 701, 704, 705, 10010, 10030, 10031, 10032, 10033] A r.2 := by
  rw [← shY] at h
  exact (ksX n 90 ([3], 2, [605, 700, 701, 704, 705, 10010, 10030, 10031, 10032, 10033]) (List.contains_iff_mem.mp (by decide +kernel)) [(2, 0)] A r ⟨⟨rfl, Int.le_refl 0, by decide⟩, trivial⟩ hK h).2
theorem fm_finite {n : Nat} {A : pm_A} {r : pm_R} (h : pm_call pmt (an_sh wM) n 141 [(2, 0)] A = some r) (hK : gK wM A) : gK wM r.2 ∧ gFk wM [40, 41, 42, 10001, 10002, 10003, 10005, 10012, 10022, 10024, 10025, 10026, 10027, 10028, 10029] A r.2 := by
  exact (ksM n 141 ([3], 2, [40, 41, 42, 10001, 10002, 10003, 10005, 10012, 10022, 10024, 10025, 10026, 10027, 10028, 10029]) (List.contains_iff_mem.mp (by decide +kernel)) [(2, 0)] A r ⟨⟨rfl, Int.le_refl 0, by decide⟩, trivial⟩ hK h).2
theorem fx_step {n : Nat} {A : pm_A} {a1 : Int} {r : pm_R} (h : pm_call pmt (an_sh wX) n 110 [(2, 0), (0, a1)] A = some r) (hK : gK wY A) : gK wY r.2 ∧ gFk wY [] A r.2 := by
  rw [← shY] at h
  exact (ksX n 110 ([3, 1], 2, []) (List.contains_iff_mem.mp (by decide +kernel)) [(2, 0), (0, a1)] A r ⟨⟨rfl, Int.le_refl 0, by decide⟩, (by show ¬ (0 : Nat) = 1; decide), trivial⟩ hK h).2
theorem fm_step {n : Nat} {A : pm_A} {a1 : Int} {r : pm_R} (h : pm_call pmt (an_sh wM) n 185 [(2, 0), (0, a1)] A = some r) (hK : gK wM A) : gK wM r.2 ∧ gFk wM [] A r.2 := by
  exact (ksM n 185 ([3, 1], 2, []) (List.contains_iff_mem.mp (by decide +kernel)) [(2, 0), (0, a1)] A r ⟨⟨rfl, Int.le_refl 0, by decide⟩, (by show ¬ (0 : Nat) = 1; decide), trivial⟩ hK h).2
theorem fx_tables {n : Nat} {A : pm_A} {r : pm_R} (h : pm_call pmt (an_sh wX) n 112 [(2, 0)] A = some r) (hK : gK wY A) : gK wY r.2 ∧ gFk wY [] A r.2 := by
  rw [← shY] at h
  exact (ksX n 112 ([3], 2, []) (List.contains_iff_mem.mp (by decide +kernel)) [(2, 0)] A r ⟨⟨rfl, Int.le_refl 0, by decide⟩, trivial⟩ hK h).2
theorem fm_tables {n : Nat} {A : pm_A} {r : pm_R} (h : pm_call pmt (an_sh wM) n 189 [(2, 0)] A = some r) (hK : gK wM A) : gK wM r.2 ∧ gFk wM [] A r.2 := by
  exact (ksM n 189 ([3], 2, []) (List.contains_iff_mem.mp (by decide +kernel)) [(2, 0)] A r ⟨⟨rfl, Int.le_refl 0, by decide⟩, trivial⟩ hK h).2
theorem fx_row {n : Nat} {A : pm_A} {a1 a2 a3 : Int} {r : pm_R} (h : pm_call pmt (an_sh wX) n 105 [(2, 0), (0, a1), (0, a2), (0, a3)] A = some r) (hK : gK wY A) : gK wY r.2 ∧ gFk wY [7, 10021] A r.2 := by
  rw [← shY] at h
  exact (ksX n 105 ([3, 1, 1, 1], 2, [7, 10021]) (List.contains_iff_mem.mp (by decide +kernel)) [(2, 0), (0, a1), (0, a2), (0, a3)] A r ⟨⟨rfl, Int.le_refl 0, by decide⟩, (by show ¬ (0 : Nat) = 1; decide), (by show ¬ (0 : Nat) = 1; decide), (by show ¬ (0 : Nat) = 1; decide), trivial⟩ hK h).2
theorem fm_row {n : Nat} {A : pm_A} {a1 a2 a3 : Int} {r : pm_R} (h : pm_call pmt (an_sh wM) n 179 [(2, 0), (0, a1), (0, a2), (0, a3)] A = some r) (hK : gK wM A) : gK wM r.2 ∧ gFk wM [46, 10030] A r.2 := by
  exact (ksM n 179 ([3, 1, 1, 1], 2, [46, 10030]) (List.contains_iff_mem.mp (by decide +kernel)) [(2, 0), (0, a1), (0, a2), (0, a3)] A r ⟨⟨rfl, Int.le_refl 0, by decide⟩, (by show ¬ (0 : Nat) = 1; decide), (by show ¬ (0 : Nat) = 1; decide), (by show ¬ (0 : Nat) = 1; decide), trivial⟩ hK h).2
theorem fx_order {n : Nat} {A : pm_A} {r : pm_R} (h : pm_call pmt (an_sh wX) n 102 [(2, 0)] A = some r) (hK : gK wY A) : gK wY r.2 ∧ gFk wY [100, 101, 200, 201, 400, 10010, 10011, 10012, 10013, 10014, 10015, 10018] A r.2 := by
  rw [← shY] at h
  exact (ksX n 102 ([3], 2, [100, 101, 200, 201, 400, 10010, 10011, 10012, 10013, 10014, 10015, 10018]) (List.contains_iff_mem.mp (by decide +kernel)) [(2, 0)] A r ⟨⟨rfl, Int.le_refl 0, by decide⟩, trivial⟩ hK h).2
theorem fm_order {n : Nat} {A : pm_A} {r : pm_R} (h : pm_call pmt (an_sh wM) n 170 [(2, 0)] A = some r) (hK : gK wM A) : gK wM r.2 ∧ gFk wM [4, 5, 10001, 10002, 10003, 10004, 10005, 10012, 10016, 10022] A r.2 := by
  exact (ksM n 170 ([3], 2, [4, 5, 10001, 10002, 10003, 10004, 10005, 10012, 10016, 10022]) (List.contains_iff_mem.mp (by decide +kernel)) [(2, 0)] A r ⟨⟨rfl, Int.le_refl 0, by decide⟩, trivial⟩ hK h).2
theorem fx_ring {n : Nat} {A : pm_A} {a1 a2 : Int} {r : pm_R} (h : pm_call pmt (an_sh wX) n 103 [(2, 0), (0, a1), (0, a2)] A = some r) (hK : gK wY A) : gK wY r.2 ∧ gFk wY [900, 901] A r.2 := by
  rw [← shY] at h
  exact (ksX n 103 ([3, 1, 1], 2, [900, 901]) (List.contains_iff_mem.mp (by decide +kernel)) [(2, 0), (0, a1), (0, a2)] A r ⟨⟨rfl, Int.le_refl 0, by decide⟩, (by show ¬ (0 : Nat) = 1; decide), (by show ¬ (0 : Nat) = 1; decide), trivial⟩ hK h).2
theorem fm_ring {n : Nat} {A : pm_A} {a1 a2 : Int} {r : pm_R} (h : pm_call pmt (an_sh wM) n 177 [(2, 0), (0, a1), (0, a2)] A = some r) (hK : gK wM A) : gK wM r.2 ∧ gFk wM [10031, 10032] A r.2 := by
  exact (ksM n 177 ([3, 1, 1], 2, [10031, 10032]) (List.contains_iff_mem.mp (by decide +kernel)) [(2, 0), (0, a1), (0, a2)] A r ⟨⟨rfl, Int.le_refl 0, by decide⟩, (by show ¬ (0 : Nat) = 1; decide), (by show ¬ (0 : Nat) = 1; decide), trivial⟩ hK h).2
theorem fx_fence {n : Nat} {A : pm_A} {a1 a2 a3 : Int} {r : pm_R} (h : pm_call pmt (an_sh wX) n 89 [(2, 0), (0, a1), (0, a2), (0, a3)] A = some r) (hK : gK wY A) : gK wY r.2 ∧ gFk wY [901] A r.2 := by
  rw [← shY] at h
  exact (ksX n 89 ([3, 1, 1, 1], 2, [901]) (List.contains_iff_mem.mp (by decide +kernel)) [(2, 0), (0, a1), (0, a2), (0, a3)] A r ⟨⟨rfl, Int.le_refl 0, by decide⟩, (by show ¬ (0 : Nat) = 1; decide), (by show ¬ (0 : Nat) = 1; decide), (by show ¬ (0 : Nat) = 1; decide), trivial⟩ hK h).2
theorem fm_fence {n : Nat} {A : pm_A} {a1 a2 a3 : Int} {r : pm_R} (h : pm_call pmt (an_sh wM) n 138 [(2, 0), (0, a1), (0, a2), (0, a3)] A = some r) (hK : gK wM A) : gK wM r.2 ∧ gFk wM [10032] A r.2 := by
  exact (ksM n 138 ([3, 1, 1, 1], 2, [10032]) (List.contains_iff_mem.mp (by decide +kernel)) [(2, 0), (0, a1), (0, a2), (0, a3)] A r ⟨⟨rfl, Int.le_refl 0, by decide⟩, (by show ¬ (0 : Nat) = 1; decide), (by show ¬ (0 : Nat) = 1; decide), (by show ¬ (0 : Nat) = 1; decide), trivial⟩ hK h).2
theorem fx_flip {n : Nat} {A : pm_A} {a1 a2 a3 : Int} {r : pm_R} (h : pm_call pmt (an_sh wX) n 91 [(2, 0), (0, a1), (0, a2), (0, a3)] A = some r) (hK : gK wY A) : gK wY r.2 ∧ gFk wY [901] A r.2 := by
  rw [← shY] at h
  exact (ksX n 91 ([3, 1, 1, 1], 2, [901]) (List.contains_iff_mem.mp (by decide +kernel)) [(2, 0), (0, a1), (0, a2), (0, a3)] A r ⟨⟨rfl, Int.le_refl 0, by decide⟩, (by show ¬ (0 : Nat) = 1; decide), (by show ¬ (0 : Nat) = 1; decide), (by show ¬ (0 : Nat) = 1; decide), trivial⟩ hK h).2
theorem fm_flip {n : Nat} {A : pm_A} {a1 a2 a3 : Int} {r : pm_R} (h : pm_call pmt (an_sh wM) n 143 [(2, 0), (0, a1), (0, a2), (0, a3)] A = some r) (hK : gK wM A) : gK wM r.2 ∧ gFk wM [10032] A r.2 := by
  exact (ksM n 143 ([3, 1, 1, 1], 2, [10032]) (List.contains_iff_mem.mp (by decide +kernel)) [(2, 0), (0, a1), (0, a2), (0, a3)] A r ⟨⟨rfl, Int.le_refl 0, by decide⟩, (by show ¬ (0 : Nat) = 1; decide), (by show ¬ (0 : Nat) = 1; decide), (by show ¬ (0 : Nat) = 1; decide), trivial⟩ hK h).2
theorem fx_ringOf {n : Nat} {A : pm_A} {a1 a2 : Int} {r : pm_R} (h : pm_call pmt (an_sh wX) n 104 [(2, 0), (0, a1), (0, a2)] A = some r) (hK : gK wY A) : gK wY r.2 ∧ gFk wY [] A r.2 := by
  rw [← shY] at h
  exact (ksX n 104 ([3, 1, 1], 2, []) (List.contains_iff_mem.mp (by decide +kernel)) [(2, 0), (0, a1), (0, a2)] A r ⟨⟨rfl, Int.le_refl 0, by decide⟩, (by show ¬ (0 : Nat) = 1; decide), (by show ¬ (0 : Nat) = 1; decide), trivial⟩ hK h).2
theorem fm_ringOf {n : Nat} {A : pm_A} {a1 a2 : Int} {r : pm_R} (h : pm_call pmt (an_sh wM) n 178 [(2, 0), (0, a1), (0, a2)] A = some r) (hK : gK wM A) : gK wM r.2 ∧ gFk wM [] A r.2 := by
  exact (ksM n 178 ([3, 1, 1], 2, []) (List.contains_iff_mem.mp (by decide +kernel)) [(2, 0), (0, a1), (0, a2)] A r ⟨⟨rfl, Int.le_refl 0, by decide⟩, (by show ¬ (0 : Nat) = 1; decide), (by show ¬ (0 : Nat) = 1; decide), trivial⟩ hK h).2
theorem fx_frieze {n : Nat} {A : pm_A} {a1 a2 a3 : Int} {r : pm_R} (h : pm_call pmt (an_sh wX) n 92 [(2, 0), (0, a1), (0, a2), (0, a3)] A = some r) (hK : gK wY A) : gK wY r.2 ∧ gFk wY [] A r.2 := by
  rw [← shY] at h
  exact (ksX n 92 ([3, 1, 1, 1], 3, []) (List.contains_iff_mem.mp (by decide +kernel)) [(2, 0), (0, a1), (0, a2), (0, a3)] A r ⟨⟨rfl, Int.le_refl 0, by decide⟩, (by show ¬ (0 : Nat) = 1; decide), (by show ¬ (0 : Nat) = 1; decide), (by show ¬ (0 : Nat) = 1; decide), trivial⟩ hK h).2
theorem fm_frieze {n : Nat} {A : pm_A} {a1 a2 a3 : Int} {r : pm_R} (h : pm_call pmt (an_sh wM) n 145 [(2, 0), (0, a1), (0, a2), (0, a3)] A = some r) (hK : gK wM A) : gK wM r.2 ∧ gFk wM [] A r.2 := by
  exact (ksM n 145 ([3, 1, 1, 1], 3, []) (List.contains_iff_mem.mp (by decide +kernel)) [(2, 0), (0, a1), (0, a2), (0, a3)] A r ⟨⟨rfl, Int.le_refl 0, by decide⟩, (by show ¬ (0 : Nat) = 1; decide), (by show ¬ (0 : Nat) = 1; decide), (by show ¬ (0 : Nat) = 1; decide), trivial⟩ hK h).2
theorem fx_way {n : Nat} {A : pm_A} {r : pm_R} (h : pm_call pmt (an_sh wX) n 119 [(2, 0)] A = some r) (hK : gK wY A) : gK wY r.2 ∧ gFk wY [605, 800, 3600, 3601, 10030, 10031, 10032, 10033, 10035] A r.2 := by
  rw [← shY] at h
  exact (ksX n 119 ([3], 2, [605, 800, 3600, 3601, 10030, 10031, 10032, 10033, 10035]) (List.contains_iff_mem.mp (by decide +kernel)) [(2, 0)] A r ⟨⟨rfl, Int.le_refl 0, by decide⟩, trivial⟩ hK h).2
theorem fm_way {n : Nat} {A : pm_A} {r : pm_R} (h : pm_call pmt (an_sh wM) n 202 [(2, 0)] A = some r) (hK : gK wM A) : gK wM r.2 ∧ gFk wM [54, 55, 10032, 10033, 10034, 10035, 10036, 10037, 10038] A r.2 := by
  exact (ksM n 202 ([3], 2, [54, 55, 10032, 10033, 10034, 10035, 10036, 10037, 10038]) (List.contains_iff_mem.mp (by decide +kernel)) [(2, 0)] A r ⟨⟨rfl, Int.le_refl 0, by decide⟩, trivial⟩ hK h).2
theorem fx_goes {n : Nat} {A : pm_A} {a1 : Int} {r : pm_R} (h : pm_call pmt (an_sh wX) n 93 [(2, 0), (0, a1)] A = some r) (hK : gK wY A) : gK wY r.2 ∧ gFk wY [] A r.2 := by
  rw [← shY] at h
  exact (ksX n 93 ([3, 1], 2, []) (List.contains_iff_mem.mp (by decide +kernel)) [(2, 0), (0, a1)] A r ⟨⟨rfl, Int.le_refl 0, by decide⟩, (by show ¬ (0 : Nat) = 1; decide), trivial⟩ hK h).2
theorem fm_goes {n : Nat} {A : pm_A} {a1 : Int} {r : pm_R} (h : pm_call pmt (an_sh wM) n 146 [(2, 0), (0, a1)] A = some r) (hK : gK wM A) : gK wM r.2 ∧ gFk wM [] A r.2 := by
  exact (ksM n 146 ([3, 1], 2, []) (List.contains_iff_mem.mp (by decide +kernel)) [(2, 0), (0, a1)] A r ⟨⟨rfl, Int.le_refl 0, by decide⟩, (by show ¬ (0 : Nat) = 1; decide), trivial⟩ hK h).2
theorem fx_seed {n : Nat} {A : pm_A} {a1 : Int} {r : pm_R} (h : pm_call pmt (an_sh wX) n 107 [(2, 0), (0, a1)] A = some r) (hK : gK wY A) : gK wY r.2 ∧ gFk wY [4, 100, 101, 200, 201, 300, 301, 10010, 10011, 10014, 10015, 10016, 10017] A r.2 := by
  rw [← shY] at h
  exact (ksX n 107 ([3, 1], 2, [4, 100, 101, 200, 201, 300, 301, 10010, 10011, 10014, 10015, 10016, 10017]) (List.contains_iff_mem.mp (by decide +kernel)) [(2, 0), (0, a1)] A r ⟨⟨rfl, Int.le_refl 0, by decide⟩, (by show ¬ (0 : Nat) = 1; decide), trivial⟩ hK h).2
theorem fm_seed {n : Nat} {A : pm_A} {a1 : Int} {r : pm_R} (h : pm_call pmt (an_sh wM) n 183 [(2, 0), (0, a1)] A = some r) (hK : gK wM A) : gK wM r.2 ∧ gFk wM [7, 8, 10, 12, 13, 10001, 10002, 10003, 10005, 10007, 10008, 10009, 10010, 10011] A r.2 := by
  exact (ksM n 183 ([3, 1], 2, [7, 8, 10, 12, 13, 10001, 10002, 10003, 10005, 10007, 10008, 10009, 10010, 10011]) (List.contains_iff_mem.mp (by decide +kernel)) [(2, 0), (0, a1)] A r ⟨⟨rfl, Int.le_refl 0, by decide⟩, (by show ¬ (0 : Nat) = 1; decide), trivial⟩ hK h).2
theorem fx_count {n : Nat} {A : pm_A} {a1 : Int} {r : pm_R} (h : pm_call pmt (an_sh wX) n 88 [(2, 0), (0, a1)] A = some r) (hK : gK wY A) : gK wY r.2 ∧ gFk wY [] A r.2 := by
  rw [← shY] at h
  exact (ksX n 88 ([3, 1], 2, []) (List.contains_iff_mem.mp (by decide +kernel)) [(2, 0), (0, a1)] A r ⟨⟨rfl, Int.le_refl 0, by decide⟩, (by show ¬ (0 : Nat) = 1; decide), trivial⟩ hK h).2
theorem fm_count {n : Nat} {A : pm_A} {a1 : Int} {r : pm_R} (h : pm_call pmt (an_sh wM) n 135 [(2, 0), (0, a1)] A = some r) (hK : gK wM A) : gK wM r.2 ∧ gFk wM [] A r.2 := by
  exact (ksM n 135 ([3, 1], 2, []) (List.contains_iff_mem.mp (by decide +kernel)) [(2, 0), (0, a1)] A r ⟨⟨rfl, Int.le_refl 0, by decide⟩, (by show ¬ (0 : Nat) = 1; decide), trivial⟩ hK h).2
/-- the rings of both sides are alike -/
def RR (AX AM : pm_A) : Prop := gK wY AX ∧ (AX 0 13 = 416 ∧ AX 416 0 = 512 ∧ AX 416 1 = 513) ∧ rgX AX 512 (AM 31 0) (fcs AM 0) ∧ rgX AX 513 (AM 31 1) (fcs AM 1)
theorem rgX_same {A B : pm_A} {r n : Int} {F G : Int → Int} (h : rgX A r n F) (e0 : B r 0 = A r 0) (e1 : B r 1 = A r 1) (hF : ∀ f : Int, 0 ≤ f → f < 100 → G f = F f) : rgX B r n G := by
  obtain ⟨h0, V, h1, h2, h3⟩ := h
  exact ⟨by rw [e0]; exact h0, V, by rw [e1]; exact h1, h2, fun a b a0 ab b9 => by rw [hF _ (by omega) (by omega)]; exact h3 a b a0 ab b9⟩
theorem kY (j : Int) : kcode wY 0 j = j.toNat ∧ kcode wY 416 j = 10034 ∧ kcode wY 512 j = 900 + j.toNat ∧ kcode wY 513 j = 900 + j.toNat := by
  refine ⟨?_, ?_, ?_, ?_⟩
  · rw [kc_0 (show (an_sh wY 0).1 = 0 by decide +kernel), show wY.2 0 = 0 by decide]; omega
  · rw [kc_1 (show (an_sh wY 416).1 = 1 by decide +kernel), show wY.2 416 = 34 by decide +kernel]
  · rw [kc_0 (show (an_sh wY 512).1 = 0 by decide +kernel), show wY.2 512 = 9 by decide +kernel]
  · rw [kc_0 (show (an_sh wY 513).1 = 0 by decide +kernel), show wY.2 513 = 9 by decide +kernel]
theorem kM_ (j : Int) : kcode wM 31 j = 10031 ∧ kcode wM 32 j = 10032 := by
  refine ⟨?_, ?_⟩
  · rw [kc_1 (show (an_sh wM 31).1 = 1 by decide +kernel), show wM.2 31 = 31 by decide]
  · rw [kc_1 (show (an_sh wM 32).1 = 1 by decide +kernel), show wM.2 32 = 32 by decide]
theorem nin {ms : List Nat} {c : Nat} (h : ms.contains c = false) : ¬ c ∈ ms := fun q => by rw [List.contains_iff_mem.mpr q] at h; cases h
theorem RR.kX {AX BX AM : pm_A} {ms : List Nat} (h : RR AX AM) (hK : gK wY BX) (hF : gFk wY ms AX BX) (n1 : ms.contains 13 = false) (n2 : ms.contains 10034 = false) (n3 : ms.contains 900 = false) (n4 : ms.contains 901 = false) : RR BX AM := by
  obtain ⟨_, ⟨p1, p2, p3⟩, r0, r1⟩ := h
  refine ⟨hK, ⟨?_, ?_, ?_⟩, rgX_same r0 ?_ ?_ (fun _ _ _ => rfl), rgX_same r1 ?_ ?_ (fun _ _ _ => rfl)⟩
  · rw [hF 0 13 (by omega) (by omega) (by rw [(kY 13).1]; exact nin n1)]; exact p1
  · rw [hF 416 0 (by omega) (by omega) (by rw [(kY 0).2.1]; exact nin n2)]; exact p2
  · rw [hF 416 1 (by omega) (by omega) (by rw [(kY 1).2.1]; exact nin n2)]; exact p3
  · exact hF 512 0 (by omega) (by omega) (by rw [(kY 0).2.2.1]; exact nin n3)
  · exact hF 512 1 (by omega) (by omega) (by rw [(kY 1).2.2.1]; exact nin n4)
  · exact hF 513 0 (by omega) (by omega) (by rw [(kY 0).2.2.2]; exact nin n3)
  · exact hF 513 1 (by omega) (by omega) (by rw [(kY 1).2.2.2]; exact nin n4)
theorem RR.kM {AX AM BM : pm_A} {ms : List Nat} (h : RR AX AM) (hF : gFk wM ms AM BM) (n1 : ms.contains 10031 = false) (n2 : ms.contains 10032 = false) : RR AX BM := by
  obtain ⟨hK, hp, r0, r1⟩ := h
  have e31 : ∀ j : Int, 0 ≤ j → BM 31 j = AM 31 j := fun j j0 => hF 31 j (by omega) j0 (by rw [(kM_ j).1]; exact nin n1)
  have e32 : ∀ j : Int, 0 ≤ j → BM 32 j = AM 32 j := fun j j0 => hF 32 j (by omega) j0 (by rw [(kM_ j).2]; exact nin n2)
  refine ⟨hK, hp, ?_, ?_⟩
  · rw [e31 0 (by omega)]; exact rgX_same r0 rfl rfl (fun f f0 _ => e32 _ (by omega))
  · rw [e31 1 (by omega)]; exact rgX_same r1 rfl rfl (fun f f0 _ => e32 _ (by omega))
theorem RR.at {AX AM : pm_A} (h : RR AX AM) {s : Int} (hs : s = 0 ∨ s = 1) : rgX AX (AX (AX 0 13) s) (AM 31 s) (fcs AM s) := by
  obtain ⟨_, ⟨p1, p2, p3⟩, r0, r1⟩ := h
  rw [p1]
  rcases hs with rfl | rfl
  · rw [p2]; exact r0
  · rw [p3]; exact r1
/-- one ring is another one, on both sides -/
theorem RR.put {AX BX AM BM : pm_A} {s : Int} (h : RR AX AM) (hs : s = 0 ∨ s = 1) (hK : gK wY BX) (hX : ∀ r j : Int, r ≠ AX (AX 0 13) s → BX r j = AX r j) (hr : rgX BX (AX (AX 0 13) s) (BM 31 s) (fcs BM s)) (h31 : ∀ t : Int, t ≠ s → BM 31 t = AM 31 t) (h32 : ∀ j : Int, (j < 100 * s ∨ 100 * s + 100 ≤ j) → BM 32 j = AM 32 j) : RR BX BM := by
  obtain ⟨_, ⟨p1, p2, p3⟩, r0, r1⟩ := h
  rw [p1] at hX hr
  rcases hs with rfl | rfl
  · rw [p2] at hX hr
    refine ⟨hK, ⟨by rw [hX 0 13 (by omega)]; exact p1, by rw [hX 416 0 (by omega)]; exact p2, by rw [hX 416 1 (by omega)]; exact p3⟩, hr, ?_⟩
    rw [h31 1 (by omega)]
    exact rgX_same r1 (hX 513 0 (by omega)) (hX 513 1 (by omega)) (fun f f0 f1 => h32 _ (by omega))
  · rw [p3] at hX hr
    refine ⟨hK, ⟨by rw [hX 0 13 (by omega)]; exact p1, by rw [hX 416 0 (by omega)]; exact p2, by rw [hX 416 1 (by omega)]; exact p3⟩, ?_, hr⟩
    rw [h31 0 (by omega)]
    exact rgX_same r0 (hX 512 0 (by omega)) (hX 512 1 (by omega)) (fun f f0 f1 => h32 _ (by omega))
def xrP (A : pm_A) (s n : Int) (q : pm_R) : Prop := (q = (some (0, 0), A) ∧ ¬ okG s n) ∨ (okG s n ∧ q = (some (0, 1), pm_upd (pm_upd A (A (A 0 13) s) 0 n) (A (A 0 13) s) 1 0))
theorem xring_ex {A : pm_A} {s n : Int} (hA : gH wX A) : Cl pmt (an_sh wX) 103 [(2, 0), (0, s), (0, n)] A (xrP A s n) := by
  have p0 := fX_0_13 hA (Int.le_refl 0) kk0
  have h30 : okG s n → ∀ B, B = pm_upd A (A (A 0 13) s) 0 n → Tm pmt (an_sh wX) o_X9_ring 30 ([(2, 0), (0, s), (0, n)], [], B) (xrP A s n) := fun ho B hBe => by
    have ho2 := ho
    unfold okG at ho2
    have e0 := eX_34 hA p0.1 p0.2 (j := s) (by omega) (by omega)
    have hB : gH wX B := by
      rw [hBe]
      exact gH_upd hA (k := (0, 6, 2, [(0, 4, 10), (1, (-9223372036854775808), 9223372036854775807)])) (by rw [e0.2]; rfl) (fun _ j a ha hj => by
        have : j = 0 := by omega
        subst this
        cases ha
        exact ⟨rfl, by simp only; omega, by simp only; omega⟩) (fun q => by cases q)
    have z1 : A (A 0 13) s ≠ 0 := fun e => by have := e0.2; rw [e] at this; exact absurd this (by decide)
    have z2 : A (A 0 13) s ≠ A 0 13 := fun e => by have := e0.2; rw [e, p0.2] at this; exact absurd this (by decide)
    have b13 : B 0 13 = A 0 13 := by rw [hBe, upd_o (fun q => z1 q.1.symm)]
    have bs : B (B 0 13) s = A (A 0 13) s := by rw [b13, hBe, upd_o (fun q => z2 q.1.symm)]
    have r0 := fX_0_13 hB (r := 0) (by omega) kk0
    have e1 := eX_34 hB r0.1 r0.2 (j := s) (by omega) (by omega)
    refine wq_ok srt_Xring (fr := []) (cuts := []) (J := fun _ _ => False) (fun _ _ h => h.elim) 12 30 _ ?_
    refine ⟨oX_0 (by omega) kk0 13 rfl, ?_⟩
    refine ⟨aX_34 r0.1 r0.2 (by omega) (by omega), ?_⟩
    refine ⟨oX_9 e1.1 e1.2 1 rfl, ?_⟩
    exact ⟨rfl, Or.inr ⟨ho, by rw [bs, hBe]⟩⟩
  refine Cl.of (Nat.le_of_ble_eq_true rfl) ?_
  refine wq_ok (full := o_X9_ring) srt_Xring (fr := []) (cuts := [4]) (J := fun pc st => pc = 4 ∧ ∃ x : Int, ((x = 1 ∧ (s = 0 ∨ s = 1)) ∨ (x = 0 ∧ ¬ (s = 0 ∨ s = 1))) ∧ st = ([(2, 0), (0, s), (0, n)], [(0, x)], A)) ?_ 10 0 _ ?_
  · rintro pc st ⟨rfl, x, hx, rfl⟩
    have no : ¬ okG s n → xrP A s n (some (0, 0), A) := fun h => Or.inl ⟨rfl, h⟩
    refine wq_ok srt_Xring (fr := []) (cuts := [30]) (J := fun pc st => pc = 30 ∧ okG s n ∧ st = ([(2, 0), (0, s), (0, n)], [], pm_upd A (A (A 0 13) s) 0 n)) ?_ 25 4 _ ?_
    · rintro pc st ⟨rfl, ho, rfl⟩
      exact h30 ho _ rfl
    refine ⟨fun h0 => ?_, fun h0 => ?_⟩
    · exact ⟨rfl, no (by unfold okG; omega)⟩
    refine ⟨fun h1 => ?_, fun h1 => ?_⟩
    · exact ⟨rfl, no (by unfold okG; omega)⟩
    refine ⟨fun h2 => ?_, fun h2 => ?_⟩
    · have hs : s = 0 ∨ s = 1 := by omega
      have e0 := eX_34 hA p0.1 p0.2 (j := s) (by omega) (by omega)
      refine ⟨oX_0 (by omega) kk0 13 rfl, ?_⟩
      refine ⟨aX_34 p0.1 p0.2 (by omega) (by omega), ?_⟩
      refine ⟨oX_9 e0.1 e0.2 0 rfl, ?_⟩
      exact ⟨rfl, ⟨hs, by omega, by omega⟩, rfl⟩
    · exact ⟨rfl, no (by unfold okG; omega)⟩
  · refine ⟨rfl, ?_⟩
    refine (xa_isSlot).imp ?_
    rintro ⟨r1, C⟩ ⟨q1, x, q2, hx⟩
    simp only at q1 q2
    subst q1
    subst q2
    exact ⟨rfl, x, hx, rfl⟩
theorem rr_ring {AX AM : pm_A} {s n : Int} {q r : pm_R} (h : RR AX AM) (hK : gK wY q.2) (hq : xrP AX s n q) (hr : rngP AM s n r) : RR q.2 r.2 ∧ q.1 = r.1 := by
  rcases hq with ⟨rfl, no⟩ | ⟨ok, rfl⟩
  · rcases hr with ⟨rfl, _⟩ | ⟨ok, _⟩
    · exact ⟨h, rfl⟩
    · exact absurd ok no
  · rcases hr with ⟨_, no⟩ | ⟨_, e1, e2, e3, e4, e5⟩
    · exact absurd ok no
    · refine ⟨h.put ok.1 hK (fun x j hx => by
        show pm_upd (pm_upd AX (AX (AX 0 13) s) 0 n) (AX (AX 0 13) s) 1 0 x j = AX x j
        rw [upd_o (fun e => hx e.1), upd_o (fun e => hx e.1)]) ⟨?_, 0, ?_, by decide, fun a b a0 ab b9 => ?_⟩ e4 e5, e1.symm⟩
      · show pm_upd (pm_upd AX (AX (AX 0 13) s) 0 n) (AX (AX 0 13) s) 1 0 (AX (AX 0 13) s) 0 = r.2 31 s
        rw [upd_o (by omega), upd_at, e2]
      · show pm_upd (pm_upd AX (AX (AX 0 13) s) 0 n) (AX (AX 0 13) s) 1 0 (AX (AX 0 13) s) 1 = ((0 : Nat) : Int)
        rw [upd_at]; rfl
      · rw [Nat.zero_testBit]
        refine ⟨fun e => (by cases e), fun e => ?_⟩
        have := e3 (10 * a + b) (by omega) (by omega)
        unfold fcs at e
        omega
theorem rr_fence {AX AM : pm_A} {s a b : Int} {q r : pm_R} (h : RR AX AM) (hM : RI AM) (hK : gK wY q.2) (hq : (q = (some (0, -1), AX) ∧ ¬ (s = 0 ∨ s = 1)) ∨ ((s = 0 ∨ s = 1) ∧ xfP AX (AX (AX 0 13) s) (AM 31 s) (fcs AM s) a b q)) (hr : fncP AM s a b r) : RR q.2 r.2 ∧ q.1 = r.1 := by
  rcases hq with ⟨rfl, no⟩ | ⟨hs, hq⟩
  · rcases hr with ⟨rfl, _⟩ | ⟨ok, _⟩
    · exact ⟨h, rfl⟩
    · exact absurd ok.1 no
  · rcases hq with ⟨rfl, no⟩ | ⟨ok, ⟨V, e1, e2⟩, e3⟩
    · rcases hr with ⟨rfl, _⟩ | ⟨ok, _⟩
      · exact ⟨h, rfl⟩
      · exact absurd ok.2 no
    · rcases hr with ⟨_, no⟩ | ⟨_, d1, d2⟩
      · exact absurd ⟨hs, ok⟩ no
      · have hn := (hM.2.2 s hs).1
        have k1 := ok.1
        unfold inC at k1
        have kk := fcd_c (a := a) (b := b) (by omega) (by omega) (by omega) (by omega)
        have ef : fcs r.2 s = stF (fcs AM s) (fcd a b) := by
          funext x
          rw [d1]
          unfold fcs stF
          by_cases e : x = fcd a b
          · rw [e, upd_at, if_pos rfl]
          · rw [upd_o (by omega), if_neg e]
        have h31 : ∀ t, r.2 31 t = AM 31 t := fun t => by rw [d1, upd_o (by omega)]
        refine ⟨h.put hs hK (fun x j hx => by rw [e1, upd_o (fun e => hx e.1)]) ⟨?_, V, by rw [e1, upd_at], by rw [ef]; exact e2⟩ (fun t _ => h31 t) (fun j hj => by rw [d1, upd_o (by omega)]), ?_⟩
        · rw [e1, upd_o (by omega), h31]; exact (h.at hs).1
        · rw [e3, d2, ef]
theorem rr_flip {AX AM : pm_A} {s a b : Int} {q r : pm_R} (h : RR AX AM) (hM : RI AM) (hK : gK wY q.2) (hq : (q = (some (0, -1), AX) ∧ ¬ (s = 0 ∨ s = 1)) ∨ ((s = 0 ∨ s = 1) ∧ xlP AX (AX (AX 0 13) s) (AM 31 s) (fcs AM s) a b q)) (hr : flpP AM s a b r) : RR q.2 r.2 ∧ q.1 = r.1 := by
  rcases hq with ⟨rfl, no⟩ | ⟨hs, hq⟩
  · rcases hr with ⟨rfl, _⟩ | ⟨ok, _⟩
    · exact ⟨h, rfl⟩
    · exact absurd ok.1 no
  · rcases hq with ⟨rfl, no⟩ | ⟨ok, i, o, ho, ⟨V, e1, e2⟩, e3⟩
    · rcases hr with ⟨rfl, _⟩ | ⟨ok, _⟩
      · exact ⟨h, rfl⟩
      · exact absurd ok.2 no
    · rcases hr with ⟨_, no⟩ | ⟨_, i', o', ho', d1, d2⟩
      · exact absurd ⟨hs, ok⟩ no
      · have hS := hM.2.2 s hs
        have hn := hS.1
        have k1 := ok.2
        unfold inC at k1
        have kk := fcd_c (a := a) (b := b) (by omega) (by omega) (by omega) (by omega)
        obtain ⟨rfl, rfl⟩ := oth_uniq hS kk.2.2.1 kk.2.2.2 ok.2.2.2.2 ho ho'
        have cb := cod_b hS kk.2.2.1 kk.2.2.2 ok.2.2.2.2 ho
        have ef : fcs r.2 s = flF (fcs AM s) (fcd a b) (cod i o) := by rw [d1]; exact fl_fcs kk.2.2.1 kk.2.2.2 cb.1 cb.2.1
        have h31 : ∀ t, r.2 31 t = AM 31 t := fun t => by rw [d1, upd_o (by omega), upd_o (by omega)]
        refine ⟨h.put hs hK (fun x j hx => by rw [e1, upd_o (fun e => hx e.1)]) ⟨?_, V, by rw [e1, upd_at], by rw [ef]; exact e2⟩ (fun t _ => h31 t) (fun j hj => by rw [d1, upd_o (by omega), upd_o (by omega)]), ?_⟩
        · rw [e1, upd_o (by omega), h31]; exact (h.at hs).1
        · rw [e3, d2]
theorem gk_first : gK wY (wA WX) := gK_of (wo_all (w := wY) (by decide +kernel) (fun r h => by
  have hl : WX.length = 514 := by decide +kernel
  have hk : kdXl.length = 514 := by decide +kernel
  have e : wY.2 r = 9999 := by
    show (if r = 419 then 36 else wX.2 r) = 9999
    rw [if_neg (by omega)]
    show (if r < 0 then 9999 else kdXl.getD r.toNat 9999) = 9999
    rw [if_neg (by omega), getD_ge (by omega)]
  rw [e]; rfl)).2
theorem RR.kM2 {AX AM BM : pm_A} (h : RR AX AM) (e31 : ∀ s : Int, BM 31 s = AM 31 s) (e32 : ∀ j : Int, 0 ≤ j → j < 200 → BM 32 j = AM 32 j) : RR AX BM := by
  obtain ⟨hK, hp, r0, r1⟩ := h
  refine ⟨hK, hp, ?_, ?_⟩
  · rw [e31 0]; exact rgX_same r0 rfl rfl (fun f f0 _ => e32 _ (by omega) (by omega))
  · rw [e31 1]; exact rgX_same r1 rfl rfl (fun f f0 _ => e32 _ (by omega) (by omega))
theorem rr_first : RR (wA WX) A0M := by
  have z : ∀ s : Int, s = 0 ∨ s = 1 → A0M 31 s = 4 := fun s hs => by rcases hs with rfl | rfl <;> decide +kernel
  have rg : ∀ r : Int, wA WX r 0 = 4 → wA WX r 1 = 0 → ∀ s : Int, s = 0 ∨ s = 1 → rgX (wA WX) r (A0M 31 s) (fcs A0M s) := fun r h0 h1 s hs => ⟨by rw [h0, z s hs], 0, by rw [h1]; rfl, by decide, fun a b a0 ab b9 => by
    rw [Nat.zero_testBit]
    refine ⟨fun e => (by cases e), fun e => ?_⟩
    have : fcs A0M s (10 * a + b) = 0 := rfl
    omega⟩
  exact ⟨gk_first, ⟨by decide +kernel, by decide +kernel, by decide +kernel⟩, rg 512 (by decide +kernel) (by decide +kernel) 0 (Or.inl rfl), rg 513 (by decide +kernel) (by decide +kernel) 1 (Or.inr rfl)⟩
end

section
/-! the draft's places and held are alike on both sides -/
def DD (AX AM : pm_A) : Prop := AX 0 1 = 24 ∧ AX 24 0 = AM 0 12 ∧ AX 24 1 = AM 0 13
theorem kYd (j : Int) : kcode wY 24 j = 300 + j.toNat := by
  rw [kc_0 (show (an_sh wY 24).1 = 0 by decide +kernel), show wY.2 24 = 3 by decide +kernel]
theorem kMd (j : Int) : kcode wM 0 j = j.toNat := by
  rw [kc_0 (show (an_sh wM 0).1 = 0 by decide +kernel), show wM.2 0 = 0 by decide]; omega
theorem DD.kX {AX BX AM : pm_A} {ms : List Nat} (h : DD AX AM) (hF : gFk wY ms AX BX) (n1 : ms.contains 1 = false) (n2 : ms.contains 300 = false) (n3 : ms.contains 301 = false) : DD BX AM := by
  obtain ⟨p1, p2, p3⟩ := h
  refine ⟨?_, ?_, ?_⟩
  · rw [hF 0 1 (by omega) (by omega) (by rw [(kY 1).1]; exact nin n1)]; exact p1
  · rw [hF 24 0 (by omega) (by omega) (by rw [kYd 0]; exact nin n2)]; exact p2
  · rw [hF 24 1 (by omega) (by omega) (by rw [kYd 1]; exact nin n3)]; exact p3
theorem DD.kM {AX AM BM : pm_A} {ms : List Nat} (h : DD AX AM) (hF : gFk wM ms AM BM) (n1 : ms.contains 12 = false) (n2 : ms.contains 13 = false) : DD AX BM := by
  obtain ⟨p1, p2, p3⟩ := h
  refine ⟨p1, ?_, ?_⟩
  · rw [hF 0 12 (by omega) (by omega) (by rw [kMd 12]; exact nin n1)]; exact p2
  · rw [hF 0 13 (by omega) (by omega) (by rw [kMd 13]; exact nin n2)]; exact p3
theorem dd_first : DD (wA WX) A0M := ⟨by decide +kernel, by decide +kernel, by decide +kernel⟩
def okA (c hd i j v : Int) : Prop := (0 ≤ i ∧ i < c + hd) ∧ (0 ≤ j ∧ j < c) ∧ -9 ≤ v ∧ v ≤ 9
theorem srt_XisCell : pm_srt o_X9_isCell = true := by decide +kernel
theorem xcell_ex {A : pm_A} {c hd i j : Int} (c0 : 0 ≤ c) (c6 : c ≤ 6) (d0 : 0 ≤ hd) (d6 : hd ≤ 6) : Cl pmt (an_sh wX) 95 [(0, c), (0, hd), (0, i), (0, j)] A (bp A ((0 ≤ i ∧ i < c + hd) ∧ (0 ≤ j ∧ j < c))) := by
  refine Cl.of (Nat.le_of_ble_eq_true rfl) ?_
  refine wq_ok (full := o_X9_isCell) srt_XisCell (fr := []) (cuts := []) (J := fun _ _ => False) ?_ 19 0 _ ?_
  · intro pc st h; exact h.elim
  · refine ⟨fun h0 => ?_, fun h0 => ?_⟩
    · exact ⟨rfl, rfl, 0, rfl, Or.inr ⟨rfl, by omega⟩⟩
    · refine ⟨⟨by omega, by omega⟩, ?_⟩
      refine ⟨fun h1 => ?_, fun h1 => ?_⟩
      · exact ⟨rfl, rfl, 0, rfl, Or.inr ⟨rfl, by omega⟩⟩
      · refine ⟨fun h2 => ?_, fun h2 => ?_⟩
        · exact ⟨rfl, rfl, 0, rfl, Or.inr ⟨rfl, by omega⟩⟩
        · refine ⟨fun h3 => ?_, fun h3 => ?_⟩
          · exact ⟨rfl, rfl, 0, rfl, Or.inr ⟨rfl, by omega⟩⟩
          · exact ⟨rfl, rfl, 1, rfl, Or.inl ⟨rfl, by omega⟩⟩
theorem srt_Xarrows : pm_srt o_X9_arrows = true := by decide +kernel
theorem xarrows_ex {A : pm_A} {i j v : Int} (hA : gH wX A) : Cl pmt (an_sh wX) 84 [(2, 0), (0, i), (0, j), (0, v)] A (ab (okA (A (A 0 1) 0) (A (A 0 1) 1) i j v)) := by
  have d0 := fX_0_1 hA (r := 0) (by omega) kk0
  have b0 := fX_3_0 hA d0.1 d0.2
  have b1 := fX_3_1 hA d0.1 d0.2
  refine Cl.of (Nat.le_of_ble_eq_true rfl) ?_
  refine wq_ok (full := o_X9_arrows) srt_Xarrows (fr := []) (cuts := [19]) (J := fun pc st => (pc = 19 ∧ ∃ x : Int, ((x = 1 ∧ ((0 ≤ i ∧ i < A (A 0 1) 0 + A (A 0 1) 1) ∧ (0 ≤ j ∧ j < A (A 0 1) 0))) ∨ (x = 0 ∧ ¬ ((0 ≤ i ∧ i < A (A 0 1) 0 + A (A 0 1) 1) ∧ (0 ≤ j ∧ j < A (A 0 1) 0)))) ∧ st = ([(2, 0), (0, i), (0, j), (0, v)], [(0, x)], A))) ?_ 13 0 _ ?_
  · rintro pc st (⟨rfl, x, hx, rfl⟩)
    refine wq_ok srt_Xarrows (fr := []) (cuts := []) (J := fun _ _ => False) ?_ 23 19 _ ?_
    · intro pc st h; exact h.elim
    · refine ⟨fun h0 => ?_, fun h0 => ?_⟩
      · exact ⟨rfl, Or.inl ⟨rfl, fun q => by unfold okA at q; omega⟩⟩
      · refine ⟨fun h1 => ?_, fun h1 => ?_⟩
        · exact ⟨rfl, Or.inl ⟨rfl, fun q => by unfold okA at q; omega⟩⟩
        · refine ⟨fun h2 => ?_, fun h2 => ?_⟩
          · refine ⟨oX_0 (Int.le_refl 0) kk0 1 rfl, ?_⟩
            refine ⟨oX_3 (fX_0_1 hA (Int.le_refl 0) kk0).1 (fX_0_1 hA (Int.le_refl 0) kk0).2 2 rfl, ?_⟩
            refine ⟨⟨by omega, by omega⟩, ?_⟩
            refine ⟨⟨by omega, by omega⟩, ?_⟩
            refine ⟨tX_16 (fX_3_2 hA (fX_0_1 hA (Int.le_refl 0) kk0).1 (fX_0_1 hA (Int.le_refl 0) kk0).2).1 (fX_3_2 hA (fX_0_1 hA (Int.le_refl 0) kk0).1 (fX_0_1 hA (Int.le_refl 0) kk0).2).2 (by omega) (by omega) rfl, ?_⟩
            exact ⟨rfl, Or.inr ⟨rfl, ⟨by omega, by omega⟩, ⟨by omega, by omega⟩, by omega, by omega⟩⟩
          · exact ⟨rfl, Or.inl ⟨rfl, fun q => by unfold okA at q; omega⟩⟩
  · refine ⟨oX_0 (Int.le_refl 0) kk0 1 rfl, ?_⟩
    refine ⟨oX_3 (fX_0_1 hA (Int.le_refl 0) kk0).1 (fX_0_1 hA (Int.le_refl 0) kk0).2 0 rfl, ?_⟩
    refine ⟨oX_0 (Int.le_refl 0) kk0 1 rfl, ?_⟩
    refine ⟨oX_3 (fX_0_1 hA (Int.le_refl 0) kk0).1 (fX_0_1 hA (Int.le_refl 0) kk0).2 1 rfl, ?_⟩
    refine ⟨rfl, ?_⟩
    refine (xcell_ex (c := A (A 0 1) 0) (hd := A (A 0 1) 1) (i := i) (j := j) b0.1 b0.2 b1.1 b1.2).imp ?_
    rintro ⟨r1, C⟩ ⟨q1, x, q2, hx⟩
    simp only at q1 q2
    subst q1
    subst q2
    exact ⟨rfl, x, hx, rfl⟩
theorem marrows_ex {A : pm_A} {i j v : Int} (hA : gH wM A) : Cl pmt (an_sh wM) 126 [(2, 0), (0, i), (0, j), (0, v)] A (ab (okA (A 0 12) (A 0 13) i j v)) := by
  have b0 := fM_0_12 hA (r := 0) (by omega) km0
  have b1 := fM_0_13 hA (r := 0) (by omega) km0
  have c14 := pM_14 hA
  refine Cl.of (Nat.le_of_ble_eq_true rfl) ?_
  refine wq_ok (full := o_X10_arrows) srt_Marrows (fr := []) (cuts := []) (J := fun _ _ => False) ?_ 39 0 _ ?_
  · intro pc st h; exact h.elim
  · refine ⟨oM_0 (by omega) km0 12 rfl, ?_⟩
    refine ⟨fun h0 => ?_, fun h0 => ?_⟩
    · exact ⟨rfl, Or.inl ⟨rfl, fun q => by unfold okA at q; omega⟩⟩
    · refine ⟨fun h1 => ?_, fun h1 => ?_⟩
      · exact ⟨rfl, Or.inl ⟨rfl, fun q => by unfold okA at q; omega⟩⟩
      · refine ⟨oM_0 (by omega) km0 12 rfl, ?_⟩
        refine ⟨oM_0 (by omega) km0 13 rfl, ?_⟩
        refine ⟨⟨by omega, by omega⟩, ?_⟩
        refine ⟨fun h2 => ?_, fun h2 => ?_⟩
        · exact ⟨rfl, Or.inl ⟨rfl, fun q => by unfold okA at q; omega⟩⟩
        · refine ⟨fun h3 => ?_, fun h3 => ?_⟩
          · exact ⟨rfl, Or.inl ⟨rfl, fun q => by unfold okA at q; omega⟩⟩
          · refine ⟨oM_0 (by omega) km0 12 rfl, ?_⟩
            refine ⟨fun h4 => ?_, fun h4 => ?_⟩
            · exact ⟨rfl, Or.inl ⟨rfl, fun q => by unfold okA at q; omega⟩⟩
            · refine ⟨fun h5 => ?_, fun h5 => ?_⟩
              · exact ⟨rfl, Or.inl ⟨rfl, fun q => by unfold okA at q; omega⟩⟩
              · refine ⟨fun h6 => ?_, fun h6 => ?_⟩
                · refine ⟨oM_0 (by omega) km0 14 rfl, ?_⟩
                  refine ⟨⟨by omega, by omega⟩, ?_⟩
                  refine ⟨⟨by omega, by omega⟩, ?_⟩
                  refine ⟨tM_7 (r := A 0 14) (by rw [c14]; omega) (by rw [c14]; exact kn7) (by omega) (by omega) rfl, ?_⟩
                  exact ⟨rfl, Or.inr ⟨rfl, ⟨by omega, by omega⟩, ⟨by omega, by omega⟩, by omega, by omega⟩⟩
                · exact ⟨rfl, Or.inl ⟨rfl, fun q => by unfold okA at q; omega⟩⟩
def rxP (A : pm_A) (d n m : Int) (r : pm_R) : Prop := r.1 = none ∧ gH wX r.2 ∧ gFr wX rs_M A r.2 ∧ bnd r.2 (A d 2) 0 ∧ r.2 d 0 = n ∧ r.2 d 1 = m
theorem xrestart_ex {A : pm_A} {d n m : Int} (hA : gH wX A) (hd0 : 0 ≤ d) (hdk : wX.2 d = 3) (h0 : 0 ≤ n) (h1 : n ≤ 6) (h2 : 0 ≤ m) (h3 : m ≤ 6) : Cl pmt (an_sh wX) 25 [(2, d), (0, n), (0, m)] A (rxP A d n m) := by
  have t0 := fX_3_2 hA hd0 hdk
  have hB := (rs_put (rs_put hA hdk h0 h1).1 hdk h2 h3).2
  have hF : gFr wX rs_M A (pm_upd (pm_upd A d 0 n) d 1 m) := by
    refine gFr_upd (gFr_upd (fun _ _ _ _ _ => rfl) ?_) ?_
    · unfold mcode; rw [shX_3 hdk]; show 200 ∈ rs_M; decide
    · unfold mcode; rw [shX_3 hdk]; show 201 ∈ rs_M; decide
  have e2 : pm_upd (pm_upd A d 0 n) d 1 m d 2 = A d 2 := by rw [upd_n2 (by decide), upd_n2 (by decide)]
  refine Cl.of (Nat.le_of_ble_eq_true rfl) ?_
  refine wq_ok (full := o_X2_restart) srt_restart (fr := []) (cuts := []) (J := fun pc st => False) (fun _ _ h => h.elim) 20 0 _ ?_
  refine ⟨oX_3 hd0 hdk 0 rfl, ?_⟩
  refine ⟨oX_3 hd0 hdk 1 rfl, ?_⟩
  refine ⟨oX_3 hd0 hdk 2 rfl, ?_⟩
  refine ⟨rfl, ?_⟩
  refine (fill_ct (r := pm_upd (pm_upd A d 0 n) d 1 m d 2) hB (by rw [e2]; exact t0.1) (by rw [e2]; exact t0.2)).imp ?_
  rintro ⟨r1, C⟩ ⟨q1, q2, q3, q4⟩
  simp only at q1 q2 q3 q4
  subst q1
  rw [e2] at q4
  have k0 : C d 0 = n := by
    rw [q3 d 0 hd0 (by omega) (by unfold mcode; rw [shX_3 hdk]; show ¬ 200 ∈ [10016]; decide), upd_n2 (by decide), upd_at]
  have k1 : C d 1 = m := by
    rw [q3 d 1 hd0 (by omega) (by unfold mcode; rw [shX_3 hdk]; show ¬ 201 ∈ [10016]; decide), upd_at]
  exact ⟨rfl, q2, gFr_tr hF q3 (fun x hx => by
    cases hx with
    | head => exact List.Mem.tail _ (List.Mem.tail _ (List.Mem.head _))
    | tail _ q => cases q), q4, k0, k1⟩
theorem xrestart_k {A : pm_A} {n m : Int} (hA : gH wX A) (hK : gK wY A) (h0 : 0 ≤ n) (h1 : n ≤ 6) (h2 : 0 ≤ m) (h3 : m ≤ 6) : Cl pmt (an_sh wX) 25 [(2, 24), (0, n), (0, m)] A (fun r => rxP A 24 n m r ∧ gK wY r.2) := by
  obtain ⟨k, r, c1, q⟩ := xrestart_ex hA (d := 24) (by omega) (by decide +kernel) h0 h1 h2 h3
  have c2 := c1
  rw [← shY] at c2
  exact ⟨k, r, c1, q, (ksX k 25 ([6, 1, 1], 0, [300, 301, 10016]) (List.contains_iff_mem.mp (by decide +kernel)) [(2, 24), (0, n), (0, m)] A r ⟨⟨rfl, (by show (0 : Int) ≤ 24; omega), by decide +kernel⟩, (by show ¬ (0 : Nat) = 1; decide), (by show ¬ (0 : Nat) = 1; decide), trivial⟩ hK c2).2.1⟩
def xtP (A : pm_A) (n m : Int) (r : pm_R) : Prop := (r.1 = some (0, 0) ∧ r.2 = A ∧ ¬ okT n m) ∨ (r.1 = some (0, 1) ∧ okT n m ∧ r.2 24 0 = n ∧ r.2 24 1 = m)
theorem xtable_ex {A : pm_A} {n m : Int} (hA : gH wX A) (hK : gK wY A) (e1 : A 0 1 = 24) : Cl pmt (an_sh wX) 111 [(2, 0), (0, n), (0, m)] A (xtP A n m) := by
  have d0 := fX_0_1 hA (r := 0) (by omega) kk0
  refine Cl.of (Nat.le_of_ble_eq_true rfl) ?_
  refine wq_ok (full := o_X9_table) srt_Xtable (fr := []) (cuts := []) (J := fun _ _ => False) (fun _ _ h => h.elim) 25 0 _ ?_
  refine ⟨fun h0 => ?_, fun h0 => ?_⟩
  · exact ⟨rfl, Or.inl ⟨rfl, rfl, fun ho => by unfold okT at ho; omega⟩⟩
  refine ⟨fun h1 => ?_, fun h1 => ?_⟩
  · exact ⟨rfl, Or.inl ⟨rfl, rfl, fun ho => by unfold okT at ho; omega⟩⟩
  refine ⟨fun h2 => ?_, fun h2 => ?_⟩
  · exact ⟨rfl, Or.inl ⟨rfl, rfl, fun ho => by unfold okT at ho; omega⟩⟩
  refine ⟨fun h3 => ?_, fun h3 => ?_⟩
  · refine ⟨oX_0 (by omega) kk0 1 rfl, ?_⟩
    refine ⟨rX_3 d0.1 d0.2, ?_⟩
    rw [e1]
    refine (xrestart_k hA hK (n := n) (m := m) (by omega) (by omega) (by omega) (by omega)).imp ?_
    rintro ⟨r1, C⟩ ⟨⟨g1, g2, g3, g4, g5, g6⟩, _⟩
    simp only at g1 g5 g6
    subst g1
    exact ⟨rfl, Or.inr ⟨rfl, ⟨⟨by omega, by omega⟩, by omega, by omega⟩, g5, g6⟩⟩
  · exact ⟨rfl, Or.inl ⟨rfl, rfl, fun ho => by unfold okT at ho; omega⟩⟩
def msSX : List Nat := [4, 100, 101, 200, 201, 10010, 10011, 10014, 10015, 10016, 10017]
def cSX : ks_C := [(56, [3, 1], []), (57, [3, 1], [3]), (60, [3, 1], [37]), (61, [3, 1], [1, 37]), (62, [3, 1], [12]), (63, [3, 1], [3, 12]), (66, [3, 1], [6, 12]), (69, [3, 1], [19, 12]), (72, [3, 1], []), (73, [3, 1], [3]), (76, [3, 1], [6]), (79, [3, 1], [1]), (82, [3, 1], []), (83, [3, 1], [1]), (84, [3, 1], []), (85, [3, 1], [3]), (88, [3, 1], []), (89, [3, 1], [1])]
theorem suf_X {n : Nat} {B : pm_A} {k : Int} {r : pm_R} (hK : gK wY B) (h : pm_run pmt (an_sh wX) n o_X9_seed (pm_seek 56 o_X9_seed) ([(2, 0), (0, k)], [], B) = some r) : gFk wY msSX B r.2 := by
  rw [← shY] at h
  exact (ks_run (w := wY) (CT := ctX) (Q := ([], 2, msSX)) (C := cSX) srt_seed (by decide +kernel) n (fun m _ => ksX m) 56 _ ([(2, 0), (0, k)], [], B) r rfl ⟨⟨⟨rfl, Int.le_refl 0, by decide⟩, (by show ¬ (0 : Nat) = 1; decide), trivial⟩, trivial, hK, fun _ _ _ _ _ => rfl⟩ h).2.2
def msSM : List Nat := [7, 8, 10, 10001, 10002, 10003, 10005, 10007, 10008, 10009, 10010, 10011]
def cSM : ks_C := [(44, [3, 1, 1, 1, 1, 1, 1, 1, 1, 1], [1]), (45, [3, 1, 1, 1, 1, 1, 1, 1, 1, 1], []), (46, [3, 1, 1, 1, 1, 1, 1, 1, 1, 1], [1]), (48, [3, 1, 1, 1, 1, 1, 1, 1, 1, 1], []), (50, [3, 1, 1, 1, 1, 1, 1, 1, 1, 1], [1]), (51, [3, 1, 1, 1, 1, 1, 1, 1, 1, 1], [1, 1]), (54, [3, 1, 1, 1, 1, 1, 1, 1, 1, 1], []), (56, [3, 1, 1, 1, 1, 1, 1, 1, 1, 1], [1]), (57, [3, 1, 1, 1, 1, 1, 1, 1, 1, 1], [1, 1]), (58, [3, 1, 1, 1, 1, 1, 1, 1, 1, 1], [1]), (60, [3, 1, 1, 1, 1, 1, 1, 1, 1, 1], []), (62, [3, 1, 1, 1, 1, 1, 1, 1, 1, 1], [1]), (63, [3, 1, 1, 1, 1, 1, 1, 1, 1, 1], [1, 1]), (66, [3, 1, 1, 1, 1, 1, 1, 1, 1, 1], []), (68, [3, 1, 1, 1, 1, 1, 1, 1, 1, 1], [1]), (69, [3, 1, 1, 1, 1, 1, 1, 1, 1, 1], [1, 1]), (70, [3, 1, 1, 1, 1, 1, 1, 1, 1, 1], [1]), (72, [3, 1, 1, 1, 1, 1, 1, 1, 1, 1], []), (74, [3, 1, 1, 1, 1, 1, 1, 1, 1, 1], [1]), (75, [3, 1, 1, 1, 1, 1, 1, 1, 1, 1], [1, 1]), (78, [3, 1, 1, 1, 1, 1, 1, 1, 1, 1], []), (79, [3, 1, 1, 1, 1, 1, 1, 1, 1, 1], [3]), (80, [3, 1, 1, 1, 1, 1, 1, 1, 1, 1], [1, 3]), (82, [3, 1, 1, 1, 1, 1, 1, 1, 1, 1], [1, 1, 3]), (84, [3, 1, 1, 1, 1, 1, 1, 1, 1, 1], [1, 1, 1, 3]), (87, [3, 1, 1, 1, 1, 1, 1, 1, 1, 1], [1]), (90, [3, 1, 1, 1, 1, 1, 1, 1, 1, 1], []), (91, [3, 1, 1, 1, 1, 1, 1, 1, 1, 1], [3]), (92, [3, 1, 1, 1, 1, 1, 1, 1, 1, 1], [1, 3]), (94, [3, 1, 1, 1, 1, 1, 1, 1, 1, 1], [1, 1, 3]), (96, [3, 1, 1, 1, 1, 1, 1, 1, 1, 1], [1, 1, 1, 3]), (99, [3, 1, 1, 1, 1, 1, 1, 1, 1, 1], [1]), (102, [3, 1, 1, 1, 1, 1, 1, 1, 1, 1], []), (103, [3, 1, 1, 1, 1, 1, 1, 1, 1, 1], [3]), (104, [3, 1, 1, 1, 1, 1, 1, 1, 1, 1], [1, 3]), (106, [3, 1, 1, 1, 1, 1, 1, 1, 1, 1], [1, 1, 3]), (108, [3, 1, 1, 1, 1, 1, 1, 1, 1, 1], [1, 1, 1, 3]), (111, [3, 1, 1, 1, 1, 1, 1, 1, 1, 1], [1]), (114, [3, 1, 1, 1, 1, 1, 1, 1, 1, 1], []), (117, [3, 1, 1, 1, 1, 1, 1, 1, 1, 1], []), (118, [3, 1, 1, 1, 1, 1, 1, 1, 1, 1], [3]), (119, [3, 1, 1, 1, 1, 1, 1, 1, 1, 1], [1, 3]), (121, [3, 1, 1, 1, 1, 1, 1, 1, 1, 1], [1, 1, 3]), (123, [3, 1, 1, 1, 1, 1, 1, 1, 1, 1], [1, 1, 1, 3]), (126, [3, 1, 1, 1, 1, 1, 1, 1, 1, 1], [1]), (128, [3, 1, 1, 1, 1, 1, 1, 1, 1, 1], []), (129, [3, 1, 1, 1, 1, 1, 1, 1, 1, 1], [3]), (130, [3, 1, 1, 1, 1, 1, 1, 1, 1, 1], [1, 3]), (132, [3, 1, 1, 1, 1, 1, 1, 1, 1, 1], [1, 1, 3]), (134, [3, 1, 1, 1, 1, 1, 1, 1, 1, 1], [1, 1, 1, 3]), (137, [3, 1, 1, 1, 1, 1, 1, 1, 1, 1], [1]), (139, [3, 1, 1, 1, 1, 1, 1, 1, 1, 1], []), (140, [3, 1, 1, 1, 1, 1, 1, 1, 1, 1], [3]), (141, [3, 1, 1, 1, 1, 1, 1, 1, 1, 1], [1, 3]), (143, [3, 1, 1, 1, 1, 1, 1, 1, 1, 1], [1, 1, 3]), (145, [3, 1, 1, 1, 1, 1, 1, 1, 1, 1], [1, 1, 1, 3]), (148, [3, 1, 1, 1, 1, 1, 1, 1, 1, 1], [1]), (150, [3, 1, 1, 1, 1, 1, 1, 1, 1, 1], []), (151, [3, 1, 1, 1, 1, 1, 1, 1, 1, 1], [3]), (153, [3, 1, 1, 1, 1, 1, 1, 1, 1, 1], [1, 3]), (155, [3, 1, 1, 1, 1, 1, 1, 1, 1, 1], [1, 1, 3]), (158, [3, 1, 1, 1, 1, 1, 1, 1, 1, 1], []), (159, [3, 1, 1, 1, 1, 1, 1, 1, 1, 1], [3]), (161, [3, 1, 1, 1, 1, 1, 1, 1, 1, 1], [1, 3]), (163, [3, 1, 1, 1, 1, 1, 1, 1, 1, 1], [1, 1, 3]), (166, [3, 1, 1, 1, 1, 1, 1, 1, 1, 1], []), (167, [3, 1, 1, 1, 1, 1, 1, 1, 1, 1], [3]), (169, [3, 1, 1, 1, 1, 1, 1, 1, 1, 1], [1, 3]), (171, [3, 1, 1, 1, 1, 1, 1, 1, 1, 1], [1, 1, 3]), (174, [3, 1, 1, 1, 1, 1, 1, 1, 1, 1], []), (177, [3, 1, 1, 1, 1, 1, 1, 1, 1, 1], []), (180, [3, 1, 1, 1, 1, 1, 1, 1, 1, 1], []), (183, [3, 1, 1, 1, 1, 1, 1, 1, 1, 1], []), (186, [3, 1, 1, 1, 1, 1, 1, 1, 1, 1], []), (189, [3, 1, 1, 1, 1, 1, 1, 1, 1, 1], []), (192, [3, 1, 1, 1, 1, 1, 1, 1, 1, 1], []), (193, [3, 1, 1, 1, 1, 1, 1, 1, 1, 1], [3]), (196, [3, 1, 1, 1, 1, 1, 1, 1, 1, 1], [1]), (199, [3, 1, 1, 1, 1, 1, 1, 1, 1, 1], []), (200, [3, 1, 1, 1, 1, 1, 1, 1, 1, 1], [1]), (203, [3, 1, 1, 1, 1, 1, 1, 1, 1, 1], []), (204, [3, 1, 1, 1, 1, 1, 1, 1, 1, 1], [1])]
theorem suf_M {n : Nat} {B : pm_A} {sl x : Int} {r : pm_R} (hK : gK wM B) (h : pm_run pmt (an_sh wM) n o_X10_seed (pm_seek 44 o_X10_seed) ([(2, 0), (0, sl), (0, x), (9, 0), (9, 0), (9, 0), (9, 0), (9, 0), (9, 0), (9, 0)], [(0, 1)], B) = some r) : gFk wM msSM B r.2 := by
  have z : ¬ ((0 : Nat) = 1) := by decide
  have y : ¬ ((9 : Nat) = 1) := by decide
  exact (ks_run (w := wM) (CT := ctM) (Q := ([], 2, msSM)) (C := cSM) srt_Mseed (by decide +kernel) n (fun m _ => ksM m) 44 _ ([(2, 0), (0, sl), (0, x), (9, 0), (9, 0), (9, 0), (9, 0), (9, 0), (9, 0), (9, 0)], [(0, 1)], B) r rfl ⟨⟨⟨rfl, Int.le_refl 0, by decide⟩, z, z, y, y, y, y, y, y, y, trivial⟩, ⟨z, trivial⟩, hK, fun _ _ _ _ _ => rfl⟩ h).2.2
def okSd (s n : Int) (F : Int → Int) : Prop := (s = 0 ∨ s = 1) ∧ cntF F 100 = n - 3 ∧ n ≤ 9
def xsP (A : pm_A) (s n : Int) (F : Int → Int) (r : pm_R) : Prop := (¬ okSd s n F ∧ r.2 = A) ∨ (okSd s n F ∧ r.2 24 0 = n - 3 ∧ r.2 24 1 = 0)
theorem sxd_37 {A : pm_A} {n s : Int} {F : Int → Int} (hA : gH wX A) (hK : gK wY A) (e1 : A 0 1 = 24) (hs : s = 0 ∨ s = 1) (h : rgX A (A (A 0 13) s) n F) (hS : rgS n F) (hc : cntF F 100 = n - 3) (h9 : n ≤ 9) : Tm pmt (an_sh wX) o_X9_seed 37 ([(2, 0), (0, s)], [], A) (xsP A s n F) := by
  have p0 := fX_0_13 hA (Int.le_refl 0) kk0
  have g0 := eX_34 hA p0.1 p0.2 (j := s) (by omega) (by omega)
  have en : A (A (A 0 13) s) 0 = n := h.1
  have hn := hS.1
  have d0 := fX_0_1 hA (r := 0) (by omega) kk0
  refine wq_ok srt_seed (fr := []) (cuts := [56]) (J := fun pc st => pc = 56 ∧ ∃ C, (rxP A 24 (n - 3) 0 (none, C) ∧ gK wY C) ∧ st = ([(2, 0), (0, s)], [], C)) ?_ 30 37 _ ?_
  · rintro pc st ⟨rfl, C, ⟨⟨_, q2, q3, q4, q5, q6⟩, q7⟩, rfl⟩
    simp only at q2 q3 q4 q5 q6
    have e2 : C 0 1 = 24 := by
      rw [q3 0 1 (by omega) (by omega) (by unfold mcode; rw [shX_0 kk0]; show ¬ 901 ∈ rs_M; decide)]; exact e1
    have e3 : C 24 2 = A 24 2 := q3 24 2 (by omega) (by omega) (by unfold mcode; rw [shX_3 (show wX.2 24 = 3 by decide +kernel)]; show ¬ 202 ∈ rs_M; decide)
    obtain ⟨k, r, c1, _⟩ := sd_56 (A := C) (B := C) (s := 0) (k := s) (Int.le_refl 0) kk0 (by omega) (by omega) q2 (fun _ _ _ _ _ => rfl) (by rw [e2, e3]; exact q4)
    have f := suf_X q7 c1
    refine ⟨k, r, c1, Or.inr ⟨⟨hs, hc, h9⟩, ?_, ?_⟩⟩
    · rw [f 24 0 (by omega) (by omega) (by rw [kYd 0]; exact nin rfl)]; exact q5
    · rw [f 24 1 (by omega) (by omega) (by rw [kYd 1]; exact nin rfl)]; exact q6
  · refine ⟨oX_0 (Int.le_refl 0) kk0 1 rfl, ?_⟩
    refine ⟨oX_0 (Int.le_refl 0) kk0 13 rfl, ?_⟩
    refine ⟨aX_34 p0.1 p0.2 (by omega) (by omega), ?_⟩
    refine ⟨oX_9 g0.1 g0.2 0 rfl, ?_⟩
    refine ⟨⟨by omega, by omega⟩, ?_⟩
    refine ⟨rX_3 d0.1 d0.2, ?_⟩
    rw [e1, en]
    refine (xrestart_k hA hK (n := n - 3) (m := 0) (by omega) (by omega) (by omega) (by omega)).imp ?_
    rintro ⟨r1, C⟩ ⟨q, q7⟩
    obtain rfl : r1 = none := q.1
    exact ⟨rfl, C, ⟨q, q7⟩, rfl⟩
theorem xseed_ex {A : pm_A} {n s : Int} {F : Int → Int} (hA : gH wX A) (hK : gK wY A) (e1 : A 0 1 = 24) (h : s = 0 ∨ s = 1 → rgX A (A (A 0 13) s) n F ∧ rgS n F) : Cl pmt (an_sh wX) 107 [(2, 0), (0, s)] A (xsP A s n F) := by
  have p0 := fX_0_13 hA (Int.le_refl 0) kk0
  have h7 : s = 0 ∨ s = 1 → Tm pmt (an_sh wX) o_X9_seed 7 ([(2, 0), (0, s)], [], A) (xsP A s n F) := fun hs => by
    have e0 := eX_34 hA p0.1 p0.2 (j := s) (by omega) (by omega)
    have en : A (A (A 0 13) s) 0 = n := (h hs).1.1
    have hn := (h hs).2.1
    refine wq_ok srt_seed (fr := []) (cuts := [16]) (J := fun pc st => (pc = 16 ∧ ∃ z : Int, ((z = 1 ∧ cntF F 100 = n - 3) ∨ (z = 0 ∧ ¬ cntF F 100 = n - 3)) ∧ st = ([(2, 0), (0, s)], [(0, z)], A))) ?_ 9 7 _ ?_
    · rintro pc st (⟨rfl, z, hz, rfl⟩)
      refine wq_ok srt_seed (fr := []) (cuts := [37]) (J := fun pc st => (pc = 37 ∧ (¬ z = 0) ∧ (((A (A (A 0 13) s) 0) - 3) ≤ 6) ∧ st = ([(2, 0), (0, s)], [], A))) ?_ 16 16 _ ?_
      · rintro pc st (⟨rfl, h0, h1, rfl⟩)
        exact sxd_37 hA hK e1 hs (h hs).1 (h hs).2 (by rcases hz with ⟨_, e⟩ | ⟨e, _⟩; exact e; omega) (by omega)
      · refine ⟨fun h0 => ?_, fun h0 => ?_⟩
        · exact ⟨rfl, Or.inl ⟨fun q => absurd q.2.1 (by rcases hz with ⟨e, _⟩ | ⟨_, e⟩; omega; exact e), rfl⟩⟩
        · refine ⟨oX_0 (Int.le_refl 0) kk0 13 rfl, ?_⟩
          refine ⟨aX_34 (fX_0_13 hA (Int.le_refl 0) kk0).1 (fX_0_13 hA (Int.le_refl 0) kk0).2 (by omega) (by omega), ?_⟩
          refine ⟨oX_9 (eX_34 hA (fX_0_13 hA (Int.le_refl 0) kk0).1 (fX_0_13 hA (Int.le_refl 0) kk0).2 (j := s) (by omega) (by omega)).1 (eX_34 hA (fX_0_13 hA (Int.le_refl 0) kk0).1 (fX_0_13 hA (Int.le_refl 0) kk0).2 (j := s) (by omega) (by omega)).2 0 rfl, ?_⟩
          refine ⟨⟨by omega, by omega⟩, ?_⟩
          refine ⟨fun h1 => ?_, fun h1 => ?_⟩
          · exact ⟨rfl, h0, h1, rfl⟩
          · exact ⟨rfl, Or.inl ⟨fun q => by have := q.2.2; omega, rfl⟩⟩
    · refine ⟨oX_0 (Int.le_refl 0) kk0 13 rfl, ?_⟩
      refine ⟨aX_34 (fX_0_13 hA (Int.le_refl 0) kk0).1 (fX_0_13 hA (Int.le_refl 0) kk0).2 (by omega) (by omega), ?_⟩
      refine ⟨rX_9 (eX_34 hA (fX_0_13 hA (Int.le_refl 0) kk0).1 (fX_0_13 hA (Int.le_refl 0) kk0).2 (j := s) (by omega) (by omega)).1 (eX_34 hA (fX_0_13 hA (Int.le_refl 0) kk0).1 (fX_0_13 hA (Int.le_refl 0) kk0).2 (j := s) (by omega) (by omega)).2, ?_⟩
      refine (xcut_ex e0.1 e0.2 (h hs).1 (h hs).2).imp ?_
      rintro ⟨r1, C⟩ ⟨q1, z, q2, hz⟩
      simp only at q1 q2
      subst q1
      subst q2
      exact ⟨rfl, z, hz, rfl⟩
  refine Cl.of (Nat.le_of_ble_eq_true rfl) ?_
  refine wq_ok (full := o_X9_seed) srt_seed (fr := []) (cuts := [4]) (J := fun pc st => (pc = 4 ∧ ∃ x : Int, ((x = 1 ∧ (s = 0 ∨ s = 1)) ∨ (x = 0 ∧ ¬ (s = 0 ∨ s = 1))) ∧ st = ([(2, 0), (0, s)], [(0, x)], A))) ?_ 6 0 _ ?_
  · rintro pc st (⟨rfl, x, hx, rfl⟩)
    refine wq_ok srt_seed (fr := []) (cuts := [7]) (J := fun pc st => (pc = 7 ∧ (¬ x = 0) ∧ st = ([(2, 0), (0, s)], [], A))) ?_ 7 4 _ ?_
    · rintro pc st (⟨rfl, h0, rfl⟩)
      exact h7 (by rcases hx with ⟨_, e⟩ | ⟨e, _⟩; exact e; omega)
    · refine ⟨fun h0 => ?_, fun h0 => ?_⟩
      · exact ⟨rfl, Or.inl ⟨fun q => absurd q.1 (by rcases hx with ⟨e, _⟩ | ⟨_, e⟩; omega; exact e), rfl⟩⟩
      · exact ⟨rfl, h0, rfl⟩
  · refine ⟨rfl, ?_⟩
    refine (xa_isSlot).imp ?_
    rintro ⟨r1, C⟩ ⟨q1, x, q2, hx⟩
    simp only at q1 q2
    subst q1
    subst q2
    exact ⟨rfl, x, hx, rfl⟩
def msP (A : pm_A) (sl : Int) (r : pm_R) : Prop := (¬ okSd sl (A 31 sl) (fcs A sl) ∧ r.2 = A) ∨ (okSd sl (A 31 sl) (fcs A sl) ∧ r.2 0 12 = A 31 sl - 3 ∧ r.2 0 13 = 0)
theorem smd_36 {A : pm_A} {sl : Int} (h : RI A) (ho : okSd sl (A 31 sl) (fcs A sl)) : Tm pmt (an_sh wM) o_X10_seed 36 ([(2, 0), (0, sl), (0, A 31 sl), (9, 0), (9, 0), (9, 0), (9, 0), (9, 0), (9, 0), (9, 0)], [], A) (msP A sl) := by
  have hs := ho.1
  have b31 := eM_31 h.g (r := 31) (by omega) kn31 (j := sl) (by omega) (by omega)
  have hc := ho.2.1
  have h9 := ho.2.2
  have h44 : ∀ B, sdF A B → B 0 12 = A 31 sl - 3 → B 0 13 = 0 → (∀ j : Int, 0 ≤ j → j < 72 → B 7 j = 0) → Tm pmt (an_sh wM) o_X10_seed 44 ([(2, 0), (0, sl), (0, A 31 sl), (9, 0), (9, 0), (9, 0), (9, 0), (9, 0), (9, 0), (9, 0)], [(0, 1)], B) (msP A sl) := fun B q3 q4 q5 q6 => by
    have t : Tm pmt (an_sh wM) o_X10_seed 44 ([(2, 0), (0, sl), (0, A 31 sl), (9, 0), (9, 0), (9, 0), (9, 0), (9, 0), (9, 0), (9, 0)], [(0, 1)], B) ri_post := by
      refine wq_ok srt_Mseed (fr := []) (cuts := [48]) (J := fun pc st => (pc = 48 ∧ st = ([(2, 0), (0, sl), (0, A 31 sl), (0, 1), (0, 0), (9, 0), (9, 0), (9, 0), (9, 0), (9, 0)], [], B))) ?_ 8 44 _ ?_
      · rintro pc st (⟨rfl, rfl⟩)
        exact sde_48 h hs (by omega) (by omega) _ 0 _ _ _ _ _ B (Nat.lt_succ_self _) (by omega) (by omega) ⟨q3, fun i j i0 i1 j0 j1 => by rw [q6 (6 * i + j) (by omega) (by omega)]; exact ⟨by omega, Or.inl rfl⟩⟩
      · exact ⟨rfl, rfl⟩
    obtain ⟨k, r, c1, _⟩ := t
    have f := suf_M (gK_of q3.1) c1
    refine ⟨k, r, c1, Or.inr ⟨ho, ?_, ?_⟩⟩
    · rw [f 0 12 (by omega) (by omega) (by rw [kMd 12]; exact nin rfl)]; exact q4
    · rw [f 0 13 (by omega) (by omega) (by rw [kMd 13]; exact nin rfl)]; exact q5
  refine wq_ok srt_Mseed (fr := []) (cuts := [44]) (J := fun pc st => (pc = 44 ∧ ∃ B, sdF A B ∧ B 0 12 = A 31 sl - 3 ∧ B 0 13 = 0 ∧ (∀ j : Int, 0 ≤ j → j < 72 → B 7 j = 0) ∧ st = ([(2, 0), (0, sl), (0, A 31 sl), (9, 0), (9, 0), (9, 0), (9, 0), (9, 0), (9, 0), (9, 0)], [(0, 1)], B))) ?_ 10 36 _ ?_
  · rintro pc st (⟨rfl, B, q3, q4, q5, q6, rfl⟩)
    exact h44 B q3 q4 q5 q6
  · refine ⟨⟨by omega, by omega⟩, ?_⟩
    refine ⟨rM_0 (by omega) km0, ?_⟩
    refine (table_ex h.g (A 31 sl - 3) 0).imp ?_
    rintro ⟨r1, B⟩ (⟨q1, q2, q3⟩ | ⟨q1, q2, q3, q4, q5, q6⟩)
    · exact absurd (show okT (A 31 sl - 3) 0 from ⟨⟨by omega, by omega⟩, by omega, by omega⟩) q3
    · simp only at q1 q3 q4 q5 q6
      subst q1
      exact ⟨rfl, B, q3, q4, q5, q6, rfl⟩
theorem mseed_ex {A : pm_A} {sl : Int} (h : RI A) : Cl pmt (an_sh wM) 183 [(2, 0), (0, sl)] A (msP A sl) := by
  have c48 := pM_48 h.g
  have e48 : A (A 0 48) sl = A 31 sl := by rw [c48]
  have h8 : sl = 0 ∨ sl = 1 → Tm pmt (an_sh wM) o_X10_seed 8 ([(2, 0), (0, sl), (9, 0), (9, 0), (9, 0), (9, 0), (9, 0), (9, 0), (9, 0), (9, 0)], [], A) (msP A sl) := fun hs => by
    have b31 := eM_31 h.g (r := 31) (by omega) kn31 (j := sl) (by omega) (by omega)
    refine wq_ok srt_Mseed (fr := []) (cuts := [13]) (J := fun pc st => (pc = 13 ∧ ∃ y : Int, ((y = 1 ∧ cntF (fcs A sl) 100 = A 31 sl - 3) ∨ (y = 0 ∧ ¬ cntF (fcs A sl) 100 = A 31 sl - 3)) ∧ st = ([(2, 0), (0, sl), (9, 0), (9, 0), (9, 0), (9, 0), (9, 0), (9, 0), (9, 0), (9, 0)], [(0, y)], A))) ?_ 7 8 _ ?_
    · rintro pc st (⟨rfl, y, hy, rfl⟩)
      refine wq_ok srt_Mseed (fr := []) (cuts := [36]) (J := fun pc st => (pc = 36 ∧ (¬ y = 0) ∧ (¬ (A (A 0 48) sl) = 10) ∧ st = ([(2, 0), (0, sl), (0, A (A 0 48) sl), (9, 0), (9, 0), (9, 0), (9, 0), (9, 0), (9, 0), (9, 0)], [], A))) ?_ 17 13 _ ?_
      · rintro pc st (⟨rfl, h0, h1, rfl⟩)
        rw [c48]
        exact smd_36 h ⟨hs, (by rcases hy with ⟨_, e⟩ | ⟨e, _⟩; exact e; omega), by omega⟩
      · refine ⟨fun h0 => ?_, fun h0 => ?_⟩
        · exact ⟨rfl, Or.inl ⟨fun q => absurd q.2.1 (by rcases hy with ⟨e, _⟩ | ⟨_, e⟩; omega; exact e), rfl⟩⟩
        · refine ⟨oM_0 (by omega) km0 48 rfl, ?_⟩
          refine ⟨aM_31 (r := A 0 48) (by rw [c48]; omega) (by rw [c48]; exact kn31) (by omega) (by omega), ?_⟩
          have e1 : A (A 0 48) sl = A 31 sl := by rw [c48]
          refine ⟨fun h1 => ?_, fun h1 => ?_⟩
          · refine ⟨oM_0 (by omega) km0 48 rfl, ?_⟩
            refine ⟨aM_31 (r := A 0 48) (by rw [c48]; omega) (by rw [c48]; exact kn31) (by omega) (by omega), ?_⟩
            have e2 : A (A 0 48) sl = A 31 sl := by rw [c48]
            exact ⟨rfl, h0, h1, rfl⟩
          · exact ⟨rfl, Or.inl ⟨fun q => by have := q.2.2; omega, rfl⟩⟩
    · refine ⟨rM_0 (by omega) km0, ?_⟩
      refine (isCutting_ex h.g (by omega) (by omega)).imp ?_
      rintro ⟨r1, C⟩ ⟨q1, y, q2, hy⟩
      simp only at q1 q2
      subst q1
      subst q2
      exact ⟨rfl, y, hy, rfl⟩
  refine Cl.of (Nat.le_of_ble_eq_true rfl) ?_
  refine wq_ok (full := o_X10_seed) srt_Mseed (fr := []) (cuts := [5]) (J := fun pc st => (pc = 5 ∧ ∃ x : Int, ((x = 1 ∧ (sl = 0 ∨ sl = 1)) ∨ (x = 0 ∧ ¬ (sl = 0 ∨ sl = 1))) ∧ st = ([(2, 0), (0, sl), (9, 0), (9, 0), (9, 0), (9, 0), (9, 0), (9, 0), (9, 0), (9, 0)], [(0, x)], A))) ?_ 7 0 _ ?_
  · rintro pc st (⟨rfl, x, hx, rfl⟩)
    refine wq_ok srt_Mseed (fr := []) (cuts := [8]) (J := fun pc st => (pc = 8 ∧ (¬ x = 0) ∧ st = ([(2, 0), (0, sl), (9, 0), (9, 0), (9, 0), (9, 0), (9, 0), (9, 0), (9, 0), (9, 0)], [], A))) ?_ 7 5 _ ?_
    · rintro pc st (⟨rfl, h0, rfl⟩)
      exact h8 (by rcases hx with ⟨_, e⟩ | ⟨e, _⟩; exact e; omega)
    · refine ⟨fun h0 => ?_, fun h0 => ?_⟩
      · exact ⟨rfl, Or.inl ⟨fun q => absurd q.1 (by rcases hx with ⟨e, _⟩ | ⟨_, e⟩; omega; exact e), rfl⟩⟩
      · exact ⟨rfl, h0, rfl⟩
  · refine ⟨rM_0 (by omega) km0, ?_⟩
    refine (MisSlot_ex).imp ?_
    rintro ⟨r1, C⟩ ⟨q1, x, q2, hx⟩
    simp only at q1 q2
    subst q1
    subst q2
    exact ⟨rfl, x, hx, rfl⟩
theorem dd_table {AX AM : pm_A} {n m : Int} {q r : pm_R} (h : DD AX AM) (hF : gFk wY [300, 301, 10016] AX q.2) (hq : xtP AX n m q) (hr : tb_post AM n m r) : DD q.2 r.2 := by
  rcases hq with ⟨_, q2, no⟩ | ⟨_, ok, q3, q4⟩
  · rcases hr with ⟨_, r2, _⟩ | ⟨_, ok, _⟩
    · rw [q2, r2]; exact h
    · exact absurd ok no
  · rcases hr with ⟨_, _, no⟩ | ⟨_, _, _, r4, r5, _⟩
    · exact absurd ok no
    · refine ⟨?_, by rw [q3, r4], by rw [q4, r5]⟩
      rw [hF 0 1 (by omega) (by omega) (by rw [(kY 1).1]; exact nin rfl)]; exact h.1
theorem dd_seed {AX AM : pm_A} {s : Int} {q r : pm_R} {ms : List Nat} (h : DD AX AM) (hF : gFk wY ms AX q.2) (n1 : ms.contains 1 = false) (hq : xsP AX s (AM 31 s) (fcs AM s) q) (hr : msP AM s r) : DD q.2 r.2 := by
  rcases hq with ⟨no, q2⟩ | ⟨ok, q3, q4⟩
  · rcases hr with ⟨_, r2⟩ | ⟨ok, _⟩
    · rw [q2, r2]; exact h
    · exact absurd ok no
  · rcases hr with ⟨no, _⟩ | ⟨_, r4, r5⟩
    · exact absurd ok no
    · refine ⟨?_, by rw [q3, r4], by rw [q4, r5]⟩
      rw [hF 0 1 (by omega) (by omega) (by rw [(kY 1).1]; exact nin n1)]; exact h.1
end
