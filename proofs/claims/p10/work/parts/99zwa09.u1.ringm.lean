/-! the reference's rings, exactly: ring, fence, flip -/
def rngP (A : pm_A) (sl n : Int) (r : pm_R) : Prop := (r = (some (0, 0), A) ∧ ¬ okG sl n) ∨ (okG sl n ∧ r.1 = some (0, 1) ∧ r.2 31 sl = n ∧ (∀ f : Int, 0 ≤ f → f < 100 → r.2 32 (100 * sl + f) = 0) ∧ (∀ s : Int, s ≠ sl → r.2 31 s = A 31 s) ∧ ∀ j : Int, (j < 100 * sl ∨ 100 * sl + 100 ≤ j) → r.2 32 j = A 32 j)
theorem rge_30 {A : pm_A} {sl n : Int} (ho : okG sl n) : ∀ (m : Nat) (i : Int) (B : pm_A), (100 - i).toNat < m → 0 ≤ i → i ≤ 100 → gH wM B → B 31 sl = n → (∀ f : Int, 0 ≤ f → f < i → B 32 (100 * sl + f) = 0) → (∀ s : Int, s ≠ sl → B 31 s = A 31 s) → (∀ j : Int, (j < 100 * sl ∨ 100 * sl + 100 ≤ j) → B 32 j = A 32 j) → Tm pmt (an_sh wM) o_X10_ring 30 ([(2, 0), (0, sl), (0, n), (0, i)], [], B) (rngP A sl n) := by
  have ho2 := ho
  unfold okG at ho2
  intro m
  induction m with
  | zero => intro i B h; omega
  | succ m ih =>
    intro i B hm i0 i1 hB e31 hz hs hj
    have c49 := pM_49 hB
    refine wq_ok srt_Mring (fr := []) (cuts := [30]) (J := fun pc st => (pc = 30 ∧ (i < 100) ∧ st = ([(2, 0), (0, sl), (0, n), (0, i + 1)], [], pm_upd B (B 0 49) ((100 * sl) + i) 0))) ?_ 19 30 _ ?_
    · rintro pc st (⟨rfl, h0, rfl⟩)
      rw [c49]
      refine ih (i + 1) _ (by omega) (by omega) (by omega) (uM_32 hB kn32 (by omega) (by omega)) (by rw [upd_o (by omega)]; exact e31) (fun f f0 f1 => ?_) (fun s h => by rw [upd_o (by omega)]; exact hs s h) (fun j h => by rw [upd_o (by omega)]; exact hj j h)
      by_cases e : f = i
      · rw [e, upd_at]
      · rw [upd_o (by omega)]; exact hz f f0 (by omega)
    · refine ⟨fun h0 => ?_, fun h0 => ?_⟩
      · exact ⟨rfl, Or.inr ⟨ho, rfl, e31, fun f f0 f1 => hz f f0 (by omega), hs, hj⟩⟩
      · refine ⟨oM_0 (by omega) km0 49 rfl, ?_⟩
        refine ⟨⟨by omega, by omega⟩, ?_⟩
        refine ⟨⟨by omega, by omega⟩, ?_⟩
        refine ⟨tM_32 (r := B 0 49) (by rw [c49]; omega) (by rw [c49]; exact kn32) (by omega) (by omega) rfl, ?_⟩
        refine ⟨⟨by omega, by omega⟩, ?_⟩
        exact ⟨rfl, h0, rfl⟩
theorem mring_ex {A : pm_A} {sl n : Int} (hA : gH wM A) : Cl pmt (an_sh wM) 177 [(2, 0), (0, sl), (0, n)] A (rngP A sl n) := by
  have c48 := pM_48 hA
  refine Cl.of (Nat.le_of_ble_eq_true rfl) ?_
  refine wq_ok (full := o_X10_ring) srt_Mring (fr := []) (cuts := [5]) (J := fun pc st => (pc = 5 ∧ ∃ x : Int, ((x = 1 ∧ (sl = 0 ∨ sl = 1)) ∨ (x = 0 ∧ ¬ (sl = 0 ∨ sl = 1))) ∧ st = ([(2, 0), (0, sl), (0, n), (9, 0)], [(0, x)], A))) ?_ 7 0 _ ?_
  · rintro pc st (⟨rfl, x, hx, rfl⟩)
    refine wq_ok srt_Mring (fr := []) (cuts := [30]) (J := fun pc st => (pc = 30 ∧ (¬ x = 0) ∧ (4 ≤ n) ∧ (n ≤ 10) ∧ st = ([(2, 0), (0, sl), (0, n), (0, 0)], [], pm_upd A (A 0 48) sl n))) ?_ 19 5 _ ?_
    · rintro pc st (⟨rfl, h0, h1, h2, rfl⟩)
      have hs : sl = 0 ∨ sl = 1 := by omega
      rw [c48]
      exact rge_30 ⟨hs, by omega, by omega⟩ _ 0 _ (Nat.lt_succ_self _) (by omega) (by omega) (uM_31 hA kn31 (by omega) (by omega)) (by rw [upd_at]) (fun f f0 f1 => by omega) (fun s h => upd_o (by omega)) (fun j h => upd_o (by omega))
    · refine ⟨fun h0 => ?_, fun h0 => ?_⟩
      · exact ⟨rfl, Or.inl ⟨rfl, by unfold okG; omega⟩⟩
      · refine ⟨fun h1 => ?_, fun h1 => ?_⟩
        · exact ⟨rfl, Or.inl ⟨rfl, by unfold okG; omega⟩⟩
        · refine ⟨fun h2 => ?_, fun h2 => ?_⟩
          · refine ⟨oM_0 (by omega) km0 48 rfl, ?_⟩
            refine ⟨tM_31 (r := A 0 48) (by rw [c48]; omega) (by rw [c48]; exact kn31) (by omega) (by omega) rfl, ?_⟩
            exact ⟨rfl, h0, h1, h2, rfl⟩
          · exact ⟨rfl, Or.inl ⟨rfl, by unfold okG; omega⟩⟩
  · refine ⟨rM_0 (by omega) km0, ?_⟩
    refine (MisSlot_ex).imp ?_
    rintro ⟨r1, C⟩ ⟨q1, x, q2, hx⟩
    simp only at q1 q2
    subst q1
    subst q2
    exact ⟨rfl, x, hx, rfl⟩
def okF (n : Int) (F : Int → Int) (a b : Int) : Prop := (inC n a ∧ inC n b ∧ ¬ a = b ∧ ¬ neigh n a b) ∧ F (fcd a b) = 0 ∧ ∀ f : Int, 0 ≤ f → f < 100 → F f = 1 → ¬ crossd (min a b) (max a b) (f / 10) (f % 10)
def fncP (A : pm_A) (sl a b : Int) (r : pm_R) : Prop := (r = (some (0, -1), A) ∧ ¬ ((sl = 0 ∨ sl = 1) ∧ okF (A 31 sl) (fcs A sl) a b)) ∨ (((sl = 0 ∨ sl = 1) ∧ okF (A 31 sl) (fcs A sl) a b) ∧ r.2 = pm_upd A 32 (100 * sl + fcd a b) 1 ∧ r.1 = some (0, cntF (fcs r.2 sl) 100))
theorem fe_147 {A : pm_A} {sl a b : Int} {w2 w3 w6 : pm_V} (hA : gH wM A) (hs : sl = 0 ∨ sl = 1) (ho : okF (A 31 sl) (fcs A sl) a b) : Tm pmt (an_sh wM) o_X10_fence 147 ([(2, 0), (0, sl), w2, w3, (0, min a b), (0, max a b), w6], [], A) (fncP A sl a b) := by
  have c49 := pM_49 hA
  have b31 := eM_31 hA (r := 31) (by omega) kn31 (j := sl) (by omega) (by omega)
  have ho2 := ho.1
  unfold inC at ho2
  have e : 100 * sl + 10 * min a b + max a b = 100 * sl + fcd a b := by unfold fcd; omega
  have h166 : ∀ B, B = pm_upd A 32 (100 * sl + fcd a b) 1 → Tm pmt (an_sh wM) o_X10_fence 166 ([(2, 0), (0, sl), w2, w3, (0, min a b), (0, max a b), w6], [], B) (fncP A sl a b) := fun B hB => by
    have hg : gH wM B := by rw [hB]; exact uM_32 hA kn32 (by omega) (by omega)
    refine wq_ok srt_Mfence (fr := []) (cuts := [171]) (J := fun pc st => (pc = 171 ∧ st = ([(2, 0), (0, sl), w2, w3, (0, min a b), (0, max a b), w6], [(0, cntF (fcs B sl) 100)], B))) ?_ 7 166 _ ?_
    · rintro pc st (⟨rfl, rfl⟩)
      refine wq_ok srt_Mfence (fr := []) (cuts := []) (J := fun _ _ => False) ?_ 5 171 _ ?_
      · intro pc st h; exact h.elim
      · exact ⟨rfl, Or.inr ⟨⟨hs, ho⟩, hB, rfl⟩⟩
    · refine ⟨rM_0 (by omega) km0, ?_⟩
      refine (fences_ex hg (by omega) (by omega)).imp ?_
      rintro r rfl
      exact ⟨rfl, rfl⟩
  refine wq_ok srt_Mfence (fr := []) (cuts := [166]) (J := fun pc st => (pc = 166 ∧ st = ([(2, 0), (0, sl), w2, w3, (0, min a b), (0, max a b), w6], [], pm_upd A (A 0 49) (((100 * sl) + (10 * (min a b))) + (max a b)) 1))) ?_ 18 147 _ ?_
  · rintro pc st (⟨rfl, rfl⟩)
    rw [c49, e]
    exact h166 _ rfl
  · refine ⟨oM_0 (by omega) km0 49 rfl, ?_⟩
    refine ⟨⟨by omega, by omega⟩, ?_⟩
    refine ⟨⟨by omega, by omega⟩, ?_⟩
    refine ⟨⟨by omega, by omega⟩, ?_⟩
    refine ⟨⟨by omega, by omega⟩, ?_⟩
    refine ⟨tM_32 (r := A 0 49) (by rw [c49]; omega) (by rw [c49]; exact kn32) (by omega) (by omega) rfl, ?_⟩
    exact ⟨rfl, rfl⟩
theorem fe_97 {A : pm_A} {sl a b : Int} {w2 w3 : pm_V} (hA : gH wM A) (hs : sl = 0 ∨ sl = 1) (ho : (inC (A 31 sl) a ∧ inC (A 31 sl) b ∧ ¬ a = b ∧ ¬ neigh (A 31 sl) a b) ∧ fcs A sl (fcd a b) = 0) : ∀ (m : Nat) (i : Int), (100 - i).toNat < m → 0 ≤ i → i ≤ 100 → (∀ f : Int, 0 ≤ f → f < i → fcs A sl f = 1 → ¬ crossd (min a b) (max a b) (f / 10) (f % 10)) → Tm pmt (an_sh wM) o_X10_fence 97 ([(2, 0), (0, sl), w2, w3, (0, min a b), (0, max a b), (0, i)], [], A) (fncP A sl a b) := by
  have c49 := pM_49 hA
  intro m
  induction m with
  | zero => intro i h; omega
  | succ m ih =>
    intro i hm i0 i1 hc
    have b32 : i < 100 → 0 ≤ A 32 (100 * sl + i) ∧ A 32 (100 * sl + i) ≤ 1 := fun h => eM_32 hA (r := 32) (by omega) kn32 (by omega) (by omega)
    have go : i < 100 → (fcs A sl i = 1 → ¬ crossd (min a b) (max a b) (i / 10) (i % 10)) → Tm pmt (an_sh wM) o_X10_fence 97 ([(2, 0), (0, sl), w2, w3, (0, min a b), (0, max a b), (0, i + 1)], [], A) (fncP A sl a b) := fun hi1 hx => by
      refine ih (i + 1) (by omega) (by omega) (by omega) (fun f f0 f1 => ?_)
      by_cases e : f = i
      · rw [e]; exact hx
      · exact hc f f0 (by omega)
    refine wq_ok srt_Mfence (fr := []) (cuts := [97, 136, 147]) (J := fun pc st => (pc = 147 ∧ (100 ≤ i) ∧ st = ([(2, 0), (0, sl), w2, w3, (0, min a b), (0, max a b), (0, i)], [], A)) ∨ (pc = 97 ∧ (i < 100) ∧ ((A (A 0 49) ((100 * sl) + i)) = 0) ∧ st = ([(2, 0), (0, sl), w2, w3, (0, min a b), (0, max a b), (0, i + 1)], [], A)) ∨ (pc = 136 ∧ (i < 100) ∧ (¬ (A (A 0 49) ((100 * sl) + i)) = 0) ∧ ∃ x : Int, ((x = 1 ∧ crossd (min a b) (max a b) (i / 10) (i % 10)) ∨ (x = 0 ∧ ¬ crossd (min a b) (max a b) (i / 10) (i % 10))) ∧ st = ([(2, 0), (0, sl), w2, w3, (0, min a b), (0, max a b), (0, i)], [(0, x)], A))) ?_ 25 97 _ ?_
    · rintro pc st (⟨rfl, h0, rfl⟩ | ⟨rfl, h0, h1, rfl⟩ | ⟨rfl, h0, h1, x, hx, rfl⟩)
      · exact fe_147 hA hs ⟨ho.1, ho.2, fun f f0 f1 => hc f f0 (by omega)⟩
      · rw [c49] at h1
        exact go (by omega) (fun e => by unfold fcs at e; omega)
      · rw [c49] at h1
        have k1 : fcs A sl i = 1 := by have := b32 h0; unfold fcs; omega
        have k0 := h0
        clear h0 h1
        refine wq_ok srt_Mfence (fr := []) (cuts := [97]) (J := fun pc st => (pc = 97 ∧ (x = 0) ∧ st = ([(2, 0), (0, sl), w2, w3, (0, min a b), (0, max a b), (0, i + 1)], [], A))) ?_ 8 136 _ ?_
        · rintro pc st (⟨rfl, h0, rfl⟩)
          exact go (by omega) (fun _ => (by rcases hx with ⟨e, _⟩ | ⟨_, e⟩; omega; exact e))
        · refine ⟨fun h0 => ?_, fun h0 => ?_⟩
          · refine ⟨⟨by omega, by omega⟩, ?_⟩
            exact ⟨rfl, h0, rfl⟩
          · exact ⟨rfl, Or.inl ⟨rfl, fun q => q.2.2.2 i i0 (by omega) k1 (by rcases hx with ⟨_, e⟩ | ⟨e, _⟩; exact e; omega)⟩⟩
    · refine ⟨fun h0 => ?_, fun h0 => ?_⟩
      · exact Or.inl (⟨rfl, h0, rfl⟩)
      · refine ⟨oM_0 (by omega) km0 49 rfl, ?_⟩
        refine ⟨⟨by omega, by omega⟩, ?_⟩
        refine ⟨⟨by omega, by omega⟩, ?_⟩
        refine ⟨aM_32 (r := A 0 49) (by rw [c49]; omega) (by rw [c49]; exact kn32) (by omega) (by omega), ?_⟩
        have e1 : A (A 0 49) ((100 * sl) + i) = A 32 ((100 * sl) + i) := by rw [c49]
        refine ⟨fun h1 => ?_, fun h1 => ?_⟩
        · refine ⟨⟨by omega, by omega⟩, ?_⟩
          exact Or.inr (Or.inl (⟨rfl, h0, h1, rfl⟩))
        · refine ⟨⟨by omega, by omega, by omega, by omega⟩, ?_⟩
          refine ⟨⟨by omega, by omega, by omega, by omega⟩, ?_⟩
          refine ⟨rfl, ?_⟩
          refine (Mcross_ex (a := min a b) (b := max a b) (c := i / 10) (d := i % 10)).imp ?_
          rintro ⟨r1, C⟩ ⟨q1, x, q2, hx⟩
          simp only at q1 q2
          subst q1
          subst q2
          exact Or.inr (Or.inr (⟨rfl, h0, h1, x, hx, rfl⟩))
theorem mfence_ex {A : pm_A} {sl a b : Int} (hA : gH wM A) : Cl pmt (an_sh wM) 138 [(2, 0), (0, sl), (0, a), (0, b)] A (fncP A sl a b) := by
  have c48 := pM_48 hA
  have c49 := pM_49 hA
  refine Cl.of (Nat.le_of_ble_eq_true rfl) ?_
  refine wq_ok (full := o_X10_fence) srt_Mfence (fr := []) (cuts := [5]) (J := fun pc st => (pc = 5 ∧ ∃ x : Int, ((x = 1 ∧ (sl = 0 ∨ sl = 1)) ∨ (x = 0 ∧ ¬ (sl = 0 ∨ sl = 1))) ∧ st = ([(2, 0), (0, sl), (0, a), (0, b), (9, 0), (9, 0), (9, 0)], [(0, x)], A))) ?_ 7 0 _ ?_
  · rintro pc st (⟨rfl, x, hx, rfl⟩)
    by_cases hs : sl = 0 ∨ sl = 1
    · have b31 := eM_31 hA (r := 31) (by omega) kn31 (j := sl) (by omega) (by omega)
      refine wq_ok srt_Mfence (fr := []) (cuts := [52]) (J := fun pc st => (pc = 52 ∧ (¬ x = 0) ∧ (0 ≤ a) ∧ (a < (A (A 0 48) sl)) ∧ (0 ≤ b) ∧ (b < (A (A 0 48) sl)) ∧ (¬ a = b) ∧ ∃ z : Int, ((z = 1 ∧ neigh (A (A 0 48) sl) a b) ∨ (z = 0 ∧ ¬ neigh (A (A 0 48) sl) a b)) ∧ st = ([(2, 0), (0, sl), (0, a), (0, b), (9, 0), (9, 0), (9, 0)], [(0, z)], A))) ?_ 31 5 _ ?_
      · rintro pc st (⟨rfl, h0, h1, h2, h3, h4, h5, z, hz, rfl⟩)
        rw [c48] at h2 h4 hz
        have k1 := h1
        have k2 := h2
        have k3 := h3
        have k4 := h4
        have k5 := h5
        clear h0 h1 h2 h3 h4 h5
        refine wq_ok srt_Mfence (fr := []) (cuts := [62]) (J := fun pc st => (pc = 62 ∧ (z = 0) ∧ st = ([(2, 0), (0, sl), (0, a), (0, b), (9, 0), (9, 0), (9, 0)], [(0, min a b)], A))) ?_ 8 52 _ ?_
        · rintro pc st (⟨rfl, h0, rfl⟩)
          have hnn : ¬ neigh (A 31 sl) a b := (by rcases hz with ⟨e, _⟩ | ⟨_, e⟩; omega; exact e)
          clear h0
          refine wq_ok srt_Mfence (fr := []) (cuts := [69]) (J := fun pc st => (pc = 69 ∧ st = ([(2, 0), (0, sl), (0, a), (0, b), (0, min a b), (9, 0), (9, 0)], [(0, max a b)], A))) ?_ 8 62 _ ?_
          · rintro pc st (⟨rfl, rfl⟩)
            refine wq_ok srt_Mfence (fr := []) (cuts := [97]) (J := fun pc st => (pc = 97 ∧ ((A (A 0 49) (((100 * sl) + (10 * (min a b))) + (max a b))) = 0) ∧ st = ([(2, 0), (0, sl), (0, a), (0, b), (0, min a b), (0, max a b), (0, 0)], [], A))) ?_ 21 69 _ ?_
            · rintro pc st (⟨rfl, h0, rfl⟩)
              rw [c49] at h0
              refine fe_97 hA hs ⟨⟨⟨k1, k2⟩, ⟨k3, k4⟩, k5, hnn⟩, ?_⟩ _ 0 (Nat.lt_succ_self _) (by omega) (by omega) (fun f f0 f1 => by omega)
              show A 32 (100 * sl + fcd a b) = 0
              rw [show 100 * sl + fcd a b = 100 * sl + 10 * min a b + max a b by unfold fcd; omega]
              exact h0
            · refine ⟨oM_0 (by omega) km0 49 rfl, ?_⟩
              refine ⟨⟨by omega, by omega⟩, ?_⟩
              refine ⟨⟨by omega, by omega⟩, ?_⟩
              refine ⟨⟨by omega, by omega⟩, ?_⟩
              refine ⟨⟨by omega, by omega⟩, ?_⟩
              refine ⟨aM_32 (r := A 0 49) (by rw [c49]; omega) (by rw [c49]; exact kn32) (by omega) (by omega), ?_⟩
              have e1 : A (A 0 49) (((100 * sl) + (10 * (min a b))) + (max a b)) = A 32 (((100 * sl) + (10 * (min a b))) + (max a b)) := by rw [c49]
              refine ⟨fun h0 => ?_, fun h0 => ?_⟩
              · exact ⟨rfl, h0, rfl⟩
              · exact ⟨rfl, Or.inl ⟨rfl, fun q => by have q1 := q.2.2.1; unfold fcs at q1; rw [show 100 * sl + fcd a b = 100 * sl + 10 * min a b + max a b by unfold fcd; omega] at q1; rw [c49] at h0; exact h0 q1⟩⟩
          · refine ⟨rfl, ?_⟩
            refine (greater_ex).imp ?_
            rintro r rfl
            exact ⟨rfl, rfl⟩
        · refine ⟨fun h0 => ?_, fun h0 => ?_⟩
          · refine ⟨rfl, ?_⟩
            refine (lesser_ex).imp ?_
            rintro r rfl
            exact ⟨rfl, h0, rfl⟩
          · exact ⟨rfl, Or.inl ⟨rfl, fun q => q.2.1.2.2.2 (by rcases hz with ⟨_, e⟩ | ⟨e, _⟩; exact e; omega)⟩⟩
      · refine ⟨fun h0 => ?_, fun h0 => ?_⟩
        · exact ⟨rfl, Or.inl ⟨rfl, fun q => by have q1 := q.2.1; unfold inC at q1; (try rw [c48] at *); omega⟩⟩
        · refine ⟨fun h1 => ?_, fun h1 => ?_⟩
          · exact ⟨rfl, Or.inl ⟨rfl, fun q => by have q1 := q.2.1; unfold inC at q1; (try rw [c48] at *); omega⟩⟩
          · refine ⟨oM_0 (by omega) km0 48 rfl, ?_⟩
            refine ⟨aM_31 (r := A 0 48) (by rw [c48]; omega) (by rw [c48]; exact kn31) (by omega) (by omega), ?_⟩
            have e1 : A (A 0 48) sl = A 31 sl := by rw [c48]
            refine ⟨fun h2 => ?_, fun h2 => ?_⟩
            · exact ⟨rfl, Or.inl ⟨rfl, fun q => by have q1 := q.2.1; unfold inC at q1; (try rw [c48] at *); omega⟩⟩
            · refine ⟨fun h3 => ?_, fun h3 => ?_⟩
              · exact ⟨rfl, Or.inl ⟨rfl, fun q => by have q1 := q.2.1; unfold inC at q1; (try rw [c48] at *); omega⟩⟩
              · refine ⟨oM_0 (by omega) km0 48 rfl, ?_⟩
                refine ⟨aM_31 (r := A 0 48) (by rw [c48]; omega) (by rw [c48]; exact kn31) (by omega) (by omega), ?_⟩
                have e2 : A (A 0 48) sl = A 31 sl := by rw [c48]
                refine ⟨fun h4 => ?_, fun h4 => ?_⟩
                · exact ⟨rfl, Or.inl ⟨rfl, fun q => by have q1 := q.2.1; unfold inC at q1; (try rw [c48] at *); omega⟩⟩
                · refine ⟨fun h5 => ?_, fun h5 => ?_⟩
                  · exact ⟨rfl, Or.inl ⟨rfl, fun q => by have q1 := q.2.1; unfold inC at q1; (try rw [c48] at *); omega⟩⟩
                  · refine ⟨oM_0 (by omega) km0 48 rfl, ?_⟩
                    refine ⟨aM_31 (r := A 0 48) (by rw [c48]; omega) (by rw [c48]; exact kn31) (by omega) (by omega), ?_⟩
                    have e3 : A (A 0 48) sl = A 31 sl := by rw [c48]
                    refine ⟨rfl, ?_⟩
                    refine (MareNeighbours_ex (n := A (A 0 48) sl) (x := a) (y := b) (by rw [c48]; exact b31.1) (by rw [c48]; exact b31.2) (by omega) (by rw [c48] at h2; omega) (by omega) (by rw [c48] at h4; omega)).imp ?_
                    rintro ⟨r1, C⟩ ⟨q1, z, q2, hz⟩
                    simp only at q1 q2
                    subst q1
                    subst q2
                    exact ⟨rfl, h0, h1, h2, h3, h4, h5, z, hz, rfl⟩
    · have ex : x = 0 := by
        rcases hx with ⟨_, e⟩ | ⟨e, _⟩
        · exact absurd e hs
        · exact e
      refine wq_ok srt_Mfence (fr := []) (cuts := [8]) (J := fun pc st => (pc = 8 ∧ (¬ x = 0) ∧ st = ([(2, 0), (0, sl), (0, a), (0, b), (9, 0), (9, 0), (9, 0)], [], A))) ?_ 7 5 _ ?_
      · rintro pc st (⟨rfl, h0, rfl⟩)
        omega
      · refine ⟨fun h0 => ?_, fun h0 => ?_⟩
        · exact ⟨rfl, Or.inl ⟨rfl, fun q => hs q.1⟩⟩
        · exact ⟨rfl, h0, rfl⟩
  · refine ⟨rM_0 (by omega) km0, ?_⟩
    refine (MisSlot_ex).imp ?_
    rintro ⟨r1, C⟩ ⟨q1, x, q2, hx⟩
    simp only at q1 q2
    subst q1
    subst q2
    exact ⟨rfl, x, hx, rfl⟩
def okL (n : Int) (F : Int → Int) (a b : Int) : Prop := cntF F 100 = n - 3 ∧ inC n a ∧ inC n b ∧ ¬ a = b ∧ F (fcd a b) = 1
def flpP (A : pm_A) (sl a b : Int) (r : pm_R) : Prop := (r = (some (0, -1), A) ∧ ¬ ((sl = 0 ∨ sl = 1) ∧ okL (A 31 sl) (fcs A sl) a b)) ∨ (((sl = 0 ∨ sl = 1) ∧ okL (A 31 sl) (fcs A sl) a b) ∧ ∃ i o, oth (A 31 sl) (fcs A sl) (fcd a b) i o ∧ r.2 = pm_upd (pm_upd A 32 (100 * sl + fcd a b) 0) 32 (100 * sl + cod i o) 1 ∧ r.1 = some (0, 100 * min i o + max i o))
theorem named_eq {A : pm_A} {f : Int} (f0 : 0 ≤ f) (f1 : f ≤ 99) : Cl pmt (an_sh wM) 167 [(0, f)] A (fun r => r = (some (0, 100 * (f / 10) + f % 10), A)) := by
  refine Cl.of (Nat.le_of_ble_eq_true rfl) ?_
  refine wq_ok (full := o_X10_named) srt_Mnamed (fr := []) (cuts := []) (J := fun _ _ => False) ?_ 14 0 _ ?_
  · intro pc st h; exact h.elim
  · refine ⟨⟨by omega, by omega, by omega, by omega⟩, ?_⟩
    refine ⟨(show r32 (100 * (f / 10) : Int) from ⟨by omega, by omega⟩), ?_⟩
    refine ⟨⟨by omega, by omega, by omega, by omega⟩, ?_⟩
    refine ⟨(show r32 ((100 * (f / 10)) + (f % 10) : Int) from ⟨by omega, by omega⟩), ?_⟩
    exact ⟨rfl, rfl⟩
theorem le_51 {A : pm_A} {sl a b : Int} (h : RI A) (hs : sl = 0 ∨ sl = 1) (hcut : cntF (fcs A sl) 100 = A 31 sl - 3) (a0 : 0 ≤ a) (a1 : a < A 31 sl) (b0 : 0 ≤ b) (b1 : b < A 31 sl) (hab : ¬ a = b) : Tm pmt (an_sh wM) o_X10_flip 51 ([(2, 0), (0, sl), (0, a), (0, b), (9, 0)], [], A) (flpP A sl a b) := by
  have c49 := pM_49 h.g
  have b31 := eM_31 h.g (r := 31) (by omega) kn31 (j := sl) (by omega) (by omega)
  have hC : cutS (A 31 sl) (fcs A sl) := ⟨h.2.2 sl hs, hcut⟩
  have h67 : ∀ f, f = fcd a b → 0 ≤ f → f < 100 → Tm pmt (an_sh wM) o_X10_flip 67 ([(2, 0), (0, sl), (0, a), (0, b), (0, f)], [], A) (flpP A sl a b) := fun f hfe f0 f1 => by
    have b32 := eM_32 h.g (r := 32) (by omega) kn32 (j := 100 * sl + f) (by omega) (by omega)
    refine wq_ok srt_Mflip (fr := []) (cuts := [89]) (J := fun pc st => (pc = 89 ∧ ∃ C i o, fcs A sl f = 1 ∧ oth (A 31 sl) (fcs A sl) f i o ∧ C = pm_upd (pm_upd A 32 (100 * sl + f) 0) 32 (100 * sl + cod i o) 1 ∧ st = ([(2, 0), (0, sl), (0, a), (0, b), (0, f)], [(0, cod i o)], C))) ?_ 17 67 _ ?_
    · rintro pc st (⟨rfl, C, i, o, hf, ho, q3, rfl⟩)
      refine wq_ok srt_Mflip (fr := []) (cuts := [92]) (J := fun pc st => (pc = 92 ∧ st = ([(2, 0), (0, sl), (0, a), (0, b), (0, f)], [(0, 100 * (cod i o / 10) + cod i o % 10)], C))) ?_ 5 89 _ ?_
      · rintro pc st (⟨rfl, rfl⟩)
        refine wq_ok srt_Mflip (fr := []) (cuts := []) (J := fun _ _ => False) ?_ 6 92 _ ?_
        · intro pc st h; exact h.elim
        · exact ⟨rfl, Or.inr ⟨⟨hs, hcut, ⟨a0, a1⟩, ⟨b0, b1⟩, hab, by rw [← hfe]; exact hf⟩, i, o, by rw [← hfe]; exact ho, by rw [← hfe]; exact q3, by have hb := cod_b hC.1 f0 f1 hf ho; rw [hb.2.2.1, hb.2.2.2.1]⟩⟩
      · refine ⟨rfl, ?_⟩
        have hb := cod_b hC.1 f0 f1 hf ho
        refine (named_eq hb.1 (by omega)).imp ?_
        rintro r rfl
        exact ⟨rfl, rfl⟩
    · refine ⟨oM_0 (by omega) km0 49 rfl, ?_⟩
      refine ⟨⟨by omega, by omega⟩, ?_⟩
      refine ⟨⟨by omega, by omega⟩, ?_⟩
      refine ⟨aM_32 (r := A 0 49) (by rw [c49]; omega) (by rw [c49]; exact kn32) (by omega) (by omega), ?_⟩
      have e1 : A (A 0 49) ((100 * sl) + f) = A 32 ((100 * sl) + f) := by rw [c49]
      refine ⟨fun h0 => ?_, fun h0 => ?_⟩
      · exact ⟨rfl, Or.inl ⟨rfl, fun q => by have q1 := q.2.2.2.2.2; rw [← hfe] at q1; unfold fcs at q1; rw [c49] at h0; omega⟩⟩
      · refine ⟨rM_0 (by omega) km0, ?_⟩
        have hf : fcs A sl f = 1 := by rw [c49] at h0; unfold fcs; omega
        refine (flips_ex h.g (by omega) (by omega) hC f0 f1 hf).imp ?_
        rintro ⟨r1, C⟩ ⟨i, o, ho, q1, q2, q3⟩
        simp only at q1 q2 q3
        subst q1
        exact ⟨rfl, C, i, o, hf, ho, q3, rfl⟩
  refine wq_ok srt_Mflip (fr := []) (cuts := [58]) (J := fun pc st => (pc = 58 ∧ st = ([(2, 0), (0, sl), (0, a), (0, b), (9, 0)], [(0, min a b), (0, 10)], A))) ?_ 8 51 _ ?_
  · rintro pc st (⟨rfl, rfl⟩)
    refine wq_ok srt_Mflip (fr := []) (cuts := [64]) (J := fun pc st => (pc = 64 ∧ st = ([(2, 0), (0, sl), (0, a), (0, b), (9, 0)], [(0, max a b), (0, 10 * (min a b))], A))) ?_ 8 58 _ ?_
    · rintro pc st (⟨rfl, rfl⟩)
      refine wq_ok srt_Mflip (fr := []) (cuts := [67]) (J := fun pc st => (pc = 67 ∧ st = ([(2, 0), (0, sl), (0, a), (0, b), (0, (10 * (min a b)) + (max a b))], [], A))) ?_ 7 64 _ ?_
      · rintro pc st (⟨rfl, rfl⟩)
        exact h67 _ (by unfold fcd; rfl) (by omega) (by omega)
      · refine ⟨⟨by omega, by omega⟩, ?_⟩
        exact ⟨rfl, rfl⟩
    · refine ⟨⟨by omega, by omega⟩, ?_⟩
      refine ⟨rfl, ?_⟩
      refine (greater_ex).imp ?_
      rintro r rfl
      exact ⟨rfl, rfl⟩
  · refine ⟨rfl, ?_⟩
    refine (lesser_ex).imp ?_
    rintro r rfl
    exact ⟨rfl, rfl⟩
theorem mflip_ex {A : pm_A} {sl a b : Int} (h : RI A) : Cl pmt (an_sh wM) 143 [(2, 0), (0, sl), (0, a), (0, b)] A (flpP A sl a b) := by
  have c48 := pM_48 h.g
  have h8 : sl = 0 ∨ sl = 1 → Tm pmt (an_sh wM) o_X10_flip 8 ([(2, 0), (0, sl), (0, a), (0, b), (9, 0)], [], A) (flpP A sl a b) := fun hs => by
    have b31 := eM_31 h.g (r := 31) (by omega) kn31 (j := sl) (by omega) (by omega)
    refine wq_ok srt_Mflip (fr := []) (cuts := [13]) (J := fun pc st => (pc = 13 ∧ ∃ x : Int, ((x = 1 ∧ (cntF (fcs A sl) 100 = A 31 sl - 3)) ∨ (x = 0 ∧ ¬ (cntF (fcs A sl) 100 = A 31 sl - 3))) ∧ st = ([(2, 0), (0, sl), (0, a), (0, b), (9, 0)], [(0, x)], A))) ?_ 7 8 _ ?_
    · rintro pc st (⟨rfl, x, hx, rfl⟩)
      refine wq_ok srt_Mflip (fr := []) (cuts := [51]) (J := fun pc st => (pc = 51 ∧ (¬ x = 0) ∧ (0 ≤ a) ∧ (a < (A (A 0 48) sl)) ∧ (0 ≤ b) ∧ (b < (A (A 0 48) sl)) ∧ (¬ a = b) ∧ st = ([(2, 0), (0, sl), (0, a), (0, b), (9, 0)], [], A))) ?_ 26 13 _ ?_
      · rintro pc st (⟨rfl, h0, h1, h2, h3, h4, h5, rfl⟩)
        rw [c48] at h2 h4
        exact le_51 h hs (by rcases hx with ⟨_, e⟩ | ⟨e, _⟩; exact e; omega) h1 h2 h3 h4 h5
      · refine ⟨fun h0 => ?_, fun h0 => ?_⟩
        · exact ⟨rfl, Or.inl ⟨rfl, fun q => by have q1 := q.2; unfold okL inC at q1; (try rw [c48] at *); rcases hx with ⟨_, e⟩ | ⟨e0, e⟩ <;> omega⟩⟩
        · refine ⟨fun h1 => ?_, fun h1 => ?_⟩
          · exact ⟨rfl, Or.inl ⟨rfl, fun q => by have q1 := q.2; unfold okL inC at q1; (try rw [c48] at *); rcases hx with ⟨_, e⟩ | ⟨e0, e⟩ <;> omega⟩⟩
          · refine ⟨oM_0 (by omega) km0 48 rfl, ?_⟩
            refine ⟨aM_31 (r := A 0 48) (by rw [c48]; omega) (by rw [c48]; exact kn31) (by omega) (by omega), ?_⟩
            have e1 : A (A 0 48) sl = A 31 sl := by rw [c48]
            refine ⟨fun h2 => ?_, fun h2 => ?_⟩
            · exact ⟨rfl, Or.inl ⟨rfl, fun q => by have q1 := q.2; unfold okL inC at q1; (try rw [c48] at *); rcases hx with ⟨_, e⟩ | ⟨e0, e⟩ <;> omega⟩⟩
            · refine ⟨fun h3 => ?_, fun h3 => ?_⟩
              · exact ⟨rfl, Or.inl ⟨rfl, fun q => by have q1 := q.2; unfold okL inC at q1; (try rw [c48] at *); rcases hx with ⟨_, e⟩ | ⟨e0, e⟩ <;> omega⟩⟩
              · refine ⟨oM_0 (by omega) km0 48 rfl, ?_⟩
                refine ⟨aM_31 (r := A 0 48) (by rw [c48]; omega) (by rw [c48]; exact kn31) (by omega) (by omega), ?_⟩
                have e2 : A (A 0 48) sl = A 31 sl := by rw [c48]
                refine ⟨fun h4 => ?_, fun h4 => ?_⟩
                · exact ⟨rfl, Or.inl ⟨rfl, fun q => by have q1 := q.2; unfold okL inC at q1; (try rw [c48] at *); rcases hx with ⟨_, e⟩ | ⟨e0, e⟩ <;> omega⟩⟩
                · refine ⟨fun h5 => ?_, fun h5 => ?_⟩
                  · exact ⟨rfl, h0, h1, h2, h3, h4, h5, rfl⟩
                  · exact ⟨rfl, Or.inl ⟨rfl, fun q => by have q1 := q.2; unfold okL inC at q1; (try rw [c48] at *); rcases hx with ⟨_, e⟩ | ⟨e0, e⟩ <;> omega⟩⟩
    · refine ⟨rM_0 (by omega) km0, ?_⟩
      refine (isCutting_ex h.g (sl := sl) (by omega) (by omega)).imp ?_
      rintro ⟨r1, C⟩ ⟨q1, x, q2, hx⟩
      simp only at q1 q2
      subst q1
      subst q2
      exact ⟨rfl, x, hx, rfl⟩
  refine Cl.of (Nat.le_of_ble_eq_true rfl) ?_
  refine wq_ok (full := o_X10_flip) srt_Mflip (fr := []) (cuts := [5]) (J := fun pc st => (pc = 5 ∧ ∃ x : Int, ((x = 1 ∧ (sl = 0 ∨ sl = 1)) ∨ (x = 0 ∧ ¬ (sl = 0 ∨ sl = 1))) ∧ st = ([(2, 0), (0, sl), (0, a), (0, b), (9, 0)], [(0, x)], A))) ?_ 7 0 _ ?_
  · rintro pc st (⟨rfl, x, hx, rfl⟩)
    refine wq_ok srt_Mflip (fr := []) (cuts := [8]) (J := fun pc st => (pc = 8 ∧ (¬ x = 0) ∧ st = ([(2, 0), (0, sl), (0, a), (0, b), (9, 0)], [], A))) ?_ 7 5 _ ?_
    · rintro pc st (⟨rfl, h0, rfl⟩)
      exact h8 (by rcases hx with ⟨_, e⟩ | ⟨e, _⟩; exact e; omega)
    · refine ⟨fun h0 => ?_, fun h0 => ?_⟩
      · exact ⟨rfl, Or.inl ⟨rfl, fun q => absurd q.1 (by rcases hx with ⟨e, _⟩ | ⟨_, e⟩; omega; exact e)⟩⟩
      · exact ⟨rfl, h0, rfl⟩
  · refine ⟨rM_0 (by omega) km0, ?_⟩
    refine (MisSlot_ex).imp ?_
    rintro ⟨r1, C⟩ ⟨q1, x, q2, hx⟩
    simp only at q1 q2
    subst q1
    subst q2
    exact ⟨rfl, x, hx, rfl⟩
