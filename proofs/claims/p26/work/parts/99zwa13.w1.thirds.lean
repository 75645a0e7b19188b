/-! thirds of a corner, counted in both ways; the i-th fence -/
theorem cnt_sh (G : Int → Int) (a : Nat) : ∀ k : Nat, cntF G (a + k) = cntF G a + cntF (fun q => G ((a : Int) + q)) k
  | 0 => by show cntF G a = cntF G a + 0; omega
  | k + 1 => by
    rw [show a + (k + 1) = (a + k) + 1 from rfl, cntF_s, cntF_s, cnt_sh G a k]
    have e : iz G ((a + k : Nat) : Int) = iz (fun q => G ((a : Int) + q)) (k : Int) := by
      unfold iz
      rw [show ((a + k : Nat) : Int) = (a : Int) + (k : Int) by omega]
    rw [e]; omega
theorem cnt_skip {G : Int → Int} {x y : Nat} (h : x ≤ y) (hz : ∀ f : Int, (x : Int) ≤ f → f < y → G f = 0) : cntF G x = cntF G y := by
  have e := cnt_sh G x (y - x)
  rw [show x + (y - x) = y by omega, cntF_zero (F := fun q => G ((x : Int) + q)) (y - x) (fun f f0 f1 => hz _ (by omega) (by omega))] at e
  omega
theorem cntF_iz {F G : Int → Int} : ∀ n : Nat, (∀ f : Int, 0 ≤ f → f < n → iz F f = iz G f) → cntF F n = cntF G n
  | 0, _ => rfl
  | n + 1, h => by rw [cntF_s, cntF_s, cntF_iz n (fun f f0 f1 => h f f0 (by omega)), h n (by omega) (by omega)]
theorem cnt_one10 (X : Int → Int) (c : Int) (c0 : 0 ≤ c) (c9 : c ≤ 9) (h : ∀ q : Int, 0 ≤ q → q < 10 → q ≠ c → X q = 0) : cntF X 10 = iz X c := by
  have e : cntF X 10 = cntF (one1 X c) 10 := cntF_iz 10 (fun q q0 q1 => by
    by_cases e : q = c
    · unfold iz one1
      rw [e]
      by_cases z : X c = 0 <;> simp [z]
    · unfold iz one1
      rw [h q q0 (by omega) e]
      simp [e])
  rw [e, cntF_one X c c0 10, if_pos (by omega)]
def tG (F : Int → Int) (c : Int) : Int → Int := fun f => if f / 10 = c ∨ f % 10 = c then F f else 0
def tR (F : Int → Int) (c : Int) : Int → Int := fun f => if f / 10 = c then F f else 0
def tC (F : Int → Int) (c : Int) : Int → Int := fun f => if f % 10 = c ∧ ¬ f / 10 = c then F f else 0
def tX (F : Int → Int) (c : Int) : Int → Int := fun d => if c = d then 0 else F (fcd c d)
theorem nofence {n : Int} {F : Int → Int} (hS : rgS n F) {p q : Int} (p0 : 0 ≤ p) (p9 : p ≤ 9) (q0 : 0 ≤ q) (q9 : q ≤ 9) (h : q ≤ p ∨ n ≤ q) : F (10 * p + q) = 0 := by
  refine (hS.2.1 _ (by omega) (by omega)).resolve_right (fun e => ?_)
  have := (hS.2.2 _ (by omega) (by omega) e).1
  omega
theorem tR_cnt {F : Int → Int} {c : Int} (c0 : 0 ≤ c) (c9 : c ≤ 9) : cntF (tR F c) 100 = cntF (fun q => tR F c (10 * c + q)) 10 := by
  have e1 := cnt_sh (tR F c) (10 * c.toNat) 10
  have e2 := cnt_sh (tR F c) (10 * c.toNat + 10) (90 - 10 * c.toNat)
  have z1 : cntF (tR F c) (10 * c.toNat) = 0 := cntF_zero _ (fun f f0 f1 => by unfold tR; rw [if_neg (by omega)])
  have z2 : cntF (fun q => tR F c (((10 * c.toNat + 10 : Nat) : Int) + q)) (90 - 10 * c.toNat) = 0 := cntF_zero _ (fun f f0 f1 => by unfold tR; rw [if_neg (by omega)])
  rw [z1] at e1
  rw [z2, show 10 * c.toNat + 10 + (90 - 10 * c.toNat) = 100 by omega] at e2
  have e3 : cntF (fun q => tR F c (((10 * c.toNat : Nat) : Int) + q)) 10 = cntF (fun q => tR F c (10 * c + q)) 10 := cntF_congr 10 (fun f f0 f1 => by
    show tR F c (((10 * c.toNat : Nat) : Int) + f) = tR F c (10 * c + f)
    rw [show ((10 * c.toNat : Nat) : Int) + f = 10 * c + f by omega])
  omega
theorem tC_cnt {F : Int → Int} {c : Int} (c0 : 0 ≤ c) (c9 : c ≤ 9) : ∀ k : Nat, cntF (tC F c) (10 * k) = cntF (fun p => tC F c (10 * p + c)) k
  | 0 => rfl
  | k + 1 => by
    have e2 := cnt_one10 (fun q => tC F c (((10 * k : Nat) : Int) + q)) c c0 c9 (fun q q0 q1 hq => by
      show tC F c (((10 * k : Nat) : Int) + q) = 0
      unfold tC
      rw [if_neg (by omega)])
    have e : iz (fun q => tC F c (((10 * k : Nat) : Int) + q)) c = iz (fun p => tC F c (10 * p + c)) (k : Int) := by
      unfold iz
      show (if tC F c (((10 * k : Nat) : Int) + c) = 0 then (0 : Int) else 1) = if tC F c (10 * (k : Int) + c) = 0 then 0 else 1
      rw [show ((10 * k : Nat) : Int) = 10 * (k : Int) by omega]
    rw [show 10 * (k + 1) = 10 * k + 10 from rfl, cnt_sh (tC F c) (10 * k) 10, tC_cnt c0 c9 k, e2, e, cntF_s]
theorem th_eq {n : Int} {F : Int → Int} (hS : rgS n F) {c : Int} (c0 : 0 ≤ c) (c1 : c < n) : cntF (tX F c) n.toNat = cntF (tG F c) 100 := by
  have hn := hS.1
  have zz : ∀ k : Nat, cntF (fun _ => 0) k = 0 := fun k => cntF_zero k (fun _ _ _ => rfl)
  have e1 : cntF (tG F c) 100 = cntF (tR F c) 100 + cntF (tC F c) 100 + cntF (fun _ => 0) 100 := cntF_sum 100 (fun f f0 f1 => by
    show (if tG F c f = 0 then (0 : Int) else 1) = (if tR F c f = 0 then 0 else 1) + (if tC F c f = 0 then 0 else 1) + (if (0 : Int) = 0 then 0 else 1)
    unfold tG tR tC
    by_cases a : f / 10 = c
    · by_cases b : f % 10 = c <;> simp [a, b]
    · by_cases b : f % 10 = c <;> simp [a, b])
  have e2 : cntF (tX F c) 10 = cntF (fun q => tR F c (10 * c + q)) 10 + cntF (fun p => tC F c (10 * p + c)) 10 + cntF (fun _ => 0) 10 := cntF_sum 10 (fun d d0 d1 => by
    have h1 : tR F c (10 * c + d) = F (10 * c + d) := by unfold tR; rw [if_pos (by omega)]
    have h2 : tC F c (10 * d + c) = if d = c then 0 else F (10 * d + c) := by
      unfold tC
      by_cases e : d = c
      · rw [if_neg (by omega), if_pos e]
      · rw [if_pos ⟨by omega, by omega⟩, if_neg e]
    show (if tX F c d = 0 then (0 : Int) else 1) = (if tR F c (10 * c + d) = 0 then 0 else 1) + (if tC F c (10 * d + c) = 0 then 0 else 1) + (if (0 : Int) = 0 then 0 else 1)
    rw [h1, h2]
    unfold tX
    rcases Int.lt_trichotomy c d with e | e | e
    · have z := nofence hS (p := d) (q := c) (by omega) (by omega) (by omega) (by omega) (Or.inl (by omega))
      rw [if_neg (show ¬ c = d by omega), if_neg (show ¬ d = c by omega), z, show fcd c d = 10 * c + d by unfold fcd; omega]
      simp
    · have z := nofence hS (p := c) (q := d) (by omega) (by omega) (by omega) (by omega) (Or.inl (by omega))
      rw [if_pos e, if_pos e.symm, z]
      simp
    · have z := nofence hS (p := c) (q := d) (by omega) (by omega) (by omega) (by omega) (Or.inl (by omega))
      rw [if_neg (show ¬ c = d by omega), if_neg (show ¬ d = c by omega), z, show fcd c d = 10 * d + c by unfold fcd; omega]
      simp)
  have e3 : cntF (tX F c) n.toNat = cntF (tX F c) 10 := cnt_skip (by omega) (fun d d0 d1 => by
    unfold tX
    have z := nofence hS (p := c) (q := d) (by omega) (by omega) (by omega) (by omega) (Or.inr (by omega))
    rw [if_neg (show ¬ c = d by omega), show fcd c d = 10 * c + d by unfold fcd; omega, z])
  have e4 : cntF (tC F c) 100 = cntF (fun p => tC F c (10 * p + c)) 10 := tC_cnt c0 (by omega) 10
  have e5 := tR_cnt (F := F) c0 (show c ≤ 9 by omega)
  have z1 := zz 100
  have z2 := zz 10
  omega
theorem srt_Xthirds : pm_srt o_X6_thirds = true := by decide +kernel
theorem xth_4 {A : pm_A} {r n c : Int} {F : Int → Int} (r0 : 0 ≤ r) (rk : wX.2 r = 9) (h : rgX A r n F) (hS : rgS n F) (c0 : 0 ≤ c) (c1 : c < n) : ∀ (m : Nat) (i : Nat), 10 - i < m → (i : Int) ≤ n → Tm pmt (an_sh wX) o_X6_thirds 4 ([(2, r), (0, c), (0, 1 + cntF (tX F c) i), (0, (i : Int))], [], A) (fun q => q = (some (0, 1 + cntF (tX F c) n.toNat), A)) := by
  have e0 := h.1
  have hn := hS.1
  intro m
  induction m with
  | zero => intro i h; omega
  | succ m ih =>
    intro i hm i1
    have hb := cntF_b (tX F c) i
    have st : cntF (tX F c) (i + 1) = cntF (tX F c) i + (if tX F c i = 0 then 0 else 1) := rfl
    have ny : hsP F c i → cntF (tX F c) (i + 1) = cntF (tX F c) i + 1 := fun k => by
      rw [st, if_neg (by unfold tX; rw [if_neg k.1, k.2]; omega)]
    have nn : (i : Int) < n → ¬ hsP F c i → cntF (tX F c) (i + 1) = cntF (tX F c) i := fun k0 k => by
      have z : tX F c i = 0 := by
        unfold tX
        by_cases e : c = i
        · rw [if_pos e]
        · rw [if_neg e]
          exact (hS.2.1 _ (by unfold fcd; omega) (by unfold fcd; omega)).resolve_right (fun q => k ⟨e, q⟩)
      rw [st, if_pos z, Int.add_zero]
    refine wq_ok srt_Xthirds (fr := []) (cuts := [18]) (J := fun pc st => (pc = 18 ∧ (((i : Int)) < (A r 0)) ∧ ∃ x : Int, ((x = 1 ∧ hsP F c i) ∨ (x = 0 ∧ ¬ hsP F c i)) ∧ st = ([(2, r), (0, c), (0, 1 + cntF (tX F c) i), (0, (i : Int))], [(0, x)], A))) ?_ 12 4 _ ?_
    · rintro pc st (⟨rfl, h0, x, hx, rfl⟩)
      have g0 : (i : Int) < n := by rw [← e0]; assumption
      refine wq_ok srt_Xthirds (fr := []) (cuts := [4]) (J := fun pc st => (pc = 4 ∧ (x = 0) ∧ st = ([(2, r), (0, c), (0, 1 + cntF (tX F c) i), (0, ((i : Int)) + 1)], [], A)) ∨ (pc = 4 ∧ (¬ x = 0) ∧ st = ([(2, r), (0, c), (0, (1 + cntF (tX F c) i) + 1), (0, ((i : Int)) + 1)], [], A))) ?_ 9 18 _ ?_
      · rintro pc st (⟨rfl, h0, rfl⟩ | ⟨rfl, h0, rfl⟩)
        · have k := nn g0 (by rcases hx with ⟨e, _⟩ | ⟨_, e⟩; omega; exact e)
          rw [← k, show (i : Int) + 1 = ((i + 1 : Nat) : Int) by omega]
          exact ih (i + 1) (by omega) (by omega)
        · have k := ny (by rcases hx with ⟨_, e⟩ | ⟨e, _⟩; exact e; omega)
          rw [show 1 + cntF (tX F c) i + 1 = 1 + cntF (tX F c) (i + 1) by omega, show (i : Int) + 1 = ((i + 1 : Nat) : Int) by omega]
          exact ih (i + 1) (by omega) (by omega)
      · refine ⟨fun h0 => ?_, fun h0 => ?_⟩
        · refine ⟨⟨by omega, by omega⟩, ?_⟩
          exact Or.inl (⟨rfl, h0, rfl⟩)
        · refine ⟨⟨by omega, by omega⟩, ?_⟩
          refine ⟨⟨by omega, by omega⟩, ?_⟩
          exact Or.inr (⟨rfl, h0, rfl⟩)
    · refine ⟨oX_9 r0 rk 0 rfl, ?_⟩
      refine ⟨fun h0 => ?_, fun h0 => ?_⟩
      · exact ⟨rfl, by rw [e0] at h0; rw [show i = n.toNat by omega]⟩
      · refine ⟨rX_9 r0 rk, ?_⟩
        have g0 : (i : Int) < n := by rw [← e0]; assumption
        refine (xhas_ex r0 rk h (a := c) (b := (i : Int)) (by omega) (by omega) (by omega) (by omega)).imp ?_
        rintro ⟨r1, C⟩ ⟨q1, x, q2, hx⟩
        simp only at q1 q2
        subst q1
        subst q2
        exact ⟨rfl, h0, x, hx, rfl⟩
theorem xthirds_ex {A : pm_A} {r n c : Int} {F : Int → Int} (r0 : 0 ≤ r) (rk : wX.2 r = 9) (h : rgX A r n F) (hS : rgS n F) (c0 : 0 ≤ c) (c1 : c < n) : Cl pmt (an_sh wX) 65 [(2, r), (0, c)] A (fun q => q = (some (0, 1 + cntF (tG F c) 100), A)) := by
  rw [← th_eq hS c0 c1]
  refine Cl.of (Nat.le_of_ble_eq_true rfl) ?_
  refine wq_ok (full := o_X6_thirds) srt_Xthirds (fr := []) (cuts := [4]) (J := fun pc st => (pc = 4 ∧ st = ([(2, r), (0, c), (0, 1), (0, 0)], [], A))) ?_ 9 0 _ ?_
  · rintro pc st (⟨rfl, rfl⟩)
    exact xth_4 r0 rk h hS c0 c1 _ 0 (Nat.lt_succ_self _) (by have := hS.1; omega)
  · exact ⟨rfl, rfl⟩
theorem srt_Mthirds : pm_srt o_X10_thirds = true := by decide +kernel
theorem mth_5 {A : pm_A} {sl c : Int} (hA : gH wM A) (s0 : 0 ≤ sl) (s1 : sl ≤ 1) : ∀ (m : Nat) (i : Nat), 100 - i < m → i ≤ 100 → Tm pmt (an_sh wM) o_X10_thirds 5 ([(2, 0), (0, sl), (0, c), (0, 1 + cntF (tG (fcs A sl) c) i), (0, (i : Int))], [], A) (fun q => q = (some (0, 1 + cntF (tG (fcs A sl) c) 100), A)) := by
  have c49 := pM_49 hA
  intro m
  induction m with
  | zero => intro i h; omega
  | succ m ih =>
    intro i hm i1
    have hb := cntF_b (tG (fcs A sl) c) i
    have st : cntF (tG (fcs A sl) c) (i + 1) = cntF (tG (fcs A sl) c) i + (if tG (fcs A sl) c i = 0 then 0 else 1) := rfl
    have ny : ((i : Int) / 10 = c ∨ (i : Int) % 10 = c) → ¬ A 32 (100 * sl + i) = 0 → cntF (tG (fcs A sl) c) (i + 1) = cntF (tG (fcs A sl) c) i + 1 := fun k k2 => by
      rw [st, if_neg (by unfold tG fcs; rw [if_pos k]; exact k2)]
    have nn : ¬ (((i : Int) / 10 = c ∨ (i : Int) % 10 = c) ∧ ¬ A 32 (100 * sl + i) = 0) → cntF (tG (fcs A sl) c) (i + 1) = cntF (tG (fcs A sl) c) i := fun k => by
      have z : tG (fcs A sl) c i = 0 := by
        unfold tG fcs
        by_cases e : (i : Int) / 10 = c ∨ (i : Int) % 10 = c
        · rw [if_pos e]
          exact Decidable.byContradiction (fun q => k ⟨e, q⟩)
        · rw [if_neg e]
      rw [st, if_pos z, Int.add_zero]
    refine wq_ok srt_Mthirds (fr := []) (cuts := [5]) (J := fun pc st => (pc = 5 ∧ (((i : Int)) < 100) ∧ ((A (A 0 49) ((100 * sl) + ((i : Int)))) = 0) ∧ st = ([(2, 0), (0, sl), (0, c), (0, 1 + cntF (tG (fcs A sl) c) i), (0, ((i : Int)) + 1)], [], A)) ∨ (pc = 5 ∧ (((i : Int)) < 100) ∧ (¬ (A (A 0 49) ((100 * sl) + ((i : Int)))) = 0) ∧ ((((i : Int)) / 10) = c) ∧ st = ([(2, 0), (0, sl), (0, c), (0, (1 + cntF (tG (fcs A sl) c) i) + 1), (0, ((i : Int)) + 1)], [], A)) ∨ (pc = 5 ∧ (((i : Int)) < 100) ∧ (¬ (A (A 0 49) ((100 * sl) + ((i : Int)))) = 0) ∧ (¬ (((i : Int)) / 10) = c) ∧ (¬ (((i : Int)) % 10) = c) ∧ st = ([(2, 0), (0, sl), (0, c), (0, 1 + cntF (tG (fcs A sl) c) i), (0, ((i : Int)) + 1)], [], A)) ∨ (pc = 5 ∧ (((i : Int)) < 100) ∧ (¬ (A (A 0 49) ((100 * sl) + ((i : Int)))) = 0) ∧ (¬ (((i : Int)) / 10) = c) ∧ ((((i : Int)) % 10) = c) ∧ st = ([(2, 0), (0, sl), (0, c), (0, (1 + cntF (tG (fcs A sl) c) i) + 1), (0, ((i : Int)) + 1)], [], A))) ?_ 30 5 _ ?_
    · rintro pc st (⟨rfl, h0, h1, rfl⟩ | ⟨rfl, h0, h1, h2, rfl⟩ | ⟨rfl, h0, h1, h2, h3, rfl⟩ | ⟨rfl, h0, h1, h2, h3, rfl⟩)
      · rw [c49] at h1
        have k := nn (by omega)
        rw [← k, show (i : Int) + 1 = ((i + 1 : Nat) : Int) by omega]
        exact ih (i + 1) (by omega) (by omega)
      · rw [c49] at h1
        have k := ny (by omega) h1
        rw [show 1 + cntF (tG (fcs A sl) c) i + 1 = 1 + cntF (tG (fcs A sl) c) (i + 1) by omega, show (i : Int) + 1 = ((i + 1 : Nat) : Int) by omega]
        exact ih (i + 1) (by omega) (by omega)
      · rw [c49] at h1
        have k := nn (by omega)
        rw [← k, show (i : Int) + 1 = ((i + 1 : Nat) : Int) by omega]
        exact ih (i + 1) (by omega) (by omega)
      · rw [c49] at h1
        have k := ny (by omega) h1
        rw [show 1 + cntF (tG (fcs A sl) c) i + 1 = 1 + cntF (tG (fcs A sl) c) (i + 1) by omega, show (i : Int) + 1 = ((i + 1 : Nat) : Int) by omega]
        exact ih (i + 1) (by omega) (by omega)
    · refine ⟨fun h0 => ?_, fun h0 => ?_⟩
      · exact ⟨rfl, by rw [show i = 100 by omega]⟩
      · refine ⟨oM_0 (by omega) km0 49 rfl, ?_⟩
        refine ⟨⟨by omega, by omega⟩, ?_⟩
        refine ⟨⟨by omega, by omega⟩, ?_⟩
        refine ⟨aM_32 (r := A 0 49) (by rw [c49]; omega) (by rw [c49]; exact kn32) (by omega) (by omega), ?_⟩
        have e1 : A (A 0 49) ((100 * sl) + ((i : Int))) = A 32 ((100 * sl) + ((i : Int))) := by rw [c49]
        refine ⟨fun h1 => ?_, fun h1 => ?_⟩
        · refine ⟨⟨by omega, by omega⟩, ?_⟩
          exact Or.inl (⟨rfl, h0, h1, rfl⟩)
        · refine ⟨⟨by omega, by omega, by omega, by omega⟩, ?_⟩
          refine ⟨fun h2 => ?_, fun h2 => ?_⟩
          · refine ⟨⟨by omega, by omega⟩, ?_⟩
            refine ⟨⟨by omega, by omega⟩, ?_⟩
            exact Or.inr (Or.inl (⟨rfl, h0, h1, h2, rfl⟩))
          · refine ⟨⟨by omega, by omega, by omega, by omega⟩, ?_⟩
            refine ⟨fun h3 => ?_, fun h3 => ?_⟩
            · refine ⟨⟨by omega, by omega⟩, ?_⟩
              exact Or.inr (Or.inr (Or.inl (⟨rfl, h0, h1, h2, h3, rfl⟩)))
            · refine ⟨⟨by omega, by omega⟩, ?_⟩
              refine ⟨⟨by omega, by omega⟩, ?_⟩
              exact Or.inr (Or.inr (Or.inr (⟨rfl, h0, h1, h2, h3, rfl⟩)))
theorem mthirds_ex {A : pm_A} {sl c : Int} (hA : gH wM A) (s0 : 0 ≤ sl) (s1 : sl ≤ 1) : Cl pmt (an_sh wM) 195 [(2, 0), (0, sl), (0, c)] A (fun q => q = (some (0, 1 + cntF (tG (fcs A sl) c) 100), A)) := by
  refine Cl.of (Nat.le_of_ble_eq_true rfl) ?_
  refine wq_ok (full := o_X10_thirds) srt_Mthirds (fr := []) (cuts := [5]) (J := fun pc st => (pc = 5 ∧ st = ([(2, 0), (0, sl), (0, c), (0, 1), (0, 0)], [], A))) ?_ 9 0 _ ?_
  · rintro pc st (⟨rfl, rfl⟩)
    exact mth_5 hA s0 s1 _ 0 (Nat.lt_succ_self _) (by omega)
  · exact ⟨rfl, rfl⟩
