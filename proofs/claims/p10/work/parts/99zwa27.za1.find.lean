/-! the class's SHAREs, exactly: find -/
def xeX (A : pm_A) (s q : Int) : cr_Xp 12 := fun v_z => if (v_z.1 : Int) < A s 0 then A (A s 3) (q * A s 0 + (v_z.1 : Int)) else 0
def xkX (A : pm_A) (w k : Int) : cr_Xp 12 := fun v_z => if (v_z.1 : Int) < w then A k (v_z.1 : Int) else 0
def fX (A : pm_A) (s : Int) (q : Nat) : Int × cr_Xp 12 := (A (A s 2) (q : Int), xeX A s (q : Int))
def LSx (A : pm_A) (s : Int) : cr_Pl_ 12 := lsf (A s 1).toNat (fX A s)
def srX (A : pm_A) (s : Int) : Prop := ∀ q_z q' : Int, 0 ≤ q_z → q_z < q' → q' < A s 1 → cr_Gt (xeX A s q_z) (xeX A s q')
def ptX (A : pm_A) (s t : Int) (K : cr_Xp 12) : Prop := (0 ≤ t ∧ t ≤ A s 1) ∧ (∀ q_z, 0 ≤ q_z → q_z < t → cr_Gt (xeX A s q_z) K) ∧ ∀ q_z, t ≤ q_z → q_z < A s 1 → cr_Gt K (xeX A s q_z)
theorem xX_gt {A : pm_A} {s k m v : Int} (v0 : 0 ≤ v) (v1 : v < A s 0) (w1 : A s 0 ≤ 12) (hi : ∀ u_z : Int, 0 ≤ u_z → u_z < v → A (A s 3) (m * A s 0 + u_z) = A k u_z) (h : A k v < A (A s 3) (m * A s 0 + v)) : cr_Gt (xeX A s m) (xkX A (A s 0) k) := by
  refine ⟨⟨v.toNat, by omega⟩, fun j_z hj => ?_, ?_⟩
  · have hj : j_z.1 < v.toNat := hj
    show (if (j_z.1 : Int) < A s 0 then A (A s 3) (m * A s 0 + (j_z.1 : Int)) else 0) = if (j_z.1 : Int) < A s 0 then A k (j_z.1 : Int) else 0
    rw [if_pos (by omega), if_pos (by omega)]
    exact hi j_z.1 (by omega) (by omega)
  · show (if ((v.toNat : Nat) : Int) < A s 0 then A k ((v.toNat : Nat) : Int) else 0) < if ((v.toNat : Nat) : Int) < A s 0 then A (A s 3) (m * A s 0 + ((v.toNat : Nat) : Int)) else 0
    rw [Int.toNat_of_nonneg v0, if_pos v1, if_pos v1]
    exact h
theorem xX_lt {A : pm_A} {s k m v : Int} (v0 : 0 ≤ v) (v1 : v < A s 0) (w1 : A s 0 ≤ 12) (hi : ∀ u_z : Int, 0 ≤ u_z → u_z < v → A (A s 3) (m * A s 0 + u_z) = A k u_z) (h : A (A s 3) (m * A s 0 + v) < A k v) : cr_Gt (xkX A (A s 0) k) (xeX A s m) := by
  refine ⟨⟨v.toNat, by omega⟩, fun j_z hj => ?_, ?_⟩
  · have hj : j_z.1 < v.toNat := hj
    show (if (j_z.1 : Int) < A s 0 then A k (j_z.1 : Int) else 0) = if (j_z.1 : Int) < A s 0 then A (A s 3) (m * A s 0 + (j_z.1 : Int)) else 0
    rw [if_pos (by omega), if_pos (by omega)]
    exact (hi j_z.1 (by omega) (by omega)).symm
  · show (if ((v.toNat : Nat) : Int) < A s 0 then A (A s 3) (m * A s 0 + ((v.toNat : Nat) : Int)) else 0) < if ((v.toNat : Nat) : Int) < A s 0 then A k ((v.toNat : Nat) : Int) else 0
    rw [Int.toNat_of_nonneg v0, if_pos v1, if_pos v1]
    exact h
theorem xX_eq {A : pm_A} {s k m v : Int} (v1 : A s 0 ≤ v) (hi : ∀ u_z : Int, 0 ≤ u_z → u_z < v → A (A s 3) (m * A s 0 + u_z) = A k u_z) : xeX A s m = xkX A (A s 0) k := funext fun j_z => by
  show (if (j_z.1 : Int) < A s 0 then A (A s 3) (m * A s 0 + (j_z.1 : Int)) else 0) = if (j_z.1 : Int) < A s 0 then A k (j_z.1 : Int) else 0
  by_cases e_z : (j_z.1 : Int) < A s 0
  · rw [if_pos e_z, if_pos e_z]; exact hi j_z.1 (by omega) (by omega)
  · rw [if_neg e_z, if_neg e_z]
theorem srt_Xfind : pm_srt o_X8_find = true := by decide +kernel
def shK (s k : Int) : Prop := (0 ≤ s ∧ wX.2 s = 2) ∧ (0 ≤ k ∧ wX.2 k = 18)
theorem fi_47 {A : pm_A} {s k f lo hi t m : Int} (hA : gH wX A) (hh : shK s k) (m0 : 0 ≤ m) (m1 : m < A s 1) {z : pm_R → Prop} (hz : xeX A s m = xkX A (A s 0) k → z (some (0, m), A)) (H1 : cr_Gt (xeX A s m) (xkX A (A s 0) k) → ∀ v_z, Tm pmt (an_sh wX) o_X8_find 122 ([(2, s), (2, k), (0, f), (0, m + 1), (0, hi), (0, t), (0, m), (0, m * A s 0), (0, v_z)], [], A) z) (H2 : cr_Gt (xkX A (A s 0) k) (xeX A s m) → ∀ v_z, Tm pmt (an_sh wX) o_X8_find 122 ([(2, s), (2, k), (0, f), (0, lo), (0, m - 1), (0, t), (0, m), (0, m * A s 0), (0, v_z)], [], A) z) : ∀ (n_z : Nat) (v_z : Int), (12 - v_z).toNat < n_z → 0 ≤ v_z → v_z ≤ A s 0 → (∀ u_z : Int, 0 ≤ u_z → u_z < v_z → A (A s 3) (m * A s 0 + u_z) = A k u_z) → Tm pmt (an_sh wX) o_X8_find 47 ([(2, s), (2, k), (0, f), (0, lo), (0, hi), (0, t), (0, m), (0, m * A s 0), (0, v_z)], [], A) z := by
  obtain ⟨⟨s0_z, sk⟩, ⟨k0_z, kk⟩⟩ := hh
  have w0_z := fX_2_0 hA s0_z sk
  have l0 := fX_2_1 hA s0_z sk
  have p0_z := fX_2_3 hA s0_z sk
  intro n_z
  induction n_z with
  | zero => intro v_z h_z; omega
  | succ n_z ih_z =>
    intro v_z hn v0_z v1_z hi2
    have hml : v_z < A s 0 → 0 ≤ m * A s 0 ∧ m * A s 0 ≤ 2388 ∧ m * A s 0 + v_z < 2400 := fun h_z => mul_lt m0 (by omega) w0_z.1 w0_z.2 v0_z h_z
    refine wq_ok srt_Xfind (fr := []) (cuts := [47, 122]) (J := fun pc st_z => (pc = 47 ∧ v_z < A s 0 ∧ A (A s 3) (m * A s 0 + v_z) = A k v_z ∧ st_z = ([(2, s), (2, k), (0, f), (0, lo), (0, hi), (0, t), (0, m), (0, m * A s 0), (0, v_z + 1)], [], A)) ∨ (pc = 122 ∧ v_z < A s 0 ∧ A k v_z < A (A s 3) (m * A s 0 + v_z) ∧ st_z = ([(2, s), (2, k), (0, f), (0, m + 1), (0, hi), (0, t), (0, m), (0, m * A s 0), (0, v_z)], [], A)) ∨ (pc = 122 ∧ v_z < A s 0 ∧ A (A s 3) (m * A s 0 + v_z) < A k v_z ∧ st_z = ([(2, s), (2, k), (0, f), (0, lo), (0, m - 1), (0, t), (0, m), (0, m * A s 0), (0, v_z)], [], A))) ?_ 50 47 _ ?_
    · rintro pc st_z (⟨rfl, h0, h1, rfl⟩ | ⟨rfl, h0, h1, rfl⟩ | ⟨rfl, h0, h1, rfl⟩)
      · refine ih_z (v_z + 1) (by omega) (by omega) (by omega) (fun u_z u0 u1_z => ?_)
        by_cases e_z : u_z = v_z
        · rw [e_z]; exact h1
        · exact hi2 u_z u0 (by omega)
      · exact H1 (xX_gt v0_z h0 w0_z.2 hi2 h1) v_z
      · exact H2 (xX_lt v0_z h0 w0_z.2 hi2 h1) v_z
    · refine ⟨oX_2 s0_z sk 0 rfl, ?_⟩
      refine ⟨fun h0 => ?_, fun h0 => ?_⟩
      · refine ⟨oX_2 s0_z sk 0 rfl, ?_⟩
        refine ⟨fun h1 => absurd (show v_z = A s 0 by omega) h1, fun h1 => ?_⟩
        exact ⟨rfl, hz (xX_eq h0 hi2)⟩
      · have hm_z := hml h0
        refine ⟨oX_2 s0_z sk 3 rfl, ?_⟩
        refine ⟨⟨by omega, by omega⟩, ?_⟩
        refine ⟨aX_15 p0_z.1 p0_z.2 (by omega) (by omega), ?_⟩
        refine ⟨aX_18 k0_z kk v0_z (by omega), ?_⟩
        refine ⟨fun h1 => ?_, fun h1 => ?_⟩
        · refine ⟨oX_2 s0_z sk 0 rfl, ?_⟩
          refine ⟨fun h2 => ?_, fun h2 => absurd h2 (by omega)⟩
          refine ⟨oX_2 s0_z sk 3 rfl, ?_⟩
          refine ⟨⟨by omega, by omega⟩, ?_⟩
          refine ⟨aX_15 p0_z.1 p0_z.2 (by omega) (by omega), ?_⟩
          refine ⟨aX_18 k0_z kk v0_z (by omega), ?_⟩
          refine ⟨fun h3 => ?_, fun h3 => ?_⟩
          · refine ⟨⟨by omega, by omega⟩, ?_⟩
            exact Or.inr (Or.inr ⟨rfl, h0, by omega, rfl⟩)
          · refine ⟨⟨by omega, by omega⟩, ?_⟩
            exact Or.inr (Or.inl ⟨rfl, h0, h3, rfl⟩)
        · refine ⟨⟨by omega, by omega⟩, ?_⟩
          exact Or.inl ⟨rfl, h0, h1, rfl⟩
theorem ush1_all : ∀ x_z : Fin 401, pp_bi 8 (x_z.1 : Int) 1 = ((x_z.1 / 2 : Nat) : Int) := by decide +kernel
theorem ush1 {x : Int} (h0 : 0 ≤ x) (h1 : x ≤ 400) : pp_bi 8 x 1 = x / 2 := by
  have := ush1_all ⟨x.toNat, by omega⟩
  simp only at this
  rw [show ((x.toNat : Nat) : Int) = x by omega] at this
  rw [this]
  omega
def fi_post (A : pm_A) (s k : Int) (r : pm_R) : Prop := r.2 = A ∧ ∃ z_z, r.1 = some (0, z_z) ∧ ((0 ≤ z_z ∧ z_z < A s 1 ∧ xeX A s z_z = xkX A (A s 0) k) ∨ ∃ lo_z, z_z = -1 - lo_z ∧ ptX A s lo_z (xkX A (A s 0) k))
theorem fi_13 {A : pm_A} {s k f : Int} (hA : gH wX A) (hh : shK s k) (hs : srX A s) : ∀ (n_z : Nat) (lo_z hi_z t_z : Int) (w6_z w7_z w8 : pm_V), (200 - t_z).toNat < n_z → 0 ≤ t_z → t_z ≤ 200 → 0 ≤ lo_z → lo_z ≤ hi_z + 1 → hi_z < A s 1 → hi_z - lo_z + 1 + t_z ≤ 200 → (∀ q_z, 0 ≤ q_z → q_z < lo_z → cr_Gt (xeX A s q_z) (xkX A (A s 0) k)) → (∀ q_z, hi_z < q_z → q_z < A s 1 → cr_Gt (xkX A (A s 0) k) (xeX A s q_z)) → Tm pmt (an_sh wX) o_X8_find 13 ([(2, s), (2, k), (0, f), (0, lo_z), (0, hi_z), (0, t_z), w6_z, w7_z, w8], [], A) (fi_post A s k) := by
  have hh0 := hh
  obtain ⟨⟨s0_z, sk⟩, ⟨k0_z, kk⟩⟩ := hh
  have w0_z := fX_2_0 hA s0_z sk
  have l0 := fX_2_1 hA s0_z sk
  intro n_z
  induction n_z with
  | zero => intro lo_z hi_z t_z w6_z w7_z w8 h_z; omega
  | succ n_z ih_z =>
    intro lo_z hi_z t_z w6_z w7_z w8 hn t0_z t1_z lo0 lh hl ht h1 h2
    have hend : hi_z < lo_z → fi_post A s k (some (0, -1 - lo_z), A) := fun h_z => ⟨rfl, -1 - lo_z, rfl, Or.inr ⟨lo_z, rfl, ⟨lo0, by omega⟩, h1, fun q_z q0 q1_z => h2 q_z (by omega) q1_z⟩⟩
    refine wq_ok srt_Xfind (fr := []) (cuts := [47]) (J := fun pc st_z => pc = 47 ∧ t_z < 200 ∧ lo_z ≤ hi_z ∧ st_z = ([(2, s), (2, k), (0, f), (0, lo_z), (0, hi_z), (0, t_z), (0, pp_bi 8 (lo_z + hi_z) 1), (0, pp_bi 8 (lo_z + hi_z) 1 * A s 0), (0, 0)], [], A)) ?_ 40 13 _ ?_
    · rintro pc st_z ⟨rfl, ht2, hlh, rfl⟩
      rw [ush1 (show 0 ≤ lo_z + hi_z by omega) (by omega)]
      have h122 : ∀ (lo' hi' : Int) (m_z v_z : Int), 0 ≤ lo' → lo' ≤ hi' + 1 → hi' < A s 1 → hi' - lo' + 1 + (t_z + 1) ≤ 200 → (∀ q_z, 0 ≤ q_z → q_z < lo' → cr_Gt (xeX A s q_z) (xkX A (A s 0) k)) → (∀ q_z, hi' < q_z → q_z < A s 1 → cr_Gt (xkX A (A s 0) k) (xeX A s q_z)) → Tm pmt (an_sh wX) o_X8_find 122 ([(2, s), (2, k), (0, f), (0, lo'), (0, hi'), (0, t_z), (0, m_z), (0, m_z * A s 0), (0, v_z)], [], A) (fi_post A s k) := fun lo' hi' m_z v_z a1_z a2 a3 a4 a5 a6 => by
        refine wq_ok srt_Xfind (fr := []) (cuts := [13]) (J := fun pc st_z => pc = 13 ∧ st_z = ([(2, s), (2, k), (0, f), (0, lo'), (0, hi'), (0, t_z + 1), (0, m_z), (0, m_z * A s 0), (0, v_z)], [], A)) ?_ 10 122 _ ?_
        · rintro pc st_z ⟨rfl, rfl⟩
          exact ih_z lo' hi' (t_z + 1) _ _ _ (by omega) (by omega) (by omega) a1_z a2 a3 a4 a5 a6
        · refine ⟨⟨by omega, by omega⟩, ?_⟩
          exact ⟨rfl, rfl⟩
      have hm_z : lo_z ≤ (lo_z + hi_z) / 2 ∧ (lo_z + hi_z) / 2 ≤ hi_z := by omega
      refine fi_47 hA hh0 (by omega) (by omega) (fun e_z => ⟨rfl, _, rfl, Or.inl ⟨by omega, by omega, e_z⟩⟩) (fun g_z v_z => h122 _ _ _ _ (by omega) (by omega) hl (by omega) (fun q_z q0 q1_z => ?_) h2) (fun g_z v_z => h122 _ _ _ _ lo0 (by omega) (by omega) (by omega) h1 (fun q_z q0 q1_z => ?_)) _ 0 (Nat.lt_succ_self _) (by omega) w0_z.1 (fun u_z u0 u1_z => by omega)
      · by_cases e_z : q_z = (lo_z + hi_z) / 2
        · rw [e_z]; exact g_z
        · exact (hs q_z _ q0 (by omega) (by omega)).trans g_z
      · by_cases e_z : q_z = (lo_z + hi_z) / 2
        · rw [e_z]; exact g_z
        · exact g_z.trans (hs _ q_z (by omega) (by omega) q1_z)
    · refine ⟨fun h0 => ?_, fun h0 => ?_⟩
      · refine ⟨⟨by omega, by omega⟩, ?_⟩
        exact ⟨rfl, hend (by omega)⟩
      · refine ⟨fun h3 => ?_, fun h3 => ?_⟩
        · refine ⟨⟨by omega, by omega⟩, ?_⟩
          exact ⟨rfl, hend (by omega)⟩
        · refine ⟨⟨by omega, by omega⟩, ?_⟩
          refine ⟨oX_2 s0_z sk 0 rfl, ?_⟩
          have e_z := ush1 (show 0 ≤ lo_z + hi_z by omega) (show lo_z + hi_z ≤ 400 by omega)
          refine ⟨?_, ?_⟩
          · show r32 (pp_bi 8 (lo_z + hi_z) 1 * A s 0)
            rw [e_z]
            have h5 := Int.mul_le_mul (show (lo_z + hi_z) / 2 ≤ 200 by omega) w0_z.2 w0_z.1 (by omega)
            have h6 := Int.mul_nonneg (show 0 ≤ (lo_z + hi_z) / 2 by omega) w0_z.1
            exact ⟨by omega, by omega⟩
          · exact ⟨rfl, by omega, by omega, rfl⟩
theorem find_ex {A : pm_A} {s k f : Int} (hA : gH wX A) (hh : shK s k) (hs : srX A s) (f0 : 0 ≤ f) (f1 : f ≤ A s 1) (hf : ∀ q_z, 0 ≤ q_z → q_z < f → cr_Gt (xeX A s q_z) (xkX A (A s 0) k)) : Cl pmt (an_sh wX) 77 [(2, s), (2, k), (0, f)] A (fi_post A s k) := by
  have hh0 := hh
  obtain ⟨⟨s0_z, sk⟩, ⟨k0_z, kk⟩⟩ := hh
  have l0 := fX_2_1 hA s0_z sk
  refine Cl.of (Nat.le_of_ble_eq_true rfl) ?_
  refine wq_ok (full := o_X8_find) srt_Xfind (fr := []) (cuts := [13]) (J := fun pc st_z => pc = 13 ∧ st_z = ([(2, s), (2, k), (0, f), (0, f), (0, A s 1 - 1), (0, 0), (9, 0), (9, 0), (9, 0)], [], A)) ?_ 20 0 _ ?_
  · rintro pc st_z ⟨rfl, rfl⟩
    exact fi_13 hA hh0 hs _ f (A s 1 - 1) 0 _ _ _ (Nat.lt_succ_self _) (by omega) (by omega) f0 (by omega) (by omega) (by omega) hf (fun q_z q0 q1_z => by omega)
  · refine ⟨oX_2 s0_z sk 1 rfl, ?_⟩
    refine ⟨⟨by omega, by omega⟩, ?_⟩
    exact ⟨rfl, rfl⟩
