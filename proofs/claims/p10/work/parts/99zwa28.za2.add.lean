/-! the class's SHAREs, exactly: add -/
theorem cpy_in {A : pm_A} {a sp b dp n i : Int} (h : dp ≤ i ∧ i < dp + n) : pm_cpy A a sp b dp n b i = A a (sp + (i - dp)) := by unfold pm_cpy; rw [if_pos ⟨rfl, h⟩]
theorem cpy_out {A : pm_A} {a sp b dp n k i : Int} (h : ¬ (k = b ∧ dp ≤ i ∧ i < dp + n)) : pm_cpy A a sp b dp n k i = A k i := by unfold pm_cpy; rw [if_neg (fun q_z => h ⟨q_z.1, q_z.2.1, q_z.2.2⟩)]
def cfX (A : pm_A) (s : Int) : Prop := ∀ q_z : Int, 0 ≤ q_z → q_z < A s 1 → 1 ≤ A (A s 2) q_z ∧ A (A s 2) q_z ≤ 1000000000000
def shNP (A : pm_A) (s : Int) : Prop := (¬ s = A s 2 ∧ ¬ s = A s 3 ∧ ¬ A s 2 = A s 3) ∧ (0 ≤ A s 2 ∧ wX.2 (A s 2) = 14) ∧ (0 ≤ A s 3 ∧ wX.2 (A s 3) = 15)
theorem shNP.of {A : pm_A} {s : Int} (hA : gH wX A) (s0 : 0 ≤ s) (sk : wX.2 s = 2) : shNP A s := by
  have n0_z := fX_2_2 hA s0 sk
  have p0_z := fX_2_3 hA s0 sk
  refine ⟨⟨fun e_z => ?_, fun e_z => ?_, fun e_z => ?_⟩, n0_z, p0_z⟩
  · rw [← e_z, sk] at n0_z; exact absurd n0_z.2 (by decide)
  · rw [← e_z, sk] at p0_z; exact absurd p0_z.2 (by decide)
  · rw [e_z, p0_z.2] at n0_z; exact absurd n0_z.2 (by decide)
def i1X (A B : pm_A) (s to : Int) : Prop := gH wX B ∧ obj_eq A B ∧ only A B s ∧ (∀ q_z : Int, 0 ≤ q_z → q_z < to → B (A s 2) q_z = A (A s 2) q_z) ∧ ∀ q_z : Int, to < q_z → q_z ≤ A s 1 → B (A s 2) q_z = A (A s 2) (q_z - 1)
def i2X (A B : pm_A) (s to : Int) : Prop := i1X A B s to ∧ (∀ q_z v_z : Int, 0 ≤ q_z → q_z < to → 0 ≤ v_z → v_z < A s 0 → B (A s 3) (q_z * A s 0 + v_z) = A (A s 3) (q_z * A s 0 + v_z)) ∧ ∀ q_z v_z : Int, to < q_z → q_z ≤ A s 1 → 0 ≤ v_z → v_z < A s 0 → B (A s 3) (q_z * A s 0 + v_z) = A (A s 3) ((q_z - 1) * A s 0 + v_z)
def insX (A B : pm_A) (s c n to : Int) : Prop := gH wX B ∧ (B s 0 = A s 0 ∧ B s 1 = A s 1 + 1 ∧ B s 2 = A s 2 ∧ B s 3 = A s 3) ∧ only A B s ∧ ((∀ q_z : Int, 0 ≤ q_z → q_z < to → B (A s 2) q_z = A (A s 2) q_z) ∧ (∀ q_z : Int, to < q_z → q_z ≤ A s 1 → B (A s 2) q_z = A (A s 2) (q_z - 1)) ∧ B (A s 2) to = n) ∧ (∀ q_z v_z : Int, 0 ≤ q_z → q_z < to → 0 ≤ v_z → v_z < A s 0 → B (A s 3) (q_z * A s 0 + v_z) = A (A s 3) (q_z * A s 0 + v_z)) ∧ (∀ q_z v_z : Int, to < q_z → q_z ≤ A s 1 → 0 ≤ v_z → v_z < A s 0 → B (A s 3) (q_z * A s 0 + v_z) = A (A s 3) ((q_z - 1) * A s 0 + v_z)) ∧ ∀ v_z : Int, 0 ≤ v_z → v_z < A s 0 → B (A s 3) (to * A s 0 + v_z) = A c v_z
theorem ax_163 {A E : pm_A} {s c n f x to : Int} (hA : gH wX A) (s0 : 0 ≤ s) (sk : wX.2 s = 2) (hl : A s 1 < 200) (h : i2X A E s to) (hn : E (A s 2) to = n) (hk : ∀ v_z : Int, 0 ≤ v_z → v_z < A s 0 → E (A s 3) (to * A s 0 + v_z) = A c v_z) {z : pm_R → Prop} (H : ∀ G_z, insX A G_z s c n to → z (some (0, to), G_z)) : Tm pmt (an_sh wX) o_X8_add 163 ([(2, s), (2, c), (1, n), (9, 0), (0, f), (0, x), (0, to)], [], E) z := by
  obtain ⟨⟨e1, e2, e3, e4_z, e5⟩, e6_z, e7_z⟩ := h
  have es : (an_sh wX s).1 = 0 := by rw [shX_2 sk]
  have l0 := fX_2_1 hA s0 sk
  have f1_z : E s 1 = A s 1 := e2 s 1 es
  obtain ⟨⟨n1_z, n2_z, n3_z⟩, _, _⟩ := shNP.of hA s0 sk
  refine wq_ok srt_add (fr := []) (cuts := []) (J := fun _ _ => False) (fun _ _ h => h.elim) 20 163 _ ?_
  refine ⟨oX_2 s0 sk 1 rfl, ?_⟩
  refine ⟨⟨by omega, by omega⟩, ?_⟩
  refine ⟨oX_2 s0 sk 1 rfl, ?_⟩
  refine ⟨rfl, H _ ⟨?_, ⟨?_, ?_, ?_, ?_⟩, only_upd e3 (Or.inl rfl), ⟨fun q_z q0 q1_z => ?_, fun q_z q0 q1_z => ?_, ?_⟩, fun q_z v_z q0 q1_z v0_z v1_z => ?_, fun q_z v_z q0 q1_z v0_z v1_z => ?_, fun v_z v0_z v1_z => ?_⟩⟩
  · exact gH_upd e1 (k := (0, 8, 4, [(0, 0, 12), (0, 0, 200), (2, 14, 0), (2, 15, 0)])) (by rw [sk]; rfl) (fun _ j_z a_z hj ej => by
      have : j_z = 1 := by omega
      subst this
      cases hj
      exact ⟨rfl, by simp only; omega, by simp only; omega⟩) (fun q_z => by cases q_z)
  · rw [upd_n2 (by omega)]; exact e2 s 0 es
  · rw [upd_at, f1_z]
  · rw [upd_n2 (by omega)]; exact e2 s 2 es
  · rw [upd_n2 (by omega)]; exact e2 s 3 es
  · rw [upd_ne (fun e_z => n1_z e_z.symm)]; exact e4_z q_z q0 q1_z
  · rw [upd_ne (fun e_z => n1_z e_z.symm)]; exact e5 q_z q0 q1_z
  · rw [upd_ne (fun e_z => n1_z e_z.symm)]; exact hn
  · rw [upd_ne (fun e_z => n2_z e_z.symm)]; exact e6_z q_z v_z q0 q1_z v0_z v1_z
  · rw [upd_ne (fun e_z => n2_z e_z.symm)]; exact e7_z q_z v_z q0 q1_z v0_z v1_z
  · rw [upd_ne (fun e_z => n2_z e_z.symm)]; exact hk v_z v0_z v1_z
theorem lt_mul {q t w v : Int} (h : q < t) (w0 : 0 ≤ w) (hv : v < w) : q * w + v < t * w := by
  have := Int.mul_le_mul_of_nonneg_right (show q + 1 ≤ t by omega) w0
  rw [Int.add_mul, Int.one_mul] at this
  omega
theorem ax_143 {A C : pm_A} {s c n f x to : Int} (hA : gH wX A) (hh : shK s c) (hl : A s 1 < 200) (t0 : 0 ≤ to) (t1 : to ≤ A s 1) (h : i2X A C s to) (hn : C (A s 2) to = n) {z : pm_R → Prop} (H : ∀ G_z, insX A G_z s c n to → z (some (0, to), G_z)) : Tm pmt (an_sh wX) o_X8_add 143 ([(2, s), (2, c), (1, n), (9, 0), (0, f), (0, x), (0, to)], [], C) z := by
  obtain ⟨⟨s0_z, sk⟩, ⟨k0_z, kk⟩⟩ := hh
  have h0 := h
  obtain ⟨⟨e1, e2, e3, e4_z, e5⟩, e6_z, e7_z⟩ := h
  have es : (an_sh wX s).1 = 0 := by rw [shX_2 sk]
  have w0_z := fX_2_0 hA s0_z sk
  have f0_z : C s 0 = A s 0 := e2 s 0 es
  have f3_z : C s 3 = A s 3 := e2 s 3 es
  obtain ⟨⟨n1_z, n2_z, n3_z⟩, _, p0_z⟩ := shNP.of hA s0_z sk
  have ec := shX_18 kk
  have ep := shX_15 p0_z.2
  have hm1 : 0 ≤ to * A s 0 := Int.mul_nonneg t0 w0_z.1
  have hm2 : to * A s 0 ≤ 199 * 12 := Int.mul_le_mul (by omega) w0_z.2 w0_z.1 (by omega)
  have nc : ¬ c = A s 3 := fun e_z => by rw [e_z, p0_z.2] at kk; exact absurd kk (by decide)
  have n2c : ¬ c = A s 2 := fun e_z => by
    have := (shNP.of hA s0_z sk).2.1.2
    rw [← e_z, kk] at this
    exact absurd this (by decide)
  have nsc : ¬ c = s := fun e_z => by rw [e_z, sk] at kk; exact absurd kk (by decide)
  have hcc : ∀ v_z : Int, C c v_z = A c v_z := fun v_z => e3 c v_z nsc n2c nc
  refine wq_ok srt_add (fr := []) (cuts := [163]) (J := fun pc st_z => pc = 163 ∧ st_z = ([(2, s), (2, c), (1, n), (9, 0), (0, f), (0, x), (0, to)], [], pm_cpy C c 0 (C s 3) (to * C s 0) (C s 0))) ?_ 20 143 _ ?_
  · rintro pc st_z ⟨rfl, rfl⟩
    rw [f0_z, f3_z]
    refine ax_163 hA s0_z sk hl ⟨⟨gH_cpy e1 (ka := (1, 0, 12, [(0, -2147483648, 2147483647)])) (kb := (1, 0, 2400, [(0, -2147483648, 2147483647)])) k0_z (by rw [kk]; rfl) (by rw [p0_z.2]; rfl) rfl rfl rfl rfl rfl rfl (by omega) hm1 (by simp only; omega), obj_cpy e2 (by rw [ep]), only_cpy e3 (Or.inr (Or.inr rfl)), fun q_z q0 q1_z => ?_, fun q_z q0 q1_z => ?_⟩, fun q_z v_z q0 q1_z v0_z v1_z => ?_, fun q_z v_z q0 q1_z v0_z v1_z => ?_⟩ ?_ (fun v_z v0_z v1_z => ?_) H
    · rw [cpy_out (fun e_z => n3_z e_z.1)]; exact e4_z q_z q0 q1_z
    · rw [cpy_out (fun e_z => n3_z e_z.1)]; exact e5 q_z q0 q1_z
    · have := lt_mul q1_z w0_z.1 v1_z
      rw [cpy_out (fun e_z => by omega)]; exact e6_z q_z v_z q0 q1_z v0_z v1_z
    · have h5 := Int.mul_le_mul_of_nonneg_right (show to + 1 ≤ q_z by omega) w0_z.1
      rw [Int.add_mul, Int.one_mul] at h5
      rw [cpy_out (fun e_z => by omega)]; exact e7_z q_z v_z q0 q1_z v0_z v1_z
    · rw [cpy_out (fun e_z => n3_z e_z.1)]; exact hn
    · rw [cpy_in ⟨by omega, by omega⟩, show (0 : Int) + (to * A s 0 + v_z - to * A s 0) = v_z by omega]; exact hcc v_z
  · refine ⟨oX_2 s0_z sk 3 rfl, ?_⟩
    refine ⟨oX_2 s0_z sk 0 rfl, ?_⟩
    refine ⟨(show r32 (to * C s 0) by rw [f0_z]; exact ⟨by omega, by omega⟩), ?_⟩
    refine ⟨oX_2 s0_z sk 0 rfl, ?_⟩
    refine ⟨⟨k0_z, by rw [f3_z]; exact p0_z.1, by rw [ec], by rw [ec], by rw [f3_z, ep], by rw [f3_z, ep], by rw [f0_z]; exact w0_z.1, by rw [f0_z]; exact hm1, by omega, by rw [ec, f0_z]; simp only; omega, by rw [f3_z, ep, f0_z]; simp only; omega⟩, ?_⟩
    exact ⟨rfl, rfl⟩
theorem ax_135 {A B : pm_A} {s c n f x to : Int} (hA : gH wX A) (hh : shK s c) (hl : A s 1 < 200) (t0 : 0 ≤ to) (t1 : to ≤ A s 1) (hn64 : r64 n) (h : i2X A B s to) {z : pm_R → Prop} (H : ∀ G_z, insX A G_z s c n to → z (some (0, to), G_z)) : Tm pmt (an_sh wX) o_X8_add 135 ([(2, s), (2, c), (1, n), (9, 0), (0, f), (0, x), (0, to)], [], B) z := by
  have hh0 := hh
  obtain ⟨⟨s0_z, sk⟩, ⟨k0_z, kk⟩⟩ := hh
  obtain ⟨⟨e1, e2, e3, e4_z, e5⟩, e6_z, e7_z⟩ := h
  have es : (an_sh wX s).1 = 0 := by rw [shX_2 sk]
  have f2_z : B s 2 = A s 2 := e2 s 2 es
  obtain ⟨⟨n1_z, n2_z, n3_z⟩, m0_z, p0_z⟩ := shNP.of hA s0_z sk
  have en := shX_14 m0_z.2
  refine wq_ok srt_add (fr := []) (cuts := [143, 163]) (J := fun pc st_z => pc = 143 ∧ st_z = ([(2, s), (2, c), (1, n), (9, 0), (0, f), (0, x), (0, to)], [], pm_upd B (B s 2) to n)) ?_ 20 135 _ ?_
  · rintro pc st_z ⟨rfl, rfl⟩
    rw [f2_z]
    refine ax_143 hA hh0 hl t0 t1 ⟨⟨uX_14 e1 m0_z.2 hn64.1 hn64.2, obj_upd e2 (by rw [en]), only_upd e3 (Or.inr (Or.inl rfl)), fun q_z q0 q1_z => ?_, fun q_z q0 q1_z => ?_⟩, fun q_z v_z q0 q1_z v0_z v1_z => ?_, fun q_z v_z q0 q1_z v0_z v1_z => ?_⟩ upd_at H
    · rw [upd_n2 (by omega)]; exact e4_z q_z q0 q1_z
    · rw [upd_n2 (by omega)]; exact e5 q_z q0 q1_z
    · rw [upd_ne (fun e_z => n3_z e_z.symm)]; exact e6_z q_z v_z q0 q1_z v0_z v1_z
    · rw [upd_ne (fun e_z => n3_z e_z.symm)]; exact e7_z q_z v_z q0 q1_z v0_z v1_z
  · refine ⟨oX_2 s0_z sk 2 rfl, ?_⟩
    refine ⟨tX_14 (by rw [f2_z]; exact m0_z.1) (by rw [f2_z]; exact m0_z.2) t0 (by omega) rfl, ?_⟩
    exact ⟨rfl, rfl⟩
theorem ax_96 {A B : pm_A} {s c n f x to : Int} (hA : gH wX A) (hh : shK s c) (hl : A s 1 < 200) (t0 : 0 ≤ to) (t1 : to ≤ A s 1) (hn64 : r64 n) (h : i1X A B s to) (hp : ∀ j_z, B (A s 3) j_z = A (A s 3) j_z) {z : pm_R → Prop} (H : ∀ G_z, insX A G_z s c n to → z (some (0, to), G_z)) : Tm pmt (an_sh wX) o_X8_add 96 ([(2, s), (2, c), (1, n), (9, 0), (0, f), (0, x), (0, to)], [], B) z := by
  have hh0 := hh
  obtain ⟨⟨s0_z, sk⟩, ⟨k0_z, kk⟩⟩ := hh
  obtain ⟨e1, e2, e3, e4_z, e5⟩ := h
  have es : (an_sh wX s).1 = 0 := by rw [shX_2 sk]
  have f0_z : B s 0 = A s 0 := e2 s 0 es
  have f1_z : B s 1 = A s 1 := e2 s 1 es
  have f3_z : B s 3 = A s 3 := e2 s 3 es
  have w0_z := fX_2_0 hA s0_z sk
  obtain ⟨⟨n1_z, n2_z, n3_z⟩, _, p0_z⟩ := shNP.of hA s0_z sk
  have ep := shX_15 p0_z.2
  have m1_z : 0 ≤ to * A s 0 := Int.mul_nonneg t0 w0_z.1
  have m2_z : 0 ≤ (A s 1 - to) * A s 0 := Int.mul_nonneg (by omega) w0_z.1
  have m3_z : (to + 1) * A s 0 = to * A s 0 + A s 0 := by rw [Int.add_mul, Int.one_mul]
  have m4_z : to * A s 0 + (A s 1 - to) * A s 0 = A s 1 * A s 0 := by rw [← Int.add_mul]; congr 1; omega
  have m5_z : A s 1 * A s 0 ≤ 199 * 12 := Int.mul_le_mul (by omega) w0_z.2 w0_z.1 (by omega)
  refine wq_ok srt_add (fr := []) (cuts := [135]) (J := fun pc st_z => pc = 135 ∧ st_z = ([(2, s), (2, c), (1, n), (9, 0), (0, f), (0, x), (0, to)], [], pm_cpy B (B s 3) (to * B s 0) (B s 3) ((to + 1) * B s 0) ((B s 1 - to) * B s 0))) ?_ 30 96 _ ?_
  · rintro pc st_z ⟨rfl, rfl⟩
    rw [f0_z, f1_z, f3_z]
    refine ax_135 hA hh0 hl t0 t1 hn64 ⟨⟨gH_cpy e1 (ka := (1, 0, 2400, [(0, -2147483648, 2147483647)])) (kb := (1, 0, 2400, [(0, -2147483648, 2147483647)])) p0_z.1 (by rw [p0_z.2]; rfl) (by rw [p0_z.2]; rfl) rfl rfl rfl rfl rfl rfl m1_z (by omega) (by simp only; omega), obj_cpy e2 (by rw [ep]), only_cpy e3 (Or.inr (Or.inr rfl)), fun q_z q0 q1_z => ?_, fun q_z q0 q1_z => ?_⟩, fun q_z v_z q0 q1_z v0_z v1_z => ?_, fun q_z v_z q0 q1_z v0_z v1_z => ?_⟩ H
    · rw [cpy_out (fun e_z => n3_z e_z.1)]; exact e4_z q_z q0 q1_z
    · rw [cpy_out (fun e_z => n3_z e_z.1)]; exact e5 q_z q0 q1_z
    · have := lt_mul q1_z w0_z.1 v1_z
      rw [cpy_out (fun e_z => by omega)]; exact hp _
    · have h5 := Int.mul_le_mul_of_nonneg_right (show to + 1 ≤ q_z by omega) w0_z.1
      have h6 := lt_mul (show q_z < A s 1 + 1 by omega) w0_z.1 v1_z
      rw [Int.add_mul, Int.one_mul] at h5 h6
      have h7 : (q_z - 1) * A s 0 = q_z * A s 0 - A s 0 := by rw [Int.sub_mul, Int.one_mul]
      rw [cpy_in ⟨by omega, by omega⟩, hp, show to * A s 0 + (q_z * A s 0 + v_z - (to + 1) * A s 0) = (q_z - 1) * A s 0 + v_z by omega]
  · refine ⟨oX_2 s0_z sk 3 rfl, ?_⟩
    refine ⟨oX_2 s0_z sk 0 rfl, ?_⟩
    refine ⟨(show r32 (to * B s 0) by rw [f0_z]; exact ⟨by omega, by omega⟩), ?_⟩
    refine ⟨oX_2 s0_z sk 3 rfl, ?_⟩
    refine ⟨⟨by omega, by omega⟩, ?_⟩
    refine ⟨oX_2 s0_z sk 0 rfl, ?_⟩
    refine ⟨(show r32 ((to + 1) * B s 0) by rw [f0_z]; exact ⟨by omega, by omega⟩), ?_⟩
    refine ⟨oX_2 s0_z sk 1 rfl, ?_⟩
    refine ⟨⟨by omega, by omega⟩, ?_⟩
    refine ⟨oX_2 s0_z sk 0 rfl, ?_⟩
    refine ⟨(show r32 ((B s 1 - to) * B s 0) by rw [f0_z, f1_z]; exact ⟨by omega, by omega⟩), ?_⟩
    rw [f0_z, f1_z, f3_z]
    refine ⟨⟨p0_z.1, p0_z.1, by rw [ep], by rw [ep], by rw [ep], by rw [ep], m2_z, by omega, m1_z, by rw [ep]; simp only; omega, by rw [ep]; simp only; omega⟩, ?_⟩
    exact ⟨rfl, rfl⟩
theorem ax_66 {A : pm_A} {s c n f to : Int} {v6 : pm_V} (hA : gH wX A) (hh : shK s c) (hl : A s 1 < 200) (t0 : 0 ≤ to) (t1 : to ≤ A s 1) (hn64 : r64 n) {z : pm_R → Prop} (H : ∀ G_z, insX A G_z s c n to → z (some (0, to), G_z)) : Tm pmt (an_sh wX) o_X8_add 66 ([(2, s), (2, c), (1, n), (9, 0), (0, f), (0, -1 - to), v6], [], A) z := by
  have hh0 := hh
  obtain ⟨⟨s0_z, sk⟩, ⟨k0_z, kk⟩⟩ := hh
  obtain ⟨⟨n1_z, n2_z, n3_z⟩, m0_z, p0_z⟩ := shNP.of hA s0_z sk
  have en := shX_14 m0_z.2
  refine wq_ok srt_add (fr := []) (cuts := [96]) (J := fun pc st_z => pc = 96 ∧ st_z = ([(2, s), (2, c), (1, n), (9, 0), (0, f), (0, -1 - to), (0, -1 - (-1 - to))], [], pm_cpy A (A s 2) (-1 - (-1 - to)) (A s 2) (-1 - (-1 - to) + 1) (A s 1 - (-1 - (-1 - to))))) ?_ 30 66 _ ?_
  · rintro pc st_z ⟨rfl, rfl⟩
    rw [show -1 - (-1 - to) = to by omega]
    refine ax_96 hA hh0 hl t0 t1 hn64 ⟨gH_cpy hA (ka := (1, 1, 200, [(1, -9223372036854775808, 9223372036854775807)])) (kb := (1, 1, 200, [(1, -9223372036854775808, 9223372036854775807)])) m0_z.1 (by rw [m0_z.2]; rfl) (by rw [m0_z.2]; rfl) rfl rfl rfl rfl rfl rfl (by omega) (by omega) (by simp only; omega), obj_cpy (fun _ _ _ => rfl) (by rw [en]), only_cpy (fun _ _ _ _ _ => rfl) (Or.inr (Or.inl rfl)), fun q_z q0 q1_z => ?_, fun q_z q0 q1_z => ?_⟩ (fun j_z => ?_) H
    · exact cpy_out (fun e_z => by omega)
    · rw [cpy_in ⟨by omega, by omega⟩, show to + (q_z - (to + 1)) = q_z - 1 by omega]
    · exact cpy_out (fun e_z => n3_z e_z.1.symm)
  · refine ⟨⟨by omega, by omega⟩, ?_⟩
    refine ⟨oX_2 s0_z sk 2 rfl, ?_⟩
    refine ⟨oX_2 s0_z sk 2 rfl, ?_⟩
    refine ⟨⟨by omega, by omega⟩, ?_⟩
    refine ⟨oX_2 s0_z sk 1 rfl, ?_⟩
    refine ⟨⟨by omega, by omega⟩, ?_⟩
    refine ⟨⟨m0_z.1, m0_z.1, by rw [en], by rw [en], by rw [en], by rw [en], by omega, by omega, by omega, by rw [en]; simp only; omega, by rw [en]; simp only; omega⟩, ?_⟩
    exact ⟨rfl, rfl⟩
theorem memX {A : pm_A} {s : Int} {y : Int × cr_Xp 12} (h : y ∈ LSx A s) : ∃ q_z : Int, 0 ≤ q_z ∧ q_z < A s 1 ∧ y = (A (A s 2) q_z, xeX A s q_z) := by
  obtain ⟨q_z, hq, e_z⟩ := List.mem_map.1 h
  have := List.mem_range.1 hq
  exact ⟨q_z, by omega, by omega, e_z.symm⟩
theorem inX {A : pm_A} {s q : Int} (q0 : 0 ≤ q) (q1 : q < A s 1) : (A (A s 2) q, xeX A s q) ∈ LSx A s :=
  List.mem_map.2 ⟨q.toNat, List.mem_range.2 (by omega), by show (A (A s 2) ((q.toNat : Nat) : Int), xeX A s ((q.toNat : Nat) : Int)) = _; rw [Int.toNat_of_nonneg q0]⟩
theorem LSx_len (A : pm_A) (s : Int) : (LSx A s).length = (A s 1).toNat := by unfold LSx lsf; rw [List.length_map, List.length_range]
theorem shrX {A : pm_A} {s : Int} (h1 : srX A s) (h2 : ∀ q_z : Int, 0 ≤ q_z → q_z < A s 1 → 1 ≤ A (A s 2) q_z) : cr_Shr (LSx A s) := by
  refine ⟨?_, fun y_z hy => ?_⟩
  · unfold LSx lsf
    rw [List.pairwise_map]
    refine List.Pairwise.imp_of_mem ?_ (List.pairwise_lt_range (n := (A s 1).toNat))
    intro i_z j_z hi_z hj hij
    exact h1 i_z j_z (by omega) (by omega) (by have := List.mem_range.1 hj; omega)
  · obtain ⟨q_z, q0, q1_z, rfl⟩ := memX hy
    have := h2 q_z q0 q1_z
    show 0 < A (A s 2) q_z
    omega
abbrev aBg (A : pm_A) (s n : Int) (K : cr_Xp 12) : Prop := BigC (fun a_z => cr_co (LSx A s) a_z + si (n, K) a_z)
def axF (A B : pm_A) (s : Int) : Prop := gH wX B ∧ (B s 0 = A s 0 ∧ B s 2 = A s 2 ∧ B s 3 = A s 3) ∧ only A B s
def ax_post (A : pm_A) (s n : Int) (K : cr_Xp 12) (r : pm_R) : Prop := axF A r.2 s ∧ ((r.1 = some (0, -1) ∧ aBg A s n K) ∨ ∃ z_z, r.1 = some (0, z_z) ∧ (0 ≤ z_z ∧ z_z < r.2 s 1 ∧ xeX r.2 s z_z = K) ∧ srX r.2 s ∧ cfX r.2 s ∧ ∀ a_z, cr_co (LSx r.2 s) a_z = cr_co (LSx A s) a_z + si (n, K) a_z)
theorem insX.xe {A B : pm_A} {s c n to : Int} (h : insX A B s c n to) : (∀ q_z : Int, 0 ≤ q_z → q_z < to → xeX B s q_z = xeX A s q_z) ∧ xeX B s to = xkX A (A s 0) c ∧ ∀ q_z : Int, to < q_z → q_z ≤ A s 1 → xeX B s q_z = xeX A s (q_z - 1) := by
  obtain ⟨_, ⟨b0, b1, b2, b3⟩, _, _, h5, h6, h7⟩ := h
  refine ⟨fun q_z q0 q1_z => funext fun v_z => ?_, funext fun v_z => ?_, fun q_z q0 q1_z => funext fun v_z => ?_⟩
  · show (if (v_z.1 : Int) < B s 0 then B (B s 3) (q_z * B s 0 + (v_z.1 : Int)) else 0) = if (v_z.1 : Int) < A s 0 then A (A s 3) (q_z * A s 0 + (v_z.1 : Int)) else 0
    rw [b0, b3]
    by_cases e_z : (v_z.1 : Int) < A s 0
    · rw [if_pos e_z, if_pos e_z]; exact h5 q_z v_z.1 q0 q1_z (by omega) e_z
    · rw [if_neg e_z, if_neg e_z]
  · show (if (v_z.1 : Int) < B s 0 then B (B s 3) (to * B s 0 + (v_z.1 : Int)) else 0) = if (v_z.1 : Int) < A s 0 then A c (v_z.1 : Int) else 0
    rw [b0, b3]
    by_cases e_z : (v_z.1 : Int) < A s 0
    · rw [if_pos e_z, if_pos e_z]; exact h7 v_z.1 (by omega) e_z
    · rw [if_neg e_z, if_neg e_z]
  · show (if (v_z.1 : Int) < B s 0 then B (B s 3) (q_z * B s 0 + (v_z.1 : Int)) else 0) = if (v_z.1 : Int) < A s 0 then A (A s 3) ((q_z - 1) * A s 0 + (v_z.1 : Int)) else 0
    rw [b0, b3]
    by_cases e_z : (v_z.1 : Int) < A s 0
    · rw [if_pos e_z, if_pos e_z]; exact h6 q_z v_z.1 q0 q1_z (by omega) e_z
    · rw [if_neg e_z, if_neg e_z]
theorem ax_ins {A B : pm_A} {s c n to : Int} (l0 : 0 ≤ A s 1) (hs : srX A s) (hc : cfX A s) (hn : 1 ≤ n ∧ n ≤ 1000000000000) (hp : ptX A s to (xkX A (A s 0) c)) (h : insX A B s c n to) : ax_post A s n (xkX A (A s 0) c) (some (0, to), B) := by
  obtain ⟨x1_z, x2_z, x3⟩ := h.xe
  obtain ⟨g1, ⟨b0, b1, b2, b3⟩, g3_z, ⟨g4, g5_z, g6⟩, _⟩ := h
  obtain ⟨⟨t0_z, t1_z⟩, p1_z, p2_z⟩ := hp
  refine ⟨⟨g1, ⟨b0, b2, b3⟩, g3_z⟩, Or.inr ⟨to, rfl, ⟨t0_z, by show to < B s 1; omega, x2_z⟩, ?_, ?_, fun a_z => ?_⟩⟩
  · show srX B s
    intro q_z q' q0 hq hq'
    rw [b1] at hq'
    by_cases a1_z : q' < to
    · rw [x1_z q_z q0 (by omega), x1_z q' (by omega) a1_z]; exact hs q_z q' q0 hq (by omega)
    · by_cases a2 : q' = to
      · rw [a2, x2_z, x1_z q_z q0 (by omega)]; exact p1_z q_z q0 (by omega)
      · rw [x3 q' (by omega) (by omega)]
        by_cases c1_z : q_z < to
        · rw [x1_z q_z q0 c1_z]; exact hs q_z (q' - 1) q0 (by omega) (by omega)
        · by_cases c2_z : q_z = to
          · rw [c2_z, x2_z]; exact p2_z (q' - 1) (by omega) (by omega)
          · rw [x3 q_z (by omega) (by omega)]; exact hs (q_z - 1) (q' - 1) (by omega) (by omega) (by omega)
  · show cfX B s
    intro q_z q0 q1_z
    rw [b1] at q1_z
    rw [b2]
    by_cases a1_z : q_z < to
    · rw [g4 q_z q0 a1_z]; exact hc q_z q0 (by omega)
    · by_cases a2 : q_z = to
      · rw [a2, g6]; exact hn
      · rw [g5_z q_z (by omega) (by omega)]; exact hc (q_z - 1) (by omega) (by omega)
  · show cr_co (LSx B s) a_z = _
    unfold LSx
    rw [b1, show (A s 1 + 1).toNat = (A s 1).toNat + 1 by omega]
    refine co_insert (t := to.toNat) ?_ (fun q_z hq => ?_) a_z _ (by omega) (fun q_z q0 q1_z => ?_)
    · refine Prod.ext ?_ ?_
      · show B (B s 2) ((to.toNat : Nat) : Int) = n
        rw [Int.toNat_of_nonneg t0_z, b2]; exact g6
      · show xeX B s ((to.toNat : Nat) : Int) = _
        rw [Int.toNat_of_nonneg t0_z]; exact x2_z
    · refine Prod.ext ?_ (x1_z q_z (by omega) (by omega))
      show B (B s 2) (q_z : Int) = A (A s 2) (q_z : Int)
      rw [b2]; exact g4 q_z (by omega) (by omega)
    · refine Prod.ext ?_ ?_
      · show B (B s 2) ((q_z + 1 : Nat) : Int) = A (A s 2) (q_z : Int)
        rw [b2, g5_z _ (by omega) (by omega)]
        congr 1
        omega
      · show xeX B s ((q_z + 1 : Nat) : Int) = xeX A s (q_z : Int)
        rw [x3 _ (by omega) (by omega)]
        congr 1
        omega
theorem ax_25 {A B : pm_A} {s c n f x : Int} {v6 : pm_V} {K : cr_Xp 12} (hA : gH wX A) (s0 : 0 ≤ s) (sk : wX.2 s = 2) (hs : srX A s) (hc : cfX A s) (hn : 1 ≤ n ∧ n ≤ 1000000000000) (x0 : 0 ≤ x) (x1 : x < A s 1) (hx : xeX A s x = K) (hB : B = pm_upd A (A s 2) x (A (A s 2) x + n)) : Tm pmt (an_sh wX) o_X8_add 25 ([(2, s), (2, c), (1, n), (9, 0), (0, f), (0, x), v6], [], B) (ax_post A s n K) := by
  have l0 := fX_2_1 hA s0 sk
  obtain ⟨⟨n1_z, n2_z, n3_z⟩, m0_z, p0_z⟩ := shNP.of hA s0 sk
  have hcx := hc x x0 x1
  have hgB : gH wX B := by rw [hB]; exact uX_14 hA m0_z.2 (by omega) (by omega)
  have bf : ∀ j_z, B s j_z = A s j_z := fun j_z => by rw [hB, upd_ne n1_z]
  have bp : ∀ j_z, B (A s 3) j_z = A (A s 3) j_z := fun j_z => by rw [hB, upd_ne (fun e_z => n3_z e_z.symm)]
  have bx : ∀ q_z, xeX B s q_z = xeX A s q_z := fun q_z => funext fun v_z => by
    show (if (v_z.1 : Int) < B s 0 then B (B s 3) (q_z * B s 0 + (v_z.1 : Int)) else 0) = if (v_z.1 : Int) < A s 0 then A (A s 3) (q_z * A s 0 + (v_z.1 : Int)) else 0
    rw [bf 0, bf 3, bp]
  have bn : ∀ q_z, ¬ q_z = x → B (A s 2) q_z = A (A s 2) q_z := fun q_z hq => by rw [hB, upd_n2 hq]
  have bnx : B (A s 2) x = A (A s 2) x + n := by rw [hB, upd_at]
  have hF : axF A B s := ⟨hgB, ⟨bf 0, bf 2, bf 3⟩, by rw [hB]; exact only_upd (fun _ _ _ _ _ => rfl) (Or.inr (Or.inl rfl))⟩
  have hco : ∀ a_z, cr_co (LSx B s) a_z = cr_co (LSx A s) a_z + si (n, K) a_z := fun a_z => by
    unfold LSx
    rw [bf 1]
    refine co_merge (t := x.toNat) (fun q_z hq => ?_) ?_ ?_ a_z _ (by omega)
    · refine Prod.ext ?_ (bx q_z)
      show B (B s 2) (q_z : Int) = A (A s 2) (q_z : Int)
      rw [bf 2]; exact bn q_z (by omega)
    · show xeX A s ((x.toNat : Nat) : Int) = K
      rw [Int.toNat_of_nonneg x0]; exact hx
    · refine Prod.ext ?_ ?_
      · show B (B s 2) ((x.toNat : Nat) : Int) = A (A s 2) ((x.toNat : Nat) : Int) + n
        rw [Int.toNat_of_nonneg x0, bf 2]; exact bnx
      · show xeX B s ((x.toNat : Nat) : Int) = K
        rw [Int.toNat_of_nonneg x0, bx]; exact hx
  have hsB : srX B s := fun q_z q' q0 hq hq' => by
    rw [bf 1] at hq'
    rw [bx, bx]; exact hs q_z q' q0 hq hq'
  have hpos : ∀ q_z : Int, 0 ≤ q_z → q_z < B s 1 → 1 ≤ B (B s 2) q_z := fun q_z q0 q1_z => by
    rw [bf 1] at q1_z
    rw [bf 2]
    by_cases e_z : q_z = x
    · rw [e_z, bnx]; omega
    · rw [bn q_z e_z]; exact (hc q_z q0 q1_z).1
  refine wq_ok srt_add (fr := []) (cuts := []) (J := fun _ _ => False) (fun _ _ h_z => h_z.elim) 20 25 _ ?_
  refine ⟨oX_2 s0 sk 2 rfl, ?_⟩
  refine ⟨aX_14 (by rw [bf 2]; exact m0_z.1) (by rw [bf 2]; exact m0_z.2) x0 (by omega), ?_⟩
  have good_z : B (B s 2) x ≤ 1000000000000 → ax_post A s n K (some (0, x), B) := fun hle => ⟨hF, Or.inr ⟨x, rfl, ⟨x0, by show x < B s 1; rw [bf 1]; exact x1, (bx x).trans hx⟩, hsB, fun q_z q0 q1_z => ⟨hpos q_z q0 q1_z, by
    by_cases e_z : q_z = x
    · rw [e_z]; exact hle
    · show B (B s 2) q_z ≤ 1000000000000
      have q2_z : q_z < B s 1 := q1_z
      rw [bf 2, bn q_z e_z]; rw [bf 1] at q2_z; exact (hc q_z q0 q2_z).2⟩, hco⟩⟩
  refine ⟨fun h_z => ?_, fun h_z => ?_, fun h_z => ?_⟩
  · refine ⟨fun h0 => absurd h0 (by decide), fun h0 => ?_⟩
    refine ⟨rfl, hF, Or.inl ⟨rfl, Or.inl ⟨K, ?_⟩⟩⟩
    show 1000000000000 < cr_co (LSx A s) K + si (n, K) K
    have hin := cr_Shr.at (shrX hsB hpos) (inX (A := B) (s := s) x0 (by rw [bf 1]; exact x1))
    rw [← hco K]
    have e2 : cr_co (LSx B s) K = B (B s 2) x := by rw [← hx, ← bx x]; exact hin
    omega
  · refine ⟨fun h0 => ?_, fun h0 => absurd h0 (by decide)⟩
    exact ⟨rfl, good_z (by omega)⟩
  · refine ⟨fun h0 => ?_, fun h0 => absurd h0 (by decide)⟩
    exact ⟨rfl, good_z (by omega)⟩
theorem add_exX {A : pm_A} {s k n f : Int} (hA : gH wX A) (hh : shK s k) (hs : srX A s) (hc : cfX A s) (hn : 1 ≤ n ∧ n ≤ 1000000000000) (f0 : 0 ≤ f) (f1 : f ≤ A s 1) (hf : ∀ q_z, 0 ≤ q_z → q_z < f → cr_Gt (xeX A s q_z) (xkX A (A s 0) k)) : Cl pmt (an_sh wX) 73 [(2, s), (2, k), (1, n), (0, f)] A (ax_post A s n (xkX A (A s 0) k)) := by
  have hh0 := hh
  obtain ⟨⟨s0_z, sk⟩, ⟨k0_z, kk⟩⟩ := hh
  have l0 := fX_2_1 hA s0_z sk
  obtain ⟨⟨n1_z, n2_z, n3_z⟩, m0_z, p0_z⟩ := shNP.of hA s0_z sk
  have hself : axF A A s := ⟨hA, ⟨rfl, rfl, rfl⟩, fun _ _ _ _ _ => rfl⟩
  refine Cl.of (Nat.le_of_ble_eq_true rfl) ?_
  refine wq_ok (full := o_X8_add) srt_add (fr := []) (cuts := [9]) (J := fun pc st_z => pc = 9 ∧ ∃ x_z : Int, ((0 ≤ x_z ∧ x_z < A s 1 ∧ xeX A s x_z = xkX A (A s 0) k) ∨ ∃ lo_z, x_z = -1 - lo_z ∧ ptX A s lo_z (xkX A (A s 0) k)) ∧ st_z = ([(2, s), (2, k), (1, n), (9, 0), (0, f), (0, x_z), (9, 0)], [], A)) ?_ 20 0 _ ?_
  · rintro pc st_z ⟨rfl, x_z, hx, rfl⟩
    refine wq_ok srt_add (fr := []) (cuts := [25, 66]) (J := fun pc st_z => (pc = 25 ∧ 0 ≤ x_z ∧ st_z = ([(2, s), (2, k), (1, n), (9, 0), (0, f), (0, x_z), (9, 0)], [], pm_upd A (A s 2) x_z (A (A s 2) x_z + n))) ∨ (pc = 66 ∧ x_z < 0 ∧ A s 1 < 200 ∧ st_z = ([(2, s), (2, k), (1, n), (9, 0), (0, f), (0, x_z), (9, 0)], [], A))) ?_ 60 9 _ ?_
    · rintro pc st_z (⟨rfl, hx0, rfl⟩ | ⟨rfl, hx0, hl, rfl⟩)
      · rcases hx with ⟨a_z, b_z, c_z⟩ | ⟨lo_z, a_z, b_z⟩
        · exact ax_25 hA s0_z sk hs hc hn a_z b_z c_z rfl
        · have := b_z.1; omega
      · rcases hx with ⟨a_z, b_z, c_z⟩ | ⟨lo_z, a_z, b_z⟩
        · omega
        · rw [a_z]
          exact ax_66 hA hh0 hl b_z.1.1 b_z.1.2 ⟨by omega, by omega⟩ (fun G_z hG => ax_ins l0.1 hs hc hn b_z hG)
    · refine ⟨fun h_z => ?_, fun h_z => ?_⟩
      · refine ⟨oX_2 s0_z sk 1 rfl, ?_⟩
        refine ⟨fun h3 => ?_, fun h3 => ?_⟩
        · refine ⟨rfl, hself, Or.inl ⟨rfl, ?_⟩⟩
          rcases hx with ⟨a_z, b_z, c_z⟩ | ⟨lo_z, a_z, b_z⟩
          · omega
          · refine big_add (shrX hs (fun q_z q0 q1_z => (hc q_z q0 q1_z).1)) (by rw [LSx_len]; omega) hn.1 (fun y_z hy e_z => ?_)
            obtain ⟨q_z, q0, q1_z, rfl⟩ := memX hy
            have e_z : xeX A s q_z = xkX A (A s 0) k := e_z
            by_cases c1_z : q_z < lo_z
            · have := b_z.2.1 q_z q0 c1_z
              rw [e_z] at this
              exact cr_Gt.irrefl _ this
            · have := b_z.2.2 q_z (by omega) q1_z
              rw [e_z] at this
              exact cr_Gt.irrefl _ this
        · refine ⟨fun h4 => absurd h4 (by omega), fun h4 => ?_, fun h4 => ?_⟩
          · refine ⟨fun h0 => ?_, fun h0 => absurd h0 (by decide)⟩
            exact Or.inr ⟨rfl, h_z, h3, rfl⟩
          · refine ⟨fun h0 => ?_, fun h0 => absurd h0 (by decide)⟩
            exact Or.inr ⟨rfl, h_z, h3, rfl⟩
      · have hx1 : x_z < A s 1 := by
          rcases hx with ⟨a_z, b_z, c_z⟩ | ⟨lo_z, a_z, b_z⟩
          · exact b_z
          · have := b_z.1; omega
        have hcx := hc x_z h_z hx1
        refine ⟨oX_2 s0_z sk 2 rfl, ?_⟩
        refine ⟨aX_14 m0_z.1 m0_z.2 h_z (by omega), ?_⟩
        refine ⟨⟨by omega, by omega⟩, ?_⟩
        refine ⟨tX_14 m0_z.1 m0_z.2 h_z (by omega) rfl, ?_⟩
        exact Or.inl ⟨rfl, h_z, rfl⟩
  · refine ⟨rX_2 s0_z sk, ?_⟩
    refine (find_ex hA hh0 hs f0 f1 hf).imp ?_
    rintro ⟨r1_z, C_z⟩ ⟨q1_z, x_z, q2_z, q3_z⟩
    simp only at q1_z q2_z q3_z
    subst q1_z
    subst q2_z
    exact ⟨rfl, x_z, q3_z, rfl⟩
