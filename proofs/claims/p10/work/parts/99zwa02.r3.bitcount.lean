/-! Long.bitCount -/
theorem srt_bc : pm_srt o_J13_bitCount_95d88 = true := by decide +kernel
theorem and_127 (y : Int) : pp_bi 3 y 127 = y % 128 := by
  show ((Int32.ofInt y).toBitVec &&& (Int32.ofInt 127).toBitVec).toInt = _
  have e : ((Int32.ofInt y).toBitVec &&& (Int32.ofInt 127).toBitVec).toNat = (y % 128).toNat := by
    rw [BitVec.toNat_and]
    show (BitVec.ofInt 32 y).toNat &&& (2 ^ 7 - 1) = _
    rw [Nat.and_two_pow_sub_one_eq_mod, BitVec.toNat_ofInt]
    omega
  rw [BitVec.toInt_eq_toNat_of_lt (by rw [e]; omega), e]
  omega
theorem w32_128 (x : Int) : w32 x % 128 = x % 128 := by unfold w32; omega
theorem m_5 : mk8 85 8 = 6148914691236517205 := by decide
theorem m_3 : mk8 51 8 = 3689348814741910323 := by decide
theorem m_0f : mk8 15 8 = 1085102592571150095 := by decide
theorem q_A {V : Nat} (hV : V < 9223372036854775808) : (V : Int) - pp_lb 3 (shV 2 (V : Int) 1) 6148914691236517205 = ((bA 8 V : Nat) : Int) := by
  have e := nl_and (V := V / 2 ^ 1) (U := 6148914691236517205) (by omega) (by decide)
  rw [nl_ush hV (by omega) (by omega)]
  show (V : Int) - pp_lb 3 ((V / 2 ^ 1 : Nat) : Int) ((6148914691236517205 : Nat) : Int) = _
  rw [e]
  unfold bA
  rw [m_5]
  have : (V / 2) &&& 6148914691236517205 ≤ V / 2 := Nat.and_le_left
  show (V : Int) - (((V / 2) &&& 6148914691236517205 : Nat) : Int) = _
  omega
theorem q_B {V : Nat} (hV : V < 9223372036854775808) : pp_lb 3 (V : Int) 3689348814741910323 + pp_lb 3 (shV 2 (V : Int) 2) 3689348814741910323 = ((bB 8 V : Nat) : Int) := by
  have e := nl_and (V := V / 2 ^ 2) (U := 3689348814741910323) (by omega) (by decide)
  have e2 := nl_and (V := V) (U := 3689348814741910323) hV (by decide)
  rw [nl_ush hV (by omega) (by omega)]
  show pp_lb 3 (V : Int) ((3689348814741910323 : Nat) : Int) + pp_lb 3 ((V / 2 ^ 2 : Nat) : Int) ((3689348814741910323 : Nat) : Int) = _
  rw [e, e2]
  unfold bB
  rw [m_3]
  show (((V &&& 3689348814741910323 : Nat) : Int)) + (((V / 4) &&& 3689348814741910323 : Nat) : Int) = _
  omega
theorem q_C {V : Nat} (hV : V < 4611686018427387904) : pp_lb 3 ((V : Int) + shV 2 (V : Int) 4) 1085102592571150095 = ((bC 8 V : Nat) : Int) := by
  rw [nl_ush (by omega) (by omega) (by omega)]
  have e := nl_and (V := V + V / 2 ^ 4) (U := 1085102592571150095) (by omega) (by decide)
  show pp_lb 3 ((V : Int) + ((V / 2 ^ 4 : Nat) : Int)) ((1085102592571150095 : Nat) : Int) = _
  rw [show (V : Int) + ((V / 2 ^ 4 : Nat) : Int) = ((V + V / 2 ^ 4 : Nat) : Int) by omega, e]
  unfold bC
  rw [m_0f]
theorem bA_le (k V : Nat) : bA k V ≤ V := by unfold bA; omega
theorem bB_le {V : Nat} : bB 8 V ≤ 7378697629483820646 := by
  unfold bB
  rw [m_3]
  have a : V &&& 3689348814741910323 ≤ 3689348814741910323 := Nat.and_le_right
  have b : (V / 4) &&& 3689348814741910323 ≤ 3689348814741910323 := Nat.and_le_right
  omega
theorem bB_lt {V : Nat} (h : V < 35184372088832) : bB 8 V < 70368744177664 := by
  unfold bB
  have a : V &&& mk8 51 8 ≤ V := Nat.and_le_left
  have b : (V / 4) &&& mk8 51 8 ≤ V / 4 := Nat.and_le_left
  omega
theorem dv_q {r D X N : Nat} (h : N = r + D * X) (hr : r < D) : N / D = X := by
  rw [h, Nat.add_mul_div_left _ _ (by omega), Nat.div_eq_of_lt hr, Nat.zero_add]
theorem dv_r {S X N : Nat} (h : N = S + 128 * X) (hS : S < 128) : N % 128 = S := by
  rw [h, Nat.add_mul_mod_self_left, Nat.mod_eq_of_lt hS]
def nE0 (q0 q1 q2 q3 q4 q5 q6 q7 : Nat) : Nat := q0 + 256 * q1 + 65536 * q2 + 16777216 * q3 + 4294967296 * q4 + 1099511627776 * q5 + 281474976710656 * q6 + 72057594037927936 * q7
def nE1 (q1 q2 q3 q4 q5 q6 q7 : Nat) : Nat := q1 + 256 * q2 + 65536 * q3 + 16777216 * q4 + 4294967296 * q5 + 1099511627776 * q6 + 281474976710656 * q7
def nE2 (q2 q3 q4 q5 q6 q7 : Nat) : Nat := (q2 + q3) + 256 * (q3 + q4) + 65536 * (q4 + q5) + 16777216 * (q5 + q6) + 4294967296 * (q6 + q7) + 1099511627776 * q7
def nE3 (q4 q5 q6 q7 : Nat) : Nat := (q4 + q5 + q6 + q7) + 256 * (q5 + q6 + q7) + 65536 * (q6 + q7) + 16777216 * q7
theorem bn_1 (q0 q1 q2 q3 q4 q5 q6 q7 : Nat) : nE0 q0 q1 q2 q3 q4 q5 q6 q7 = q0 + 256 * nE1 q1 q2 q3 q4 q5 q6 q7 := by unfold nE0 nE1; omega
theorem bn_2 (q0 q1 q2 q3 q4 q5 q6 q7 : Nat) : nE0 q0 q1 q2 q3 q4 q5 q6 q7 + nE1 q1 q2 q3 q4 q5 q6 q7 = ((q0 + q1) + 256 * (q1 + q2)) + 65536 * nE2 q2 q3 q4 q5 q6 q7 := by unfold nE0 nE1 nE2; omega
theorem bn_3 (q0 q1 q2 q3 q4 q5 q6 q7 : Nat) : nE0 q0 q1 q2 q3 q4 q5 q6 q7 + nE1 q1 q2 q3 q4 q5 q6 q7 + nE2 q2 q3 q4 q5 q6 q7 = ((q0 + q1 + q2 + q3) + 256 * (q1 + q2 + q3 + q4) + 65536 * (q2 + q3 + q4 + q5) + 16777216 * (q3 + q4 + q5 + q6)) + 4294967296 * nE3 q4 q5 q6 q7 := by unfold nE0 nE1 nE2 nE3; omega
theorem bn_4 (q0 q1 q2 q3 q4 q5 q6 q7 : Nat) : nE0 q0 q1 q2 q3 q4 q5 q6 q7 + nE1 q1 q2 q3 q4 q5 q6 q7 + nE2 q2 q3 q4 q5 q6 q7 + nE3 q4 q5 q6 q7 = (q0 + q1 + q2 + q3 + q4 + q5 + q6 + q7) + 128 * (2 * ((q1 + q2 + q3 + q4) + (q5 + q6 + q7)) + 512 * ((q2 + q3 + q4 + q5) + (q6 + q7)) + 131072 * ((q3 + q4 + q5 + q6) + q7) + 33554432 * (q4 + q5 + q6 + q7) + 8589934592 * (q5 + q6 + q7) + 2199023255552 * (q6 + q7) + 562949953421312 * q7) := by unfold nE0 nE1 nE2 nE3; omega
theorem bn_5 {q0 q1 q2 q3 q4 q5 q6 q7 : Nat} (hq : q0 ≤ 8 ∧ q1 ≤ 8 ∧ q2 ≤ 8 ∧ q3 ≤ 8 ∧ q4 ≤ 8 ∧ q5 ≤ 8 ∧ q6 ≤ 8 ∧ q7 ≤ 8) : nE0 q0 q1 q2 q3 q4 q5 q6 q7 < 1000000000000000000 := by unfold nE0; omega
theorem bn_6 {q0 q1 q2 q3 q4 q5 q6 q7 u : Nat} (hq : q0 ≤ 8 ∧ q1 ≤ 8 ∧ q2 ≤ 8 ∧ q3 ≤ 8 ∧ q4 ≤ 8 ∧ q5 ≤ 8 ∧ q6 ≤ 8 ∧ q7 ≤ 8) (hu : u = nE0 q0 q1 q2 q3 q4 q5 q6 q7) : (u + u / 256 + (u + u / 256) / 65536 + (u + u / 256 + (u + u / 256) / 65536) / 4294967296) % 128 = q0 + q1 + q2 + q3 + q4 + q5 + q6 + q7 := by
  have l1 : q0 < 256 := by omega
  have l2 : (q0 + q1) + 256 * (q1 + q2) < 65536 := by omega
  have l3 : (q0 + q1 + q2 + q3) + 256 * (q1 + q2 + q3 + q4) + 65536 * (q2 + q3 + q4 + q5) + 16777216 * (q3 + q4 + q5 + q6) < 4294967296 := by omega
  have l4 : q0 + q1 + q2 + q3 + q4 + q5 + q6 + q7 < 128 := by omega
  rw [hu, dv_q (bn_1 q0 q1 q2 q3 q4 q5 q6 q7) l1, dv_q (bn_2 q0 q1 q2 q3 q4 q5 q6 q7) l2, dv_q (bn_3 q0 q1 q2 q3 q4 q5 q6 q7) l3]
  exact dv_r (bn_4 q0 q1 q2 q3 q4 q5 q6 q7) l4
theorem bc_55 {A : pm_A} {w : an_W} {x S : Nat} (hx : x % 128 = S) : Tm pmt (an_sh w) o_J13_bitCount_95d88 56 ([(1, (x : Int)), (9, 0)], [(1, (x : Int))], A) (fun r => r = (some (0, (S : Int)), A)) := by
  refine Tm.step srt_bc (q := (56, 57, 11, 3, 0, 0, 0, [])) rfl (n0 := 0) (pc' := 57) (s' := ([(1, (x : Int)), (9, 0)], [(0, w32 (x : Int))], A)) rfl ?_
  refine wq_ok srt_bc (fr := []) (cuts := []) (J := fun _ _ => False) ?_ 7 57 _ ?_
  · intro pc st h; exact h.elim
  · exact ⟨rfl, (by rw [and_127, w32_128, show ((x : Int) % 128) = ((x % 128 : Nat) : Int) by omega, hx])⟩
theorem bc_48 {A : pm_A} {w : an_W} {x S : Nat} (hl : x < 2305843009213693952) (hx : (x + x / 4294967296) % 128 = S) : Tm pmt (an_sh w) o_J13_bitCount_95d88 48 ([(1, (x : Int)), (9, 0)], [], A) (fun r => r = (some (0, (S : Int)), A)) := by
  have es := nl_ush (V := x) (b := 32) (by omega) (by omega) (by omega)
  rw [show (32 : Int).toNat = 32 from rfl] at es
  refine wq_ok srt_bc (fr := []) (cuts := [56]) (J := fun pc st => (pc = 56 ∧ st = ([(1, ((x : Int)) + (shV 2 ((x : Int)) 32)), (9, 0)], [(1, ((x : Int)) + (shV 2 ((x : Int)) 32))], A))) ?_ 12 48 _ ?_
  · rintro pc st (⟨rfl, rfl⟩)
    rw [es, show (x : Int) + ((x / 2 ^ 32 : Nat) : Int) = ((x + x / 4294967296 : Nat) : Int) by omega]
    exact bc_55 hx
  · refine ⟨(show r64 ((x : Int) + shV 2 (x : Int) 32) from by rw [es]; exact ⟨by omega, by omega⟩), ?_⟩
    exact ⟨rfl, rfl⟩
theorem bc_41 {A : pm_A} {w : an_W} {x S : Nat} (hl : x < 1152921504606846976) (hx : (x + x / 65536 + (x + x / 65536) / 4294967296) % 128 = S) : Tm pmt (an_sh w) o_J13_bitCount_95d88 41 ([(1, (x : Int)), (9, 0)], [], A) (fun r => r = (some (0, (S : Int)), A)) := by
  have es := nl_ush (V := x) (b := 16) (by omega) (by omega) (by omega)
  rw [show (16 : Int).toNat = 16 from rfl] at es
  refine wq_ok srt_bc (fr := []) (cuts := [48]) (J := fun pc st => (pc = 48 ∧ st = ([(1, ((x : Int)) + (shV 2 ((x : Int)) 16)), (9, 0)], [], A))) ?_ 11 41 _ ?_
  · rintro pc st (⟨rfl, rfl⟩)
    rw [es, show (x : Int) + ((x / 2 ^ 16 : Nat) : Int) = ((x + x / 65536 : Nat) : Int) by omega]
    exact bc_48 (by omega) hx
  · refine ⟨(show r64 ((x : Int) + shV 2 (x : Int) 16) from by rw [es]; exact ⟨by omega, by omega⟩), ?_⟩
    exact ⟨rfl, rfl⟩
theorem bc_34 {A : pm_A} {w : an_W} {u S : Nat} (hu : u < 1000000000000000000) (hfin : (u + u / 256 + (u + u / 256) / 65536 + (u + u / 256 + (u + u / 256) / 65536) / 4294967296) % 128 = S) : Tm pmt (an_sh w) o_J13_bitCount_95d88 34 ([(1, (u : Int)), (9, 0)], [], A) (fun r => r = (some (0, (S : Int)), A)) := by
  have es := nl_ush (V := u) (b := 8) (by omega) (by omega) (by omega)
  rw [show (8 : Int).toNat = 8 from rfl] at es
  refine wq_ok srt_bc (fr := []) (cuts := [41]) (J := fun pc st => (pc = 41 ∧ st = ([(1, ((u : Int)) + (shV 2 ((u : Int)) 8)), (9, 0)], [], A))) ?_ 11 34 _ ?_
  · rintro pc st (⟨rfl, rfl⟩)
    rw [es, show (u : Int) + ((u / 2 ^ 8 : Nat) : Int) = ((u + u / 256 : Nat) : Int) by omega]
    exact bc_41 (by omega) hfin
  · refine ⟨(show r64 ((u : Int) + shV 2 (u : Int) 8) from by rw [es]; exact ⟨by omega, by omega⟩), ?_⟩
    exact ⟨rfl, rfl⟩
theorem bc_24 {A : pm_A} {w : an_W} {V : Nat} : Tm pmt (an_sh w) o_J13_bitCount_95d88 34 ([(1, ((pb 8 V : Nat) : Int)), (9, 0)], [], A) (fun r => r = (some (0, (popS V 64 : Int)), A)) := by
  obtain ⟨q0, q1, q2, q3, q4, q5, q6, q7, hq, e1, e2⟩ := pb_8 V
  rw [e1]
  have e2 : pb 8 V = nE0 q0 q1 q2 q3 q4 q5 q6 q7 := e2
  exact bc_34 (by rw [e2]; exact bn_5 hq) (bn_6 hq e2)
theorem bitCount_ex {A : pm_A} {w : an_W} {V : Nat} (hV : V < 35184372088832) : Cl pmt (an_sh w) 3 [(1, (V : Int))] A (fun r => r = (some (0, (popS V 64 : Int)), A)) := by
  have l1 := bA_le 8 V
  have l2 := bB_lt (V := bA 8 V) (by omega)
  have h24 : ∀ x : Nat, x = bB 8 (bA 8 V) → Tm pmt (an_sh w) o_J13_bitCount_95d88 24 ([(1, (x : Int)), (9, 0)], [], A) (fun r => r = (some (0, (popS V 64 : Int)), A)) := fun x hx => by
    have es := q_C (V := x) (by omega)
    have e2 := nl_ush (V := x) (b := 4) (by omega) (by omega) (by omega)
    rw [show (4 : Int).toNat = 4 from rfl] at e2
    refine wq_ok srt_bc (fr := []) (cuts := [34]) (J := fun pc st => (pc = 34 ∧ st = ([(1, pp_lb 3 (((x : Int)) + (shV 2 ((x : Int)) 4)) 1085102592571150095), (9, 0)], [], A))) ?_ 13 24 _ ?_
    · rintro pc st (⟨rfl, rfl⟩)
      rw [es, hx, pb_eq]
      exact bc_24
    · refine ⟨(show r64 ((x : Int) + shV 2 (x : Int) 4) from by rw [e2]; exact ⟨by omega, by omega⟩), ?_⟩
      exact ⟨rfl, rfl⟩
  have h10 : ∀ x : Nat, x = bA 8 V → Tm pmt (an_sh w) o_J13_bitCount_95d88 10 ([(1, (x : Int)), (9, 0)], [], A) (fun r => r = (some (0, (popS V 64 : Int)), A)) := fun x hx => by
    have es := q_B (V := x) (by omega)
    have l3 := bB_lt (V := x) (by omega)
    refine wq_ok srt_bc (fr := []) (cuts := [24]) (J := fun pc st => (pc = 24 ∧ st = ([(1, (pp_lb 3 ((x : Int)) 3689348814741910323) + (pp_lb 3 (shV 2 ((x : Int)) 2) 3689348814741910323)), (9, 0)], [], A))) ?_ 15 10 _ ?_
    · rintro pc st (⟨rfl, rfl⟩)
      rw [es]
      exact h24 _ (by rw [hx])
    · refine ⟨(show r64 (pp_lb 3 (x : Int) 3689348814741910323 + pp_lb 3 (shV 2 (x : Int) 2) 3689348814741910323) from by rw [es]; exact ⟨by omega, by omega⟩), ?_⟩
      exact ⟨rfl, rfl⟩
  have es := q_A (V := V) (by omega)
  refine Cl.of (Nat.le_of_ble_eq_true rfl) ?_
  refine wq_ok (full := o_J13_bitCount_95d88) srt_bc (fr := []) (cuts := [10]) (J := fun pc st => (pc = 10 ∧ st = ([(1, ((V : Int)) - (pp_lb 3 (shV 2 ((V : Int)) 1) 6148914691236517205)), (9, 0)], [], A))) ?_ 13 0 _ ?_
  · rintro pc st (⟨rfl, rfl⟩)
    rw [es]
    exact h10 _ rfl
  · refine ⟨(show r64 ((V : Int) - pp_lb 3 (shV 2 (V : Int) 1) 6148914691236517205) from by rw [es]; exact ⟨by omega, by omega⟩), ?_⟩
    exact ⟨rfl, rfl⟩
