section
/-! finite, step, tables alike on both sides -/
def FT (AX AM : pm_A) : Prop := (AX 413 0 = AM 0 42 ∧ AX 413 1 = AM 0 41) ∧ ∀ i_z : Int, 0 ≤ i_z → i_z < AM 0 42 → AX 414 i_z = AM 27 i_z
theorem FT.of {AX BX AM BM : pm_A} (h : FT AX AM) (e1 : BX 413 0 = AX 413 0 ∧ BX 413 1 = AX 413 1) (e2 : ∀ j_z : Int, 0 ≤ j_z → BX 414 j_z = AX 414 j_z) (e3 : BM 0 42 = AM 0 42 ∧ BM 0 41 = AM 0 41) (e4 : ∀ j_z : Int, 0 ≤ j_z → BM 27 j_z = AM 27 j_z) : FT BX BM :=
  ⟨⟨by rw [e1.1, e3.1]; exact h.1.1, by rw [e1.2, e3.2]; exact h.1.2⟩, fun i_z i0_z i1_z => by rw [e2 i_z i0_z, e4 i_z i0_z]; exact h.2 i_z i0_z (by rw [← e3.1]; exact i1_z)⟩
theorem FT.m {AM BM : pm_A} {mt : List Nat} (hM : gFk wM mt AM BM) (a2 : avoid [41, 42, 10027] mt = true) : (BM 0 42 = AM 0 42 ∧ BM 0 41 = AM 0 41) ∧ ∀ j_z : Int, 0 ≤ j_z → BM 27 j_z = AM 27 j_z :=
  ⟨⟨hM 0 42 (by omega) (by omega) (by rw [kMd 42]; exact avoid_n a2 (by decide)), hM 0 41 (by omega) (by omega) (by rw [kMd 41]; exact avoid_n a2 (by decide))⟩, fun j_z j0 => hM 27 j_z (by omega) j0 (by rw [kmA kn27 (by decide +kernel)]; exact avoid_n a2 (by decide))⟩
theorem FT.k {AX BX AM BM : pm_A} {ms mt : List Nat} (h : FT AX AM) (hX : gFk wY ms AX BX) (hM : gFk wM mt AM BM) (a1 : avoid [700, 701, 10032] ms = true) (a2 : avoid [41, 42, 10027] mt = true) : FT BX BM :=
  h.of ⟨hX 413 0 (by omega) (by omega) (by rw [kc_o (a := 0) k413 (by decide) (shX_7 k413)]; exact avoid_n a1 (by decide)), hX 413 1 (by omega) (by omega) (by rw [kc_o (a := 0) k413 (by decide) (shX_7 k413)]; exact avoid_n a1 (by decide))⟩ (fun j_z j0 => hX 414 j_z (by omega) j0 (by rw [kc_a k414 (by decide) (shX_32 k414)]; exact avoid_n a1 (by decide))) (FT.m hM a2).1 (FT.m hM a2).2
theorem kp_o9 {r : Int} {l b : Nat} {n : Int} (hk : wX.2 r = l) (hl : ¬ r = 414) (hs : an_sh wX r = (0, b, n)) (j : Int) : kcode wP r j = 100 * l + j.toNat := by
  unfold kcode
  rw [shP, hs]
  show 100 * wP.2 r + j.toNat = 100 * l + j.toNat
  have e_z : wP.2 r = l := by
    show (if r = 414 then 36 else wX.2 r) = l
    rw [if_neg hl]; exact hk
  rw [e_z]
theorem FT.way {AX BX AM BM : pm_A} {ms mt : List Nat} (h : FT AX AM) (hX : gFk wP ms AX BX) (hM : gFk wM mt AM BM) (a1 : avoid [700, 701, 10036] ms = true) (a2 : avoid [41, 42, 10027] mt = true) : FT BX BM :=
  h.of ⟨hX 413 0 (by omega) (by omega) (by rw [kp_o9 k413 (by omega) (shX_7 k413)]; exact avoid_n a1 (by decide)), hX 413 1 (by omega) (by omega) (by rw [kp_o9 k413 (by omega) (shX_7 k413)]; exact avoid_n a1 (by decide))⟩ (fun j_z j0 => hX 414 j_z (by omega) j0 (by
    have e_z : kcode wP 414 j_z = 10036 := by
      unfold kcode
      rw [shP, shX_32 k414]
      rfl
    rw [e_z]; exact avoid_n a1 (by decide))) (FT.m hM a2).1 (FT.m hM a2).2
theorem ft_first : FT (wA WX) A0M := by
  have h0 : A0M 0 42 = 0 := by decide +kernel
  refine ⟨⟨by decide +kernel, by decide +kernel⟩, fun i_z i0_z i1_z => by omega⟩
theorem fz_u {x : Option fnO} {a st sn a' st' sn' : Int} {p p' : Int → Int} (h : fzO x a st sn p) (g : fzO x a' st' sn' p') : (a = a' ∧ st = st' ∧ sn = sn') ∧ ∀ i_z : Int, 0 ≤ i_z → i_z < st → p i_z = p' i_z := by
  rcases h with ⟨h1, h2, h3, h4⟩ | ⟨R_z, h1, h2, h3, h4⟩ | ⟨R_z, h1, h2, h3, h4⟩ | ⟨R_z, q_z, h1, h2, h3, h4, h5⟩
  · rcases g with ⟨_, g2, g3_z, g4⟩ | ⟨R', g1, _⟩ | ⟨R', g1, _⟩ | ⟨R', q', g1, _⟩
    · exact ⟨⟨by omega, by omega, by omega⟩, fun i_z i0_z i1_z => by omega⟩
    · rw [h1] at g1; cases g1
    · rw [h1] at g1; cases g1
    · rw [h1] at g1; cases g1
  · rcases g with ⟨g1, _⟩ | ⟨R', g1, g2, g3_z, g4⟩ | ⟨R', g1, _⟩ | ⟨R', q', g1, _⟩
    · rw [h1] at g1; cases g1
    · rw [h1] at g1
      cases g1
      exact ⟨⟨by omega, by omega, by omega⟩, fun i_z i0_z i1_z => by omega⟩
    · rw [h1] at g1; cases g1
    · rw [h1] at g1; cases g1
  · rcases g with ⟨g1, _⟩ | ⟨R', g1, _⟩ | ⟨R', g1, g2, g3_z, g4⟩ | ⟨R', q', g1, _⟩
    · rw [h1] at g1; cases g1
    · rw [h1] at g1; cases g1
    · rw [h1] at g1
      cases g1
      exact ⟨⟨by omega, by omega, by omega⟩, fun i_z i0_z i1_z => by omega⟩
    · rw [h1] at g1; cases g1
  · rcases g with ⟨g1, _⟩ | ⟨R', g1, _⟩ | ⟨R', g1, _⟩ | ⟨R', q', g1, g2, g3_z, g4, g5_z⟩
    · rw [h1] at g1; cases g1
    · rw [h1] at g1; cases g1
    · rw [h1] at g1; cases g1
    · rw [h1] at g1
      cases g1
      refine ⟨⟨by omega, by omega, by omega⟩, fun i_z i0_z i1_z => ?_⟩
      obtain ⟨n_z, rfl⟩ := Int.eq_ofNat_of_zero_le i0_z
      have hlt : n_z < q_z.length := by omega
      rw [h5 n_z _ (List.getElem?_eq_getElem hlt), g5_z n_z _ (List.getElem?_eq_getElem hlt)]
theorem rl_fin {s : cx_Sd 12} {ks : List (Fin 12)} {AX AM : pm_A} {q r : pm_R} (h : XRs s ks AX AM) (hq : jgP s (AX 1 0) ks q) (hr : mfP s (AM 0 7) ks r) : FT q.2 r.2 ∧ q.1 = r.1 := by
  rw [h.1.2.2.2.1] at hq
  obtain ⟨x_z, a_z, q1_z, q2_z, q3_z⟩ := hq
  obtain ⟨y_z, b_z, r1_z, r2_z, r3_z⟩ := hr
  have e_z := finO_u q1_z r1_z
  subst e_z
  have h1 := fz_u q3_z r3_z
  refine ⟨⟨⟨h1.1.2.1, h1.1.2.2⟩, fun i_z i0_z i1_z => h1.2 i_z i0_z (by rw [h1.1.2.1]; exact i1_z)⟩, ?_⟩
  rw [q2_z, r2_z, h1.1.1]
def lkN9 (A : pm_A) (c : Prop) (v : Int) (r : pm_R) : Prop := (r = (some (0, v), A) ∧ c) ∨ (r = (some (0, -1), A) ∧ ¬ c)
theorem lkN9.eq {A B : pm_A} {c d : Prop} {v w : Int} {q r : pm_R} (hq : lkN9 A c v q) (hr : lkN9 B d w r) (h : c ↔ d) (e : c → v = w) : q.2 = A ∧ r.2 = B ∧ q.1 = r.1 := by
  rcases hq with ⟨rfl, h1⟩ | ⟨rfl, h1⟩
  · rcases hr with ⟨rfl, _⟩ | ⟨rfl, h2⟩
    · exact ⟨rfl, rfl, by rw [e h1]⟩
    · exact absurd (h.1 h1) h2
  · rcases hr with ⟨rfl, h2⟩ | ⟨rfl, _⟩
    · exact absurd (h.2 h2) h1
    · exact ⟨rfl, rfl, rfl⟩
theorem sq_Xstep : pm_srt o_X9_step = true := by decide +kernel
theorem sq_Mstep : pm_srt o_X10_step = true := by decide +kernel
theorem sq_Xtables : pm_srt o_X9_tables = true := by decide +kernel
theorem sq_Mtables : pm_srt o_X10_tables = true := by decide +kernel
theorem xstep_ex {A : pm_A} {i : Int} (hA : gH wX A) (hK : BK A) : Cl pmt (an_sh wX) 110 [(2, 0), (0, i)] A (lkN9 A (0 ≤ i ∧ i < A 413 0) (A 414 i)) := by
  have e1 := hK.2.2.1
  have e2 := hK.2.2.2.1
  have p0_z := fX_7_0 hA (r := 413) (by omega) k413
  refine Cl.of (Nat.le_of_ble_eq_true rfl) ?_
  refine wq_ok (full := o_X9_step) sq_Xstep (fr := []) (cuts := []) (J := fun _ _ => False) (fun _ _ h_z => h_z.elim) 30 0 _ ?_
  refine ⟨fun h0 => ?_, fun h0 => ?_⟩
  · exact ⟨rfl, Or.inr ⟨rfl, by omega⟩⟩
  · refine ⟨oX_0 z0 kk0 12 rfl, ?_⟩
    refine ⟨oX_7 (by rw [e1]; omega) (by rw [e1]; exact k413) 0 rfl, ?_⟩
    refine ⟨fun h1 => ?_, fun h1 => ?_⟩
    · rw [e1] at h1
      refine ⟨oX_0 z0 kk0 12 rfl, ?_⟩
      refine ⟨oX_7 (by rw [e1]; omega) (by rw [e1]; exact k413) 2 rfl, ?_⟩
      refine ⟨aX_32 (by rw [e1, e2]; omega) (by rw [e1, e2]; exact k414) h0 (by omega), ?_⟩
      rw [e1, e2]
      exact ⟨rfl, Or.inl ⟨rfl, h0, h1⟩⟩
    · rw [e1] at h1
      exact ⟨rfl, Or.inr ⟨rfl, by omega⟩⟩
theorem mstep_ex {A : pm_A} {i : Int} (hA : gH wM A) : Cl pmt (an_sh wM) 185 [(2, 0), (0, i)] A (lkN9 A (0 ≤ i ∧ i < A 0 42) (A 27 i)) := by
  have c43_z := pM_43 hA
  have p42_z := fM_0_42 hA (r := 0) (by omega) km0
  refine Cl.of (Nat.le_of_ble_eq_true rfl) ?_
  refine wq_ok (full := o_X10_step) sq_Mstep (fr := []) (cuts := []) (J := fun _ _ => False) (fun _ _ h_z => h_z.elim) 30 0 _ ?_
  refine ⟨fun h0 => ?_, fun h0 => ?_⟩
  · exact ⟨rfl, Or.inr ⟨rfl, by omega⟩⟩
  · refine ⟨oM_0 (by omega) km0 42 rfl, ?_⟩
    refine ⟨fun h1 => ?_, fun h1 => ?_⟩
    · refine ⟨oM_0 (by omega) km0 43 rfl, ?_⟩
      refine ⟨aM_27 (by rw [c43_z]; omega) (by rw [c43_z]; exact kn27) h0 (by omega), ?_⟩
      rw [c43_z]
      exact ⟨rfl, Or.inl ⟨rfl, h0, h1⟩⟩
    · exact ⟨rfl, Or.inr ⟨rfl, by omega⟩⟩
theorem rl_step {AX AM : pm_A} {i : Int} {q r : pm_R} (h : FT AX AM) (hq : lkN9 AX (0 ≤ i ∧ i < AX 413 0) (AX 414 i) q) (hr : lkN9 AM (0 ≤ i ∧ i < AM 0 42) (AM 27 i) r) : q.2 = AX ∧ r.2 = AM ∧ q.1 = r.1 :=
  hq.eq hr (by rw [h.1.1]) (fun hi_z => h.2 i hi_z.1 (by rw [← h.1.1]; exact hi_z.2))
theorem xtables_ex {A : pm_A} (hA : gH wX A) (hK : BK A) : Cl pmt (an_sh wX) 112 [(2, 0)] A (fun r_z => r_z = (some (0, A 413 1), A)) := by
  have e1 := hK.2.2.1
  refine Cl.of (Nat.le_of_ble_eq_true rfl) ?_
  refine wq_ok (full := o_X9_tables) sq_Xtables (fr := []) (cuts := []) (J := fun _ _ => False) (fun _ _ h_z => h_z.elim) 30 0 _ ?_
  refine ⟨oX_0 z0 kk0 12 rfl, ?_⟩
  refine ⟨oX_7 (by rw [e1]; omega) (by rw [e1]; exact k413) 1 rfl, ?_⟩
  refine ⟨rfl, ?_⟩
  rw [e1] <;> rfl
theorem mtables_ex {A : pm_A} (hA : gH wM A) : Cl pmt (an_sh wM) 189 [(2, 0)] A (fun r_z => r_z = (some (0, A 0 41), A)) := by
  refine Cl.of (Nat.le_of_ble_eq_true rfl) ?_
  refine wq_ok (full := o_X10_tables) sq_Mtables (fr := []) (cuts := []) (J := fun _ _ => False) (fun _ _ h_z => h_z.elim) 30 0 _ ?_
  refine ⟨oM_0 (by omega) km0 41 rfl, ?_⟩
  exact ⟨rfl, rfl⟩
theorem rl_tables {AX AM : pm_A} {q r : pm_R} (h : FT AX AM) (hq : q = (some (0, AX 413 1), AX)) (hr : r = (some (0, AM 0 41), AM)) : q.1 = r.1 := by
  rw [hq, hr]
  show some (0, _) = some (0, _)
  rw [h.1.2]
end

section
-- ===== end of PART A; then your names; then what follows =====
/-! THE CLAIM OUT OF ONE WALK OF THE LAW'S BODY. Your part is whole_start (and what it stands on); all else here is the same for every law, but numbers. -/
def R_law : String := "SeedBenchLaw"
def lw_P (b : Addr) (xs : List Int32) (args : Array Value) (s : State) : Prop := args = #[.ref b] ∧ s.IntsAt b xs ∧ xs.length ≤ 2048 ∧ (Jvm.Cond.and given_1 narrow_1).before args s = true
def lw_Q (_ : Array Value) (s : State) (o : Outcome) (t : State) : Prop := o = .returned (some (.int 1)) ∧ Framed s o t [] 600000 7302250
def lw_Z (below : List Frame) (a : Array Value) (s : State) : State → Prop := fun t => ∃ o, t.status = .running ∧ Ended t below o ∧ lw_Q a s o t
/-- the law's own end, with 1 on the stack, nothing written that was there before, its room as the claim has it -/
theorem lw_ret {p : Program} {l : Launch} {e : Env} {s : State} {m : MethodId} {below : List Frame} {meth : Method} {c : Code} {b : Nat} (hx : p.tables.exec = Jvm.exec) (hb : c.code = code) (hr : meth.sig.returnType = ret) (hlocks : meth.locks = false) {pc : Nat} {H : Heap} {ls : Array Slot} (hdg : decode code pc = .ok (.ireturn, 1)) : W p l e room_1 s m #[Value.ref b] below meth c H [] 600000 7302250 (lw_Z below #[Value.ref b] s) (F0 m pc ls [.int 1]) := by
  intro T hT X
  obtain ⟨fs, hret, hrun, hended, hW, hframe⟩ := X.leave (v := some (.int 1)) (hlocks := hlocks) (fun h => by rw [hr] at h; cases h)
  have hmeth' : T.vm.method? m = some meth := X.method'
  refine ⟨T.setFrames fs, ?_, .returned (some (.int 1)), hrun, hended, rfl, ⟨_, rfl⟩, hW, hframe⟩
  jvm_step X.here [X.here.top, hx, hb, hdg, hmeth', hr, ret, narrow_b1]
  (try refine ⟨rfl, ?_⟩); (try refine ⟨rfl, ?_⟩)
  first | (intro acts; rw [hret _ acts rfl rfl rfl]) | rw [hret _ _ rfl rfl rfl]
  exact Steps.refl _
/-- what holds at the law's entry: the machine, the code, the tables' words (any of lw_tbl by 'hts w (by decide +kernel)'), the script of L ints xs at the cell b, what the Statement gives of the start (any of its parts by flat_of_before) -/
def lw_At (p : Program) (s : State) (m : MethodId) (meth : Method) (c : Code) (b L : Nat) (xs : Nat → Int32) : Prop :=
  p.tables.exec = Jvm.exec ∧ c.code = code ∧ meth.sig.returnType = ret ∧ c.maxLocals = 4 ∧ s.vm.findClass R_law = some m.cls ∧ (∀ w ∈ lw_tbl, w.before #[Value.ref b] s = true) ∧ va_X b L xs s s.heap ∧ b < s.heap.size ∧ meth.locks = false ∧ (Jvm.Cond.and given_1 narrow_1).before #[Value.ref b] s = true
/-! THE LAW'S OWN: array classes, tables, what stays beside a call -/
theorem lw_prim {s : State} {args : Array Value} {ty : FieldType} (h : (Cond.arrayClass ty).before args s = true) (hp : ∀ C, ty ≠ .object C) : ∃ cA : ClassId, ArrOfT s cA ty ∧ va_RA s cA ty := by
  obtain ⟨cA, kA, comp, h1, h2, h3⟩ := Cond.arrayClass_spec h
  refine ⟨cA, fun n z => ⟨fun k h => (by cases h), kA, h2, comp, h3⟩, ?_⟩
  cases ty with
  | object C => exact absurd rfl (hp C)
  | _ => exact h1
theorem lw_refs {s : State} {C : String} (h : va_AO C s) : ∃ cA : ClassId, ArrOfT s cA (.object C) ∧ va_RA s cA (.object C) := by
  obtain ⟨comp, c, k, h1, h2, h3, h4, h5⟩ := Cond.arrayOver_spec h
  exact ⟨c, fun n z => ⟨fun k h => (by cases h), k, h3, comp, h4⟩, k, comp, h3, h4, h1, h5⟩
theorem lw_tables {s : State} {b : Nat} (hts : ∀ w ∈ lw_tbl, w.before #[Value.ref b] s = true) : ∃ (D : va_G) (cy : Nat → ClassId), rx_K D vwCl (tyl cy) nwl ocl s := by
  have hg : ∀ w ∈ gT, w.before #[Value.ref b] s = true := fun w hw => hts w (List.mem_filter.mp hw).1
  have ht : ∀ w ∈ tables_1, w.before #[Value.ref b] s = true := fun w hw => hts w (List.mem_append_right _ hw)
  have hC : ∀ k : Nat, ∃ (cC : ClassId) (iS : Nat → Nat), ∀ q : vw_C, vwCl[k]? = some q → u_Kn s q.1 q.2.1 q.2.2 cC iS := by
    intro k
    match k with
    | 0 =>
      obtain ⟨cC, iS, h⟩ := u_known (C := RX0) (T := TX0) (N := 18) (n := 18) hg in_X0 (hg (.instantiable "SeedBench$Atlas" 18) (gm_1 (List.mem_of_getElem? (i := 154) rfl) rfl))
      exact ⟨cC, iS, fun q hq => by cases hq; exact h⟩
    | 1 =>
      obtain ⟨cC, iS, h⟩ := u_known (C := RX1) (T := TX1) (N := 6) (n := 6) hg in_X1 (hg (.instantiable "SeedBench$Book" 6) (gm_1 (List.mem_of_getElem? (i := 220) rfl) rfl))
      exact ⟨cC, iS, fun q hq => by cases hq; exact h⟩
    | 2 =>
      obtain ⟨cC, iS, h⟩ := u_known (C := RX2) (T := TX2) (N := 5) (n := 5) hg in_X2 (hg (.instantiable "SeedBench$Draft" 5) (gm_1 (List.mem_of_getElem? (i := 96) rfl) rfl))
      exact ⟨cC, iS, fun q hq => by cases hq; exact h⟩
    | 3 =>
      obtain ⟨cC, iS, h⟩ := u_known (C := RX3) (T := TX3) (N := 3) (n := 3) hg in_X3 (hg (.instantiable "SeedBench$Guide" 3) (gm_2 (List.mem_of_getElem? (i := 43) rfl) rfl))
      exact ⟨cC, iS, fun q hq => by cases hq; exact h⟩
    | 4 =>
      obtain ⟨cC, iS, h⟩ := u_known (C := RX4) (T := TX4) (N := 6) (n := 6) hg in_X4 (hg (.instantiable "SeedBench$Kinds" 6) (gm_2 (List.mem_of_getElem? (i := 13) rfl) rfl))
      exact ⟨cC, iS, fun q hq => by cases hq; exact h⟩
    | 5 =>
      obtain ⟨cC, iS, h⟩ := u_known (C := RX5) (T := TX5) (N := 7) (n := 7) hg in_X5 (hg (.instantiable "SeedBench$Mill" 7) (gm_1 (List.mem_of_getElem? (i := 122) rfl) rfl))
      exact ⟨cC, iS, fun q hq => by cases hq; exact h⟩
    | 6 =>
      obtain ⟨cC, iS, h⟩ := u_known (C := RX6) (T := TX6) (N := 2) (n := 2) hg in_X6 (hg (.instantiable "SeedBench$Ring" 2) (gm_2 (List.mem_of_getElem? (i := 49) rfl) rfl))
      exact ⟨cC, iS, fun q hq => by cases hq; exact h⟩
    | 7 =>
      obtain ⟨cC, iS, h⟩ := u_known (C := RX7) (T := TX7) (N := 6) (n := 6) hg in_X7 (hg (.instantiable "SeedBench$Seed" 6) (gm_1 (List.mem_of_getElem? (i := 26) rfl) rfl))
      exact ⟨cC, iS, fun q hq => by cases hq; exact h⟩
    | 8 =>
      obtain ⟨cC, iS, h⟩ := u_known (C := RX8) (T := TX8) (N := 4) (n := 4) hg in_X8 (hg (.instantiable "SeedBench$Share" 4) (gm_1 (List.mem_of_getElem? (i := 33) rfl) rfl))
      exact ⟨cC, iS, fun q hq => by cases hq; exact h⟩
    | 9 =>
      obtain ⟨cC, iS, h⟩ := u_known (C := RX9) (T := TX9) (N := 15) (n := 15) hg in_X9 (hg (.instantiable "SeedBench" 15) (gm_1 (List.mem_of_getElem? (i := 18) rfl) rfl))
      exact ⟨cC, iS, fun q hq => by cases hq; exact h⟩
    | 10 =>
      obtain ⟨cC, iS, h⟩ := u_known (C := RX10) (T := TX10) (N := 58) (n := 58) hg in_X10 (hg (.instantiable "SeedBenchModel" 58) (gm_4 (List.mem_of_getElem? (i := 132) rfl) rfl))
      exact ⟨cC, iS, fun q hq => by cases hq; exact h⟩
    | k + 11 => exact ⟨0, fun _ => 0, fun q hq => by cases hq⟩
  obtain ⟨c0, a0⟩ := lw_prim (ty := .int) (hg _ (gm_1 (List.mem_of_getElem? (i := 61) rfl) rfl)) (fun C h => by cases h)
  obtain ⟨c1, a1⟩ := lw_prim (ty := .long) (hg _ (gm_1 (List.mem_of_getElem? (i := 62) rfl) rfl)) (fun C h => by cases h)
  obtain ⟨c2, a2⟩ := lw_prim (ty := .boolean) (hg _ (gm_1 (List.mem_of_getElem? (i := 218) rfl) rfl)) (fun C h => by cases h)
  have o3 : va_AO "SeedBench$Ring" s := va_AO.of (ht _ (List.mem_append_right _ (List.mem_append_left _ (List.mem_of_getElem? (i := 41) rfl))))
  have o4 : va_AO "SeedBench$Seed" s := va_AO.of (ht _ (List.mem_append_left _ (List.mem_of_getElem? (i := 152) rfl)))
  have o5 : va_AO "SeedBench$Share" s := va_AO.of (ht _ (List.mem_append_left _ (List.mem_of_getElem? (i := 32) rfl)))
  obtain ⟨c3, a3⟩ := lw_refs o3
  obtain ⟨c4, a4⟩ := lw_refs o4
  obtain ⟨c5, a5⟩ := lw_refs o5
  refine ⟨(fun k => Classical.choose (hC k), fun k => Classical.choose (Classical.choose_spec (hC k))), fun t => match t with
    | 0 => c0
    | 1 => c1
    | 2 => c2
    | 3 => c3
    | 4 => c4
    | _ => c5, ⟨fun k q hq => Classical.choose_spec (Classical.choose_spec (hC k)) q hq, ?_⟩, ?_, ?_⟩
  · intro k q hq
    match k, hq with
    | 0, hq => cases hq; exact a0
    | 1, hq => cases hq; exact a1
    | 2, hq => cases hq; exact a2
    | 3, hq => cases hq; exact a3
    | 4, hq => cases hq; exact a4
    | 5, hq => cases hq; exact a5
    | k + 6, hq => cases hq
  · refine fun w hw => ?_
    have key : ∀ w ∈ nwl, va_Nw (Cond.methodLinkNest w.1 w.2.1 w.2.2.1 w.2.2.2) s := by
      unfold nwl
      refine List.forall_mem_cons.mpr ⟨va_Nw.of rfl (ht (.methodLinkNest "SeedBench$Seed" 28 ⟨"SeedBench$Share", "<init>", "()V"⟩ "SeedBench") (List.mem_append_left _ (List.mem_of_getElem? (i := 34) rfl))), ?_⟩
      refine List.forall_mem_cons.mpr ⟨va_Nw.of rfl (ht (.methodLinkNest "SeedBench" 18 ⟨"SeedBench$Draft", "<init>", "()V"⟩ "SeedBench") (List.mem_append_left _ (List.mem_of_getElem? (i := 97) rfl))), ?_⟩
      refine List.forall_mem_cons.mpr ⟨va_Nw.of rfl (ht (.methodLinkNest "SeedBench" 25 ⟨"SeedBench$Mill", "<init>", "()V"⟩ "SeedBench") (List.mem_append_left _ (List.mem_of_getElem? (i := 123) rfl))), ?_⟩
      refine List.forall_mem_cons.mpr ⟨va_Nw.of rfl (ht (.methodLinkNest "SeedBench$Mill" 11 ⟨"SeedBench$Share", "<init>", "()V"⟩ "SeedBench") (List.mem_append_left _ (List.mem_of_getElem? (i := 128) rfl))), ?_⟩
      refine List.forall_mem_cons.mpr ⟨va_Nw.of rfl (ht (.methodLinkNest "SeedBench$Atlas" 61 ⟨"SeedBench$Share", "<init>", "()V"⟩ "SeedBench") (List.mem_append_left _ (List.mem_of_getElem? (i := 162) rfl))), ?_⟩
      refine List.forall_mem_cons.mpr ⟨va_Nw.of rfl (ht (.methodLinkNest "SeedBench" 53 ⟨"SeedBench$Book", "<init>", "()V"⟩ "SeedBench") (List.mem_append_left _ (List.mem_of_getElem? (i := 221) rfl))), ?_⟩
      refine List.forall_mem_cons.mpr ⟨va_Nw.of rfl (ht (.methodLinkNest "SeedBench" 60 ⟨"SeedBench$Kinds", "<init>", "()V"⟩ "SeedBench") (List.mem_append_right _ (List.mem_append_left _ (List.mem_of_getElem? (i := 14) rfl)))), ?_⟩
      refine List.forall_mem_cons.mpr ⟨va_Nw.of rfl (ht (.methodLinkNest "SeedBench" 73 ⟨"SeedBench$Guide", "<init>", "()V"⟩ "SeedBench") (List.mem_append_right _ (List.mem_append_left _ (List.mem_of_getElem? (i := 44) rfl)))), ?_⟩
      refine List.forall_mem_cons.mpr ⟨va_Nw.of rfl (ht (.methodLinkNest "SeedBench$Guide" 17 ⟨"SeedBench$Ring", "<init>", "()V"⟩ "SeedBench") (List.mem_append_right _ (List.mem_append_left _ (List.mem_of_getElem? (i := 50) rfl)))), ?_⟩
      refine List.forall_mem_cons.mpr ⟨va_Nw.of rfl (ht (.methodLinkNest "SeedBench" 90 ⟨"SeedBench$Ring", "<init>", "()V"⟩ "SeedBench") (List.mem_append_right _ (List.mem_append_left _ (List.mem_of_getElem? (i := 92) rfl)))), ?_⟩
      refine List.forall_mem_cons.mpr ⟨va_Nw.of rfl (ht (.methodLinkNest "SeedBench$Mill" 49 ⟨"SeedBench", "isTableTurnable", "([IIII)Z"⟩ "SeedBench") (List.mem_append_right _ (List.mem_append_left _ (List.mem_of_getElem? (i := 209) rfl)))), ?_⟩
      refine List.forall_mem_cons.mpr ⟨va_Nw.of rfl (ht (.methodLinkNest "SeedBench$Mill" 68 ⟨"SeedBench", "turnTable", "([IIII)V"⟩ "SeedBench") (List.mem_append_right _ (List.mem_append_right _ (List.mem_append_left _ (List.mem_of_getElem? (i := 23) rfl))))), ?_⟩
      refine List.forall_mem_cons.mpr ⟨va_Nw.of rfl (ht (.methodLinkNest "SeedBench$Atlas" 88 ⟨"SeedBench", "turnTable", "([IIII)V"⟩ "SeedBench") (List.mem_append_right _ (List.mem_append_right _ (List.mem_append_left _ (List.mem_of_getElem? (i := 129) rfl))))), ?_⟩
      refine List.forall_mem_cons.mpr ⟨va_Nw.of rfl (ht (.methodLinkNest "SeedBench$Kinds" 62 ⟨"SeedBench", "turnTable", "([IIII)V"⟩ "SeedBench") (List.mem_append_right _ (List.mem_append_right _ (List.mem_append_left _ (List.mem_of_getElem? (i := 198) rfl))))), ?_⟩
      exact fun _ h => absurd h List.not_mem_nil
    exact key w hw
  · intro C hC
    unfold ocl at hC
    simp only [List.mem_cons, List.not_mem_nil, or_false] at hC
    rcases hC with rfl | rfl | rfl
    · exact o3
    · exact o4
    · exact o5
theorem lw_apart {A : Nat → Prop} {cX cM : va_W} (hD : va_D A (cX ++ cM)) {i j : Nat} {x y : Nat × va_E} (hx : cX[i]? = some x) (hy : cM[j]? = some y) : x.1 ≠ y.1 := by
  intro h
  have hi : i < cX.length := (List.getElem?_eq_some_iff.mp hx).1
  have := hD.1 i (cX.length + j) x y (by rw [List.getElem?_append_left hi]; exact hx) (by rw [List.getElem?_append_right (by omega), Nat.add_sub_cancel_left]; exact hy) h
  omega
theorem lw_left {D : va_G} {cl : List vw_C} {cX cM : va_W} {H : Heap} (hP : va_P D cl (cX ++ cM) H) : va_P D cl cX H := fun k q hq => hP k q (by rw [List.getElem?_append_left (List.getElem?_eq_some_iff.mp hq).1]; exact hq)
theorem lw_right {D : va_G} {cl : List vw_C} {cX cM : va_W} {H : Heap} (hP : va_P D cl (cX ++ cM) H) : va_P D cl cM H := fun k q hq => hP (cX.length + k) q (by rw [List.getElem?_append_right (by omega), Nat.add_sub_cancel_left]; exact hq)
theorem lw_leftD {A : Nat → Prop} {cX cM : va_W} (hD : va_D A (cX ++ cM)) : va_D A cX :=
  ⟨fun i j p q hi hj h => hD.1 i j p q (by rw [List.getElem?_append_left (List.getElem?_eq_some_iff.mp hi).1]; exact hi) (by rw [List.getElem?_append_left (List.getElem?_eq_some_iff.mp hj).1]; exact hj) h, fun k q hk => hD.2 k q (by rw [List.getElem?_append_left (List.getElem?_eq_some_iff.mp hk).1]; exact hk)⟩
theorem lw_rightD {A : Nat → Prop} {cX cM : va_W} (hD : va_D A (cX ++ cM)) : va_D A cM :=
  ⟨fun i j p q hi hj h => by
    have := hD.1 (cX.length + i) (cX.length + j) p q (by rw [List.getElem?_append_right (by omega), Nat.add_sub_cancel_left]; exact hi) (by rw [List.getElem?_append_right (by omega), Nat.add_sub_cancel_left]; exact hj) h
    omega, fun k q hk => hD.2 (cX.length + k) q (by rw [List.getElem?_append_right (by omega), Nat.add_sub_cancel_left]; exact hk)⟩
/-- a call on the cells of the right leaves those of the left -/
theorem lw_join {A : Nat → Prop} {D : va_G} {cl : List vw_C} {cX cM cM' : va_W} {H H1 : Heap} (hP : va_P D cl (cX ++ cM) H) (hD : va_D A (cX ++ cM)) (hk : ∀ q : Nat, q < H.size → ¬ va_A cM H.size q → H1[q]? = H[q]?) (hF : ∀ q, va_A cM H.size q → A q) (hP1 : va_P D cl cM' H1) (hD1 : va_D (va_A cM H.size) cM') : va_P D cl (cX ++ cM') H1 ∧ va_D A (cX ++ cM') := by
  have hPx := lw_left hP
  have apart : ∀ (k : Nat) (q : Nat × va_E), cX[k]? = some q → q.1 < H.size ∧ ¬ va_A cM H.size q.1 := by
    intro k q hq
    have hl := (hPx k q hq).lt
    refine ⟨hl, fun h => ?_⟩
    rcases h with ⟨k2, e, h⟩ | h
    · exact lw_apart hD hq h rfl
    · omega
  refine ⟨va_P.app (fun k q hq => ?_) hP1, va_D.app (lw_leftD hD) (hD1.weaken (fun k q _ h => hF q.1 h)) (fun i j x y hx hy hxy => ?_)⟩
  · obtain ⟨g1, g2⟩ := apart k q hq
    exact (hPx k q hq).kept (hk q.1 g1 g2)
  · exact (apart i x hx).2 (by rw [hxy]; exact hD1.2 j y hy)
/-- a call on the cells of the left leaves those of the right -/
theorem lw_keep {A : Nat → Prop} {D : va_G} {cl : List vw_C} {cX cM : va_W} {H H1 : Heap} (hP : va_P D cl (cX ++ cM) H) (hD : va_D A (cX ++ cM)) (hk : ∀ q : Nat, q < H.size → ¬ va_A cX H.size q → H1[q]? = H[q]?) : va_P D cl cM H1 := by
  have hPm := lw_right hP
  intro k q hq
  have hl := (hPm k q hq).lt
  refine (hPm k q hq).kept (hk q.1 hl (fun h => ?_))
  rcases h with ⟨k2, e, h⟩ | h
  · exact lw_apart hD h hq rfl
  · omega
theorem lw_behind {G : rx_G} {p : Program} {l : Launch} {e : Env} {R : Room} {s : State} {m : MethodId} {args : Array Value} {below : List Frame} {meth : Method} {c : Code} {H : Heap} {locs : List Loc} {cells slots : Nat} {Q : State → Prop} {pc : Nat} {ls : Array Slot} {rest st0 : List Value} {a : Array Value} {A0 A1 : Nat → Prop} {H0 : Heap} {mc ms : Nat} {free : Addr → Prop} {ρ : List Nat} {r : rx_R}
    (hr : va_Run p l e R s m args below meth c H locs cells slots mc ms (F0 m pc ls st0) rest (rx_Q G ρ r A1 a) free) (hS : va_S A0 H0 H locs) (hA : ∀ q, q < H.size → A1 q → A0 q) (hf : ∀ q, free q → A0 q)
    (kk : ∀ (v : Option Value) (tl : List Nat) (cws : va_W) (H1 : Heap) (locs1 : List Loc), rx_o (ρ ++ tl) G.sg r.1 v → rx_w (ρ ++ tl) G.sg G.cy r.2 cws → va_P G.D G.cl cws H1 → va_D A1 cws → (∀ q : Nat, q < H.size → ¬ A1 q → H1[q]? = H[q]?) → va_S A0 H0 H1 locs1 → W p l e R s m args below meth c H1 locs1 (cells + mc) (slots + ms) Q (F0 m (pc + 3) ls (v.toList ++ rest))) : W p l e R s m args below meth c H locs cells slots Q (F0 m pc ls st0) := by
  intro T hT X
  obtain ⟨v, st₀, t, T', L, h0, X', hL, e1, e2, ⟨⟨v', tl, cws, hv, hp, hb, hP, hD⟩, hz, hk⟩, st⟩ := hr T hT X
  cases hv
  rw [h0] at hz hk
  obtain ⟨t2, a1, b1⟩ := kk v tl cws T'.heap (locs ++ L) hp hb (by rw [e1]; exact hP) hD (fun q h1 h2 => by rw [e1]; exact hk q h1 h2)
    ⟨Nat.le_trans hS.1 (by rw [e1]; exact hz), fun q h1 h2 => by rw [e1, hk q (Nat.lt_of_lt_of_le h1 hS.1) (fun z => h2 (hA q (Nat.lt_of_lt_of_le h1 hS.1) z))]; exact hS.2.1 q h1 h2, fun q hq => by
      rcases List.mem_append.mp hq with h | h
      · exact hS.2.2 q h
      · exact hf _ (hL q h)⟩ T' rfl X'
  exact ⟨t2, st t2 a1, b1⟩
/-- the law, as a method of its own -/
abbrev lwM (nm : String) : rx_M := (⟨"SeedBenchLaw", nm, "([I)Z"⟩, code, 4, ret, room_1, [])
abbrev lwσ : Nat → Int32 := fun _ => 0
abbrev lA (s : State) : Nat → Prop := fun q => s.heap.size ≤ q
theorem lw_X {p : Program} {l : Launch} {s : State} {m : MethodId} {meth : Method} {c : Code} {b L : Nat} {xs : Nat → Int32} {D : va_G} {cy : Nat → ClassId} (C0 : lw_At p s m meth c b L xs) (hK : rx_K D vwCl (tyl cy) nwl ocl s) : rx_X (gG l D cy lwσ) (lwM meth.name) p s m #[Value.ref b] meth c (lA s) := by
  obtain ⟨hx, hb, hr, hml, hown, hts, hX, hbl, hlocks, hgv⟩ := C0
  exact ⟨hx, hb, hml, hr, hown, fun w hw => hts w (List.mem_filter.mp hw).1, hlocks, rfl, hK, fun _ h => h⟩
theorem lw_oI {ρ : List Nat} {σ : Nat → Int32} {x : Int32} {v : Option Value} (h : rx_o ρ σ (some (.int x)) v) : v = some (.int x) := by
  cases v with
  | none => exact h.elim
  | some w => exact congrArg some h
theorem lw_oL {ρ : List Nat} {σ : Nat → Int32} {x : Int64} {v : Option Value} (h : rx_o ρ σ (some (.long x)) v) : v = some (.long x) := by
  cases v with
  | none => exact h.elim
  | some w => exact congrArg some h
theorem lw_oN {ρ : List Nat} {σ : Nat → Int32} {v : Option Value} (h : rx_o ρ σ none v) : v = none := by
  cases v with
  | none => rfl
  | some w => exact h.elim
theorem lw_lo (k : Int32) : (-2147483648 : Int) ≤ k.toInt := by have := Int32.le_toInt k; omega
theorem lw_hi (k : Int32) : k.toInt ≤ 2147483647 := by have := Int32.toInt_lt k; omega
theorem lw_cmp0 (x : Int64) : lg_cmp x x = 0 := by
  unfold lg_cmp
  have : ¬ x > x := fun h => absurd h (Int64.lt_irrefl)
  simp [this]
theorem lw_joinL {A : Nat → Prop} {D : va_G} {cl : List vw_C} {cX cX' cM : va_W} {H H1 : Heap} (hP : va_P D cl (cX ++ cM) H) (hD : va_D A (cX ++ cM)) (hk : ∀ q : Nat, q < H.size → ¬ va_A cX H.size q → H1[q]? = H[q]?) (hF : ∀ q, va_A cX H.size q → A q) (hP1 : va_P D cl cX' H1) (hD1 : va_D (va_A cX H.size) cX') : va_P D cl (cX' ++ cM) H1 ∧ va_D A (cX' ++ cM) := by
  have hPm := lw_right hP
  have apart : ∀ (k : Nat) (q : Nat × va_E), cM[k]? = some q → q.1 < H.size ∧ ¬ va_A cX H.size q.1 := by
    intro k q hq
    have hl := (hPm k q hq).lt
    refine ⟨hl, fun h => ?_⟩
    rcases h with ⟨k2, e, h⟩ | h
    · exact lw_apart hD h hq rfl
    · omega
  refine ⟨va_P.app hP1 (fun k q hq => ?_), va_D.app (hD1.weaken (fun k q _ h => hF q.1 h)) (lw_rightD hD) (fun i j x y hx hy hxy => ?_)⟩
  · obtain ⟨g1, g2⟩ := apart k q hq
    exact (hPm k q hq).kept (hk q.1 g1 g2)
  · exact (apart j y hy).2 (by rw [← hxy]; exact hD1.2 i x hx)
theorem lw_in {A : Nat → Prop} {H0 : Heap} {cws : va_W} {H : Heap} {locs : List Loc} (hD : va_D (fun q => H0.size ≤ q) cws) (hS : va_S A H0 H locs) : ∀ q, va_A cws H.size q → H0.size ≤ q := by
  intro q hq
  rcases hq with ⟨k, e, hk⟩ | hq
  · exact hD.2 k (q, e) hk
  · exact Nat.le_trans hS.1 hq
theorem lw_recv {ρ : List Nat} {σ : Nat → Int32} {cy : Nat → ClassId} {W0 : rx_W} {cws : va_W} {b ci : Nat} {fs : List Value} {C : vw_C} {D : va_G} {cl : List vw_C} {TY : List (ClassId × FieldType)} {s : State} {H : Heap} {As : List Value} (hw : rx_w ρ σ cy W0 cws) (hb : ρ[0]? = some b) (h0 : W0[0]? = some (.inl (ci, fs))) (hK : va_K D cl TY s) (hP : va_P D cl cws H) (hc : cl[ci]? = some C) : ∃ (b' : Nat) (As' : List Value) (C' : vw_C) (cell : Cell), (Value.ref b :: As) = .ref b' :: As' ∧ cl[ci]? = some C' ∧ H[b']? = some cell ∧ cell.vm.isStatics = false ∧ s.vm.findClass C'.1 = some cell.cls := by
  obtain ⟨ce, f1, cfs, f2, f3⟩ := hw.at h0 hb
  subst f2
  obtain ⟨cell, q1, q2, q3⟩ := va_recv hK hP hc f1
  exact ⟨b, As, C, cell, rfl, hc, q1, q2, q3⟩
/-- what a call of the plain machine says of the real one -/
theorem lw_met {l : Launch} {D : va_G} {cy : Nat → ClassId} {w : an_W} {n mid : Nat} {a : List pm_V} {A : pm_A} {r : pm_R} (hc : pm_call pmt (an_sh w) n mid a A = some r) {ws : rx_W} {va : List Value} (hw : pw (an_sh w) A ws) (ha : pl a va) : ∃ r' : rx_R, po r.1 r'.1 ∧ pw (an_sh w) r.2 r'.2 ∧ ∀ (ρ : List Nat) (cws : va_W) (sz : Nat) (ca : List Value), rx_w ρ lwσ cy ws cws → rx_l ρ lwσ va ca → Met l (mt mid).1 (rx_ws (gG l D cy lwσ) (mt mid)) (mt mid).2.2.2.2.1 (rx_Pc (gG l D cy lwσ) ca cws sz) (rx_Q (gG l D cy lwσ) ρ r' (va_A cws sz)) (mt mid).2.2.2.2.1.cells (mt mid).2.2.2.2.1.slots (va_A cws sz) := by
  obtain ⟨r', h1, h2, h3⟩ := sim_all pmt_fit n mid a A r hc va ws ha hw
  exact ⟨r', h2, h3, fun ρ cws sz ca hwc hac => (rx_sound mt_all n).1 mid va ws r' h1 ρ cws sz ca hwc hac⟩
def lwZ (mid : Nat) : Prop := (mt mid).2.2.2.2.1.cells = 0 ∧ (mt mid).2.2.2.2.1.slots = 0
/-- both objects stand on the heap, as the plain worlds say -/
def lwJ (AX AM : pm_A) (D : va_G) (cy : Nat → ClassId) (s : State) (qx qm : Nat) (H : Heap) (locs : List Loc) : Prop := ∃ (ρx ρm : List Nat) (cX cM : va_W) (wsX wsM : rx_W), rx_w ρx lwσ cy wsX cX ∧ pw (an_sh wX) AX wsX ∧ rx_w ρm lwσ cy wsM cM ∧ pw (an_sh wM) AM wsM ∧ ρx[0]? = some qx ∧ ρm[0]? = some qm ∧ va_P D vwCl (cX ++ cM) H ∧ va_D (lA s) (cX ++ cM) ∧ va_S (lA s) s.heap H locs
theorem pl_ints : ∀ is : List Int32, pl (is.map (fun i => ((0, i.toInt) : pm_V))) (is.map Value.int)
  | [] => trivial
  | i :: is => ⟨⟨i, rfl, rfl⟩, pl_ints is⟩
theorem rl_ints {ρ : List Nat} {σ : Nat → Int32} : ∀ is : List Int32, rx_l ρ σ (is.map Value.int) (is.map Value.int)
  | [] => trivial
  | i :: is => ⟨rfl, rl_ints is⟩
theorem at0 {ρ t : List Nat} {q : Nat} (h : ρ[0]? = some q) : (ρ ++ t)[0]? = some q := by
  rw [List.getElem?_append_left (List.getElem?_eq_some_iff.mp h).1]; exact h
/-- an answer on the stack -/
def lwV (o : Option pm_V) (v : Option Value) : Prop := ∃ k z, o = some (k, z) ∧ ((k = 0 ∧ ∃ i : Int32, v = some (.int i) ∧ i.toInt = z) ∨ (k = 1 ∧ ∃ i : Int64, v = some (.long i) ∧ i.toInt = z))
theorem lwV_of {ρ : List Nat} {o : Option pm_V} {o' v : Option Value} {k : Nat} {z : Int} (hk : k = 0 ∨ k = 1) (e : o = some (k, z)) (h : po o o') (h' : rx_o ρ lwσ o' v) : lwV o v := by
  subst e
  refine ⟨k, z, rfl, ?_⟩
  match o', v, h, h' with
  | some x, some y, h, h' =>
    rcases hk with rfl | rfl
    · obtain ⟨i, rfl, hi⟩ := h
      exact Or.inl ⟨rfl, i, congrArg some h', hi⟩
    · obtain ⟨i, rfl, hi⟩ := h
      exact Or.inr ⟨rfl, i, congrArg some h', hi⟩
theorem lwV_i {o : Option pm_V} {v : Option Value} {z : Int} (h : lwV o v) (e : o = some (0, z)) : ∃ i : Int32, v = some (.int i) ∧ i.toInt = z := by
  obtain ⟨k, z', e', h⟩ := h
  rw [e] at e'
  cases e'
  rcases h with ⟨_, h⟩ | ⟨h, _⟩
  · exact h
  · cases h
theorem lwV_l {o : Option pm_V} {v : Option Value} {z : Int} (h : lwV o v) (e : o = some (1, z)) : ∃ i : Int64, v = some (.long i) ∧ i.toInt = z := by
  obtain ⟨k, z', e', h⟩ := h
  rw [e] at e'
  cases e'
  rcases h with ⟨h, _⟩ | ⟨_, h⟩
  · cases h
  · exact h
theorem lw_shX : an_sh wX 0 = (0, 9, 15) := by decide
theorem lw_shM : an_sh wM 0 = (0, 10, 58) := by decide
theorem lw_cX {p : Program} {l : Launch} {e : Env} {s : State} {m : MethodId} {below : List Frame} {meth : Method} {c : Code} {b L : Nat} {xs : Nat → Int32} {D : va_G} {cy : Nat → ClassId} {Q : State → Prop} {pc mid n : Nat} (lk : rx_Lk (gG l D cy lwσ) mt (lwM meth.name) pc mid n 9 true) (hz : lwZ mid) (C0 : lw_At p s m meth c b L xs) (hK : rx_K D vwCl (tyl cy) nwl ocl s) {AX AM : pm_A} {qx qm : Nat} {H : Heap} {locs : List Loc} (hJ : lwJ AX AM D cy s qx qm H locs) (is : List Int32) {rest : List Value} {ls : Array Slot} (hls : ls.size = 4) (hn : is.length + 1 = n) (hr : (rest.map fun v => v.category).sum ≤ 8) {fu : Nat} {r : pm_R} (hc : pm_call pmt (an_sh wX) fu mid ((2, 0) :: is.map (fun i => (0, i.toInt))) AX = some r) {k : Nat} {z : Int} (hk : k = 0 ∨ k = 1) (ez : r.1 = some (k, z))
    (kk : ∀ (v : Option Value) (H1 : Heap) (locs1 : List Loc), lwV r.1 v → lwJ r.2 AM D cy s qx qm H1 locs1 → W p l e room_1 s m #[Value.ref b] below meth c H1 locs1 600000 7302250 Q (F0 m (pc + 3) ls (v.toList ++ rest))) : W p l e room_1 s m #[Value.ref b] below meth c H locs 600000 7302250 Q (F0 m pc ls ((Value.ref qx :: is.map Value.int).reverse ++ rest)) := by
  obtain ⟨ρx, ρm, cX, cM, wsX, wsM, hwx, hpx, hwm, hpm, hqx, hqm, hP, hD, hS⟩ := hJ
  obtain ⟨r', ho, hp', hM⟩ := lw_met (l := l) (D := D) (cy := cy) hc hpx (va := .ref 0 :: is.map Value.int) ⟨Or.inr ⟨Int.le_refl _, rfl⟩, pl_ints is⟩
  obtain ⟨fs, f1, _, _⟩ := pw_obj hpx (r := 0) (Int.le_refl _) (by rw [lw_shX])
  rw [lw_shX] at f1
  have hrun := lk p e s m #[Value.ref b] below meth c (lA s) H locs 600000 7302250 ls (.ref qx :: is.map Value.int) rest _ _ _ (lw_X (l := l) C0 hK) hls (hM ρx cX H.size (.ref qx :: is.map Value.int) hwx ⟨⟨qx, hqx, rfl⟩, rl_ints is⟩) (rx_Pc.blind _ _ _ _) (fun U hU hW => ⟨rfl, by rw [hU], by rw [hU]; exact lw_left hP, hK.warm hW, (lw_leftD hD).weaken (fun _ _ _ _ => trivial)⟩) (by rw [List.length_cons, List.length_map]; exact hn) (fun _ => lw_recv hwx hqx f1 hK.1 (lw_left hP) rfl) hr (by rw [hz.1]; exact Nat.le_refl 600000) (by rw [hz.2]; exact Nat.le_refl 7302250)
  refine lw_behind hrun hS (fun q _ hq => lw_in (lw_leftD hD) hS q hq) (lw_in (lw_leftD hD) hS) (fun v t1 cX' H1 locs1 ho1 hw1 hP1 hD1 hk1 hS1 => ?_)
  rw [hz.1, hz.2]
  obtain ⟨hP2, hD2⟩ := lw_joinL hP hD hk1 (lw_in (lw_leftD hD) hS) hP1 hD1
  exact kk v H1 locs1 (lwV_of hk ez ho ho1) ⟨ρx ++ t1, ρm, cX', cM, r'.2, wsM, hw1, hp', hwm, hpm, at0 hqx, hqm, hP2, hD2, hS1⟩
theorem lw_cM {p : Program} {l : Launch} {e : Env} {s : State} {m : MethodId} {below : List Frame} {meth : Method} {c : Code} {b L : Nat} {xs : Nat → Int32} {D : va_G} {cy : Nat → ClassId} {Q : State → Prop} {pc mid n : Nat} (lk : rx_Lk (gG l D cy lwσ) mt (lwM meth.name) pc mid n 10 true) (hz : lwZ mid) (C0 : lw_At p s m meth c b L xs) (hK : rx_K D vwCl (tyl cy) nwl ocl s) {AX AM : pm_A} {qx qm : Nat} {H : Heap} {locs : List Loc} (hJ : lwJ AX AM D cy s qx qm H locs) (is : List Int32) {rest : List Value} {ls : Array Slot} (hls : ls.size = 4) (hn : is.length + 1 = n) (hr : (rest.map fun v => v.category).sum ≤ 8) {fu : Nat} {r : pm_R} (hc : pm_call pmt (an_sh wM) fu mid ((2, 0) :: is.map (fun i => (0, i.toInt))) AM = some r) {k : Nat} {z : Int} (hk : k = 0 ∨ k = 1) (ez : r.1 = some (k, z))
    (kk : ∀ (v : Option Value) (H1 : Heap) (locs1 : List Loc), lwV r.1 v → lwJ AX r.2 D cy s qx qm H1 locs1 → W p l e room_1 s m #[Value.ref b] below meth c H1 locs1 600000 7302250 Q (F0 m (pc + 3) ls (v.toList ++ rest))) : W p l e room_1 s m #[Value.ref b] below meth c H locs 600000 7302250 Q (F0 m pc ls ((Value.ref qm :: is.map Value.int).reverse ++ rest)) := by
  obtain ⟨ρx, ρm, cX, cM, wsX, wsM, hwx, hpx, hwm, hpm, hqx, hqm, hP, hD, hS⟩ := hJ
  obtain ⟨r', ho, hp', hM⟩ := lw_met (l := l) (D := D) (cy := cy) hc hpm (va := .ref 0 :: is.map Value.int) ⟨Or.inr ⟨Int.le_refl _, rfl⟩, pl_ints is⟩
  obtain ⟨fs, f1, _, _⟩ := pw_obj hpm (r := 0) (Int.le_refl _) (by rw [lw_shM])
  rw [lw_shM] at f1
  have hPm := lw_right hP
  have hDm := lw_rightD hD
  have hrun := lk p e s m #[Value.ref b] below meth c (lA s) H locs 600000 7302250 ls (.ref qm :: is.map Value.int) rest _ _ _ (lw_X (l := l) C0 hK) hls (hM ρm cM H.size (.ref qm :: is.map Value.int) hwm ⟨⟨qm, hqm, rfl⟩, rl_ints is⟩) (rx_Pc.blind _ _ _ _) (fun U hU hW => ⟨rfl, by rw [hU], by rw [hU]; exact hPm, hK.warm hW, hDm.weaken (fun _ _ _ _ => trivial)⟩) (by rw [List.length_cons, List.length_map]; exact hn) (fun _ => lw_recv hwm hqm f1 hK.1 hPm rfl) hr (by rw [hz.1]; exact Nat.le_refl 600000) (by rw [hz.2]; exact Nat.le_refl 7302250)
  refine lw_behind hrun hS (fun q _ hq => lw_in hDm hS q hq) (lw_in hDm hS) (fun v t1 cM' H1 locs1 ho1 hw1 hP1 hD1 hk1 hS1 => ?_)
  rw [hz.1, hz.2]
  obtain ⟨hP2, hD2⟩ := lw_join hP hD hk1 (lw_in hDm hS) hP1 hD1
  exact kk v H1 locs1 (lwV_of hk ez ho ho1) ⟨ρx, ρm ++ t1, cX, cM', wsX, r'.2, hwx, hpx, hw1, hp', hqx, at0 hqm, hP2, hD2, hS1⟩
theorem i32_r (k : Int32) : r32 k.toInt := ⟨lw_lo k, lw_hi k⟩
theorem i32_nat {i : Nat} (h : i < 2147483648) : (Int32.ofNat i).toInt = (i : Int) := Int32.toInt_ofNat_of_lt h
theorem i32_addk {i : Nat} {k : Int32} {j : Nat} (h : i < 100000) (hk : k.toInt = (j : Int)) (hj : j < 100) : (Int32.ofNat i + k).toInt = ((i + j : Nat) : Int) := by
  have := pp_bi_ok 0 (i32_nat (show i < 2147483648 by omega)) hk
  rw [show o_bi 0 (Int32.ofNat i) k = Int32.ofNat i + k from rfl] at this
  rw [this]
  show w32 ((i : Int) + (j : Int)) = _
  rw [w32_in (by omega) (by omega)]
  omega
theorem lw_vin {i L : Nat} {k : Int32} {j : Nat} (hL : L ≤ 2048) (hk : k.toInt = (j : Int)) (hj : j < 4) (h : i + 4 ≤ L) : vp_in (Int32.ofNat i + k) L := by
  have e := i32_addk (i := i) (k := k) (j := j) (by omega) hk (by omega)
  unfold vp_in
  rintro (q | q)
  · rw [Int32.lt_iff_toInt_lt, e] at q
    have : (0 : Int32).toInt = 0 := rfl
    omega
  · have : (Int32.ofNat i + k).toNatClampNeg = i + j := by
      show (Int32.ofNat i + k).toInt.toNat = i + j
      rw [e]; omega
    omega
theorem lw_vin0 {i L : Nat} (hL : L ≤ 2048) (h : i + 4 ≤ L) : vp_in (Int32.ofNat i) L := by
  have e := i32_nat (i := i) (by omega)
  unfold vp_in
  rintro (q | q)
  · rw [Int32.lt_iff_toInt_lt, e] at q
    have : (0 : Int32).toInt = 0 := rfl
    omega
  · have : (Int32.ofNat i).toNatClampNeg = i := by
      show (Int32.ofNat i).toInt.toNat = i
      rw [e]; omega
    omega
theorem lw_gt {i L : Nat} (hL : L ≤ 2048) (hi : i ≤ 4096) : (Int32.ofNat L - 4 < Int32.ofNat i) ↔ L < i + 4 := by
  have e := i32_nat (i := i) (by omega)
  have e2 : (Int32.ofNat L - 4).toInt = (L : Int) - 4 := by
    have := pp_bi_ok 1 (i32_nat (show L < 2147483648 by omega)) (show (4 : Int32).toInt = (4 : Int) from rfl)
    rw [show o_bi 1 (Int32.ofNat L) 4 = Int32.ofNat L - 4 from rfl] at this
    rw [this]
    show w32 ((L : Int) - 4) = _
    rw [w32_in (by omega) (by omega)]
  rw [Int32.lt_iff_toInt_lt, e, e2]
  omega
abbrev ya (xs : Nat → Int32) (i : Nat) (k : Int32) : Int32 := xs ((Int32.ofNat i + k).toNatClampNeg)
end
