/-! LINKS, ENDS, COPIES, CONSTANTS -/
section EN
variable {G : rx_G} {MT : Nat → rx_M} {M : rx_M} {pc : Nat}
def rx_gok (G : rx_G) : Prop := ∀ w ∈ G.gT, (w.onTables && w.keeps) = true ∨ ∃ ty, w = .arrayClass ty
theorem rx_goodIn (hg : rx_gok G) {M' : rx_M} (hc : Cond.code M'.1 M'.2.1 M'.2.2.1 M'.2.2.2.1 ∈ G.gT) : GoodIn G.gT (rx_ws G M') := by
  intro w hw
  rcases List.mem_cons.mp hw with rfl | h
  · exact ⟨hc, hg _ hc⟩
  · exact ⟨h, hg _ h⟩
/-- what a call's link needs of the callee: its code in the tables, its owner ready, its parameters, its room in the caller's -/
def rx_fits (G : rx_G) (MT : Nat → rx_M) (M : rx_M) (mid n : Nat) : Prop := Cond.code (MT mid).1 (MT mid).2.1 (MT mid).2.2.1 (MT mid).2.2.2.1 ∈ G.gT ∧ Cond.initialized (MT mid).1.cls ∈ G.gT ∧ ((MT mid).1.cls ≠ "java/lang/invoke/MethodHandle" ∧ (MT mid).1.cls ≠ "java/lang/invoke/VarHandle" ∧ (parseMethodDescriptor (MT mid).1.desc).map (fun d => d.parameters.length) = some n) ∧ ((MT mid).2.2.2.2.1.frames + 1 ≤ M.2.2.2.2.1.frames ∧ 8 + ((MT mid).2.2.1 + 11) + (MT mid).2.2.2.2.1.locals ≤ M.2.2.2.2.1.locals)
theorem rx_rv (b : Value) (As rest : List Value) : (b :: As).reverse ++ rest = As.reverse ++ b :: rest := by simp
theorem rx_lk_V (hg : rx_gok G) {mid n ci index : Nat} {C : vw_C} (hf : rx_fits G MT M mid n) (hcl : G.cl[ci]? = some C) (hl : Cond.methodLink M.1.cls index (MT mid).1 ∈ G.gT) (hin : Cond.instanceMethod (MT mid).1 ∈ G.gT) (hse : Cond.selects C.1 (MT mid).1 (MT mid).1 ∈ G.gT) (d : decode M.2.1 pc = .ok (.invokevirtual index, 3)) : rx_Lk G MT M pc mid (n + 1) ci true := by
  intro p e s m args below meth c A H locs cells slots ls ca rest Pc Qc free X hls hM hbl hpre hlen hv hrest hc hs
  obtain ⟨hx, hb, hml, hr, hown, hts, hlk, hnm, hK, hA⟩ := X
  obtain ⟨b, As, C', cell, rfl, hC', q1, q2, q3⟩ := hv rfl
  rw [hcl] at hC'
  cases hC'
  refine va_runV (C := C.1) (b := b) (As := As) (rest := rest) ⟨hx, hb, hml, hown, hts⟩ hM ⟨callB_of n hts (rx_goodIn hg hf.1) rfl rfl rfl (hts _ hf.2.1) (hts _ hl) hf.2.2.1 hf.2.2.2, hts _ hin, hts _ hse⟩ ⟨hbl, ⟨cell, q1, q2, q3⟩, hpre⟩ rfl (by simpa using hlen) hls ?_ (lv_room hrest) d ⟨hc, hs⟩
  exact rx_rv _ As rest
theorem rx_lk_VN (hg : rx_gok G) {mid n ci index : Nat} {C : vw_C} {host : String} (hf : rx_fits G MT M mid n) (hcl : G.cl[ci]? = some C) (hl : (M.1.cls, index, (MT mid).1, host) ∈ G.NW) (hin : Cond.instanceMethod (MT mid).1 ∈ G.gT) (hse : Cond.selects C.1 (MT mid).1 (MT mid).1 ∈ G.gT) (d : decode M.2.1 pc = .ok (.invokevirtual index, 3)) : rx_Lk G MT M pc mid (n + 1) ci true := by
  intro p e s m args below meth c A H locs cells slots ls ca rest Pc Qc free X hls hM hbl hpre hlen hv hrest hc hs
  obtain ⟨hx, hb, hml, hr, hown, hts, hlk, hnm, hK, hA⟩ := X
  obtain ⟨b, As, C', cell, rfl, hC', q1, q2, q3⟩ := hv rfl
  rw [hcl] at hC'
  cases hC'
  refine va_runVN (C := C.1) (b := b) (As := As) (rest := rest) ⟨hx, hb, hml, hown, hts⟩ hM ⟨va_cnB n hts (rx_goodIn hg hf.1) rfl rfl rfl (hK.2.1 _ hl) (hts _ hf.2.1) hf.2.2.1 hf.2.2.2, hts _ hin, hts _ hse⟩ ⟨hbl, ⟨cell, q1, q2, q3⟩, hpre⟩ rfl (by simpa using hlen) hls ?_ (lv_room hrest) d ⟨hc, hs⟩
  exact rx_rv _ As rest
theorem rx_lk_S (hg : rx_gok G) {mid n index : Nat} (hf : rx_fits G MT M mid n) (hl : Cond.methodLink M.1.cls index (MT mid).1 ∈ G.gT) (hst : Cond.static (MT mid).1 ∈ G.gT) (d : decode M.2.1 pc = .ok (.invokestatic index, 3)) : rx_Lk G MT M pc mid n 0 false := by
  intro p e s m args below meth c A H locs cells slots ls ca rest Pc Qc free X hls hM hbl hpre hlen hv hrest hc hs
  obtain ⟨hx, hb, hml, hr, hown, hts, hlk, hnm, hK, hA⟩ := X
  exact va_runS (As := ca) (rest := rest) ⟨hx, hb, hml, hown, hts⟩ hM ⟨callB_of n hts (rx_goodIn hg hf.1) rfl rfl rfl (hts _ hf.2.1) (hts _ hl) hf.2.2.1 hf.2.2.2, hts _ hst⟩ ⟨hbl, hpre⟩ rfl hlen hls rfl (lv_room hrest) d ⟨hc, hs⟩
theorem rx_lk_SN (hg : rx_gok G) {mid n index : Nat} {host : String} (hf : rx_fits G MT M mid n) (hl : (M.1.cls, index, (MT mid).1, host) ∈ G.NW) (hst : Cond.static (MT mid).1 ∈ G.gT) (d : decode M.2.1 pc = .ok (.invokestatic index, 3)) : rx_Lk G MT M pc mid n 0 false := by
  intro p e s m args below meth c A H locs cells slots ls ca rest Pc Qc free X hls hM hbl hpre hlen hv hrest hc hs
  obtain ⟨hx, hb, hml, hr, hown, hts, hlk, hnm, hK, hA⟩ := X
  exact va_runSN (As := ca) (rest := rest) ⟨hx, hb, hml, hown, hts⟩ hM ⟨va_cnB n hts (rx_goodIn hg hf.1) rfl rfl rfl (hK.2.1 _ hl) (hts _ hf.2.1) hf.2.2.1 hf.2.2.2, hts _ hst, trivial⟩ ⟨hbl, hpre⟩ rfl hlen hls rfl (lv_room hrest) d ⟨hc, hs⟩
theorem rx_lk_I (hg : rx_gok G) {mid n ci index : Nat} {C : vw_C} (hf : rx_fits G MT M mid n) (hcl : G.cl[ci]? = some C) (hret : (MT mid).2.2.2.1 = none) (hl : Cond.methodLink M.1.cls index (MT mid).1 ∈ G.gT) (hin : Cond.instanceMethod (MT mid).1 ∈ G.gT) (hy : (MT mid).1.name = "<init>") (d : decode M.2.1 pc = .ok (.invokespecial index, 3)) : rx_Lk G MT M pc mid (n + 1) ci true := by
  intro p e s m args below meth c A H locs cells slots ls ca rest Pc Qc free X hls hM hbl hpre hlen hv hrest hc hs
  obtain ⟨hx, hb, hml, hr, hown, hts, hlk, hnm, hK, hA⟩ := X
  obtain ⟨b, As, C', cell, rfl, -, -⟩ := hv rfl
  refine va_runI (b := b) (As := As) (rest := rest) (maxL := (MT mid).2.2.1) (bytes := (MT mid).2.1) ⟨hx, hb, hml, hown, hts⟩ hM ⟨callB_of n hts (rx_goodIn hg hf.1) (by rw [← hret]) rfl rfl (hts _ hf.2.1) (hts _ hl) hf.2.2.1 hf.2.2.2, hy, hts _ hin⟩ ⟨hbl, hpre⟩ rfl (by simpa using hlen) hls ?_ (lv_room hrest) d ⟨hc, hs⟩
  exact rx_rv _ As rest
theorem rx_lk_IN (hg : rx_gok G) {mid n ci index : Nat} {C : vw_C} {host : String} (hf : rx_fits G MT M mid n) (hcl : G.cl[ci]? = some C) (hret : (MT mid).2.2.2.1 = none) (hl : (M.1.cls, index, (MT mid).1, host) ∈ G.NW) (hin : Cond.instanceMethod (MT mid).1 ∈ G.gT) (hy : (MT mid).1.name = "<init>") (d : decode M.2.1 pc = .ok (.invokespecial index, 3)) : rx_Lk G MT M pc mid (n + 1) ci true := by
  intro p e s m args below meth c A H locs cells slots ls ca rest Pc Qc free X hls hM hbl hpre hlen hv hrest hc hs
  obtain ⟨hx, hb, hml, hr, hown, hts, hlk, hnm, hK, hA⟩ := X
  obtain ⟨b, As, C', cell, rfl, -, -⟩ := hv rfl
  refine va_runIN (b := b) (As := As) (rest := rest) (maxL := (MT mid).2.2.1) (bytes := (MT mid).2.1) ⟨hx, hb, hml, hown, hts⟩ hM ⟨va_cnB n hts (rx_goodIn hg hf.1) (by rw [← hret]) rfl rfl (hK.2.1 _ hl) (hts _ hf.2.1) hf.2.2.1 hf.2.2.2, hy, hts _ hin⟩ ⟨hbl, hpre⟩ rfl (by simpa using hlen) hls ?_ (lv_room hrest) d ⟨hc, hs⟩
  exact rx_rv _ As rest
/-- ends -/
def rx_ret0 (RC RS : Nat) : rx_T := fun _ st => match st.2.1 with
  | [] => cond (Nat.ble st.2.2.2.1 RC && Nat.ble st.2.2.2.2 RS) (some (.inr (none, st.2.2.1))) none
  | _ => none
def rx_retv (ty : FieldType) (RC RS : Nat) : rx_T := fun _ st => match st.2.1 with
  | [v] => cond (rx_okty ty v && (Nat.ble st.2.2.2.1 RC && Nat.ble st.2.2.2.2 RS)) (some (.inr (some v, st.2.2.1))) none
  | _ => none
theorem rx_sd_ret0 (hR : M.2.2.2.1 = none) (d : decode M.2.1 pc = .ok (.return_, 1)) : rx_Sd G MT M pc (rx_ret0 M.2.2.2.2.1.cells M.2.2.2.2.1.slots) := by
  intro p e s m args below meth c A X rec hrec st o h ρ0 r hgo
  obtain ⟨hx, hb, hml, hr, hown, hts, hlk, hnm, hK, hA⟩ := X
  obtain ⟨lv, sk, ws, c0, s0⟩ := st
  intro tl cws H locs ls cst clv hw hP hD hS hlv hl hst
  unfold rx_ret0 at h
  simp only at h hst hlv hw
  match sk, cst, h, hst with
  | [], [], h, _ =>
    simp only at h
    obtain ⟨g1, g2⟩ := rx_cond_some h
    rw [Bool.and_eq_true] at g1
    cases g2
    subst hgo
    refine W.widen (k := M.2.2.2.2.1.cells) (n := M.2.2.2.2.1.slots) (Nat.le_of_ble_eq_true g1.1) (Nat.le_of_ble_eq_true g1.2) ?_
    exact W.vret hx hb (hr.trans hR) (fun t ht hW => ⟨⟨none, tl, cws, rfl, trivial, hw, by rw [ht]; exact hP, hD⟩, hS.F ht⟩) hS.2.2 d hlk
theorem rx_sd_retI {ty : FieldType} (hR : M.2.2.2.1 = some ty) (hty : ty = .int ∨ ty = .boolean) (d : decode M.2.1 pc = .ok (.ireturn, 1)) : rx_Sd G MT M pc (rx_retv ty M.2.2.2.2.1.cells M.2.2.2.2.1.slots) := by
  intro p e s m args below meth c A X rec hrec st o h ρ0 r hgo
  obtain ⟨hx, hb, hml, hr, hown, hts, hlk, hnm, hK, hA⟩ := X
  obtain ⟨lv, sk, ws, c0, s0⟩ := st
  intro tl cws H locs ls cst clv hw hP hD hS hlv hl hst
  unfold rx_retv at h
  simp only at h hst hlv hw
  match sk, cst, h, hst with
  | [v], [w], h, ⟨h1, _⟩ =>
    simp only at h
    obtain ⟨g1, g2⟩ := rx_cond_some h
    simp only [Bool.and_eq_true] at g1
    cases g2
    subst hgo
    obtain ⟨n1, -⟩ := rx_okty_ok g1.1 h1
    have hw' : ∃ x : Int32, w = .int x := by
      rcases hty with rfl | rfl
      · exact rx_is0 g1.1 h1
      · cases v with
        | int x => exact ⟨x, h1⟩
        | _ => cases g1.1
    obtain ⟨x, rfl⟩ := hw'
    refine W.widen (k := M.2.2.2.2.1.cells) (n := M.2.2.2.2.1.slots) (Nat.le_of_ble_eq_true g1.2.1) (Nat.le_of_ble_eq_true g1.2.2) ?_
    exact W.zret hx hb (hr.trans hR) n1 (fun t ht hW => ⟨⟨some (.int x), tl, cws, rfl, h1, hw, by rw [ht]; exact hP, hD⟩, hS.F ht⟩) hS.2.2 d hlk
theorem rx_sd_retL (hR : M.2.2.2.1 = some .long) (d : decode M.2.1 pc = .ok (.lreturn, 1)) : rx_Sd G MT M pc (rx_retv .long M.2.2.2.2.1.cells M.2.2.2.2.1.slots) := by
  intro p e s m args below meth c A X rec hrec st o h ρ0 r hgo
  obtain ⟨hx, hb, hml, hr, hown, hts, hlk, hnm, hK, hA⟩ := X
  obtain ⟨lv, sk, ws, c0, s0⟩ := st
  intro tl cws H locs ls cst clv hw hP hD hS hlv hl hst
  unfold rx_retv at h
  simp only at h hst hlv hw
  match sk, cst, h, hst with
  | [v], [w], h, ⟨h1, _⟩ =>
    simp only at h
    obtain ⟨g1, g2⟩ := rx_cond_some h
    simp only [Bool.and_eq_true] at g1
    cases g2
    subst hgo
    obtain ⟨x, rfl⟩ := rx_is1 g1.1 h1
    refine W.widen (k := M.2.2.2.2.1.cells) (n := M.2.2.2.2.1.slots) (Nat.le_of_ble_eq_true g1.2.1) (Nat.le_of_ble_eq_true g1.2.2) ?_
    exact W.lret hx hb (hr.trans hR) (fun t ht hW => ⟨⟨some (.long x), tl, cws, rfl, h1, hw, by rw [ht]; exact hP, hD⟩, hS.F ht⟩) hS.2.2 d hlk
theorem rx_sd_retA {C : String} (hR : M.2.2.2.1 = some (.object C)) (d : decode M.2.1 pc = .ok (.areturn, 1)) : rx_Sd G MT M pc (rx_retv (.object C) M.2.2.2.2.1.cells M.2.2.2.2.1.slots) := by
  intro p e s m args below meth c A X rec hrec st o h ρ0 r hgo
  obtain ⟨hx, hb, hml, hr, hown, hts, hlk, hnm, hK, hA⟩ := X
  obtain ⟨lv, sk, ws, c0, s0⟩ := st
  intro tl cws H locs ls cst clv hw hP hD hS hlv hl hst
  unfold rx_retv at h
  simp only at h hst hlv hw
  match sk, cst, h, hst with
  | [v], [w], h, ⟨h1, _⟩ =>
    simp only at h
    obtain ⟨g1, g2⟩ := rx_cond_some h
    simp only [Bool.and_eq_true] at g1
    cases g2
    subst hgo
    refine W.widen (k := M.2.2.2.2.1.cells) (n := M.2.2.2.2.1.slots) (Nat.le_of_ble_eq_true g1.2.1) (Nat.le_of_ble_eq_true g1.2.2) ?_
    exact W.aret hx hb (hr.trans hR) (Or.inl ⟨C, rfl⟩) (rx_is2 g1.1 h1) (fun t ht hW => ⟨⟨some w, tl, cws, rfl, h1, hw, by rw [ht]; exact hP, hD⟩, hS.F ht⟩) hS.2.2 d hlk
/-- constants out of the pool -/
def rx_con (v : Value) (pc' : Nat) : rx_T := fun _ st => some (.inl (pc', (st.1, v :: st.2.1, st.2.2)))
theorem rx_sd_ldc {index : Nat} {x : Int32} (hc : Cond.constant M.1.cls index x ∈ G.gT) (d : decode M.2.1 pc = .ok (.ldc index, 2)) : rx_Sd G MT M pc (rx_con (.int x) (pc + 2)) := by
  intro p e s m args below meth c A X rec hrec st o h ρ0 r hgo
  obtain ⟨hx, hb, hml, hr, hown, hts, hlk, hnm, hK, hA⟩ := X
  cases h
  intro tl cws H locs ls cst clv hw hP hD hS hlv hl hst
  exact lv_ldc hx hb hown (hts _ hc) d (hgo tl cws H locs ls _ clv hw hP hD hS hlv hl ⟨rfl, hst⟩)
theorem rx_sd_ldcw {index : Nat} {x : Int32} (hc : Cond.constant M.1.cls index x ∈ G.gT) (d : decode M.2.1 pc = .ok (.ldc_w index, 3)) : rx_Sd G MT M pc (rx_con (.int x) (pc + 3)) := by
  intro p e s m args below meth c A X rec hrec st o h ρ0 r hgo
  obtain ⟨hx, hb, hml, hr, hown, hts, hlk, hnm, hK, hA⟩ := X
  cases h
  intro tl cws H locs ls cst clv hw hP hD hS hlv hl hst
  exact lv_ldcw hx hb hown (hts _ hc) d (hgo tl cws H locs ls _ clv hw hP hD hS hlv hl ⟨rfl, hst⟩)
theorem rx_sd_ldc2 {index : Nat} {x : Int64} (hc : Cond.constantLong M.1.cls index x ∈ G.gT) (d : decode M.2.1 pc = .ok (.ldc2_w index, 3)) : rx_Sd G MT M pc (rx_con (.long x) (pc + 3)) := by
  intro p e s m args below meth c A X rec hrec st o h ρ0 r hgo
  obtain ⟨hx, hb, hml, hr, hown, hts, hlk, hnm, hK, hA⟩ := X
  cases h
  intro tl cws H locs ls cst clv hw hP hD hS hlv hl hst
  exact lv_ldc2 hx hb hown (hts _ hc) d (hgo tl cws H locs ls _ clv hw hP hD hS hlv hl ⟨rfl, hst⟩)
/-- System.arraycopy, of ints (kind 0) and longs (kind 1) -/
def rx_cp (ua : List (Nat × Value)) (da : Value) (sp dp : Nat) (ub : List (Nat × Value)) : Nat → List (Nat × Value)
  | 0 => ub
  | n + 1 => (dp + n, rx_look ua da (sp + n)) :: rx_cp ua da sp dp ub n
theorem rx_look_cp (ua ub : List (Nat × Value)) (da db : Value) (sp dp : Nat) : ∀ (n j : Nat), rx_look (rx_cp ua da sp dp ub n) db j = if dp ≤ j ∧ j < dp + n then rx_look ua da (sp + (j - dp)) else rx_look ub db j
  | 0, j => by
    have : ¬ (dp ≤ j ∧ j < dp + 0) := by omega
    simp only [rx_cp, if_neg this]
  | n + 1, j => by
    rw [rx_cp, rx_look_cons, rx_look_cp ua ub da db sp dp n j]
    by_cases h : j = dp + n
    · subst h
      have h1 : dp ≤ dp + n ∧ dp + n < dp + (n + 1) := by omega
      rw [if_pos rfl, if_pos h1]
      congr 1; omega
    · rw [if_neg h]
      by_cases h1 : dp ≤ j ∧ j < dp + n
      · rw [if_pos h1, if_pos (by omega)]
      · rw [if_neg h1, if_neg (by omega)]
def rx_acp (tag RL pc' : Nat) : rx_T := fun _ st => match st.2.1 with
  | .int n :: .int dp :: .ref b :: .int sp :: .ref a :: sk => match st.2.2.1[a]? with
    | some (.inr (ta, na, ua, da)) => match st.2.2.1[b]? with
      | some (.inr (tb, nb, ub, db)) => cond (Nat.beq tag ta && (Nat.beq tag tb && (!decide (n < 0) && (!decide (dp < 0) && (!decide (sp < 0) && (Nat.ble (sp.toNatClampNeg + n.toNatClampNeg) na && (Nat.ble (dp.toNatClampNeg + n.toNatClampNeg) nb && Nat.ble ((sk.map rx_cat).sum + 18) RL)))))))
          (some (.inl (pc', (st.1, sk, st.2.2.1.set b (.inr (tb, nb, rx_cp ua da sp.toNatClampNeg dp.toNatClampNeg ub n.toNatClampNeg, db)), st.2.2.2)))) none
      | _ => none
    | _ => none
  | _ => none
theorem rx_acp_some {tag RL pc' : Nat} {rec : rx_C} {lv : rx_L} {sk : List Value} {ws : rx_W} {c0 s0 : Nat} {o : rx_O} (h : rx_acp tag RL pc' rec (lv, sk, ws, c0, s0) = some o) : ∃ (n dp sp : Int32) (b a : Nat) (sr : List Value) (na nb : Nat) (ua ub : List (Nat × Value)) (da db : Value), sk = .int n :: .int dp :: .ref b :: .int sp :: .ref a :: sr ∧ ws[a]? = some (.inr (tag, na, ua, da)) ∧ ws[b]? = some (.inr (tag, nb, ub, db)) ∧ ¬ n < 0 ∧ ¬ dp < 0 ∧ ¬ sp < 0 ∧ sp.toNatClampNeg + n.toNatClampNeg ≤ na ∧ dp.toNatClampNeg + n.toNatClampNeg ≤ nb ∧ (sr.map rx_cat).sum + 18 ≤ RL ∧
    o = .inl (pc', (lv, sr, ws.set b (.inr (tag, nb, rx_cp ua da sp.toNatClampNeg dp.toNatClampNeg ub n.toNatClampNeg, db)), c0, s0)) := by
  unfold rx_acp at h
  simp only at h
  split at h
  · next n dp b sp a sr =>
    split at h
    · next ta na ua da hwa =>
      split at h
      · next tb nb ub db hwb =>
        obtain ⟨g1, g2⟩ := rx_cond_some h
        simp only [Bool.and_eq_true, Bool.not_eq_true', decide_eq_false_iff_not] at g1
        obtain ⟨k1, k2, k3, k4, k5, k6, k7, k8⟩ := g1
        have k1 := Nat.eq_of_beq_eq_true k1
        have k2 := Nat.eq_of_beq_eq_true k2
        subst k1; subst k2
        cases g2
        exact ⟨n, dp, sp, b, a, sr, na, nb, ua, ub, da, db, rfl, hwa, hwb, k3, k4, k5, Nat.le_of_ble_eq_true k6, Nat.le_of_ble_eq_true k7, Nat.le_of_ble_eq_true k8, rfl⟩
      · cases h
    · cases h
  · cases h
theorem rx_look_copy {ρ : List Nat} {σ : Nat → Int32} {ua ub : List (Nat × Value)} {da db : Value} {α : Type} {f g : Nat → α} {K : α → Value} (hf : ∀ j, rx_v ρ σ (rx_look ua da j) (K (f j))) (hg : ∀ j, rx_v ρ σ (rx_look ub db j) (K (g j))) (sp dp n : Nat) : ∀ j, rx_v ρ σ (rx_look (rx_cp ua da sp dp ub n) db j) (K (va_cpy f g sp dp n j)) := by
  intro j
  rw [rx_look_cp]
  unfold va_cpy
  split
  · exact hf _
  · exact hg j
theorem rx_sd_cpI (hT : rx_TYOk G) {index : Nat} (hl0 : Cond.methodLink M.1.cls index arraycopyName ∈ G.gT) (hna : Cond.native arraycopyName ∈ G.gT) (hst0 : Cond.static arraycopyName ∈ G.gT) (hin0 : Cond.initialized "java/lang/System" ∈ G.gT) (hf : 1 ≤ M.2.2.2.2.1.frames) (d : decode M.2.1 pc = .ok (.invokestatic index, 3)) : rx_Sd G MT M pc (rx_acp 0 M.2.2.2.2.1.locals (pc + 3)) := by
  intro p e s m args below meth c A X rec hrec st o h ρ0 r hgo
  obtain ⟨hx, hb, hml, hr, hown, hts, hlk, hnm, hK, hA⟩ := X
  obtain ⟨lv, sk, ws, c0, s0⟩ := st
  intro tl cws H locs ls cst clv hw hP hD hS hlv hl hst
  obtain ⟨n, dp, sp, b, a, sr, na, nb, ua, ub, da, db, rfl, g1, g2, g3, g4, g5, g6, g7, g8, rfl⟩ := rx_acp_some h
  match cst, hst with
  | w1 :: w2 :: w3 :: w4 :: w5 :: cr, ⟨h1, h2, ⟨b', hb', h3⟩, h4, ⟨a', ha', h5⟩, h6⟩ =>
    cases h1; cases h2; cases h4; subst h3; subst h5
    obtain ⟨ce, f1, f, f2, f3⟩ := hw.at g1 ha'
    subst f2
    obtain ⟨ce, k1, g, k2, k3⟩ := hw.at g2 hb'
    subst k2
    exact va_copyi hx hb (by rw [hml, hl.1]) hown (hts _ hl0) (hts _ hna) (hts _ hst0) (hts _ hin0) hK.1 hP hD hS a b 0 0 f1 k1 hT.1 hT.1 rfl g5 g4 g3 g6 g7 (fun _ _ => rfl) hf (by rw [h6.cats]; exact g8) d (fun H1 locs1 hP1 hD1 hS1 => hgo tl _ H1 locs1 ls cr clv (hw.set k1 (e := .inr (0, nb, rx_cp ua da sp.toNatClampNeg dp.toNatClampNeg ub n.toNatClampNeg, db)) ⟨_, rfl, rx_look_copy (K := Value.int) f3 k3 _ _ _⟩) hP1 hD1 hS1 hlv hl h6)
theorem rx_sd_cpL (hT : rx_TYOk G) {index : Nat} (hl0 : Cond.methodLink M.1.cls index arraycopyName ∈ G.gT) (hna : Cond.native arraycopyName ∈ G.gT) (hst0 : Cond.static arraycopyName ∈ G.gT) (hin0 : Cond.initialized "java/lang/System" ∈ G.gT) (hf : 1 ≤ M.2.2.2.2.1.frames) (d : decode M.2.1 pc = .ok (.invokestatic index, 3)) : rx_Sd G MT M pc (rx_acp 1 M.2.2.2.2.1.locals (pc + 3)) := by
  intro p e s m args below meth c A X rec hrec st o h ρ0 r hgo
  obtain ⟨hx, hb, hml, hr, hown, hts, hlk, hnm, hK, hA⟩ := X
  obtain ⟨lv, sk, ws, c0, s0⟩ := st
  intro tl cws H locs ls cst clv hw hP hD hS hlv hl hst
  obtain ⟨n, dp, sp, b, a, sr, na, nb, ua, ub, da, db, rfl, g1, g2, g3, g4, g5, g6, g7, g8, rfl⟩ := rx_acp_some h
  match cst, hst with
  | w1 :: w2 :: w3 :: w4 :: w5 :: cr, ⟨h1, h2, ⟨b', hb', h3⟩, h4, ⟨a', ha', h5⟩, h6⟩ =>
    cases h1; cases h2; cases h4; subst h3; subst h5
    obtain ⟨ce, f1, f, f2, f3⟩ := hw.at g1 ha'
    subst f2
    obtain ⟨ce, k1, g, k2, k3⟩ := hw.at g2 hb'
    subst k2
    exact va_copyl hx hb (by rw [hml, hl.1]) hown (hts _ hl0) (hts _ hna) (hts _ hst0) (hts _ hin0) hK.1 hP hD hS a b 1 1 f1 k1 hT.2.1 hT.2.1 rfl g5 g4 g3 g6 g7 (fun _ _ => rfl) hf (by rw [h6.cats]; exact g8) d (fun H1 locs1 hP1 hD1 hS1 => hgo tl _ H1 locs1 ls cr clv (hw.set k1 (e := .inr (1, nb, rx_cp ua da sp.toNatClampNeg dp.toNatClampNeg ub n.toNatClampNeg, db)) ⟨_, rfl, rx_look_copy (K := Value.long) f3 k3 _ _ _⟩) hP1 hD1 hS1 hlv hl h6)
end EN
