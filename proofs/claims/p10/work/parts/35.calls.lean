/-! NEW CELLS, CALLS, ENDS -/
section CA
variable {G : rx_G} {MT : Nat → rx_M} {M : rx_M} {pc : Nat}
noncomputable def rx_new (ci : Nat) (fs : List Value) (RC RS pc' : Nat) : rx_T := fun _ st => cond (Nat.ble (st.2.2.2.1 + 1) RC && Nat.ble (st.2.2.2.2 + fs.length) RS) (rx_fN st.2.2.1.length (fun n => some (.inl (pc', (st.1, .ref n :: st.2.1, st.2.2.1 ++ [.inl (ci, fs)], st.2.2.2.1 + 1, st.2.2.2.2 + fs.length))))) none
def rx_consts (σ : Nat → Int32) (fs : List Value) : Prop := ∀ ρ, rx_l ρ σ fs fs
theorem rx_w.fresh {ρ : List Nat} {σ : Nat → Int32} {cy : Nat → ClassId} {ws : rx_W} {cws : va_W} (h : rx_w ρ σ cy ws cws) (q : Nat) : (ρ ++ [q])[ws.length]? = some q := by
  have : ρ.length = ws.length := by rw [← h.1, List.length_map, h.2.1]
  rw [List.getElem?_append_right (by omega), this]
  simp
theorem rx_sd_new {ci index N : Nat} {C : String} {T : u_T} {ty : Nat → FieldType} {fs : List Value} (hin : ∀ w ∈ u_ws C T N, w ∈ G.gT) (hty : ∀ k, k < N → parseFieldDescriptor (T k).2.2.1 = some (ty k)) (hc : G.cl[ci]? = some (C, T, N)) (hl0 : Cond.classLink M.1.cls index C ∈ G.gT) (hin0 : Cond.instantiable C N ∈ G.gT) (hini : Cond.initialized C ∈ G.gT) (hfs : ∀ j, j < N → defaultValue (ty j) = vp_V fs j) (hlen : fs.length = N) (hcs : rx_consts G.sg fs) (d : decode M.2.1 pc = .ok (.new index, 3)) : rx_Sd G MT M pc (rx_new ci fs M.2.2.2.2.1.cells M.2.2.2.2.1.slots (pc + 3)) := by
  intro p e s m args below meth c A X rec hrec st o h ρ0 r hgo
  obtain ⟨hx, hb, hml, hr, hown, hts, hlk, hnm, hK, hA⟩ := X
  obtain ⟨lv, sk, ws, c0, s0⟩ := st
  intro tl cws H locs ls cst clv hw hP hD hS hlv hl hst
  unfold rx_new at h
  simp only [rx_fN_eq] at h hst hlv hw
  obtain ⟨g1, g2⟩ := rx_cond_some h
  rw [Bool.and_eq_true] at g1
  cases g2
  subst hlen
  refine va_new (fs := fs) hx hb hts hin ty hty hown (hts _ hl0) (hts _ hin0) (hts _ hini) hK.1 hP hD hS hA hc hfs (Nat.le_of_ble_eq_true g1.1) (Nat.le_of_ble_eq_true g1.2) d (fun q H1 hP1 hD1 hS1 => ?_)
  have e1 : ρ0 ++ (tl ++ [q]) = (ρ0 ++ tl) ++ [q] := by rw [List.append_assoc]
  refine hgo (tl ++ [q]) _ H1 locs ls (.ref q :: cst) clv ?_ hP1 hD1 hS1 ?_ hl ?_
  · rw [e1]; exact hw.new (e := .inl (ci, fs)) ⟨_, rfl, hcs _⟩
  · rw [e1]; exact hlv.mono
  · rw [e1]; exact ⟨⟨q, hw.fresh q, rfl⟩, hst.mono⟩
theorem rx_ra_same {U : State} {c1 c2 : ClassId} {ty : FieldType} (h1 : va_RA U c1 ty) (h2 : va_RA U c2 ty) : c1 = c2 := by
  cases ty with
  | object C =>
    obtain ⟨_, _, _, _, _, e1⟩ := h1
    obtain ⟨_, _, _, _, _, e2⟩ := h2
    exact Option.some.inj (e1.symm.trans e2)
  | _ => exact Option.some.inj (Eq.trans (Eq.symm h1) h2)
theorem rx_new_cls {D : va_G} {cl : List vw_C} {TY : List (ClassId × FieldType)} {s : State} {cA c1 : ClassId} {ty : FieldType} {t : Nat} (h : va_K D cl (TY ++ [(cA, ty)]) s) (ht : TY[t]? = some (c1, ty)) : cA = c1 := by
  have hl : t < TY.length := (List.getElem?_eq_some_iff.mp ht).1
  have h1 := (h.2 t (c1, ty) (by rw [List.getElem?_append_left hl]; exact ht)).2
  have h2 := (h.2 TY.length (cA, ty) (by rw [List.getElem?_append_right (Nat.le_refl _)]; simp)).2
  exact rx_ra_same h2 h1
/-- a kind's first value -/
def rx_d0 : Nat → Value
  | 0 => .int 0
  | 1 => .long 0
  | 2 => .int 0
  | _ => .null
noncomputable def rx_nwa (tag RC RS pc' : Nat) : rx_T := fun _ st => match st.2.1 with
  | .int n :: sk => cond (decide (n < 0)) none (rx_fN n.toNatClampNeg (fun N => cond (Nat.ble (st.2.2.2.1 + 1) RC && (Nat.ble (st.2.2.2.2 + N) RS && Nat.ble N 60000000)) (rx_fN st.2.2.1.length (fun k => some (.inl (pc', (st.1, .ref k :: sk, st.2.2.1 ++ [.inr (tag, N, [], rx_d0 tag)], st.2.2.2.1 + 1, st.2.2.2.2 + N))))) none))
  | _ => none
theorem rx_nwa_some {tag RC RS pc' : Nat} {rec : rx_C} {lv : rx_L} {sk : List Value} {ws : rx_W} {c0 s0 : Nat} {o : rx_O} (h : rx_nwa tag RC RS pc' rec (lv, sk, ws, c0, s0) = some o) : ∃ (n : Int32) (sr : List Value), sk = .int n :: sr ∧ ¬ n < 0 ∧ c0 + 1 ≤ RC ∧ s0 + n.toNatClampNeg ≤ RS ∧ n.toNatClampNeg ≤ 60000000 ∧ o = .inl (pc', (lv, .ref ws.length :: sr, ws ++ [.inr (tag, n.toNatClampNeg, [], rx_d0 tag)], c0 + 1, s0 + n.toNatClampNeg)) := by
  unfold rx_nwa at h
  simp only at h
  split at h
  · next n sr =>
    cases hb : decide (n < 0) with
    | true => rw [hb] at h; cases h
    | false =>
      rw [hb] at h
      simp only [cond_false, rx_fN_eq] at h
      obtain ⟨g1, g2⟩ := rx_cond_some h
      simp only [Bool.and_eq_true] at g1
      cases g2
      exact ⟨n, sr, rfl, by simpa using hb, Nat.le_of_ble_eq_true g1.1, Nat.le_of_ble_eq_true g1.2.1, Nat.le_of_ble_eq_true g1.2.2, rfl⟩
  · cases h
theorem rx_arr_i (N : Nat) (cA : ClassId) : vp_cell cA (N, .inl (fun _ => 0)) = arrV cA N (fun _ => defaultValue .int) := rfl
theorem rx_arr_z (N : Nat) (cA : ClassId) : vp_cell cA (N, .inl (fun _ => 0)) = arrV cA N (fun _ => defaultValue .boolean) := rfl
theorem rx_arr_l (N : Nat) (cA : ClassId) : vp_cell cA (N, .inr (.inl (fun _ => 0))) = arrV cA N (fun _ => defaultValue .long) := rfl
theorem rx_sd_newI (hT : rx_TYOk G) (hw0 : Cond.arrayClass .int ∈ G.gT) {at' : ArrayType} (hat : newarray.typeOf at' = .int) (d : decode M.2.1 pc = .ok (.newarray at', 2)) : rx_Sd G MT M pc (rx_nwa 0 M.2.2.2.2.1.cells M.2.2.2.2.1.slots (pc + 2)) := by
  intro p e s m args below meth c A X rec hrec st o h ρ0 r hgo
  obtain ⟨hx, hb, hml, hr, hown, hts, hlk, hnm, hK, hA⟩ := X
  obtain ⟨lv, sk, ws, c0, s0⟩ := st
  intro tl cws H locs ls cst clv hw hP hD hS hlv hl hst
  obtain ⟨n, sr, rfl, g1, g2, g3, g4, rfl⟩ := rx_nwa_some h
  match cst, hst with
  | w1 :: cr, ⟨h1, h3⟩ =>
    cases h1
    refine va_newa (a0 := (n.toNatClampNeg, .inl (fun _ => 0))) hx hb (by rw [hat]; exact hts _ hw0) hat hK.1 hP hD hS hA (rx_arr_i _) g1 rfl (by simp only [componentBytes]; omega) g2 g3 d (fun q cA H1 hK1 hP1 hD1 hS1 => ?_)
    have := rx_new_cls hK1 hT.1
    subst this
    have e1 : ρ0 ++ (tl ++ [q]) = (ρ0 ++ tl) ++ [q] := by rw [List.append_assoc]
    refine hgo (tl ++ [q]) _ H1 locs ls (.ref q :: cr) clv ?_ hP1 hD1 hS1 ?_ hl ?_
    · rw [e1]; exact hw.new (e := .inr (0, n.toNatClampNeg, [], .int 0)) ⟨_, rfl, fun _ => rfl⟩
    · rw [e1]; exact hlv.mono
    · rw [e1]; exact ⟨⟨q, hw.fresh q, rfl⟩, h3.mono⟩
theorem rx_sd_newZ (hT : rx_TYOk G) (hw0 : Cond.arrayClass .boolean ∈ G.gT) {at' : ArrayType} (hat : newarray.typeOf at' = .boolean) (d : decode M.2.1 pc = .ok (.newarray at', 2)) : rx_Sd G MT M pc (rx_nwa 2 M.2.2.2.2.1.cells M.2.2.2.2.1.slots (pc + 2)) := by
  intro p e s m args below meth c A X rec hrec st o h ρ0 r hgo
  obtain ⟨hx, hb, hml, hr, hown, hts, hlk, hnm, hK, hA⟩ := X
  obtain ⟨lv, sk, ws, c0, s0⟩ := st
  intro tl cws H locs ls cst clv hw hP hD hS hlv hl hst
  obtain ⟨n, sr, rfl, g1, g2, g3, g4, rfl⟩ := rx_nwa_some h
  match cst, hst with
  | w1 :: cr, ⟨h1, h3⟩ =>
    cases h1
    refine va_newa (a0 := (n.toNatClampNeg, .inl (fun _ => 0))) hx hb (by rw [hat]; exact hts _ hw0) hat hK.1 hP hD hS hA (rx_arr_z _) g1 rfl (by simp only [componentBytes]; omega) g2 g3 d (fun q cA H1 hK1 hP1 hD1 hS1 => ?_)
    have := rx_new_cls hK1 hT.2.2
    subst this
    have e1 : ρ0 ++ (tl ++ [q]) = (ρ0 ++ tl) ++ [q] := by rw [List.append_assoc]
    refine hgo (tl ++ [q]) _ H1 locs ls (.ref q :: cr) clv ?_ hP1 hD1 hS1 ?_ hl ?_
    · rw [e1]; exact hw.new (e := .inr (2, n.toNatClampNeg, [], .int 0)) ⟨_, rfl, fun _ => rfl⟩
    · rw [e1]; exact hlv.mono
    · rw [e1]; exact ⟨⟨q, hw.fresh q, rfl⟩, h3.mono⟩
theorem rx_sd_newL (hT : rx_TYOk G) (hw0 : Cond.arrayClass .long ∈ G.gT) {at' : ArrayType} (hat : newarray.typeOf at' = .long) (d : decode M.2.1 pc = .ok (.newarray at', 2)) : rx_Sd G MT M pc (rx_nwa 1 M.2.2.2.2.1.cells M.2.2.2.2.1.slots (pc + 2)) := by
  intro p e s m args below meth c A X rec hrec st o h ρ0 r hgo
  obtain ⟨hx, hb, hml, hr, hown, hts, hlk, hnm, hK, hA⟩ := X
  obtain ⟨lv, sk, ws, c0, s0⟩ := st
  intro tl cws H locs ls cst clv hw hP hD hS hlv hl hst
  obtain ⟨n, sr, rfl, g1, g2, g3, g4, rfl⟩ := rx_nwa_some h
  match cst, hst with
  | w1 :: cr, ⟨h1, h3⟩ =>
    cases h1
    refine va_newa (a0 := (n.toNatClampNeg, .inr (.inl (fun _ => 0)))) hx hb (by rw [hat]; exact hts _ hw0) hat hK.1 hP hD hS hA (rx_arr_l _) g1 rfl (by simp only [componentBytes]; omega) g2 g3 d (fun q cA H1 hK1 hP1 hD1 hS1 => ?_)
    have := rx_new_cls hK1 hT.2.1
    subst this
    have e1 : ρ0 ++ (tl ++ [q]) = (ρ0 ++ tl) ++ [q] := by rw [List.append_assoc]
    refine hgo (tl ++ [q]) _ H1 locs ls (.ref q :: cr) clv ?_ hP1 hD1 hS1 ?_ hl ?_
    · rw [e1]; exact hw.new (e := .inr (1, n.toNatClampNeg, [], .long 0)) ⟨_, rfl, fun _ => rfl⟩
    · rw [e1]; exact hlv.mono
    · rw [e1]; exact ⟨⟨q, hw.fresh q, rfl⟩, h3.mono⟩
theorem rx_sd_newq {t index : Nat} {C : String} (hT : G.TY[t + 3]? = some (G.cy (t + 3), .object C)) (hO : C ∈ G.OC) (hl0 : Cond.classLink M.1.cls index C ∈ G.gT) (d : decode M.2.1 pc = .ok (.anewarray index, 3)) : rx_Sd G MT M pc (rx_nwa (t + 3) M.2.2.2.2.1.cells M.2.2.2.2.1.slots (pc + 3)) := by
  intro p e s m args below meth c A X rec hrec st o h ρ0 r hgo
  obtain ⟨hx, hb, hml, hr, hown, hts, hlk, hnm, hK, hA⟩ := X
  obtain ⟨lv, sk, ws, c0, s0⟩ := st
  intro tl cws H locs ls cst clv hw hP hD hS hlv hl hst
  obtain ⟨n, sr, rfl, g1, g2, g3, g4, rfl⟩ := rx_nwa_some h
  match cst, hst with
  | w1 :: cr, ⟨h1, h3⟩ =>
    cases h1
    refine va_newq hx hb hown (hts _ hl0) (hK.2.2 C hO) hK.1 hP hD hS hA g1 rfl (by omega) g2 g3 d (fun q cA H1 hK1 hP1 hD1 hS1 => ?_)
    have := rx_new_cls hK1 hT
    subst this
    have e1 : ρ0 ++ (tl ++ [q]) = (ρ0 ++ tl) ++ [q] := by rw [List.append_assoc]
    refine hgo (tl ++ [q]) _ H1 locs ls (.ref q :: cr) clv ?_ hP1 hD1 hS1 ?_ hl ?_
    · rw [e1]; exact hw.new (e := .inr (t + 3, n.toNatClampNeg, [], .null)) ⟨_, rfl, fun _ => rfl⟩
    · rw [e1]; exact hlv.mono
    · rw [e1]; exact ⟨⟨q, hw.fresh q, rfl⟩, h3.mono⟩
/-- Object.<init> -/
def rx_obj (RL pc' : Nat) : rx_T := fun _ st => match st.2.1 with
  | .ref _ :: sk => cond (Nat.ble ((sk.map rx_cat).sum + 12) RL) (some (.inl (pc', (st.1, sk, st.2.2)))) none
  | _ => none
theorem rx_sd_obj {index : Nat} (hl0 : Cond.methodLink M.1.cls index objectInit ∈ G.gT) (hi0 : Cond.instanceMethod objectInit ∈ G.gT) (hc0 : Cond.code objectInit ⟨#[0xb1]⟩ 1 none ∈ G.gT) (hf : 1 ≤ M.2.2.2.2.1.frames) (d : decode M.2.1 pc = .ok (.invokespecial index, 3)) : rx_Sd G MT M pc (rx_obj M.2.2.2.2.1.locals (pc + 3)) := by
  intro p e s m args below meth c A X rec hrec st o h ρ0 r hgo
  obtain ⟨hx, hb, hml, hr, hown, hts, hlk, hnm, hK, hA⟩ := X
  obtain ⟨lv, sk, ws, c0, s0⟩ := st
  intro tl cws H locs ls cst clv hw hP hD hS hlv hl hst
  unfold rx_obj at h
  simp only at h hst hlv hw
  match sk, cst, h, hst with
  | .ref a :: sr, w :: cr, h, ⟨⟨a', ha, hwe⟩, h3⟩ =>
    subst hwe
    simp only at h
    obtain ⟨g1, g2⟩ := rx_cond_some h
    cases g2
    have hs := Nat.le_of_ble_eq_true g1
    refine W.objInit hx hb hown (hts _ hl0) (hts _ hi0) (hts _ hc0) (g := F0 m pc ls (.ref a' :: cr)) rfl (by rw [hml]; exact hl.1) rfl d hf (by rw [h3.cats]; simpa [JFrame.monitorRoom] using hs) ?_
    refine W.eq (g2 := F0 m (pc + 3) ls cr) rfl ?_
    exact hgo tl cws H locs ls cr clv hw hP hD hS hlv hl h3
/-- behind a call -/
theorem rx_behind {p : Program} {l : Launch} {e : Env} {R : Room} {s : State} {m : MethodId} {args : Array Value} {below : List Frame} {meth : Method} {c : Code} {H : Heap} {locs : List Loc} {cells slots : Nat} {Q : State → Prop} {pc : Nat} {ls : Array Slot} {rest st0 : List Value} {a : Array Value} {A0 A1 : Nat → Prop} {H0 : Heap} {mc ms : Nat} {free : Addr → Prop} {ρ : List Nat} {r : rx_R}
    (hr : va_Run p l e R s m args below meth c H locs cells slots mc ms (F0 m pc ls st0) rest (rx_Q G ρ r A1 a) free) (hS : va_S A0 H0 H locs) (hA : ∀ q, q < H.size → A1 q → A0 q) (hf : ∀ q, free q → A0 q)
    (kk : ∀ (v : Option Value) (tl : List Nat) (cws : va_W) (H1 : Heap) (locs1 : List Loc), rx_o (ρ ++ tl) G.sg r.1 v → rx_w (ρ ++ tl) G.sg G.cy r.2 cws → va_P G.D G.cl cws H1 → va_D A1 cws → va_S A0 H0 H1 locs1 → W p l e R s m args below meth c H1 locs1 (cells + mc) (slots + ms) Q (F0 m (pc + 3) ls (v.toList ++ rest))) : W p l e R s m args below meth c H locs cells slots Q (F0 m pc ls st0) := by
  intro T hT X
  obtain ⟨v, st₀, t, T', L, h0, X', hL, e1, e2, ⟨⟨v', tl, cws, hv, hp, hb, hP, hD⟩, hz, hk⟩, st⟩ := hr T hT X
  cases hv
  rw [h0] at hz hk
  obtain ⟨t2, a1, b1⟩ := kk v tl cws T'.heap (locs ++ L) hp hb (by rw [e1]; exact hP) hD
    ⟨Nat.le_trans hS.1 (by rw [e1]; exact hz), fun q h1 h2 => by rw [e1, hk q (Nat.lt_of_lt_of_le h1 hS.1) (fun z => h2 (hA q (Nat.lt_of_lt_of_le h1 hS.1) z))]; exact hS.2.1 q h1 h2, fun q hq => by
      rcases List.mem_append.mp hq with h | h
      · exact hS.2.2 q h
      · exact hf _ (hL q h)⟩ T' rfl X'
  exact ⟨t2, st t2 a1, b1⟩
def rx_recv (ci : Nat) (ws : rx_W) : List Value → Bool
  | .ref k :: _ => match ws[k]? with
    | some (.inl (ci', _)) => Nat.beq ci ci'
    | _ => false
  | _ => false
/-- a call of method 'mid' with n values (the receiver first); virt: the receiver is an object of class ci -/
def rx_cl (mid n ci : Nat) (virt : Bool) (mc ms RC RS pc' : Nat) : rx_T := fun rec st => cond (Nat.beq (st.2.1.take n).length n && (Nat.ble ((st.2.1.drop n).map rx_cat).sum 8 && (Nat.ble (st.2.2.2.1 + mc) RC && (Nat.ble (st.2.2.2.2 + ms) RS && (!virt || rx_recv ci st.2.2.1 (st.2.1.take n).reverse))))) (match rec mid (st.2.1.take n).reverse st.2.2.1 with
  | none => none
  | some (v, ws') => some (.inl (pc', (st.1, v.toList ++ st.2.1.drop n, ws', st.2.2.2.1 + mc, st.2.2.2.2 + ms)))) none
/-- how a call is linked: what the tables say, out of a contract -/
def rx_Lk (G : rx_G) (MT : Nat → rx_M) (M : rx_M) (pc mid n ci : Nat) (virt : Bool) : Prop :=
  ∀ (p : Program) (e : Env) (s : State) (m : MethodId) (args : Array Value) (below : List Frame) (meth : Method) (c : Code) (A : Nat → Prop) (H : Heap) (locs : List Loc) (cells slots : Nat) (ls : Array Slot) (ca rest : List Value) (Pc : Array Value → State → Prop) (Qc : Array Value → State → Outcome → State → Prop) (free : Addr → Prop), rx_X G M p s m args meth c A → ls.size = M.2.2.1 →
    Met G.l (MT mid).1 (rx_ws G (MT mid)) (MT mid).2.2.2.2.1 Pc Qc (MT mid).2.2.2.2.1.cells (MT mid).2.2.2.2.1.slots free → FrameBlind Pc → (∀ U : State, U.heap = H → s.WarmedH U.vm → Pc ca.toArray U) → ca.length = n →
    (virt = true → ∃ (b : Nat) (As : List Value) (C : vw_C) (cell : Cell), ca = .ref b :: As ∧ G.cl[ci]? = some C ∧ H[b]? = some cell ∧ cell.vm.isStatics = false ∧ s.vm.findClass C.1 = some cell.cls) → (rest.map fun v => v.category).sum ≤ 8 → cells + (MT mid).2.2.2.2.1.cells ≤ M.2.2.2.2.1.cells → slots + (MT mid).2.2.2.2.1.slots ≤ M.2.2.2.2.1.slots →
    va_Run p G.l e M.2.2.2.2.1 s m args below meth c H locs cells slots (MT mid).2.2.2.2.1.cells (MT mid).2.2.2.2.1.slots (F0 m pc ls (ca.reverse ++ rest)) rest (Qc ca.toArray) free
theorem rx_sd_cl {mid n ci : Nat} {virt : Bool} {mc ms : Nat} (hL : rx_Lk G MT M pc mid n ci virt) (hci : virt = true → ∃ C, G.cl[ci]? = some C) (hmc : (MT mid).2.2.2.2.1.cells = mc) (hms : (MT mid).2.2.2.2.1.slots = ms) : rx_Sd G MT M pc (rx_cl mid n ci virt mc ms M.2.2.2.2.1.cells M.2.2.2.2.1.slots (pc + 3)) := by
  intro p e s m args below meth c A X rec hrec st o h ρ0 r hgo
  have X0 := X
  obtain ⟨hx, hb, hml, hr, hown, hts, hlk, hnm, hK, hA⟩ := X
  obtain ⟨lv, sk, ws, c0, s0⟩ := st
  intro tl cws H locs ls cst clv hw hP hD hS hlv hl hst
  unfold rx_cl at h
  simp only at h hst hlv hw
  obtain ⟨g1, g2⟩ := rx_cond_some h
  simp only [Bool.and_eq_true] at g1
  obtain ⟨k1, k2, k3, k4, k5⟩ := g1
  subst hmc; subst hms
  cases hrc : rec mid (sk.take n).reverse ws with
  | none => rw [hrc] at g2; cases g2
  | some r1 =>
    obtain ⟨v1, ws1⟩ := r1
    rw [hrc] at g2
    cases g2
    have ht := hst.take n
    have hca := ht.1.rev
    have hM := hrec mid _ ws _ hrc (ρ0 ++ tl) cws H.size ((cst.take n).reverse) hw hca
    have hF : ∀ q, va_A cws H.size q → A q := by
      intro q hq
      rcases hq with ⟨k, e', hk⟩ | hq
      · exact hD.2 k (q, e') hk
      · exact hA q (Nat.le_trans hS.1 hq)
    have hlen : ((cst.take n).reverse).length = n := by
      rw [List.length_reverse, ← ht.1.len]
      exact Nat.eq_of_beq_eq_true k1
    have hrun := hL p e s m args below meth c A H locs c0 s0 ls ((cst.take n).reverse) (cst.drop n) _ _ _ X0 hl.1 hM (rx_Pc.blind G _ cws H.size) (fun U hU hW => ⟨rfl, by rw [hU], by rw [hU]; exact hP, hK.warm hW, hD.weaken (fun _ _ _ _ => trivial)⟩) hlen (fun hv => by
      subst hv
      simp only [Bool.not_true, Bool.false_or] at k5
      unfold rx_recv at k5
      split at k5
      · next k t hk =>
        split at k5
        · next ci' fs hwk =>
          have e1 := Nat.eq_of_beq_eq_true k5
          subst e1
          rw [hk] at hca
          obtain ⟨C, hC⟩ := hci rfl
          cases hcr : (cst.take n).reverse with
          | nil => rw [hcr] at hca; exact hca.elim
          | cons w As =>
            rw [hcr] at hca
            obtain ⟨⟨b, hb', hwb⟩, -⟩ := hca
            subst hwb
            obtain ⟨ce, f1, cfs, f2, f3⟩ := hw.at hwk hb'
            subst f2
            obtain ⟨cell, q1, q2, q3⟩ := va_recv hK.1 hP hC f1
            exact ⟨b, As, C, cell, rfl, hC, q1, q2, q3⟩
        · cases k5
      · cases k5) (by rw [ht.2.cats]; exact Nat.le_of_ble_eq_true k2) (Nat.le_of_ble_eq_true k3) (Nat.le_of_ble_eq_true k4)
    rw [List.reverse_reverse, List.take_append_drop] at hrun
    refine rx_behind hrun hS (fun q _ hq => hF q hq) hF (fun v t2 cws2 H2 locs2 e1 e2 e3 e4 e5 => ?_)
    have e6 : ρ0 ++ (tl ++ t2) = (ρ0 ++ tl) ++ t2 := by rw [List.append_assoc]
    refine hgo (tl ++ t2) cws2 H2 locs2 ls _ clv ?_ e3 (e4.weaken (fun k q _ hq => hF _ hq)) e5 ?_ hl ?_
    · rw [e6]; exact e2
    · rw [e6]; exact hlv.mono
    · rw [e6]
      refine rx_l.app ?_ ht.2.mono
      match v1, v, e1 with
      | none, none, _ => trivial
      | some x, some y, e1 => exact ⟨e1, trivial⟩
end CA
