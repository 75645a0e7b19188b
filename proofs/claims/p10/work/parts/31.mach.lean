/-! THE RUN, and what it is for it to be sound -/
def rx_seek (pc : Nat) : rx_P → rx_P
  | [] => []
  | q :: t => cond (Nat.beq q.1 pc) (q :: t) (rx_seek pc t)
def rx_next (full : rx_P) (pc : Nat) : rx_P → rx_P
  | [] => rx_seek pc full
  | q :: t => cond (Nat.beq q.1 pc) (q :: t) (rx_seek pc full)
/-- a method's own data: owner, code, locals, answer's type, is it a constructor, room, its program -/
abbrev rx_M : Type := MethodName × ByteArray × Nat × Option FieldType × Room × rx_P
def rx_dflt : rx_M := (⟨"", "", ""⟩, ⟨#[]⟩, 0, none, {}, [])
noncomputable def rx_run (MT : Nat → rx_M) (n : Nat) : rx_P → rx_P → rx_S → Option rx_R :=
  Nat.rec (motive := fun _ => rx_P → rx_P → rx_S → Option rx_R) (fun _ _ _ => none)
    (fun _ ih full suf st => match suf with
      | [] => none
      | q :: rest => match q.2 (fun mid a w => cond (Nat.ble (a.map rx_cat).sum (MT mid).2.2.1) (ih (MT mid).2.2.2.2.2 (rx_seek 0 (MT mid).2.2.2.2.2) (rx_args 0 a, [], w, 0, 0)) none) st with
        | none => none
        | some (.inr r) => some r
        | some (.inl (pc, st')) => ih full (rx_next full pc rest) st') n
noncomputable def rx_call (MT : Nat → rx_M) (n : Nat) : rx_C := fun mid a w => cond (Nat.ble (a.map rx_cat).sum (MT mid).2.2.1) (rx_run MT n (MT mid).2.2.2.2.2 (rx_seek 0 (MT mid).2.2.2.2.2) (rx_args 0 a, [], w, 0, 0)) none
theorem rx_run_s (MT : Nat → rx_M) (n : Nat) (full : rx_P) (q : Nat × rx_T) (rest : rx_P) (st : rx_S) : rx_run MT (n + 1) full (q :: rest) st = match q.2 (rx_call MT n) st with
        | none => none
        | some (.inr r) => some r
        | some (.inl (pc, st')) => rx_run MT n full (rx_next full pc rest) st' := rfl
/-- the tables, as they stay -/
def rx_K (D : va_G) (cl : List vw_C) (TY : List (ClassId × FieldType)) (NW : List (String × Nat × MethodName × String)) (OC : List String) (U : State) : Prop :=
  va_K D cl TY U ∧ (∀ w ∈ NW, va_Nw (.methodLinkNest w.1 w.2.1 w.2.2.1 w.2.2.2) U) ∧ ∀ C ∈ OC, va_AO C U
theorem rx_K.warm {D : va_G} {cl : List vw_C} {TY : List (ClassId × FieldType)} {NW : List (String × Nat × MethodName × String)} {OC : List String} {s U : State} (h : rx_K D cl TY NW OC s) (hW : s.WarmedH U.vm) : rx_K D cl TY NW OC U :=
  ⟨va_K.moved hW.alike h.1, fun w hw => va_Nw.warmM hW (h.2.1 w hw), fun C hC => va_AO.moved hW.alike (h.2.2 C hC)⟩
theorem rx_K.same {D : va_G} {cl : List vw_C} {TY : List (ClassId × FieldType)} {NW : List (String × Nat × MethodName × String)} {OC : List String} {s U : State} (h : rx_K D cl TY NW OC s) (hv : s.vm = U.vm) : rx_K D cl TY NW OC U :=
  ⟨va_K.moved (by rw [hv]; exact Vm.Alike.refl U.vm) h.1, fun w hw => va_Nw.same rfl hv (h.2.1 w hw), fun C hC => va_AO.moved (by rw [hv]; exact Vm.Alike.refl U.vm) (h.2.2 C hC)⟩
/-- the world around all methods: launch, class numbers, classes, array classes, words, unknown ints -/
abbrev rx_G : Type := Launch × va_G × List vw_C × (Nat → ClassId) × List (ClassId × FieldType) × List (String × Nat × MethodName × String) × List String × List Cond × (Nat → Int32)
abbrev rx_G.l (G : rx_G) : Launch := G.1
abbrev rx_G.D (G : rx_G) : va_G := G.2.1
abbrev rx_G.cl (G : rx_G) : List vw_C := G.2.2.1
abbrev rx_G.cy (G : rx_G) : Nat → ClassId := G.2.2.2.1
abbrev rx_G.TY (G : rx_G) : List (ClassId × FieldType) := G.2.2.2.2.1
abbrev rx_G.NW (G : rx_G) : List (String × Nat × MethodName × String) := G.2.2.2.2.2.1
abbrev rx_G.OC (G : rx_G) : List String := G.2.2.2.2.2.2.1
abbrev rx_G.gT (G : rx_G) : List Cond := G.2.2.2.2.2.2.2.1
abbrev rx_G.sg (G : rx_G) : Nat → Int32 := G.2.2.2.2.2.2.2.2
/-- how a method ends -/
def rx_Q (G : rx_G) (ρ0 : List Nat) (r : rx_R) (A : Nat → Prop) : Array Value → State → Outcome → State → Prop := fun _ st oc t =>
  (∃ (v : Option Value) (tl : List Nat) (cws : va_W), oc = .returned v ∧ rx_o (ρ0 ++ tl) G.sg r.1 v ∧ rx_w (ρ0 ++ tl) G.sg G.cy r.2 cws ∧ va_P G.D G.cl cws t.heap ∧ va_D A cws) ∧ va_F A st t
def rx_Pc (G : rx_G) (ca : List Value) (cws : va_W) (sz : Nat) : Array Value → State → Prop := va_Pc ca (fun U => U.heap.size = sz ∧ va_P G.D G.cl cws U.heap ∧ rx_K G.D G.cl G.TY G.NW G.OC U ∧ va_D (fun _ => True) cws)
theorem rx_Pc.blind (G : rx_G) (ca : List Value) (cws : va_W) (sz : Nat) : FrameBlind (rx_Pc G ca cws sz) := by
  intro a U g mk h
  obtain ⟨h0, h1, h2, h3, h4⟩ := h
  exact ⟨h0, h1, h2, rx_K.same (s := U) (U := U.calling g mk a) h3 rfl, h4⟩
/-- a method's words: its code, and the tables' good ones -/
abbrev rx_ws (G : rx_G) (M : rx_M) : List Cond := Cond.code M.1 M.2.1 M.2.2.1 M.2.2.2.1 :: G.gT
/-- calls are answered as the real machine answers them -/
def rx_Ok (G : rx_G) (MT : Nat → rx_M) (rec : rx_C) : Prop :=
  ∀ (mid : Nat) (a : List Value) (ws : rx_W) (r : rx_R), rec mid a ws = some r → ∀ (ρ : List Nat) (cws : va_W) (sz : Nat) (ca : List Value), rx_w ρ G.sg G.cy ws cws → rx_l ρ G.sg a ca →
    Met G.l (MT mid).1 (rx_ws G (MT mid)) (MT mid).2.2.2.2.1 (rx_Pc G ca cws sz) (rx_Q G ρ r (va_A cws sz)) (MT mid).2.2.2.2.1.cells (MT mid).2.2.2.2.1.slots (va_A cws sz)
/-- what holds all through a method -/
def rx_X (G : rx_G) (M : rx_M) (p : Program) (s : State) (m : MethodId) (args : Array Value) (meth : Method) (c : Code) (A : Nat → Prop) : Prop :=
  p.tables.exec = Jvm.exec ∧ c.code = M.2.1 ∧ c.maxLocals = M.2.2.1 ∧ meth.sig.returnType = M.2.2.2.1 ∧ s.vm.findClass M.1.cls = some m.cls ∧ (∀ w ∈ G.gT, w.before args s = true) ∧ meth.locks = false ∧ meth.name = M.1.name ∧ rx_K G.D G.cl G.TY G.NW G.OC s ∧ ∀ q, s.heap.size ≤ q → A q
/-- the machine, at a place with what the state stands for, comes to the method's end -/
def rx_Go (G : rx_G) (M : rx_M) (p : Program) (e : Env) (s : State) (m : MethodId) (args : Array Value) (below : List Frame) (meth : Method) (c : Code) (A : Nat → Prop) (ρ0 : List Nat) (r : rx_R) (pc : Nat) (st : rx_S) : Prop :=
  ∀ (tl : List Nat) (cws : va_W) (H : Heap) (locs : List Loc) (ls : Array Slot) (cst : List Value) (clv : rx_L), rx_w (ρ0 ++ tl) G.sg G.cy st.2.2.1 cws → va_P G.D G.cl cws H → va_D A cws → va_S A s.heap H locs →
    rx_lv (ρ0 ++ tl) G.sg st.1 clv → lv_has ls M.2.2.1 clv → rx_l (ρ0 ++ tl) G.sg st.2.1 cst →
    W p G.l e M.2.2.2.2.1 s m args below meth c H locs st.2.2.2.1 st.2.2.2.2 (MQ below (rx_Q G ρ0 r A) args s M.2.2.2.2.1.cells M.2.2.2.2.1.slots A) (F0 m pc ls cst)
/-- an instruction's rule is sound -/
def rx_Sd (G : rx_G) (MT : Nat → rx_M) (M : rx_M) (pc : Nat) (tr : rx_T) : Prop :=
  ∀ (p : Program) (e : Env) (s : State) (m : MethodId) (args : Array Value) (below : List Frame) (meth : Method) (c : Code) (A : Nat → Prop), rx_X G M p s m args meth c A → ∀ rec : rx_C, rx_Ok G MT rec → ∀ (st : rx_S) (o : rx_O), tr rec st = some o → ∀ (ρ0 : List Nat) (r : rx_R),
    (match o with
      | .inl (pc', st') => rx_Go G M p e s m args below meth c A ρ0 r pc' st'
      | .inr r' => r' = r) → rx_Go G M p e s m args below meth c A ρ0 r pc st
theorem rx_seek_ok {pc : Nat} : ∀ {full : rx_P} {q : Nat × rx_T} {rest : rx_P}, rx_seek pc full = q :: rest → q.1 = pc ∧ ∀ x ∈ q :: rest, x ∈ full
  | [], _, _, h => by simp [rx_seek] at h
  | x :: t, q, rest, h => by
    simp only [rx_seek] at h
    cases hb : Nat.beq x.1 pc with
    | true =>
      rw [hb] at h
      simp only [cond_true] at h
      cases h
      exact ⟨Nat.eq_of_beq_eq_true hb, fun _ h => h⟩
    | false =>
      rw [hb] at h
      obtain ⟨h1, h2⟩ := rx_seek_ok (full := t) h
      exact ⟨h1, fun y hy => List.mem_cons_of_mem _ (h2 y hy)⟩
theorem rx_next_ok {pc : Nat} {full rest0 : rx_P} (h0 : ∀ x ∈ rest0, x ∈ full) {q : Nat × rx_T} {rest : rx_P} (h : rx_next full pc rest0 = q :: rest) : q.1 = pc ∧ ∀ x ∈ q :: rest, x ∈ full := by
  cases rest0 with
  | nil => exact rx_seek_ok h
  | cons x t =>
    simp only [rx_next] at h
    cases hb : Nat.beq x.1 pc with
    | true =>
      rw [hb] at h
      simp only [cond_true] at h
      cases h
      exact ⟨Nat.eq_of_beq_eq_true hb, h0⟩
    | false =>
      rw [hb] at h
      exact rx_seek_ok h
/-- the methods' programs are sound, rule by rule -/
def rx_All (G : rx_G) (MT : Nat → rx_M) : Prop := ∀ mid : Nat, (MT mid).2.2.2.2.2 ≠ [] → plainName (MT mid).1.cls = true ∧ ∀ q ∈ (MT mid).2.2.2.2.2, rx_Sd G MT (MT mid) q.1 q.2
theorem rx_sound {G : rx_G} {MT : Nat → rx_M} (hall : rx_All G MT) : ∀ n : Nat, rx_Ok G MT (rx_call MT n) ∧
    ∀ (M : rx_M) (full suf : rx_P) (st : rx_S) (r : rx_R), (∀ q ∈ full, rx_Sd G MT M q.1 q.2) → (∀ q ∈ suf, q ∈ full) → rx_run MT n full suf st = some r →
      ∀ (q : Nat × rx_T) (rest : rx_P), suf = q :: rest → ∀ (p : Program) (e : Env) (s : State) (m : MethodId) (args : Array Value) (below : List Frame) (meth : Method) (c : Code) (A : Nat → Prop), rx_X G M p s m args meth c A → ∀ ρ0 : List Nat, rx_Go G M p e s m args below meth c A ρ0 r q.1 st := by
  have top : ∀ n : Nat, (∀ (M : rx_M) (full suf : rx_P) (st : rx_S) (r : rx_R), (∀ q ∈ full, rx_Sd G MT M q.1 q.2) → (∀ q ∈ suf, q ∈ full) → rx_run MT n full suf st = some r →
      ∀ (q : Nat × rx_T) (rest : rx_P), suf = q :: rest → ∀ (p : Program) (e : Env) (s : State) (m : MethodId) (args : Array Value) (below : List Frame) (meth : Method) (c : Code) (A : Nat → Prop), rx_X G M p s m args meth c A → ∀ ρ0 : List Nat, rx_Go G M p e s m args below meth c A ρ0 r q.1 st) → rx_Ok G MT (rx_call MT n) := by
    intro n ih mid a ws r hrun ρ cws sz ca hw ha
    unfold rx_call at hrun
    cases hsz : Nat.ble (a.map rx_cat).sum (MT mid).2.2.1 with
    | false => rw [hsz] at hrun; cases hrun
    | true =>
      rw [hsz] at hrun
      simp only [cond_true] at hrun
      have hsz := Nat.le_of_ble_eq_true hsz
      cases hs : rx_seek 0 (MT mid).2.2.2.2.2 with
      | nil =>
        rw [hs] at hrun
        cases n with
        | zero => cases hrun
        | succ n => cases hrun
      | cons q rest =>
        obtain ⟨hq0, hin⟩ := rx_seek_ok hs
        rw [hs] at hrun
        have hne : (MT mid).2.2.2.2.2 ≠ [] := fun h => by rw [h] at hs; cases hs
        obtain ⟨hpl, hsd⟩ := hall mid hne
        refine Met.ofW (cc := (MT mid).2.1) (maxL := (MT mid).2.2.1) (ret := (MT mid).2.2.2.1) (ws' := G.gT) hpl rfl ?_
        intro p e s m args below meth c s₁ B hml hv
        obtain ⟨rfl, hz, hP, hK, hD0⟩ := hv
        have hts := atoms_spec (ws := rx_ws G (MT mid)) B.pre
        have hl := lv_entry ca (n := (MT mid).2.2.1) (by rw [rx_sl_len, ha.cats]; exact hsz)
        have X : rx_X G (MT mid) p s m ca.toArray meth c (va_A cws sz) := ⟨B.exec, B.bytes, hml, B.returns, findClass_of_methodNamed B.named, fun w hw => hts w (List.mem_cons_of_mem _ hw), B.notSynchronized, (name_of_methodNamed B.named B.method).1, hK, fun q hq => Or.inr (by rw [← hz]; exact hq)⟩
        have K := ih (MT mid) (MT mid).2.2.2.2.2 (q :: rest) (rx_args 0 a, [], ws, 0, 0) r hsd hin hrun q rest rfl p e s m ca.toArray below meth c (va_A cws sz) X ρ
        rw [hq0] at K
        rw [lg_entry_eq]
        refine K [] cws s.heap [] _ [] (lv_args 0 ca) ?_ hP hD0.self va_S.rf ?_ hl trivial
        · rw [List.append_nil]; exact hw
        · rw [List.append_nil]; exact ha.args 0
  intro n
  induction n with
  | zero =>
    have h0 : ∀ (M : rx_M) (full suf : rx_P) (st : rx_S) (r : rx_R), (∀ q ∈ full, rx_Sd G MT M q.1 q.2) → (∀ q ∈ suf, q ∈ full) → rx_run MT 0 full suf st = some r →
      ∀ (q : Nat × rx_T) (rest : rx_P), suf = q :: rest → ∀ (p : Program) (e : Env) (s : State) (m : MethodId) (args : Array Value) (below : List Frame) (meth : Method) (c : Code) (A : Nat → Prop), rx_X G M p s m args meth c A → ∀ ρ0 : List Nat, rx_Go G M p e s m args below meth c A ρ0 r q.1 st := by
      intro M full suf st r _ _ h
      cases h
    exact ⟨top 0 h0, h0⟩
  | succ n ih =>
    have h1 : ∀ (M : rx_M) (full suf : rx_P) (st : rx_S) (r : rx_R), (∀ q ∈ full, rx_Sd G MT M q.1 q.2) → (∀ q ∈ suf, q ∈ full) → rx_run MT (n + 1) full suf st = some r →
      ∀ (q : Nat × rx_T) (rest : rx_P), suf = q :: rest → ∀ (p : Program) (e : Env) (s : State) (m : MethodId) (args : Array Value) (below : List Frame) (meth : Method) (c : Code) (A : Nat → Prop), rx_X G M p s m args meth c A → ∀ ρ0 : List Nat, rx_Go G M p e s m args below meth c A ρ0 r q.1 st := by
      intro M full suf st r hsd hin hrun q rest hsuf p e s m args below meth c A X ρ0
      subst hsuf
      rw [rx_run_s] at hrun
      have hq := hsd q (hin q List.mem_cons_self) p e s m args below meth c A X (rx_call MT n) ih.1 st
      cases ho : q.2 (rx_call MT n) st with
      | none => rw [ho] at hrun; cases hrun
      | some o =>
        rw [ho] at hrun
        refine hq o ho ρ0 r ?_
        match o, hrun with
        | .inr r', hrun => exact Option.some.inj hrun
        | .inl (pc', st'), hrun =>
          show rx_Go G M p e s m args below meth c A ρ0 r pc' st'
          have hrun : rx_run MT n full (rx_next full pc' rest) st' = some r := hrun
          cases hn : rx_next full pc' rest with
          | nil =>
            rw [hn] at hrun
            cases n with
            | zero => cases hrun
            | succ n => cases hrun
          | cons q' rest' =>
            obtain ⟨g1, g2⟩ := rx_next_ok (fun x hx => hin x (List.mem_cons_of_mem _ hx)) hn
            rw [hn] at hrun
            have := ih.2 M full (q' :: rest') st' r hsd g2 hrun q' rest' rfl p e s m args below meth c A X ρ0
            rw [g1] at this
            exact this
    exact ⟨top (n + 1) h1, h1⟩
