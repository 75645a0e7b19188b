/-! RULES OF LOCALS, CELLS, CALLS AND ENDS -/
theorem rx_lv.cons {ρ : List Nat} {σ : Nat → Int32} {i : Nat} {v w : Value} {a b : rx_L} (hv : rx_v ρ σ v w) (h : rx_lv ρ σ a b) : rx_lv ρ σ ((i, v) :: a) ((i, w) :: b) := ⟨rfl, hv, h⟩
section CE
variable {G : rx_G} {MT : Nat → rx_M} {M : rx_M} {pc : Nat}
/-- kinds: 0 int, 1 long, 2 reference -/
def rx_is (kind : Nat) : Value → Bool
  | .int _ => Nat.beq kind 0
  | .float _ => Nat.beq kind 0
  | .double _ => Nat.beq kind 0
  | .long _ => Nat.beq kind 1
  | .ref _ => Nat.beq kind 2
  | .null => Nat.beq kind 2
  | .retAddr _ => false
theorem rx_is0 {ρ : List Nat} {σ : Nat → Int32} {v w : Value} (h : rx_is 0 v = true) (hv : rx_v ρ σ v w) : ∃ x : Int32, w = .int x := by
  cases v with
  | int x => exact ⟨x, hv⟩
  | float n => exact ⟨_, hv⟩
  | double n => exact hv
  | _ => cases h
theorem rx_is1 {ρ : List Nat} {σ : Nat → Int32} {v w : Value} (h : rx_is 1 v = true) (hv : rx_v ρ σ v w) : ∃ x : Int64, w = .long x := by
  cases v with
  | long x => exact ⟨x, hv⟩
  | _ => cases h
theorem rx_is2 {ρ : List Nat} {σ : Nat → Int32} {v w : Value} (h : rx_is 2 v = true) (hv : rx_v ρ σ v w) : w = .null ∨ ∃ a, w = .ref a := by
  cases v with
  | null => exact Or.inl hv
  | ref a => obtain ⟨a', -, h2⟩ := hv; exact Or.inr ⟨a', h2⟩
  | _ => cases h
def rx_ld (kind i pc' : Nat) : rx_T := fun _ st => match rx_find st.1 i with
  | none => none
  | some v => cond (rx_is kind v) (some (.inl (pc', (st.1, v :: st.2.1, st.2.2)))) none
theorem rx_sd_ld {kind i pc' : Nat} (hs : ∀ (ρ : List Nat) (v w : Value) (p : Program) (l : Launch) (e : Env) (R : Room) (s : State) (m : MethodId) (args : Array Value) (below : List Frame) (meth : Method) (c : Code) (H : Heap) (locs : List Loc) (cells slots : Nat) (Q : State → Prop) (ls : Array Slot) (rest : List Value), p.tables.exec = Jvm.exec → c.code = M.2.1 → rx_is kind v = true → rx_v ρ G.sg v w → ls[i]? = some (.val w) →
      W p l e R s m args below meth c H locs cells slots Q (F0 m pc' ls (w :: rest)) → W p l e R s m args below meth c H locs cells slots Q (F0 m pc ls rest)) : rx_Sd G MT M pc (rx_ld kind i pc') := by
  intro p e s m args below meth c A X rec hrec st o h ρ0 r hgo
  obtain ⟨hx, hb, hml, hr, hown, hts, hlk, hnm, hK, hA⟩ := X
  unfold rx_ld at h
  cases hk : rx_find st.1 i with
  | none => rw [hk] at h; cases h
  | some v =>
    rw [hk] at h
    obtain ⟨g1, g2⟩ := rx_cond_some h
    cases g2
    intro tl cws H locs ls cst clv hw hP hD hS hlv hl hst
    obtain ⟨k, w, e1, e2⟩ := hlv.find hk
    exact hs _ v w p G.l e _ s m args below meth c H locs _ _ _ ls cst hx hb g1 e2 (lv_at hl k e1) (hgo tl cws H locs ls (w :: cst) clv hw hP hD hS hlv hl ⟨e2, hst⟩)
theorem rx_sd_iload_n {k : Fin 4} {i : Nat} (d : decode M.2.1 pc = .ok (.iload_n k, 1)) (hi : (k : Nat) = i) : rx_Sd G MT M pc (rx_ld 0 i (pc + 1)) :=
  rx_sd_ld (fun ρ v w p l e R s m args below meth c H locs cells slots Q ls rest hx hb hk hv hl kk => by
    obtain ⟨x, rfl⟩ := rx_is0 hk hv
    exact lv_iload_n hx hb d hi hl kk)
theorem rx_sd_iload {i : Nat} (d : decode M.2.1 pc = .ok (.iload i, 2)) : rx_Sd G MT M pc (rx_ld 0 i (pc + 2)) :=
  rx_sd_ld (fun ρ v w p l e R s m args below meth c H locs cells slots Q ls rest hx hb hk hv hl kk => by
    obtain ⟨x, rfl⟩ := rx_is0 hk hv
    exact lv_iload hx hb d hl kk)
theorem rx_sd_lload_n {k : Fin 4} {i : Nat} (d : decode M.2.1 pc = .ok (.lload_n k, 1)) (hi : (k : Nat) = i) : rx_Sd G MT M pc (rx_ld 1 i (pc + 1)) :=
  rx_sd_ld (fun ρ v w p l e R s m args below meth c H locs cells slots Q ls rest hx hb hk hv hl kk => by
    obtain ⟨x, rfl⟩ := rx_is1 hk hv
    exact lv_lload_n hx hb d hi hl kk)
theorem rx_sd_lload {i : Nat} (d : decode M.2.1 pc = .ok (.lload i, 2)) : rx_Sd G MT M pc (rx_ld 1 i (pc + 2)) :=
  rx_sd_ld (fun ρ v w p l e R s m args below meth c H locs cells slots Q ls rest hx hb hk hv hl kk => by
    obtain ⟨x, rfl⟩ := rx_is1 hk hv
    exact lv_lload hx hb d hl kk)
theorem rx_sd_aload_n {k : Fin 4} {i : Nat} (d : decode M.2.1 pc = .ok (.aload_n k, 1)) (hi : (k : Nat) = i) : rx_Sd G MT M pc (rx_ld 2 i (pc + 1)) :=
  rx_sd_ld (fun ρ v w p l e R s m args below meth c H locs cells slots Q ls rest hx hb hk hv hl kk => by
    rcases rx_is2 hk hv with rfl | ⟨a, rfl⟩
    · exact lv_aload_nN hx hb d hi hl kk
    · exact lv_aload_n hx hb d hi hl kk)
theorem rx_sd_aload {i : Nat} (d : decode M.2.1 pc = .ok (.aload i, 2)) : rx_Sd G MT M pc (rx_ld 2 i (pc + 2)) :=
  rx_sd_ld (fun ρ v w p l e R s m args below meth c H locs cells slots Q ls rest hx hb hk hv hl kk => by
    rcases rx_is2 hk hv with rfl | ⟨a, rfl⟩
    · exact lv_aloadN hx hb d hl kk
    · exact lv_aload hx hb d hl kk)
def rx_st (kind i pc' nL : Nat) : rx_T := fun _ st => match st.2.1 with
  | v :: r => cond (rx_is kind v && Nat.ble (i + rx_cat v) nL) (some (.inl (pc', ((i, v) :: cond (Nat.beq kind 1) (rx_put2 st.1 i) (rx_put1 st.1 i), r, st.2.2)))) none
  | [] => none
theorem rx_sd_st1 {kind i pc' : Nat} (hkd : Nat.beq kind 1 = false) (hs : ∀ (ρ : List Nat) (v w : Value) (p : Program) (l : Launch) (e : Env) (R : Room) (s : State) (m : MethodId) (args : Array Value) (below : List Frame) (meth : Method) (c : Code) (H : Heap) (locs : List Loc) (cells slots : Nat) (Q : State → Prop) (ls : Array Slot) (rest : List Value) (lv : rx_L), p.tables.exec = Jvm.exec → c.code = M.2.1 → rx_is kind v = true → rx_v ρ G.sg v w → lv_has ls M.2.2.1 lv → i < M.2.2.1 →
      (∀ ls' : Array Slot, lv_has ls' M.2.2.1 ((i, w) :: lv.filter (fun q => !(q.1 == i) && !(q.1 + 1 == i && q.2.category == 2))) → W p l e R s m args below meth c H locs cells slots Q (F0 m pc' ls' rest)) → W p l e R s m args below meth c H locs cells slots Q (F0 m pc ls (w :: rest))) : rx_Sd G MT M pc (rx_st kind i pc' M.2.2.1) := by
  intro p e s m args below meth c A X rec hrec st o h ρ0 r hgo
  obtain ⟨hx, hb, hml, hr, hown, hts, hlk, hnm, hK, hA⟩ := X
  obtain ⟨lv, sk, ws, c0, s0⟩ := st
  intro tl cws H locs ls cst clv hw hP hD hS hlv hl hst
  unfold rx_st at h
  simp only at h hst hlv
  match sk, cst, h, hst with
  | v :: sr, w :: cr, h, ⟨h1, h3⟩ =>
    simp only at h
    obtain ⟨g1, g2⟩ := rx_cond_some h
    rw [Bool.and_eq_true] at g1
    cases g2
    rw [hkd] at hgo
    have hc : 1 ≤ rx_cat v := by cases v <;> simp [rx_cat]
    have hn := Nat.le_of_ble_eq_true g1.2
    exact hs _ v w p G.l e _ s m args below meth c H locs _ _ _ ls cr clv hx hb g1.1 h1 hl (by omega) (fun ls' hl' => hgo tl cws H locs ls' cr _ hw hP hD hS (rx_lv.cons h1 (hlv.put1 i)) hl' h3)
theorem rx_sd_istore_n {k : Fin 4} {i : Nat} (d : decode M.2.1 pc = .ok (.istore_n k, 1)) (hi : (k : Nat) = i) : rx_Sd G MT M pc (rx_st 0 i (pc + 1) M.2.2.1) :=
  rx_sd_st1 rfl (fun ρ v w p l e R s m args below meth c H locs cells slots Q ls rest lv hx hb hk hv hl hn kk => by
    obtain ⟨x, rfl⟩ := rx_is0 hk hv
    exact lv_istore_n hx hb d hi hl hn rfl kk)
theorem rx_sd_istore {i : Nat} (d : decode M.2.1 pc = .ok (.istore i, 2)) : rx_Sd G MT M pc (rx_st 0 i (pc + 2) M.2.2.1) :=
  rx_sd_st1 rfl (fun ρ v w p l e R s m args below meth c H locs cells slots Q ls rest lv hx hb hk hv hl hn kk => by
    obtain ⟨x, rfl⟩ := rx_is0 hk hv
    exact lv_istore hx hb d hl hn rfl kk)
theorem rx_sd_astore_n {k : Fin 4} {i : Nat} (d : decode M.2.1 pc = .ok (.astore_n k, 1)) (hi : (k : Nat) = i) : rx_Sd G MT M pc (rx_st 2 i (pc + 1) M.2.2.1) :=
  rx_sd_st1 rfl (fun ρ v w p l e R s m args below meth c H locs cells slots Q ls rest lv hx hb hk hv hl hn kk => by
    rcases rx_is2 hk hv with rfl | ⟨a, rfl⟩
    · exact lv_astore_nN hx hb d hi hl hn rfl kk
    · exact lv_astore_n hx hb d hi hl hn rfl kk)
theorem rx_sd_astore {i : Nat} (d : decode M.2.1 pc = .ok (.astore i, 2)) : rx_Sd G MT M pc (rx_st 2 i (pc + 2) M.2.2.1) :=
  rx_sd_st1 rfl (fun ρ v w p l e R s m args below meth c H locs cells slots Q ls rest lv hx hb hk hv hl hn kk => by
    rcases rx_is2 hk hv with rfl | ⟨a, rfl⟩
    · exact lv_astoreN hx hb d hl hn rfl kk
    · exact lv_astore hx hb d hl hn rfl kk)
theorem rx_sd_st2 {i pc' : Nat} (hs : ∀ (x : Int64) (p : Program) (l : Launch) (e : Env) (R : Room) (s : State) (m : MethodId) (args : Array Value) (below : List Frame) (meth : Method) (c : Code) (H : Heap) (locs : List Loc) (cells slots : Nat) (Q : State → Prop) (ls : Array Slot) (rest : List Value) (lv : rx_L), p.tables.exec = Jvm.exec → c.code = M.2.1 → lv_has ls M.2.2.1 lv → i + 1 < M.2.2.1 →
      (∀ ls' : Array Slot, lv_has ls' M.2.2.1 ((i, .long x) :: lv.filter (fun q => !(q.1 == i) && (!(q.1 == i + 1) && !(q.1 + 1 == i && q.2.category == 2)))) → W p l e R s m args below meth c H locs cells slots Q (F0 m pc' ls' rest)) → W p l e R s m args below meth c H locs cells slots Q (F0 m pc ls (.long x :: rest))) : rx_Sd G MT M pc (rx_st 1 i pc' M.2.2.1) := by
  intro p e s m args below meth c A X rec hrec st o h ρ0 r hgo
  obtain ⟨hx, hb, hml, hr, hown, hts, hlk, hnm, hK, hA⟩ := X
  obtain ⟨lv, sk, ws, c0, s0⟩ := st
  intro tl cws H locs ls cst clv hw hP hD hS hlv hl hst
  unfold rx_st at h
  simp only at h hst hlv
  match sk, cst, h, hst with
  | v :: sr, w :: cr, h, ⟨h1, h3⟩ =>
    simp only at h
    obtain ⟨g1, g2⟩ := rx_cond_some h
    rw [Bool.and_eq_true] at g1
    cases g2
    have hn := Nat.le_of_ble_eq_true g1.2
    have hv : ∃ x, v = .long x := by
      cases v with
      | long x => exact ⟨x, rfl⟩
      | _ => exact absurd g1.1 (by simp [rx_is])
    obtain ⟨x, rfl⟩ := hv
    cases h1
    exact hs x p G.l e _ s m args below meth c H locs _ _ _ ls cr clv hx hb hl (by simp only [rx_cat] at hn; omega) (fun ls' hl' => hgo tl cws H locs ls' cr _ hw hP hD hS (rx_lv.cons (v := .long x) rfl (hlv.put2 i)) hl' h3)
theorem rx_sd_lstore_n {k : Fin 4} {i : Nat} (d : decode M.2.1 pc = .ok (.lstore_n k, 1)) (hi : (k : Nat) = i) : rx_Sd G MT M pc (rx_st 1 i (pc + 1) M.2.2.1) :=
  rx_sd_st2 (fun x p l e R s m args below meth c H locs cells slots Q ls rest lv hx hb hl hn kk => lv_lstore_n hx hb d hi hl hn rfl kk)
theorem rx_sd_lstore {i : Nat} (d : decode M.2.1 pc = .ok (.lstore i, 2)) : rx_Sd G MT M pc (rx_st 1 i (pc + 2) M.2.2.1) :=
  rx_sd_st2 (fun x p l e R s m args below meth c H locs cells slots Q ls rest lv hx hb hl hn kk => lv_lstore hx hb d hl hn rfl kk)
noncomputable def rx_inc (i : Nat) (n : Int32) (pc' nL : Nat) : rx_T := fun _ st => match rx_find st.1 i with
  | some (.int x) => cond (Nat.ble (i + 1) nL) (rx_fI (x + n) (fun z => some (.inl (pc', ((i, .int z) :: rx_put1 st.1 i, st.2))))) none
  | _ => none
theorem rx_sd_iinc {i : Nat} {n : Int} {x0 : Int32} (d : decode M.2.1 pc = .ok (.iinc i n, 3)) (hn : Int32.ofInt n = x0) : rx_Sd G MT M pc (rx_inc i x0 (pc + 3) M.2.2.1) := by
  intro p e s m args below meth c A X rec hrec st o h ρ0 r hgo
  obtain ⟨hx, hb, hml, hr, hown, hts, hlk, hnm, hK, hA⟩ := X
  obtain ⟨lv, sk, ws, c0, s0⟩ := st
  intro tl cws H locs ls cst clv hw hP hD hS hlv hl hst
  unfold rx_inc at h
  simp only at h hst hlv
  cases hk : rx_find lv i with
  | none => rw [hk] at h; cases h
  | some v =>
    rw [hk] at h
    cases v with
    | int x =>
      simp only [rx_fI_eq] at h
      obtain ⟨g1, g2⟩ := rx_cond_some h
      cases g2
      obtain ⟨k, w, e1, e2⟩ := hlv.find hk
      cases e2
      subst hn
      exact lv_iinc hx hb d hl e1 rfl (Nat.le_of_ble_eq_true g1) rfl (fun ls' hl' => hgo tl cws H locs ls' cst _ hw hP hD hS (rx_lv.cons (v := .int (x + Int32.ofInt n)) rfl (hlv.put1 i)) hl' hst)
    | _ => cases h
/-- fields -/
def rx_get (ci k pc' : Nat) : rx_T := fun _ st => match st.2.1 with
  | .ref a :: sk => match st.2.2.1[a]? with
    | some (.inl (ci', fs)) => cond (Nat.beq ci ci') (match fs[k]? with
      | some v => some (.inl (pc', (st.1, v :: sk, st.2.2)))
      | none => none) none
    | _ => none
  | _ => none
theorem rx_sd_get {ci k index N : Nat} {C : String} {T : u_T} (hin : ∀ w ∈ u_ws C T N, w ∈ G.gT) (hc : G.cl[ci]? = some (C, T, N)) (hk : k < N) (hl0 : Cond.fieldLink M.1.cls index (T k).1 (T k).2.1 (T k).2.2.1 ∈ G.gT) (d : decode M.2.1 pc = .ok (.getfield index, 3)) : rx_Sd G MT M pc (rx_get ci k (pc + 3)) := by
  intro p e s m args below meth c A X rec hrec st o h ρ0 r hgo
  obtain ⟨hx, hb, hml, hr, hown, hts, hlk, hnm, hK, hA⟩ := X
  obtain ⟨lv, sk, ws, c0, s0⟩ := st
  intro tl cws H locs ls cst clv hw hP hD hS hlv hl hst
  unfold rx_get at h
  simp only at h hst hlv hw
  match sk, cst, h, hst with
  | .ref a :: sr, w :: cr, h, ⟨⟨a', ha, hwe⟩, h3⟩ =>
    subst hwe
    simp only at h
    cases hwa : ws[a]? with
    | none => rw [hwa] at h; cases h
    | some e0 =>
      rw [hwa] at h
      cases e0 with
      | inr _ => cases h
      | inl q =>
        obtain ⟨ci', fs⟩ := q
        simp only at h
        obtain ⟨g1, g2⟩ := rx_cond_some h
        have hci := Nat.eq_of_beq_eq_true g1
        subst hci
        cases hf : fs[k]? with
        | none => rw [hf] at g2; cases g2
        | some v =>
          rw [hf] at g2
          cases g2
          obtain ⟨ce, f1, cfs, f2, f3⟩ := hw.at hwa ha
          subst f2
          obtain ⟨w, f4, f5⟩ := f3.get k hf
          exact va_get hx hb hts hin hown hK.1 hP a f1 hc k hk (hts _ hl0) (fun _ h9 => h9) f4 d (hgo tl cws H locs ls (w :: cr) clv hw hP hD hS hlv hl ⟨f5, h3⟩)
def rx_okty (ty : FieldType) (v : Value) : Bool := match ty with
  | .int => rx_is 0 v
  | .long => rx_is 1 v
  | .boolean => match v with
    | .int x => decide (x = 0) || decide (x = 1)
    | _ => false
  | .object _ => rx_is 2 v
  | .array _ => rx_is 2 v
  | _ => false
theorem rx_okty_ok {ρ : List Nat} {σ : Nat → Int32} {ty : FieldType} {v w : Value} (h : rx_okty ty v = true) (hv : rx_v ρ σ v w) : narrow ty w = w ∧ fits ty w = true := by
  cases ty with
  | int => obtain ⟨x, rfl⟩ := rx_is0 h hv; exact ⟨rfl, rfl⟩
  | long => obtain ⟨x, rfl⟩ := rx_is1 h hv; exact ⟨rfl, rfl⟩
  | boolean =>
    cases v with
    | int x =>
      cases hv
      simp only [rx_okty, Bool.or_eq_true, decide_eq_true_eq] at h
      rcases h with rfl | rfl <;> exact ⟨by decide, by decide⟩
    | _ => cases h
  | object C => rcases rx_is2 h hv with rfl | ⟨a, rfl⟩ <;> exact ⟨rfl, rfl⟩
  | array C => rcases rx_is2 h hv with rfl | ⟨a, rfl⟩ <;> exact ⟨rfl, rfl⟩
  | _ => cases h
def rx_putf (ci k : Nat) (ty : FieldType) (pc' : Nat) : rx_T := fun _ st => match st.2.1 with
  | v :: .ref a :: sk => match st.2.2.1[a]? with
    | some (.inl (ci', fs)) => cond (Nat.beq ci ci' && (rx_okty ty v && Nat.ble (k + 1) fs.length)) (some (.inl (pc', (st.1, sk, st.2.2.1.set a (.inl (ci', fs.set k v)), st.2.2.2)))) none
    | _ => none
  | _ => none
theorem rx_sd_putf {ci k index N : Nat} {C : String} {T : u_T} {ty : FieldType} {ty0 : Nat → FieldType} (hin : ∀ w ∈ u_ws C T N, w ∈ G.gT) (hty : ∀ k, k < N → parseFieldDescriptor (T k).2.2.1 = some (ty0 k)) (hnm : ∀ a, a < N → ∀ b, b < N → a ≠ b → (T a).2.1 ≠ (T b).2.1) (hc : G.cl[ci]? = some (C, T, N)) (hk : k < N) (hl0 : Cond.fieldLink M.1.cls index (T k).1 (T k).2.1 (T k).2.2.1 ∈ G.gT) (hfin : (T k).2.2.2 = false ∨ (T k).2.2.2 = true ∧ M.1.name = "<init>" ∧ (T k).1 = M.1.cls) (hd : ty0 k = ty) (d : decode M.2.1 pc = .ok (.putfield index, 3)) : rx_Sd G MT M pc (rx_putf ci k ty (pc + 3)) := by
  intro p e s m args below meth c A X rec hrec st o h ρ0 r hgo
  obtain ⟨hx, hb, hml, hr, hown, hts, hlk, hnm0, hK, hA⟩ := X
  obtain ⟨lv, sk, ws, c0, s0⟩ := st
  intro tl cws H locs ls cst clv hw hP hD hS hlv hl hst
  unfold rx_putf at h
  simp only at h hst hlv hw
  match sk, cst, h, hst with
  | v :: .ref a :: sr, w1 :: w2 :: cr, h, ⟨h1, ⟨a', ha, hwe⟩, h3⟩ =>
    subst hwe
    simp only at h
    cases hwa : ws[a]? with
    | none => rw [hwa] at h; cases h
    | some e0 =>
      rw [hwa] at h
      cases e0 with
      | inr _ => cases h
      | inl q =>
        obtain ⟨ci', fs⟩ := q
        simp only at h
        obtain ⟨g1, g2⟩ := rx_cond_some h
        cases g2
        rw [Bool.and_eq_true, Bool.and_eq_true] at g1
        have hci := Nat.eq_of_beq_eq_true g1.1
        subst hci
        obtain ⟨ce, f1, cfs, f2, f3⟩ := hw.at hwa ha
        subst f2
        obtain ⟨n1, n2⟩ := rx_okty_ok g1.2.1 h1
        have hlen : k < cfs.length := by rw [← f3.len]; exact Nat.le_of_ble_eq_true g1.2.2
        have hd' : parseFieldDescriptor (T k).2.2.1 = some ty := by rw [hty k hk, hd]
        have K : ∀ (H1 : Heap) (locs1 : List Loc), va_P G.D G.cl (cws.set a (a', .inr (ci, cfs.set k w1))) H1 → va_D A (cws.set a (a', .inr (ci, cfs.set k w1))) → va_S A s.heap H1 locs1 → W p G.l e M.2.2.2.2.1 s m args below meth c H1 locs1 c0 s0 (MQ below (rx_Q G ρ0 r A) args s M.2.2.2.2.1.cells M.2.2.2.2.1.slots A) (F0 m (pc + 3) ls cr) := by
          intro H1 locs1 hP1 hD1 hS1
          exact hgo tl _ H1 locs1 ls cr clv (hw.set f1 ⟨_, rfl, f3.set k h1⟩) hP1 hD1 hS1 hlv hl h3
        rcases hfin with hfin | ⟨hfin, hini, hown2⟩
        · exact va_put hx hb hts hin ty0 hty hnm hown hK.1 hP hD hS a f1 hc k hk (hts _ hl0) (fun _ h9 => h9) hfin hd' n1 n2 hlen d K
        · exact va_putF hx hb hts hin ty0 hty hnm hown hK.1 hP hD hS a f1 hc k hk (hts _ hl0) (fun _ h9 => h9) hfin (hnm0.trans hini) hown2 hd' n1 n2 hlen d K
end CE
