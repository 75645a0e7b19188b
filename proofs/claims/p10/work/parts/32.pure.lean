/-! RULES THAT TOUCH NO CELL -/
def rx_Step (cc : ByteArray) (pc pc' : Nat) (st st' : List Value) : Prop := ∀ (p : Program) (l : Launch) (e : Env) (R : Room) (s : State) (m : MethodId) (args : Array Value) (below : List Frame) (meth : Method) (c : Code) (H : Heap) (locs : List Loc) (cells slots : Nat) (Q : State → Prop) (ls : Array Slot),
  p.tables.exec = Jvm.exec → c.code = cc → W p l e R s m args below meth c H locs cells slots Q (F0 m pc' ls st') → W p l e R s m args below meth c H locs cells slots Q (F0 m pc ls st)
def rx_pure (f : List Value → Option (List Value)) (pc' : Nat) : rx_T := fun _ st => match f st.2.1 with
  | none => none
  | some k => some (.inl (pc', (st.1, k, st.2.2)))
theorem rx_sd_pure {G : rx_G} {MT : Nat → rx_M} {M : rx_M} {pc pc' : Nat} {f : List Value → Option (List Value)} (hf : ∀ (ρ : List Nat) (st cst st' : List Value), f st = some st' → rx_l ρ G.sg st cst → ∃ cst', rx_l ρ G.sg st' cst' ∧ rx_Step M.2.1 pc pc' cst cst') : rx_Sd G MT M pc (rx_pure f pc') := by
  intro p e s m args below meth c A X rec hrec st o h ρ0 r hgo
  obtain ⟨hx, hb, hml, hr, hown, hts, hlk, hnm, hK, hA⟩ := X
  unfold rx_pure at h
  cases hk : f st.2.1 with
  | none => rw [hk] at h; cases h
  | some k =>
    rw [hk] at h
    cases h
    intro tl cws H locs ls cst clv hw hP hD hS hlv hl hst
    obtain ⟨cst', g1, g2⟩ := hf (ρ0 ++ tl) st.2.1 cst k hk hst
    exact g2 p G.l e _ s m args below meth c H locs _ _ _ ls hx hb (hgo tl cws H locs ls cst' clv hw hP hD hS hlv hl g1)
section PU
variable {G : rx_G} {MT : Nat → rx_M} {M : rx_M} {pc : Nat}
def rx_push (v : Value) : List Value → Option (List Value) := fun st => some (v :: st)
theorem rx_sd_push {pc' : Nat} {v : Value} (hv : ∀ ρ, rx_v ρ G.sg v v) (hs : ∀ st, rx_Step M.2.1 pc pc' st (v :: st)) : rx_Sd G MT M pc (rx_pure (rx_push v) pc') := by
  refine rx_sd_pure (fun ρ st cst st' h hst => ?_)
  cases h
  exact ⟨v :: cst, ⟨hv ρ, hst⟩, hs cst⟩
theorem rx_sd_iconst {n : Int} {x : Int32} (d : decode M.2.1 pc = .ok (.iconst n, 1)) (hv : Int32.ofInt n = x) : rx_Sd G MT M pc (rx_pure (rx_push (.int x)) (pc + 1)) :=
  rx_sd_push (fun _ => rfl) (fun st p l e R s m args below meth c H locs cells slots Q ls hx hb k => lv_iconst hx hb d hv k)
theorem rx_sd_bipush {n : Int} {x : Int32} (d : decode M.2.1 pc = .ok (.bipush n, 2)) (hv : (Int8.ofInt n).toInt32 = x) : rx_Sd G MT M pc (rx_pure (rx_push (.int x)) (pc + 2)) :=
  rx_sd_push (fun _ => rfl) (fun st p l e R s m args below meth c H locs cells slots Q ls hx hb k => lv_bipush hx hb d hv k)
theorem rx_sd_sipush {n : Int} {x : Int32} (d : decode M.2.1 pc = .ok (.sipush n, 3)) (hv : (Int16.ofInt n).toInt32 = x) : rx_Sd G MT M pc (rx_pure (rx_push (.int x)) (pc + 3)) :=
  rx_sd_push (fun _ => rfl) (fun st p l e R s m args below meth c H locs cells slots Q ls hx hb k => lv_sipush hx hb d hv k)
theorem rx_sd_lconst {n : Fin 2} {x : Int64} (d : decode M.2.1 pc = .ok (.lconst n, 1)) (hv : Int64.ofNat (n : Nat) = x) : rx_Sd G MT M pc (rx_pure (rx_push (.long x)) (pc + 1)) :=
  rx_sd_push (fun _ => rfl) (fun st p l e R s m args below meth c H locs cells slots Q ls hx hb k => lv_lconst hx hb d hv k)
theorem rx_sd_null (d : decode M.2.1 pc = .ok (.aconst_null, 1)) : rx_Sd G MT M pc (rx_pure (rx_push .null) (pc + 1)) :=
  rx_sd_push (fun _ => rfl) (fun st p l e R s m args below meth c H locs cells slots Q ls hx hb k => lv_null hx hb d k)
noncomputable def rx_bi (g : Int32 → Int32 → Int32) : List Value → Option (List Value)
  | .int y :: .int x :: r => rx_fI (g x y) (fun z => some (.int z :: r))
  | _ => none
theorem rx_sd_bi {pc' : Nat} {g : Int32 → Int32 → Int32} (hs : ∀ x y r, rx_Step M.2.1 pc pc' (.int y :: .int x :: r) (.int (g x y) :: r)) : rx_Sd G MT M pc (rx_pure (rx_bi g) pc') := by
  refine rx_sd_pure (fun ρ st cst st' h hst => ?_)
  match st, cst, h, hst with
  | .int y :: .int x :: r, w1 :: w2 :: cr, h, ⟨h1, h2, h3⟩ =>
    simp only [rx_bi, rx_fI_eq] at h
    cases h; cases h1; cases h2
    exact ⟨.int (g x y) :: cr, ⟨rfl, h3⟩, hs x y cr⟩
theorem rx_sd_iadd (d : decode M.2.1 pc = .ok (.iadd, 1)) : rx_Sd G MT M pc (rx_pure (rx_bi (fun x y => x + y)) (pc + 1)) :=
  rx_sd_bi (fun x y r p l e R s m args below meth c H locs cells slots Q ls hx hb k => lv_iadd hx hb d k)
theorem rx_sd_isub (d : decode M.2.1 pc = .ok (.isub, 1)) : rx_Sd G MT M pc (rx_pure (rx_bi (fun x y => x - y)) (pc + 1)) :=
  rx_sd_bi (fun x y r p l e R s m args below meth c H locs cells slots Q ls hx hb k => lv_isub hx hb d k)
theorem rx_sd_imul (d : decode M.2.1 pc = .ok (.imul, 1)) : rx_Sd G MT M pc (rx_pure (rx_bi (fun x y => x * y)) (pc + 1)) :=
  rx_sd_bi (fun x y r p l e R s m args below meth c H locs cells slots Q ls hx hb k => lv_imul hx hb d k)
theorem rx_sd_iand (d : decode M.2.1 pc = .ok (.iand, 1)) : rx_Sd G MT M pc (rx_pure (rx_bi (fun x y => x &&& y)) (pc + 1)) :=
  rx_sd_bi (fun x y r p l e R s m args below meth c H locs cells slots Q ls hx hb k => lv_iand hx hb d k)
theorem rx_sd_ior (d : decode M.2.1 pc = .ok (.ior, 1)) : rx_Sd G MT M pc (rx_pure (rx_bi (fun x y => x ||| y)) (pc + 1)) :=
  rx_sd_bi (fun x y r p l e R s m args below meth c H locs cells slots Q ls hx hb k => lv_ior hx hb d k)
theorem rx_sd_ixor (d : decode M.2.1 pc = .ok (.ixor, 1)) : rx_Sd G MT M pc (rx_pure (rx_bi (fun x y => x ^^^ y)) (pc + 1)) :=
  rx_sd_bi (fun x y r p l e R s m args below meth c H locs cells slots Q ls hx hb k => lv_ixor hx hb d k)
theorem rx_sd_ishl (d : decode M.2.1 pc = .ok (.ishl, 1)) : rx_Sd G MT M pc (rx_pure (rx_bi (fun x y => x <<< (y &&& 31))) (pc + 1)) :=
  rx_sd_bi (fun x y r p l e R s m args below meth c H locs cells slots Q ls hx hb k => lv_ishl hx hb d k)
theorem rx_sd_ishr (d : decode M.2.1 pc = .ok (.ishr, 1)) : rx_Sd G MT M pc (rx_pure (rx_bi (fun x y => x >>> (y &&& 31))) (pc + 1)) :=
  rx_sd_bi (fun x y r p l e R s m args below meth c H locs cells slots Q ls hx hb k => lv_ishr hx hb d k)
theorem rx_sd_iushr (d : decode M.2.1 pc = .ok (.iushr, 1)) : rx_Sd G MT M pc (rx_pure (rx_bi (fun x y => (x.toUInt32 >>> (y.toUInt32 &&& Int32.toUInt32 31)).toInt32)) (pc + 1)) :=
  rx_sd_bi (fun x y r p l e R s m args below meth c H locs cells slots Q ls hx hb k => lv_iushr hx hb d rfl k)
noncomputable def rx_bid (g : Int32 → Int32 → Int32) : List Value → Option (List Value)
  | .int y :: .int x :: r => if y = 0 then none else rx_fI (g x y) (fun z => some (.int z :: r))
  | _ => none
theorem rx_sd_bid {pc' : Nat} {g : Int32 → Int32 → Int32} (hs : ∀ x y r, ¬ y = 0 → rx_Step M.2.1 pc pc' (.int y :: .int x :: r) (.int (g x y) :: r)) : rx_Sd G MT M pc (rx_pure (rx_bid g) pc') := by
  refine rx_sd_pure (fun ρ st cst st' h hst => ?_)
  match st, cst, h, hst with
  | .int y :: .int x :: r, w1 :: w2 :: cr, h, ⟨h1, h2, h3⟩ =>
    simp only [rx_bid, rx_fI_eq] at h
    split at h
    · cases h
    · next hy =>
      cases h; cases h1; cases h2
      exact ⟨.int (g x y) :: cr, ⟨rfl, h3⟩, hs x y cr hy⟩
theorem rx_sd_idiv (d : decode M.2.1 pc = .ok (.idiv, 1)) : rx_Sd G MT M pc (rx_pure (rx_bid (fun x y => x / y)) (pc + 1)) :=
  rx_sd_bid (fun x y r hy p l e R s m args below meth c H locs cells slots Q ls hx hb k => lv_idiv hx hb d hy k)
theorem rx_sd_irem (d : decode M.2.1 pc = .ok (.irem, 1)) : rx_Sd G MT M pc (rx_pure (rx_bid (fun x y => x - x / y * y)) (pc + 1)) :=
  rx_sd_bid (fun x y r hy p l e R s m args below meth c H locs cells slots Q ls hx hb k => lv_irem hx hb d hy k)
noncomputable def rx_lb (g : Int64 → Int64 → Int64) : List Value → Option (List Value)
  | .long y :: .long x :: r => rx_fL (g x y) (fun z => some (.long z :: r))
  | _ => none
theorem rx_sd_lb {pc' : Nat} {g : Int64 → Int64 → Int64} (hs : ∀ x y r, rx_Step M.2.1 pc pc' (.long y :: .long x :: r) (.long (g x y) :: r)) : rx_Sd G MT M pc (rx_pure (rx_lb g) pc') := by
  refine rx_sd_pure (fun ρ st cst st' h hst => ?_)
  match st, cst, h, hst with
  | .long y :: .long x :: r, w1 :: w2 :: cr, h, ⟨h1, h2, h3⟩ =>
    simp only [rx_lb, rx_fL_eq] at h
    cases h; cases h1; cases h2
    exact ⟨.long (g x y) :: cr, ⟨rfl, h3⟩, hs x y cr⟩
theorem rx_sd_ladd (d : decode M.2.1 pc = .ok (.ladd, 1)) : rx_Sd G MT M pc (rx_pure (rx_lb (fun x y => x + y)) (pc + 1)) :=
  rx_sd_lb (fun x y r p l e R s m args below meth c H locs cells slots Q ls hx hb k => lv_ladd hx hb d k)
theorem rx_sd_lsub (d : decode M.2.1 pc = .ok (.lsub, 1)) : rx_Sd G MT M pc (rx_pure (rx_lb (fun x y => x - y)) (pc + 1)) :=
  rx_sd_lb (fun x y r p l e R s m args below meth c H locs cells slots Q ls hx hb k => lv_lsub hx hb d k)
theorem rx_sd_lmul (d : decode M.2.1 pc = .ok (.lmul, 1)) : rx_Sd G MT M pc (rx_pure (rx_lb (fun x y => x * y)) (pc + 1)) :=
  rx_sd_lb (fun x y r p l e R s m args below meth c H locs cells slots Q ls hx hb k => lv_lmul hx hb d k)
theorem rx_sd_land (d : decode M.2.1 pc = .ok (.land, 1)) : rx_Sd G MT M pc (rx_pure (rx_lb (fun x y => x &&& y)) (pc + 1)) :=
  rx_sd_lb (fun x y r p l e R s m args below meth c H locs cells slots Q ls hx hb k => lv_land hx hb d k)
theorem rx_sd_lor (d : decode M.2.1 pc = .ok (.lor, 1)) : rx_Sd G MT M pc (rx_pure (rx_lb (fun x y => x ||| y)) (pc + 1)) :=
  rx_sd_lb (fun x y r p l e R s m args below meth c H locs cells slots Q ls hx hb k => lv_lor hx hb d k)
theorem rx_sd_lxor (d : decode M.2.1 pc = .ok (.lxor, 1)) : rx_Sd G MT M pc (rx_pure (rx_lb (fun x y => x ^^^ y)) (pc + 1)) :=
  rx_sd_lb (fun x y r p l e R s m args below meth c H locs cells slots Q ls hx hb k => lv_lxor hx hb d k)
noncomputable def rx_lbd (g : Int64 → Int64 → Int64) : List Value → Option (List Value)
  | .long y :: .long x :: r => if y = 0 then none else rx_fL (g x y) (fun z => some (.long z :: r))
  | _ => none
theorem rx_sd_lbd {pc' : Nat} {g : Int64 → Int64 → Int64} (hs : ∀ x y r, ¬ y = 0 → rx_Step M.2.1 pc pc' (.long y :: .long x :: r) (.long (g x y) :: r)) : rx_Sd G MT M pc (rx_pure (rx_lbd g) pc') := by
  refine rx_sd_pure (fun ρ st cst st' h hst => ?_)
  match st, cst, h, hst with
  | .long y :: .long x :: r, w1 :: w2 :: cr, h, ⟨h1, h2, h3⟩ =>
    simp only [rx_lbd, rx_fL_eq] at h
    split at h
    · cases h
    · next hy =>
      cases h; cases h1; cases h2
      exact ⟨.long (g x y) :: cr, ⟨rfl, h3⟩, hs x y cr hy⟩
theorem rx_sd_ldiv (d : decode M.2.1 pc = .ok (.ldiv, 1)) : rx_Sd G MT M pc (rx_pure (rx_lbd (fun x y => x / y)) (pc + 1)) :=
  rx_sd_lbd (fun x y r hy p l e R s m args below meth c H locs cells slots Q ls hx hb k => lv_ldiv hx hb d hy k)
theorem rx_sd_lrem (d : decode M.2.1 pc = .ok (.lrem, 1)) : rx_Sd G MT M pc (rx_pure (rx_lbd (fun x y => x - x / y * y)) (pc + 1)) :=
  rx_sd_lbd (fun x y r hy p l e R s m args below meth c H locs cells slots Q ls hx hb k => lv_lrem hx hb d hy k)
noncomputable def rx_ls (g : Int64 → Int32 → Int64) : List Value → Option (List Value)
  | .int y :: .long x :: r => rx_fL (g x y) (fun z => some (.long z :: r))
  | _ => none
theorem rx_sd_ls {pc' : Nat} {g : Int64 → Int32 → Int64} (hs : ∀ x y r, rx_Step M.2.1 pc pc' (.int y :: .long x :: r) (.long (g x y) :: r)) : rx_Sd G MT M pc (rx_pure (rx_ls g) pc') := by
  refine rx_sd_pure (fun ρ st cst st' h hst => ?_)
  match st, cst, h, hst with
  | .int y :: .long x :: r, w1 :: w2 :: cr, h, ⟨h1, h2, h3⟩ =>
    simp only [rx_ls, rx_fL_eq] at h
    cases h; cases h1; cases h2
    exact ⟨.long (g x y) :: cr, ⟨rfl, h3⟩, hs x y cr⟩
theorem rx_sd_lshl (d : decode M.2.1 pc = .ok (.lshl, 1)) : rx_Sd G MT M pc (rx_pure (rx_ls (fun x y => x <<< (y.toInt64 &&& 63))) (pc + 1)) :=
  rx_sd_ls (fun x y r p l e R s m args below meth c H locs cells slots Q ls hx hb k => lv_lshl hx hb d rfl k)
theorem rx_sd_lshr (d : decode M.2.1 pc = .ok (.lshr, 1)) : rx_Sd G MT M pc (rx_pure (rx_ls (fun x y => x >>> (y.toInt64 &&& 63))) (pc + 1)) :=
  rx_sd_ls (fun x y r p l e R s m args below meth c H locs cells slots Q ls hx hb k => lv_lshr hx hb d rfl k)
theorem rx_sd_lushr (d : decode M.2.1 pc = .ok (.lushr, 1)) : rx_Sd G MT M pc (rx_pure (rx_ls (fun x y => (x.toUInt64 >>> (y.toInt64.toUInt64 &&& Int64.toUInt64 63)).toInt64)) (pc + 1)) :=
  rx_sd_ls (fun x y r p l e R s m args below meth c H locs cells slots Q ls hx hb k => lv_lushr hx hb d rfl k)
noncomputable def rx_ineg : List Value → Option (List Value)
  | .int x :: r => rx_fI (-x) (fun z => some (.int z :: r))
  | _ => none
theorem rx_sd_ineg (d : decode M.2.1 pc = .ok (.ineg, 1)) : rx_Sd G MT M pc (rx_pure rx_ineg (pc + 1)) := by
  refine rx_sd_pure (fun ρ st cst st' h hst => ?_)
  match st, cst, h, hst with
  | .int x :: r, w1 :: cr, h, ⟨h1, h3⟩ =>
    simp only [rx_ineg, rx_fI_eq] at h
    cases h; cases h1
    exact ⟨.int (-x) :: cr, ⟨rfl, h3⟩, fun p l e R s m args below meth c H locs cells slots Q ls hx hb k => lv_ineg hx hb d k⟩
noncomputable def rx_lneg : List Value → Option (List Value)
  | .long x :: r => rx_fL (-x) (fun z => some (.long z :: r))
  | _ => none
theorem rx_sd_lneg (d : decode M.2.1 pc = .ok (.lneg, 1)) : rx_Sd G MT M pc (rx_pure rx_lneg (pc + 1)) := by
  refine rx_sd_pure (fun ρ st cst st' h hst => ?_)
  match st, cst, h, hst with
  | .long x :: r, w1 :: cr, h, ⟨h1, h3⟩ =>
    simp only [rx_lneg, rx_fL_eq] at h
    cases h; cases h1
    exact ⟨.long (-x) :: cr, ⟨rfl, h3⟩, fun p l e R s m args below meth c H locs cells slots Q ls hx hb k => lv_lneg hx hb d k⟩
noncomputable def rx_i2l : List Value → Option (List Value)
  | .int x :: r => rx_fL x.toInt64 (fun z => some (.long z :: r))
  | _ => none
theorem rx_sd_i2l (d : decode M.2.1 pc = .ok (.i2l, 1)) : rx_Sd G MT M pc (rx_pure rx_i2l (pc + 1)) := by
  refine rx_sd_pure (fun ρ st cst st' h hst => ?_)
  match st, cst, h, hst with
  | .int x :: r, w1 :: cr, h, ⟨h1, h3⟩ =>
    simp only [rx_i2l, rx_fL_eq] at h
    cases h; cases h1
    exact ⟨.long x.toInt64 :: cr, ⟨rfl, h3⟩, fun p l e R s m args below meth c H locs cells slots Q ls hx hb k => lv_i2l hx hb d rfl k⟩
noncomputable def rx_l2i : List Value → Option (List Value)
  | .long x :: r => rx_fI x.toInt32 (fun z => some (.int z :: r))
  | _ => none
theorem rx_sd_l2i (d : decode M.2.1 pc = .ok (.l2i, 1)) : rx_Sd G MT M pc (rx_pure rx_l2i (pc + 1)) := by
  refine rx_sd_pure (fun ρ st cst st' h hst => ?_)
  match st, cst, h, hst with
  | .long x :: r, w1 :: cr, h, ⟨h1, h3⟩ =>
    simp only [rx_l2i, rx_fI_eq] at h
    cases h; cases h1
    exact ⟨.int x.toInt32 :: cr, ⟨rfl, h3⟩, fun p l e R s m args below meth c H locs cells slots Q ls hx hb k => lv_l2i hx hb d rfl k⟩
noncomputable def rx_lcmp : List Value → Option (List Value)
  | .long y :: .long x :: r => rx_fI (lg_cmp x y) (fun z => some (.int z :: r))
  | _ => none
theorem rx_sd_lcmp (d : decode M.2.1 pc = .ok (.lcmp, 1)) : rx_Sd G MT M pc (rx_pure rx_lcmp (pc + 1)) := by
  refine rx_sd_pure (fun ρ st cst st' h hst => ?_)
  match st, cst, h, hst with
  | .long y :: .long x :: r, w1 :: w2 :: cr, h, ⟨h1, h2, h3⟩ =>
    simp only [rx_lcmp, rx_fI_eq] at h
    cases h; cases h1; cases h2
    exact ⟨.int (lg_cmp x y) :: cr, ⟨rfl, h3⟩, fun p l e R s m args below meth c H locs cells slots Q ls hx hb k => W.lcmp hx hb d k⟩
def rx_dup : List Value → Option (List Value)
  | v :: r => cond (Nat.beq (rx_cat v) 1) (some (v :: v :: r)) none
  | _ => none
theorem rx_cond_some {α : Type} {b : Bool} {x : Option α} {y : α} (h : cond b x none = some y) : b = true ∧ x = some y := by
  cases b with
  | true => exact ⟨rfl, h⟩
  | false => cases h
theorem rx_sd_dup (d : decode M.2.1 pc = .ok (.dup, 1)) : rx_Sd G MT M pc (rx_pure rx_dup (pc + 1)) := by
  refine rx_sd_pure (fun ρ st cst st' h hst => ?_)
  match st, cst, h, hst with
  | v :: r, w :: cr, h, ⟨h1, h3⟩ =>
    obtain ⟨g1, g2⟩ := rx_cond_some h
    cases g2
    exact ⟨w :: w :: cr, ⟨h1, h1, h3⟩, fun p l e R s m args below meth c H locs cells slots Q ls hx hb k => lv_dup hx hb d (h1.cat'.trans (Nat.eq_of_beq_eq_true g1)) k⟩
def rx_pop : List Value → Option (List Value)
  | v :: r => cond (Nat.beq (rx_cat v) 1) (some r) none
  | _ => none
theorem rx_sd_pop (d : decode M.2.1 pc = .ok (.pop, 1)) : rx_Sd G MT M pc (rx_pure rx_pop (pc + 1)) := by
  refine rx_sd_pure (fun ρ st cst st' h hst => ?_)
  match st, cst, h, hst with
  | v :: r, w :: cr, h, ⟨h1, h3⟩ =>
    obtain ⟨g1, g2⟩ := rx_cond_some h
    cases g2
    exact ⟨cr, h3, fun p l e R s m args below meth c H locs cells slots Q ls hx hb k => lv_pop hx hb d (h1.cat'.trans (Nat.eq_of_beq_eq_true g1)) k⟩
def rx_dup2 : List Value → Option (List Value)
  | v :: u :: r => cond (Nat.beq (rx_cat v) 1 && Nat.beq (rx_cat u) 1) (some (v :: u :: v :: u :: r)) none
  | _ => none
theorem rx_sd_dup2 (d : decode M.2.1 pc = .ok (.dup2, 1)) : rx_Sd G MT M pc (rx_pure rx_dup2 (pc + 1)) := by
  refine rx_sd_pure (fun ρ st cst st' h hst => ?_)
  match st, cst, h, hst with
  | v :: u :: r, w :: w2 :: cr, h, ⟨h1, h2, h3⟩ =>
    obtain ⟨g1, g2⟩ := rx_cond_some h
    cases g2
    rw [Bool.and_eq_true] at g1
    exact ⟨w :: w2 :: w :: w2 :: cr, ⟨h1, h2, h1, h2, h3⟩, fun p l e R s m args below meth c H locs cells slots Q ls hx hb k => lv_dup2_11 hx hb d (h1.cat'.trans (Nat.eq_of_beq_eq_true g1.1)) (h2.cat'.trans (Nat.eq_of_beq_eq_true g1.2)) k⟩
/-- branches -/
def rx_br (f : List Value → Option (Bool × List Value)) (tgt nxt : Nat) : rx_T := fun _ st => match f st.2.1 with
  | none => none
  | some (b, k) => some (.inl (cond b tgt nxt, (st.1, k, st.2.2)))
theorem rx_sd_br {tgt nxt : Nat} {f : List Value → Option (Bool × List Value)} (hf : ∀ (ρ : List Nat) (st cst st' : List Value) (b : Bool), f st = some (b, st') → rx_l ρ G.sg st cst → ∃ cst', rx_l ρ G.sg st' cst' ∧ rx_Step M.2.1 pc (cond b tgt nxt) cst cst') : rx_Sd G MT M pc (rx_br f tgt nxt) := by
  intro p e s m args below meth c A X rec hrec st o h ρ0 r hgo
  obtain ⟨hx, hb, hml, hr, hown, hts, hlk, hnm, hK, hA⟩ := X
  unfold rx_br at h
  cases hk : f st.2.1 with
  | none => rw [hk] at h; cases h
  | some k =>
    obtain ⟨b, k⟩ := k
    rw [hk] at h
    cases h
    intro tl cws H locs ls cst clv hw hP hD hS hlv hl hst
    obtain ⟨cst', g1, g2⟩ := hf (ρ0 ++ tl) st.2.1 cst k b hk hst
    exact g2 p G.l e _ s m args below meth c H locs _ _ _ ls hx hb (hgo tl cws H locs ls cst' clv hw hP hD hS hlv hl g1)
def rx_goto : List Value → Option (Bool × List Value) := fun st => some (true, st)
theorem rx_sd_goto {off : Int} {tgt nxt : Nat} (d : decode M.2.1 pc = .ok (.goto off, 3)) (ht : (pc : Int) + off = (tgt : Int)) : rx_Sd G MT M pc (rx_br rx_goto tgt nxt) := by
  refine rx_sd_br (fun ρ st cst st' b h hst => ?_)
  cases h
  exact ⟨cst, hst, fun p l e R s m args below meth c H locs cells slots Q ls hx hb k => lv_goto hx hb d ht k⟩
def rx_nul : List Value → Option (Bool × List Value)
  | .null :: r => some (true, r)
  | .ref _ :: r => some (false, r)
  | _ => none
theorem rx_sd_ifnull {off : Int} {tgt : Nat} (d : decode M.2.1 pc = .ok (.ifnull off, 3)) (ht : (pc : Int) + off = (tgt : Int)) : rx_Sd G MT M pc (rx_br rx_nul tgt (pc + 3)) := by
  refine rx_sd_br (fun ρ st cst st' b h hst => ?_)
  match st, cst, h, hst with
  | .null :: r, w :: cr, h, ⟨h1, h3⟩ =>
    cases h; cases h1
    exact ⟨cr, h3, fun p l e R s m args below meth c H locs cells slots Q ls hx hb k => lv_ifnullN hx hb d ht k⟩
  | .ref a :: r, w :: cr, h, ⟨h1, h3⟩ =>
    cases h
    obtain ⟨a', -, h1⟩ := h1
    cases h1
    exact ⟨cr, h3, fun p l e R s m args below meth c H locs cells slots Q ls hx hb k => lv_ifnull hx hb d k⟩
def rx_YOk (Y : rx_Y) (σ : Nat → Int32) : Prop := (∀ (n : Nat) (q : Int × Int), Y.1[n]? = some q → q.1 ≤ (σ n).toInt ∧ (σ n).toInt ≤ q.2) ∧ ∀ q ∈ Y.2, (σ q.1 < σ q.2.1 ↔ q.2.2 = true)
def rx_iv (Y : rx_Y) : Value → Option (Int × Int)
  | .int x => some (x.toInt, x.toInt)
  | .float n => Y.1[n.toNat]?
  | _ => none
theorem rx_iv_ok {Y : rx_Y} {ρ : List Nat} {σ : Nat → Int32} (hY : rx_YOk Y σ) {v w : Value} {q : Int × Int} (h : rx_iv Y v = some q) (hv : rx_v ρ σ v w) : ∃ x : Int32, w = .int x ∧ q.1 ≤ x.toInt ∧ x.toInt ≤ q.2 := by
  cases v with
  | int x => cases h; cases hv; exact ⟨x, rfl, Int.le_refl _, Int.le_refl _⟩
  | float n => cases hv; exact ⟨_, rfl, hY.1 _ _ h⟩
  | _ => cases h
def rx_rel : List (Nat × Nat × Bool) → Nat → Nat → Option Bool
  | [], _, _ => none
  | (a, b, c) :: t, i, j => cond (Nat.beq a i && Nat.beq b j) (some c) (rx_rel t i j)
theorem rx_rel_ok : ∀ {t : List (Nat × Nat × Bool)} {i j : Nat} {b : Bool}, rx_rel t i j = some b → (i, j, b) ∈ t
  | [], _, _, _, h => by cases h
  | (a, b, c) :: t, i, j, x, h => by
    simp only [rx_rel] at h
    cases hb : (Nat.beq a i && Nat.beq b j) with
    | true =>
      rw [hb] at h
      rw [Bool.and_eq_true] at hb
      have h1 := Nat.eq_of_beq_eq_true hb.1
      have h2 := Nat.eq_of_beq_eq_true hb.2
      cases h
      subst h1; subst h2
      exact List.mem_cons_self
    | false =>
      rw [hb] at h
      exact List.mem_cons_of_mem _ (rx_rel_ok h)
def rx_rels (Y : rx_Y) : Value → Value → Option Bool
  | .float n, .float k => rx_rel Y.2 n.toNat k.toNat
  | _, _ => none
def rx_lt2 (Y : rx_Y) (v w : Value) : Option Bool := match rx_iv Y v, rx_iv Y w with
  | some q, some r => if q.2 < r.1 then some true else if r.2 ≤ q.1 then some false else rx_rels Y v w
  | _, _ => none
def rx_lt (Y : rx_Y) (v w : Value) : Option Bool := match v, w with
  | .int x, .int y => some (decide (x < y))
  | v, w => rx_lt2 Y v w
theorem rx_lt_ok {Y : rx_Y} {ρ : List Nat} {σ : Nat → Int32} (hY : rx_YOk Y σ) {v w v' w' : Value} {b : Bool} (h : rx_lt Y v w = some b) (hv : rx_v ρ σ v v') (hw : rx_v ρ σ w w') : ∃ x y : Int32, v' = .int x ∧ w' = .int y ∧ (x < y ↔ b = true) := by
  unfold rx_lt at h
  split at h
  · next x y =>
    cases hv; cases hw
    cases h
    exact ⟨x, y, rfl, rfl, by simp⟩
  · unfold rx_lt2 at h
    cases h1 : rx_iv Y v with
    | none => rw [h1] at h; cases h
    | some q =>
      cases h2 : rx_iv Y w with
      | none => rw [h1, h2] at h; cases h
      | some r =>
        rw [h1, h2] at h
        obtain ⟨x, e1, a1, a2⟩ := rx_iv_ok hY h1 hv
        obtain ⟨y, e2, b1, b2⟩ := rx_iv_ok hY h2 hw
        refine ⟨x, y, e1, e2, ?_⟩
        simp only at h
        split at h
        · cases h
          simp only [iff_true]
          rw [Int32.lt_iff_toInt_lt]
          omega
        · split at h
          · cases h
            simp only [Bool.false_eq_true, iff_false]
            rw [Int32.lt_iff_toInt_lt]
            omega
          · unfold rx_rels at h
            split at h
            · next n k =>
              have := hY.2 _ (rx_rel_ok h)
              cases hv; cases hw
              cases e1; cases e2
              exact this
            · cases h
def rx_eq2 (Y : rx_Y) (v w : Value) : Option Bool := match rx_iv Y v, rx_iv Y w with
  | some q, some r => if q.2 < r.1 ∨ r.2 < q.1 then some false else none
  | _, _ => none
def rx_eq (Y : rx_Y) (v w : Value) : Option Bool := match v, w with
  | .int x, .int y => some (decide (x = y))
  | v, w => rx_eq2 Y v w
theorem rx_eq_ok {Y : rx_Y} {ρ : List Nat} {σ : Nat → Int32} (hY : rx_YOk Y σ) {v w v' w' : Value} {b : Bool} (h : rx_eq Y v w = some b) (hv : rx_v ρ σ v v') (hw : rx_v ρ σ w w') : ∃ x y : Int32, v' = .int x ∧ w' = .int y ∧ (x = y ↔ b = true) := by
  unfold rx_eq at h
  split at h
  · next x y =>
    cases hv; cases hw
    cases h
    exact ⟨x, y, rfl, rfl, by simp⟩
  · unfold rx_eq2 at h
    cases h1 : rx_iv Y v with
    | none => rw [h1] at h; cases h
    | some q =>
      cases h2 : rx_iv Y w with
      | none => rw [h1, h2] at h; cases h
      | some r =>
        rw [h1, h2] at h
        obtain ⟨x, e1, a1, a2⟩ := rx_iv_ok hY h1 hv
        obtain ⟨y, e2, b1, b2⟩ := rx_iv_ok hY h2 hw
        refine ⟨x, y, e1, e2, ?_⟩
        simp only at h
        split at h
        · cases h
          simp only [Bool.false_eq_true, iff_false]
          intro hxy
          subst hxy
          omega
        · cases h
/-- which test: 0 lt, 1 ge, 2 gt, 3 le, 4 eq, 5 ne -/
def rx_tst (Y : rx_Y) (op : Nat) (v w : Value) : Option Bool := match op with
  | 0 => rx_lt Y v w
  | 1 => (rx_lt Y v w).map (!·)
  | 2 => rx_lt Y w v
  | 3 => (rx_lt Y w v).map (!·)
  | 4 => rx_eq Y v w
  | _ => (rx_eq Y v w).map (!·)
def rx_cmp (Y : rx_Y) (op : Nat) : List Value → Option (Bool × List Value)
  | w :: v :: r => match rx_tst Y op v w with
    | none => none
    | some b => some (b, r)
  | _ => none
def rx_cm0 (Y : rx_Y) (op : Nat) : List Value → Option (Bool × List Value)
  | v :: r => match rx_tst Y op v (.int 0) with
    | none => none
    | some b => some (b, r)
  | _ => none
def rx_tp (op : Nat) (x y : Int32) : Prop := match op with
  | 0 => x < y
  | 1 => y ≤ x
  | 2 => y < x
  | 3 => x ≤ y
  | 4 => x = y
  | _ => ¬ x = y
theorem rx_tst_ok {Y : rx_Y} {ρ : List Nat} {σ : Nat → Int32} (hY : rx_YOk Y σ) {op : Nat} {v w cv cw : Value} {b : Bool} (ht : rx_tst Y op v w = some b) (h2 : rx_v ρ σ v cv) (h1 : rx_v ρ σ w cw) : ∃ x y : Int32, cv = .int x ∧ cw = .int y ∧ (rx_tp op x y ↔ b = true) := by
  match op, ht with
  | 0, ht => exact rx_lt_ok hY ht h2 h1
  | 1, ht =>
    simp only [rx_tst, Option.map_eq_some_iff] at ht
    obtain ⟨b0, g1, g2⟩ := ht
    obtain ⟨x, y, e1, e2, e3⟩ := rx_lt_ok hY g1 h2 h1
    refine ⟨x, y, e1, e2, ?_⟩
    rw [Int32.lt_iff_toInt_lt] at e3
    show y ≤ x ↔ _
    rw [Int32.le_iff_toInt_le]
    subst g2
    cases b0 <;> simp at e3 ⊢ <;> omega
  | 2, ht =>
    obtain ⟨y, x, e1, e2, e3⟩ := rx_lt_ok hY ht h1 h2
    exact ⟨x, y, e2, e1, e3⟩
  | 3, ht =>
    simp only [rx_tst, Option.map_eq_some_iff] at ht
    obtain ⟨b0, g1, g2⟩ := ht
    obtain ⟨y, x, e1, e2, e3⟩ := rx_lt_ok hY g1 h1 h2
    refine ⟨x, y, e2, e1, ?_⟩
    rw [Int32.lt_iff_toInt_lt] at e3
    show x ≤ y ↔ _
    rw [Int32.le_iff_toInt_le]
    subst g2
    cases b0 <;> simp at e3 ⊢ <;> omega
  | 4, ht => exact rx_eq_ok hY ht h2 h1
  | n + 5, ht =>
    simp only [rx_tst, Option.map_eq_some_iff] at ht
    obtain ⟨b0, g1, g2⟩ := ht
    obtain ⟨x, y, e1, e2, e3⟩ := rx_eq_ok hY g1 h2 h1
    refine ⟨x, y, e1, e2, ?_⟩
    subst g2
    show ¬ x = y ↔ _
    cases b0 <;> simp at e3 ⊢ <;> exact e3
theorem rx_sd_cmp {Y : rx_Y} (hY : rx_YOk Y G.sg) (op tgt : Nat) (hs : ∀ (x y : Int32) (b : Bool) (r : List Value), (rx_tp op x y ↔ b = true) → rx_Step M.2.1 pc (cond b tgt (pc + 3)) (.int y :: .int x :: r) r) : rx_Sd G MT M pc (rx_br (rx_cmp Y op) tgt (pc + 3)) := by
  refine rx_sd_br (fun ρ st cst st' b h hst => ?_)
  match st, cst, h, hst with
  | w :: v :: r, cw :: cv :: cr, h, ⟨h1, h2, h3⟩ =>
    unfold rx_cmp at h
    simp only at h
    cases ht : rx_tst Y op v w with
    | none => rw [ht] at h; cases h
    | some b' =>
      rw [ht] at h
      cases h
      obtain ⟨x, y, rfl, rfl, hk⟩ := rx_tst_ok hY ht h2 h1
      exact ⟨cr, h3, hs x y b cr hk⟩
theorem rx_sd_cm0 {Y : rx_Y} (hY : rx_YOk Y G.sg) (op tgt : Nat) (hs : ∀ (x : Int32) (b : Bool) (r : List Value), (rx_tp op x 0 ↔ b = true) → rx_Step M.2.1 pc (cond b tgt (pc + 3)) (.int x :: r) r) : rx_Sd G MT M pc (rx_br (rx_cm0 Y op) tgt (pc + 3)) := by
  refine rx_sd_br (fun ρ st cst st' b h hst => ?_)
  match st, cst, h, hst with
  | v :: r, cv :: cr, h, ⟨h2, h3⟩ =>
    unfold rx_cm0 at h
    simp only at h
    cases ht : rx_tst Y op v (.int 0) with
    | none => rw [ht] at h; cases h
    | some b' =>
      rw [ht] at h
      cases h
      obtain ⟨x, y, rfl, e2, hk⟩ := rx_tst_ok (ρ := ρ) hY ht h2 (show rx_v ρ G.sg (.int 0) (.int 0) from rfl)
      cases e2
      exact ⟨cr, h3, hs x b cr hk⟩
theorem rx_two {P : Prop} {b : Bool} (A : Bool → Prop) (hk : P ↔ b = true) (k : A b) : (P → A true) ∧ (¬ P → A false) := by
  cases b with
  | true => exact ⟨fun _ => k, fun h => absurd (hk.mpr rfl) h⟩
  | false => exact ⟨fun h => absurd (hk.mp h) (by simp), fun _ => k⟩
theorem rx_sd_icmp_lt {Y : rx_Y} (hY : rx_YOk Y G.sg) {off : Int} {tgt : Nat} (d : decode M.2.1 pc = .ok (.if_icmp .lt off, 3)) (ht : (pc : Int) + off = (tgt : Int)) : rx_Sd G MT M pc (rx_br (rx_cmp Y 0) tgt (pc + 3)) :=
  rx_sd_cmp hY 0 tgt (fun x y b r hk p l e R s m args below meth c H locs cells slots Q ls hx hb k => have K := rx_two (fun b => W p l e R s m args below meth c H locs cells slots Q (F0 m (cond b tgt (pc + 3)) ls r)) hk k; lv_icmp_lt hx hb d ht K.1 K.2)
theorem rx_sd_if_lt {Y : rx_Y} (hY : rx_YOk Y G.sg) {off : Int} {tgt : Nat} (d : decode M.2.1 pc = .ok (.ifCond .lt off, 3)) (ht : (pc : Int) + off = (tgt : Int)) : rx_Sd G MT M pc (rx_br (rx_cm0 Y 0) tgt (pc + 3)) :=
  rx_sd_cm0 hY 0 tgt (fun x b r hk p l e R s m args below meth c H locs cells slots Q ls hx hb k => have K := rx_two (fun b => W p l e R s m args below meth c H locs cells slots Q (F0 m (cond b tgt (pc + 3)) ls r)) hk k; lv_if_lt hx hb d ht K.1 K.2)
theorem rx_sd_icmp_ge {Y : rx_Y} (hY : rx_YOk Y G.sg) {off : Int} {tgt : Nat} (d : decode M.2.1 pc = .ok (.if_icmp .ge off, 3)) (ht : (pc : Int) + off = (tgt : Int)) : rx_Sd G MT M pc (rx_br (rx_cmp Y 1) tgt (pc + 3)) :=
  rx_sd_cmp hY 1 tgt (fun x y b r hk p l e R s m args below meth c H locs cells slots Q ls hx hb k => have K := rx_two (fun b => W p l e R s m args below meth c H locs cells slots Q (F0 m (cond b tgt (pc + 3)) ls r)) hk k; lv_icmp_ge hx hb d ht K.1 K.2)
theorem rx_sd_if_ge {Y : rx_Y} (hY : rx_YOk Y G.sg) {off : Int} {tgt : Nat} (d : decode M.2.1 pc = .ok (.ifCond .ge off, 3)) (ht : (pc : Int) + off = (tgt : Int)) : rx_Sd G MT M pc (rx_br (rx_cm0 Y 1) tgt (pc + 3)) :=
  rx_sd_cm0 hY 1 tgt (fun x b r hk p l e R s m args below meth c H locs cells slots Q ls hx hb k => have K := rx_two (fun b => W p l e R s m args below meth c H locs cells slots Q (F0 m (cond b tgt (pc + 3)) ls r)) hk k; lv_if_ge hx hb d ht K.1 K.2)
theorem rx_sd_icmp_gt {Y : rx_Y} (hY : rx_YOk Y G.sg) {off : Int} {tgt : Nat} (d : decode M.2.1 pc = .ok (.if_icmp .gt off, 3)) (ht : (pc : Int) + off = (tgt : Int)) : rx_Sd G MT M pc (rx_br (rx_cmp Y 2) tgt (pc + 3)) :=
  rx_sd_cmp hY 2 tgt (fun x y b r hk p l e R s m args below meth c H locs cells slots Q ls hx hb k => have K := rx_two (fun b => W p l e R s m args below meth c H locs cells slots Q (F0 m (cond b tgt (pc + 3)) ls r)) hk k; lv_icmp_gt hx hb d ht K.1 K.2)
theorem rx_sd_if_gt {Y : rx_Y} (hY : rx_YOk Y G.sg) {off : Int} {tgt : Nat} (d : decode M.2.1 pc = .ok (.ifCond .gt off, 3)) (ht : (pc : Int) + off = (tgt : Int)) : rx_Sd G MT M pc (rx_br (rx_cm0 Y 2) tgt (pc + 3)) :=
  rx_sd_cm0 hY 2 tgt (fun x b r hk p l e R s m args below meth c H locs cells slots Q ls hx hb k => have K := rx_two (fun b => W p l e R s m args below meth c H locs cells slots Q (F0 m (cond b tgt (pc + 3)) ls r)) hk k; lv_if_gt hx hb d ht K.1 K.2)
theorem rx_sd_icmp_le {Y : rx_Y} (hY : rx_YOk Y G.sg) {off : Int} {tgt : Nat} (d : decode M.2.1 pc = .ok (.if_icmp .le off, 3)) (ht : (pc : Int) + off = (tgt : Int)) : rx_Sd G MT M pc (rx_br (rx_cmp Y 3) tgt (pc + 3)) :=
  rx_sd_cmp hY 3 tgt (fun x y b r hk p l e R s m args below meth c H locs cells slots Q ls hx hb k => have K := rx_two (fun b => W p l e R s m args below meth c H locs cells slots Q (F0 m (cond b tgt (pc + 3)) ls r)) hk k; lv_icmp_le hx hb d ht K.1 K.2)
theorem rx_sd_if_le {Y : rx_Y} (hY : rx_YOk Y G.sg) {off : Int} {tgt : Nat} (d : decode M.2.1 pc = .ok (.ifCond .le off, 3)) (ht : (pc : Int) + off = (tgt : Int)) : rx_Sd G MT M pc (rx_br (rx_cm0 Y 3) tgt (pc + 3)) :=
  rx_sd_cm0 hY 3 tgt (fun x b r hk p l e R s m args below meth c H locs cells slots Q ls hx hb k => have K := rx_two (fun b => W p l e R s m args below meth c H locs cells slots Q (F0 m (cond b tgt (pc + 3)) ls r)) hk k; lv_if_le hx hb d ht K.1 K.2)
theorem rx_sd_icmp_eq {Y : rx_Y} (hY : rx_YOk Y G.sg) {off : Int} {tgt : Nat} (d : decode M.2.1 pc = .ok (.if_icmp .eq off, 3)) (ht : (pc : Int) + off = (tgt : Int)) : rx_Sd G MT M pc (rx_br (rx_cmp Y 4) tgt (pc + 3)) :=
  rx_sd_cmp hY 4 tgt (fun x y b r hk p l e R s m args below meth c H locs cells slots Q ls hx hb k => have K := rx_two (fun b => W p l e R s m args below meth c H locs cells slots Q (F0 m (cond b tgt (pc + 3)) ls r)) hk k; lv_icmp_eq hx hb d ht K.1 K.2)
theorem rx_sd_if_eq {Y : rx_Y} (hY : rx_YOk Y G.sg) {off : Int} {tgt : Nat} (d : decode M.2.1 pc = .ok (.ifCond .eq off, 3)) (ht : (pc : Int) + off = (tgt : Int)) : rx_Sd G MT M pc (rx_br (rx_cm0 Y 4) tgt (pc + 3)) :=
  rx_sd_cm0 hY 4 tgt (fun x b r hk p l e R s m args below meth c H locs cells slots Q ls hx hb k => have K := rx_two (fun b => W p l e R s m args below meth c H locs cells slots Q (F0 m (cond b tgt (pc + 3)) ls r)) hk k; lv_if_eq hx hb d ht K.1 K.2)
theorem rx_sd_icmp_ne {Y : rx_Y} (hY : rx_YOk Y G.sg) {off : Int} {tgt : Nat} (d : decode M.2.1 pc = .ok (.if_icmp .ne off, 3)) (ht : (pc : Int) + off = (tgt : Int)) : rx_Sd G MT M pc (rx_br (rx_cmp Y 5) tgt (pc + 3)) :=
  rx_sd_cmp hY 5 tgt (fun x y b r hk p l e R s m args below meth c H locs cells slots Q ls hx hb k => have K := rx_two (fun b => W p l e R s m args below meth c H locs cells slots Q (F0 m (cond b tgt (pc + 3)) ls r)) hk k; lv_icmp_ne hx hb d ht K.1 (fun h => K.2 (fun q => q h)))
theorem rx_sd_if_ne {Y : rx_Y} (hY : rx_YOk Y G.sg) {off : Int} {tgt : Nat} (d : decode M.2.1 pc = .ok (.ifCond .ne off, 3)) (ht : (pc : Int) + off = (tgt : Int)) : rx_Sd G MT M pc (rx_br (rx_cm0 Y 5) tgt (pc + 3)) :=
  rx_sd_cm0 hY 5 tgt (fun x b r hk p l e R s m args below meth c H locs cells slots Q ls hx hb k => have K := rx_two (fun b => W p l e R s m args below meth c H locs cells slots Q (F0 m (cond b tgt (pc + 3)) ls r)) hk k; lv_if_ne hx hb d ht K.1 (fun h => K.2 (fun q => q h)))
def rx_sw (Y : rx_Y) (lo hi : Int) (tgts : List Nat) (dflt : Nat) : rx_T := fun _ st => match st.2.1 with
  | .int x :: r => if x.toInt < lo ∨ hi < x.toInt then some (.inl (dflt, (st.1, r, st.2.2))) else match tgts[(x.toInt - lo).toNat]? with
    | some t => some (.inl (t, (st.1, r, st.2.2)))
    | none => none
  | v :: r => match rx_iv Y v with
    | some q => if q.2 < lo ∨ hi < q.1 then some (.inl (dflt, (st.1, r, st.2.2))) else none
    | none => none
  | _ => none
theorem rx_sd_sw {Y : rx_Y} (hY : rx_YOk Y G.sg) {df lo hi : Int} {offs : Array Int} {len dflt : Nat} {tgts : List Nat} (d : decode M.2.1 pc = .ok (.tableswitch df lo hi offs, len)) (hd : (pc : Int) + df = (dflt : Int)) (ht : offs.toList.map (fun o => (pc : Int) + o) = tgts.map (fun t : Nat => (t : Int))) : rx_Sd G MT M pc (rx_sw Y lo hi tgts dflt) := by
  intro p e s m args below meth c A X rec hrec st o h ρ0 r hgo
  obtain ⟨hx, hb, hml, hr, hown, hts, hlk, hnm, hK, hA⟩ := X
  obtain ⟨lv, sk, ws, c0, s0⟩ := st
  intro tl cws H locs ls cst clv hw hP hD hS hlv hl hst
  unfold rx_sw at h
  simp only at h hst
  split at h
  · next x rr =>
    match cst, hst with
    | w :: cr, ⟨h1, h3⟩ =>
      cases h1
      split at h
      · next hc =>
        cases h
        exact lv_tableOut hx hb d hc hd (hgo tl cws H locs ls cr clv hw hP hD hS hlv hl h3)
      · next hc =>
        split at h
        · next t ht1 =>
          cases h
          have hc1 : ¬ x.toInt < lo := fun q => hc (Or.inl q)
          have hc2 : ¬ hi < x.toInt := fun q => hc (Or.inr q)
          have e1 : (offs.toList.map (fun o => (pc : Int) + o))[(x.toInt - lo).toNat]? = some (t : Int) := by rw [ht, List.getElem?_map, ht1]; rfl
          rw [List.getElem?_map, Option.map_eq_some_iff] at e1
          obtain ⟨off, g1, g2⟩ := e1
          exact lv_tableIn hx hb d hc1 hc2 (by rw [← Array.getElem?_toList]; exact g1) g2 (hgo tl cws H locs ls cr clv hw hP hD hS hlv hl h3)
        · cases h
  · next v rr hne =>
    match cst, hst with
    | w :: cr, ⟨h1, h3⟩ =>
      cases hq : rx_iv Y v with
      | none => rw [hq] at h; cases h
      | some q =>
        rw [hq] at h
        simp only at h
        split at h
        · next hc =>
          cases h
          obtain ⟨x, rfl, a1, a2⟩ := rx_iv_ok hY hq h1
          exact lv_tableOut hx hb d (by omega) hd (hgo tl cws H locs ls cr clv hw hP hD hS hlv hl h3)
        · cases h
  · cases h
end PU
