section
/-! A MACHINE OF KNOWN VALUES. Values stand for values: .int x, .long x, .null for themselves, .ref k for the k-th cell's address, .float n for the n-th unknown int, .double _ for any int. A run of it is worked out by the kernel; 'sound' says that the real machine goes the same way. -/
abbrev rx_E : Type := (Nat × List Value) ⊕ (Nat × Nat × List (Nat × Value) × Value)
abbrev rx_W : Type := List rx_E
abbrev rx_L : Type := List (Nat × Value)
abbrev rx_S : Type := rx_L × List Value × rx_W × Nat × Nat
abbrev rx_R : Type := Option Value × rx_W
abbrev rx_O : Type := (Nat × rx_S) ⊕ rx_R
abbrev rx_C : Type := Nat → List Value → rx_W → Option rx_R
abbrev rx_T : Type := rx_C → rx_S → Option rx_O
abbrev rx_P : Type := List (Nat × rx_T)
/-- what is known of the unknown ints: bounds, and which is below which -/
abbrev rx_Y : Type := List (Int × Int) × List (Nat × Nat × Bool)
noncomputable def rx_fN {α : Type} (x : Nat) (k : Nat → α) : α := Nat.rec (motive := fun _ => α) (k 0) (fun n _ => k (n + 1)) x
theorem rx_fN_eq {α : Type} (x : Nat) (k : Nat → α) : rx_fN x k = k x := by cases x <;> rfl
noncomputable def rx_fI {α : Type} (x : Int32) (k : Int32 → α) : α := rx_fN x.toUInt32.toNat (fun n => k (Int32.ofNat n))
noncomputable def rx_fL {α : Type} (x : Int64) (k : Int64 → α) : α := rx_fN x.toUInt64.toNat (fun n => k (Int64.ofNat n))
theorem rx_i_of (x : Int32) : Int32.ofNat x.toUInt32.toNat = x := by
  apply Int32.toBitVec_inj.mp
  show BitVec.ofNat 32 x.toBitVec.toNat = x.toBitVec
  simp
theorem rx_l_of (x : Int64) : Int64.ofNat x.toUInt64.toNat = x := by
  apply Int64.toBitVec_inj.mp
  show BitVec.ofNat 64 x.toBitVec.toNat = x.toBitVec
  simp
theorem rx_fI_eq {α : Type} (x : Int32) (k : Int32 → α) : rx_fI x k = k x := by rw [rx_fI, rx_fN_eq, rx_i_of]
theorem rx_fL_eq {α : Type} (x : Int64) (k : Int64 → α) : rx_fL x k = k x := by rw [rx_fL, rx_fN_eq, rx_l_of]
def rx_look : List (Nat × Value) → Value → Nat → Value
  | [], d, _ => d
  | (k, v) :: t, d, j => cond (Nat.beq j k) v (rx_look t d j)
theorem rx_look_cons (k : Nat) (v : Value) (t : List (Nat × Value)) (d : Value) (j : Nat) : rx_look ((k, v) :: t) d j = if j = k then v else rx_look t d j := by
  by_cases h : j = k
  · subst h; simp [rx_look]
  · have : Nat.beq j k = false := by rw [← Bool.not_eq_true]; exact fun q => h (Nat.eq_of_beq_eq_true q)
    simp [rx_look, h, this]
def rx_find : rx_L → Nat → Option Value
  | [], _ => none
  | (k, v) :: t, i => cond (Nat.beq i k) (some v) (rx_find t i)
/-- a value stands for a value -/
def rx_v (ρ : List Nat) (σ : Nat → Int32) (v w : Value) : Prop := match v with
  | .int x => w = .int x
  | .long x => w = .long x
  | .null => w = .null
  | .ref k => ∃ a, ρ[k]? = some a ∧ w = .ref a
  | .float n => w = .int (σ n.toNat)
  | .double _ => ∃ x : Int32, w = .int x
  | .retAddr _ => False
def rx_l (ρ : List Nat) (σ : Nat → Int32) : List Value → List Value → Prop
  | [], [] => True
  | v :: vs, w :: ws => rx_v ρ σ v w ∧ rx_l ρ σ vs ws
  | _, _ => False
def rx_lv (ρ : List Nat) (σ : Nat → Int32) : rx_L → rx_L → Prop
  | [], [] => True
  | (i, v) :: vs, (j, w) :: ws => i = j ∧ rx_v ρ σ v w ∧ rx_lv ρ σ vs ws
  | _, _ => False
def rx_e (ρ : List Nat) (σ : Nat → Int32) (cy : Nat → ClassId) (e : rx_E) (ce : va_E) : Prop := match e with
  | .inl (ci, fs) => ∃ cfs, ce = .inr (ci, cfs) ∧ rx_l ρ σ fs cfs
  | .inr (0, n, u, d) => ∃ f : Nat → Int32, ce = .inl (cy 0, n, .inl f) ∧ ∀ j, rx_v ρ σ (rx_look u d j) (.int (f j))
  | .inr (1, n, u, d) => ∃ f : Nat → Int64, ce = .inl (cy 1, n, .inr (.inl f)) ∧ ∀ j, rx_v ρ σ (rx_look u d j) (.long (f j))
  | .inr (2, n, u, d) => ∃ f : Nat → Int32, ce = .inl (cy 2, n, .inl f) ∧ ∀ j, rx_v ρ σ (rx_look u d j) (.int (f j))
  | .inr (t + 3, n, u, d) => ∃ f : Nat → Option Nat, ce = .inl (cy (t + 3), n, .inr (.inr (.inr (.inr f)))) ∧ ∀ j, rx_v ρ σ (rx_look u d j) (va_rf (f j))
def rx_w (ρ : List Nat) (σ : Nat → Int32) (cy : Nat → ClassId) (ws : rx_W) (cws : va_W) : Prop :=
  cws.map Prod.fst = ρ ∧ ws.length = cws.length ∧ ∀ (k : Nat) (e : rx_E), ws[k]? = some e → ∃ (a : Nat) (ce : va_E), cws[k]? = some (a, ce) ∧ rx_e ρ σ cy e ce
/-- an answer -/
def rx_o (ρ : List Nat) (σ : Nat → Int32) : Option Value → Option Value → Prop
  | none, none => True
  | some v, some w => rx_v ρ σ v w
  | _, _ => False
theorem rx_v.mono {ρ t : List Nat} {σ : Nat → Int32} {v w : Value} (h : rx_v ρ σ v w) : rx_v (ρ ++ t) σ v w := by
  cases v with
  | ref k =>
    obtain ⟨a, h1, h2⟩ := h
    exact ⟨a, by rw [List.getElem?_append_left (List.getElem?_eq_some_iff.mp h1).1]; exact h1, h2⟩
  | _ => exact h
theorem rx_l.mono {ρ t : List Nat} {σ : Nat → Int32} : ∀ {vs ws : List Value}, rx_l ρ σ vs ws → rx_l (ρ ++ t) σ vs ws
  | [], [], _ => trivial
  | _ :: _, _ :: _, h => ⟨h.1.mono, rx_l.mono h.2⟩
  | [], _ :: _, h => h.elim
  | _ :: _, [], h => h.elim
theorem rx_lv.mono {ρ t : List Nat} {σ : Nat → Int32} : ∀ {vs ws : rx_L}, rx_lv ρ σ vs ws → rx_lv (ρ ++ t) σ vs ws
  | [], [], _ => trivial
  | _ :: _, _ :: _, h => ⟨h.1, h.2.1.mono, rx_lv.mono h.2.2⟩
  | [], _ :: _, h => h.elim
  | _ :: _, [], h => h.elim
theorem rx_e.mono {ρ t : List Nat} {σ : Nat → Int32} {cy : Nat → ClassId} {e : rx_E} {ce : va_E} (h : rx_e ρ σ cy e ce) : rx_e (ρ ++ t) σ cy e ce := by
  match e, h with
  | .inl (ci, fs), ⟨cfs, h1, h2⟩ => exact ⟨cfs, h1, h2.mono⟩
  | .inr (0, n, u, d), ⟨f, h1, h2⟩ => exact ⟨f, h1, fun j => (h2 j).mono⟩
  | .inr (1, n, u, d), ⟨f, h1, h2⟩ => exact ⟨f, h1, fun j => (h2 j).mono⟩
  | .inr (2, n, u, d), ⟨f, h1, h2⟩ => exact ⟨f, h1, fun j => (h2 j).mono⟩
  | .inr (t + 3, n, u, d), ⟨f, h1, h2⟩ => exact ⟨f, h1, fun j => (h2 j).mono⟩
theorem rx_l.app {ρ : List Nat} {σ : Nat → Int32} : ∀ {a b c d : List Value}, rx_l ρ σ a b → rx_l ρ σ c d → rx_l ρ σ (a ++ c) (b ++ d)
  | [], [], _, _, _, h => h
  | _ :: _, _ :: _, _, _, h, g => ⟨h.1, rx_l.app h.2 g⟩
  | [], _ :: _, _, _, h, _ => h.elim
  | _ :: _, [], _, _, h, _ => h.elim
theorem rx_l.rev {ρ : List Nat} {σ : Nat → Int32} : ∀ {a b : List Value}, rx_l ρ σ a b → rx_l ρ σ a.reverse b.reverse
  | [], [], _ => trivial
  | v :: vs, w :: ws, h => by
    rw [List.reverse_cons, List.reverse_cons]
    exact rx_l.app (rx_l.rev h.2) ⟨h.1, trivial⟩
  | [], _ :: _, h => h.elim
  | _ :: _, [], h => h.elim
theorem rx_l.len {ρ : List Nat} {σ : Nat → Int32} : ∀ {a b : List Value}, rx_l ρ σ a b → a.length = b.length
  | [], [], _ => rfl
  | _ :: _, _ :: _, h => congrArg (· + 1) (rx_l.len h.2)
  | [], _ :: _, h => h.elim
  | _ :: _, [], h => h.elim
theorem rx_l.take {ρ : List Nat} {σ : Nat → Int32} : ∀ (n : Nat) {a b : List Value}, rx_l ρ σ a b → rx_l ρ σ (a.take n) (b.take n) ∧ rx_l ρ σ (a.drop n) (b.drop n)
  | 0, _, _, h => ⟨trivial, h⟩
  | _ + 1, [], [], _ => ⟨trivial, trivial⟩
  | n + 1, _ :: _, _ :: _, h => ⟨⟨h.1, (rx_l.take n h.2).1⟩, (rx_l.take n h.2).2⟩
  | _ + 1, [], _ :: _, h => h.elim
  | _ + 1, _ :: _, [], h => h.elim
theorem rx_l.get {ρ : List Nat} {σ : Nat → Int32} : ∀ {a b : List Value} (k : Nat) {v : Value}, rx_l ρ σ a b → a[k]? = some v → ∃ w, b[k]? = some w ∧ rx_v ρ σ v w
  | [], [], _, _, _, h => by simp at h
  | v :: vs, w :: ws, 0, _, h, g => ⟨w, rfl, by simp at g; subst g; exact h.1⟩
  | v :: vs, w :: ws, k + 1, _, h, g => by
    simp only [List.getElem?_cons_succ] at g ⊢
    exact rx_l.get k h.2 g
  | [], _ :: _, _, _, h, _ => h.elim
  | _ :: _, [], _, _, h, _ => h.elim
theorem rx_l.set {ρ : List Nat} {σ : Nat → Int32} : ∀ {a b : List Value} (k : Nat) {v w : Value}, rx_l ρ σ a b → rx_v ρ σ v w → rx_l ρ σ (a.set k v) (b.set k w)
  | [], [], _, _, _, _, _ => trivial
  | _ :: _, _ :: _, 0, _, _, h, g => ⟨g, h.2⟩
  | _ :: _, _ :: _, k + 1, _, _, h, g => ⟨h.1, rx_l.set k h.2 g⟩
  | [], _ :: _, _, _, _, h, _ => h.elim
  | _ :: _, [], _, _, _, h, _ => h.elim
theorem rx_v.cat {ρ : List Nat} {σ : Nat → Int32} {v w : Value} (h : rx_v ρ σ v w) (hd : ∀ b, v ≠ .double b) : w.category = v.category := by
  cases v with
  | int x => cases h; rfl
  | long x => cases h; rfl
  | null => cases h; rfl
  | ref k => obtain ⟨a, -, h2⟩ := h; cases h2; rfl
  | float n => cases h; rfl
  | double b => exact absurd rfl (hd b)
  | retAddr _ => exact h.elim
/-- what a value weighs: any int is an int here -/
def rx_cat : Value → Nat
  | .long _ => 2
  | _ => 1
theorem rx_v.cat' {ρ : List Nat} {σ : Nat → Int32} {v w : Value} (h : rx_v ρ σ v w) : w.category = rx_cat v := by
  cases v with
  | int x => cases h; rfl
  | long x => cases h; rfl
  | null => cases h; rfl
  | ref k => obtain ⟨a, -, h2⟩ := h; cases h2; rfl
  | float n => cases h; rfl
  | double b => obtain ⟨x, hx⟩ := h; cases hx; rfl
  | retAddr _ => exact h.elim
theorem rx_l.cats {ρ : List Nat} {σ : Nat → Int32} : ∀ {a b : List Value}, rx_l ρ σ a b → (b.map fun v => v.category).sum = (a.map rx_cat).sum
  | [], [], _ => rfl
  | _ :: _, _ :: _, h => by
    simp only [List.map_cons, List.sum_cons]
    rw [h.1.cat', rx_l.cats h.2]
  | [], _ :: _, h => h.elim
  | _ :: _, [], h => h.elim
def rx_args : Nat → List Value → rx_L
  | _, [] => []
  | i, v :: vs => (i, v) :: rx_args (i + rx_cat v) vs
theorem rx_cat_12 (w : Value) : w.category = 2 ∨ w.category = 1 := by cases w <;> simp [Value.category]
theorem rx_l.args {ρ : List Nat} {σ : Nat → Int32} : ∀ {a b : List Value} (i : Nat), rx_l ρ σ a b → rx_lv ρ σ (rx_args i a) (lv_args i b)
  | [], [], _, _ => trivial
  | v :: vs, w :: ws, i, h => by
    refine ⟨rfl, h.1, ?_⟩
    have e : (if w.category = 2 then i + 2 else i + 1) = i + rx_cat v := by
      rw [← h.1.cat']
      rcases rx_cat_12 w with q | q <;> simp [q]
    rw [e]
    exact rx_l.args _ h.2
  | [], _ :: _, _, h => h.elim
  | _ :: _, [], _, h => h.elim
theorem rx_sl_len (vs : List Value) : (lg_sl vs).length = (vs.map fun v => v.category).sum := by
  induction vs with
  | nil => rfl
  | cons v vs ih =>
    have : lg_sl (v :: vs) = (if v.category = 2 then [.val v, .second] else [.val v]) ++ lg_sl vs := by simp [lg_sl]
    rw [this, List.length_append, ih, List.map_cons, List.sum_cons]
    rcases rx_cat_12 v with q | q <;> simp [q]
theorem rx_lv.find {ρ : List Nat} {σ : Nat → Int32} : ∀ {a b : rx_L} {i : Nat} {v : Value}, rx_lv ρ σ a b → rx_find a i = some v → ∃ (k : Nat) (w : Value), b[k]? = some (i, w) ∧ rx_v ρ σ v w
  | [], [], _, _, _, h => by simp [rx_find] at h
  | (j, v) :: vs, (j', w) :: ws, i, x, h, g => by
    simp only [rx_find] at g
    cases hb : Nat.beq i j with
    | true =>
      rw [hb] at g
      have := Nat.eq_of_beq_eq_true hb
      simp at g
      exact ⟨0, w, by rw [this, h.1]; rfl, by rw [← g]; exact h.2.1⟩
    | false =>
      rw [hb] at g
      obtain ⟨k, w', h1, h2⟩ := rx_lv.find h.2.2 g
      exact ⟨k + 1, w', h1, h2⟩
  | [], _ :: _, _, _, h, _ => h.elim
  | _ :: _, [], _, _, h, _ => h.elim
/-- one place of the locals is written -/
def rx_put1 (lv : rx_L) (i : Nat) : rx_L := lv.filter (fun q => !(q.1 == i) && !(q.1 + 1 == i && rx_cat q.2 == 2))
def rx_put2 (lv : rx_L) (i : Nat) : rx_L := lv.filter (fun q => !(q.1 == i) && (!(q.1 == i + 1) && !(q.1 + 1 == i && rx_cat q.2 == 2)))
theorem rx_lv.put1 {ρ : List Nat} {σ : Nat → Int32} (i : Nat) : ∀ {a b : rx_L}, rx_lv ρ σ a b → rx_lv ρ σ (rx_put1 a i) (b.filter (fun q => !(q.1 == i) && !(q.1 + 1 == i && q.2.category == 2)))
  | [], [], _ => trivial
  | (j, v) :: vs, (j', w) :: ws, h => by
    obtain ⟨rfl, h1, h2⟩ := h
    have ih := rx_lv.put1 i h2
    have e := h1.cat'
    simp only [rx_put1, List.filter_cons, e] at ih ⊢
    split
    · exact ⟨rfl, h1, ih⟩
    · exact ih
  | [], _ :: _, h => h.elim
  | _ :: _, [], h => h.elim
theorem rx_lv.put2 {ρ : List Nat} {σ : Nat → Int32} (i : Nat) : ∀ {a b : rx_L}, rx_lv ρ σ a b → rx_lv ρ σ (rx_put2 a i) (b.filter (fun q => !(q.1 == i) && (!(q.1 == i + 1) && !(q.1 + 1 == i && q.2.category == 2))))
  | [], [], _ => trivial
  | (j, v) :: vs, (j', w) :: ws, h => by
    obtain ⟨rfl, h1, h2⟩ := h
    have ih := rx_lv.put2 i h2
    have e := h1.cat'
    simp only [rx_put2, List.filter_cons, e] at ih ⊢
    split
    · exact ⟨rfl, h1, ih⟩
    · exact ih
  | [], _ :: _, h => h.elim
  | _ :: _, [], h => h.elim
theorem rx_set_same {α : Type} {l : List α} {k : Nat} {x : α} (h : l[k]? = some x) : l.set k x = l := by
  apply List.ext_getElem?
  intro j
  rw [List.getElem?_set]
  obtain ⟨hk, hx⟩ := List.getElem?_eq_some_iff.mp h
  by_cases hj : k = j
  · subst hj; simp [hk, hx]
  · simp [hj]
theorem rx_w.at {ρ : List Nat} {σ : Nat → Int32} {cy : Nat → ClassId} {ws : rx_W} {cws : va_W} (h : rx_w ρ σ cy ws cws) {k : Nat} {e : rx_E} (hk : ws[k]? = some e) {a : Nat} (ha : ρ[k]? = some a) : ∃ ce, cws[k]? = some (a, ce) ∧ rx_e ρ σ cy e ce := by
  obtain ⟨a', ce, h1, h2⟩ := h.2.2 k e hk
  have : ρ[k]? = some a' := by rw [← h.1, List.getElem?_map, h1]; rfl
  rw [ha] at this
  cases this
  exact ⟨ce, h1, h2⟩
theorem rx_w.set {ρ : List Nat} {σ : Nat → Int32} {cy : Nat → ClassId} {ws : rx_W} {cws : va_W} (h : rx_w ρ σ cy ws cws) {k a : Nat} {ce0 : va_E} (hk : cws[k]? = some (a, ce0)) {e : rx_E} {ce : va_E} (he : rx_e ρ σ cy e ce) : rx_w ρ σ cy (ws.set k e) (cws.set k (a, ce)) := by
  refine ⟨?_, by simp [h.2.1], ?_⟩
  · rw [List.map_set, ← h.1]
    exact rx_set_same (by rw [List.getElem?_map, hk]; rfl)
  · intro j e' hj
    rw [List.getElem?_set] at hj
    by_cases hkj : k = j
    · subst hkj
      have hl : k < cws.length := (List.getElem?_eq_some_iff.mp hk).1
      simp [h.2.1, hl] at hj
      subst hj
      exact ⟨a, ce, by simp [hl], he⟩
    · simp [hkj] at hj
      obtain ⟨a', ce', h1, h2⟩ := h.2.2 j e' hj
      exact ⟨a', ce', by rw [List.getElem?_set]; simp [hkj, h1], h2⟩
theorem rx_w.new {ρ : List Nat} {σ : Nat → Int32} {cy : Nat → ClassId} {ws : rx_W} {cws : va_W} (h : rx_w ρ σ cy ws cws) {a : Nat} {e : rx_E} {ce : va_E} (he : rx_e ρ σ cy e ce) : rx_w (ρ ++ [a]) σ cy (ws ++ [e]) (cws ++ [(a, ce)]) := by
  refine ⟨by rw [List.map_append, h.1]; rfl, by simp [h.2.1], ?_⟩
  intro j e' hj
  by_cases hl : j < ws.length
  · rw [List.getElem?_append_left hl] at hj
    obtain ⟨a', ce', h1, h2⟩ := h.2.2 j e' hj
    exact ⟨a', ce', by rw [List.getElem?_append_left (by rw [← h.2.1]; exact hl)]; exact h1, h2.mono⟩
  · rw [List.getElem?_append_right (by omega)] at hj
    have hj0 : j - ws.length = 0 := by
      rcases Nat.eq_zero_or_pos (j - ws.length) with q | q
      · exact q
      · rw [List.getElem?_eq_none (show [e].length ≤ j - ws.length from q)] at hj; cases hj
    rw [hj0] at hj
    simp at hj
    subst hj
    refine ⟨a, ce, ?_, he.mono⟩
    rw [List.getElem?_append_right (by rw [← h.2.1]; omega), ← h.2.1, hj0]
    rfl
end
section
/-! THE RUN, and what it is for it to be sound -/
def rx_seek (pc : Nat) : rx_P → rx_P
  | [] => []
  | q :: t => cond (Nat.beq q.1 pc) (q :: t) (rx_seek pc t)
def rx_next (full : rx_P) (pc : Nat) : rx_P → rx_P
  | [] => rx_seek pc full
  | q :: t => cond (Nat.beq q.1 pc) (q :: t) (rx_seek pc full)
/-- a method's own data: owner, code, locals, answer's type, is it a constructor, room, its program -/
abbrev rx_M : Type := MethodName × ByteArray × Nat × Option FieldType × Room × rx_P
def rx_dflt : rx_M := (⟨"", "", ""⟩, ⟨#[]⟩, 0, none, {}, [])
noncomputable def rx_run (MT : Nat → rx_M) (n : Nat) : rx_P → rx_P → rx_S → Option rx_R :=
  Nat.rec (motive := fun _ => rx_P → rx_P → rx_S → Option rx_R) (fun _ _ _ => none)
    (fun _ ih full suf st => match suf with
      | [] => none
      | q :: rest => match q.2 (fun mid a w => cond (Nat.ble (a.map rx_cat).sum (MT mid).2.2.1) (ih (MT mid).2.2.2.2.2 (rx_seek 0 (MT mid).2.2.2.2.2) (rx_args 0 a, [], w, 0, 0)) none) st with
        | none => none
        | some (.inr r) => some r
        | some (.inl (pc, st')) => ih full (rx_next full pc rest) st') n
noncomputable def rx_call (MT : Nat → rx_M) (n : Nat) : rx_C := fun mid a w => cond (Nat.ble (a.map rx_cat).sum (MT mid).2.2.1) (rx_run MT n (MT mid).2.2.2.2.2 (rx_seek 0 (MT mid).2.2.2.2.2) (rx_args 0 a, [], w, 0, 0)) none
theorem rx_run_s (MT : Nat → rx_M) (n : Nat) (full : rx_P) (q : Nat × rx_T) (rest : rx_P) (st : rx_S) : rx_run MT (n + 1) full (q :: rest) st = match q.2 (rx_call MT n) st with
        | none => none
        | some (.inr r) => some r
        | some (.inl (pc, st')) => rx_run MT n full (rx_next full pc rest) st' := rfl
/-- the tables, as they stay -/
def rx_K (D : va_G) (cl : List vw_C) (TY : List (ClassId × FieldType)) (NW : List (String × Nat × MethodName × String)) (OC : List String) (U : State) : Prop :=
  va_K D cl TY U ∧ (∀ w ∈ NW, va_Nw (.methodLinkNest w.1 w.2.1 w.2.2.1 w.2.2.2) U) ∧ ∀ C ∈ OC, va_AO C U
theorem rx_K.warm {D : va_G} {cl : List vw_C} {TY : List (ClassId × FieldType)} {NW : List (String × Nat × MethodName × String)} {OC : List String} {s U : State} (h : rx_K D cl TY NW OC s) (hW : s.WarmedH U.vm) : rx_K D cl TY NW OC U :=
  ⟨va_K.moved hW.alike h.1, fun w hw => va_Nw.warmM hW (h.2.1 w hw), fun C hC => va_AO.moved hW.alike (h.2.2 C hC)⟩
theorem rx_K.same {D : va_G} {cl : List vw_C} {TY : List (ClassId × FieldType)} {NW : List (String × Nat × MethodName × String)} {OC : List String} {s U : State} (h : rx_K D cl TY NW OC s) (hv : s.vm = U.vm) : rx_K D cl TY NW OC U :=
  ⟨va_K.moved (by rw [hv]; exact Vm.Alike.refl U.vm) h.1, fun w hw => va_Nw.same rfl hv (h.2.1 w hw), fun C hC => va_AO.moved (by rw [hv]; exact Vm.Alike.refl U.vm) (h.2.2 C hC)⟩
/-- the world around all methods: launch, class numbers, classes, array classes, words, unknown ints -/
abbrev rx_G : Type := Launch × va_G × List vw_C × (Nat → ClassId) × List (ClassId × FieldType) × List (String × Nat × MethodName × String) × List String × List Cond × (Nat → Int32)
abbrev rx_G.l (G : rx_G) : Launch := G.1
abbrev rx_G.D (G : rx_G) : va_G := G.2.1
abbrev rx_G.cl (G : rx_G) : List vw_C := G.2.2.1
abbrev rx_G.cy (G : rx_G) : Nat → ClassId := G.2.2.2.1
abbrev rx_G.TY (G : rx_G) : List (ClassId × FieldType) := G.2.2.2.2.1
abbrev rx_G.NW (G : rx_G) : List (String × Nat × MethodName × String) := G.2.2.2.2.2.1
abbrev rx_G.OC (G : rx_G) : List String := G.2.2.2.2.2.2.1
abbrev rx_G.gT (G : rx_G) : List Cond := G.2.2.2.2.2.2.2.1
abbrev rx_G.sg (G : rx_G) : Nat → Int32 := G.2.2.2.2.2.2.2.2
/-- how a method ends -/
def rx_Q (G : rx_G) (ρ0 : List Nat) (r : rx_R) (A : Nat → Prop) : Array Value → State → Outcome → State → Prop := fun _ st oc t =>
  (∃ (v : Option Value) (tl : List Nat) (cws : va_W), oc = .returned v ∧ rx_o (ρ0 ++ tl) G.sg r.1 v ∧ rx_w (ρ0 ++ tl) G.sg G.cy r.2 cws ∧ va_P G.D G.cl cws t.heap ∧ va_D A cws) ∧ va_F A st t
def rx_Pc (G : rx_G) (ca : List Value) (cws : va_W) (sz : Nat) : Array Value → State → Prop := va_Pc ca (fun U => U.heap.size = sz ∧ va_P G.D G.cl cws U.heap ∧ rx_K G.D G.cl G.TY G.NW G.OC U ∧ va_D (fun _ => True) cws)
theorem rx_Pc.blind (G : rx_G) (ca : List Value) (cws : va_W) (sz : Nat) : FrameBlind (rx_Pc G ca cws sz) := by
  intro a U g mk h
  obtain ⟨h0, h1, h2, h3, h4⟩ := h
  exact ⟨h0, h1, h2, rx_K.same (s := U) (U := U.calling g mk a) h3 rfl, h4⟩
/-- a method's words: its code, and the tables' good ones -/
abbrev rx_ws (G : rx_G) (M : rx_M) : List Cond := Cond.code M.1 M.2.1 M.2.2.1 M.2.2.2.1 :: G.gT
/-- calls are answered as the real machine answers them -/
def rx_Ok (G : rx_G) (MT : Nat → rx_M) (rec : rx_C) : Prop :=
  ∀ (mid : Nat) (a : List Value) (ws : rx_W) (r : rx_R), rec mid a ws = some r → ∀ (ρ : List Nat) (cws : va_W) (sz : Nat) (ca : List Value), rx_w ρ G.sg G.cy ws cws → rx_l ρ G.sg a ca →
    Met G.l (MT mid).1 (rx_ws G (MT mid)) (MT mid).2.2.2.2.1 (rx_Pc G ca cws sz) (rx_Q G ρ r (va_A cws sz)) (MT mid).2.2.2.2.1.cells (MT mid).2.2.2.2.1.slots (va_A cws sz)
/-- what holds all through a method -/
def rx_X (G : rx_G) (M : rx_M) (p : Program) (s : State) (m : MethodId) (args : Array Value) (meth : Method) (c : Code) (A : Nat → Prop) : Prop :=
  p.tables.exec = Jvm.exec ∧ c.code = M.2.1 ∧ c.maxLocals = M.2.2.1 ∧ meth.sig.returnType = M.2.2.2.1 ∧ s.vm.findClass M.1.cls = some m.cls ∧ (∀ w ∈ G.gT, w.before args s = true) ∧ meth.locks = false ∧ meth.name = M.1.name ∧ rx_K G.D G.cl G.TY G.NW G.OC s ∧ ∀ q, s.heap.size ≤ q → A q
/-- the machine, at a place with what the state stands for, comes to the method's end -/
def rx_Go (G : rx_G) (M : rx_M) (p : Program) (e : Env) (s : State) (m : MethodId) (args : Array Value) (below : List Frame) (meth : Method) (c : Code) (A : Nat → Prop) (ρ0 : List Nat) (r : rx_R) (pc : Nat) (st : rx_S) : Prop :=
  ∀ (tl : List Nat) (cws : va_W) (H : Heap) (locs : List Loc) (ls : Array Slot) (cst : List Value) (clv : rx_L), rx_w (ρ0 ++ tl) G.sg G.cy st.2.2.1 cws → va_P G.D G.cl cws H → va_D A cws → va_S A s.heap H locs →
    rx_lv (ρ0 ++ tl) G.sg st.1 clv → lv_has ls M.2.2.1 clv → rx_l (ρ0 ++ tl) G.sg st.2.1 cst →
    W p G.l e M.2.2.2.2.1 s m args below meth c H locs st.2.2.2.1 st.2.2.2.2 (MQ below (rx_Q G ρ0 r A) args s M.2.2.2.2.1.cells M.2.2.2.2.1.slots A) (F0 m pc ls cst)
/-- an instruction's rule is sound -/
def rx_Sd (G : rx_G) (MT : Nat → rx_M) (M : rx_M) (pc : Nat) (tr : rx_T) : Prop :=
  ∀ (p : Program) (e : Env) (s : State) (m : MethodId) (args : Array Value) (below : List Frame) (meth : Method) (c : Code) (A : Nat → Prop), rx_X G M p s m args meth c A → ∀ rec : rx_C, rx_Ok G MT rec → ∀ (st : rx_S) (o : rx_O), tr rec st = some o → ∀ (ρ0 : List Nat) (r : rx_R),
    (match o with
      | .inl (pc', st') => rx_Go G M p e s m args below meth c A ρ0 r pc' st'
      | .inr r' => r' = r) → rx_Go G M p e s m args below meth c A ρ0 r pc st
theorem rx_seek_ok {pc : Nat} : ∀ {full : rx_P} {q : Nat × rx_T} {rest : rx_P}, rx_seek pc full = q :: rest → q.1 = pc ∧ ∀ x ∈ q :: rest, x ∈ full
  | [], _, _, h => by simp [rx_seek] at h
  | x :: t, q, rest, h => by
    simp only [rx_seek] at h
    cases hb : Nat.beq x.1 pc with
    | true =>
      rw [hb] at h
      simp only [cond_true] at h
      cases h
      exact ⟨Nat.eq_of_beq_eq_true hb, fun _ h => h⟩
    | false =>
      rw [hb] at h
      obtain ⟨h1, h2⟩ := rx_seek_ok (full := t) h
      exact ⟨h1, fun y hy => List.mem_cons_of_mem _ (h2 y hy)⟩
theorem rx_next_ok {pc : Nat} {full rest0 : rx_P} (h0 : ∀ x ∈ rest0, x ∈ full) {q : Nat × rx_T} {rest : rx_P} (h : rx_next full pc rest0 = q :: rest) : q.1 = pc ∧ ∀ x ∈ q :: rest, x ∈ full := by
  cases rest0 with
  | nil => exact rx_seek_ok h
  | cons x t =>
    simp only [rx_next] at h
    cases hb : Nat.beq x.1 pc with
    | true =>
      rw [hb] at h
      simp only [cond_true] at h
      cases h
      exact ⟨Nat.eq_of_beq_eq_true hb, h0⟩
    | false =>
      rw [hb] at h
      exact rx_seek_ok h
/-- the methods' programs are sound, rule by rule -/
def rx_All (G : rx_G) (MT : Nat → rx_M) : Prop := ∀ mid : Nat, (MT mid).2.2.2.2.2 ≠ [] → plainName (MT mid).1.cls = true ∧ ∀ q ∈ (MT mid).2.2.2.2.2, rx_Sd G MT (MT mid) q.1 q.2
theorem rx_sound {G : rx_G} {MT : Nat → rx_M} (hall : rx_All G MT) : ∀ n : Nat, rx_Ok G MT (rx_call MT n) ∧
    ∀ (M : rx_M) (full suf : rx_P) (st : rx_S) (r : rx_R), (∀ q ∈ full, rx_Sd G MT M q.1 q.2) → (∀ q ∈ suf, q ∈ full) → rx_run MT n full suf st = some r →
      ∀ (q : Nat × rx_T) (rest : rx_P), suf = q :: rest → ∀ (p : Program) (e : Env) (s : State) (m : MethodId) (args : Array Value) (below : List Frame) (meth : Method) (c : Code) (A : Nat → Prop), rx_X G M p s m args meth c A → ∀ ρ0 : List Nat, rx_Go G M p e s m args below meth c A ρ0 r q.1 st := by
  have top : ∀ n : Nat, (∀ (M : rx_M) (full suf : rx_P) (st : rx_S) (r : rx_R), (∀ q ∈ full, rx_Sd G MT M q.1 q.2) → (∀ q ∈ suf, q ∈ full) → rx_run MT n full suf st = some r →
      ∀ (q : Nat × rx_T) (rest : rx_P), suf = q :: rest → ∀ (p : Program) (e : Env) (s : State) (m : MethodId) (args : Array Value) (below : List Frame) (meth : Method) (c : Code) (A : Nat → Prop), rx_X G M p s m args meth c A → ∀ ρ0 : List Nat, rx_Go G M p e s m args below meth c A ρ0 r q.1 st) → rx_Ok G MT (rx_call MT n) := by
    intro n ih mid a ws r hrun ρ cws sz ca hw ha
    unfold rx_call at hrun
    cases hsz : Nat.ble (a.map rx_cat).sum (MT mid).2.2.1 with
    | false => rw [hsz] at hrun; cases hrun
    | true =>
      rw [hsz] at hrun
      simp only [cond_true] at hrun
      have hsz := Nat.le_of_ble_eq_true hsz
      cases hs : rx_seek 0 (MT mid).2.2.2.2.2 with
      | nil =>
        rw [hs] at hrun
        cases n with
        | zero => cases hrun
        | succ n => cases hrun
      | cons q rest =>
        obtain ⟨hq0, hin⟩ := rx_seek_ok hs
        rw [hs] at hrun
        have hne : (MT mid).2.2.2.2.2 ≠ [] := fun h => by rw [h] at hs; cases hs
        obtain ⟨hpl, hsd⟩ := hall mid hne
        refine Met.ofW (cc := (MT mid).2.1) (maxL := (MT mid).2.2.1) (ret := (MT mid).2.2.2.1) (ws' := G.gT) hpl rfl ?_
        intro p e s m args below meth c s₁ B hml hv
        obtain ⟨rfl, hz, hP, hK, hD0⟩ := hv
        have hts := atoms_spec (ws := rx_ws G (MT mid)) B.pre
        have hl := lv_entry ca (n := (MT mid).2.2.1) (by rw [rx_sl_len, ha.cats]; exact hsz)
        have X : rx_X G (MT mid) p s m ca.toArray meth c (va_A cws sz) := ⟨B.exec, B.bytes, hml, B.returns, findClass_of_methodNamed B.named, fun w hw => hts w (List.mem_cons_of_mem _ hw), B.notSynchronized, (name_of_methodNamed B.named B.method).1, hK, fun q hq => Or.inr (by rw [← hz]; exact hq)⟩
        have K := ih (MT mid) (MT mid).2.2.2.2.2 (q :: rest) (rx_args 0 a, [], ws, 0, 0) r hsd hin hrun q rest rfl p e s m ca.toArray below meth c (va_A cws sz) X ρ
        rw [hq0] at K
        rw [lg_entry_eq]
        refine K [] cws s.heap [] _ [] (lv_args 0 ca) ?_ hP hD0.self va_S.rf ?_ hl trivial
        · rw [List.append_nil]; exact hw
        · rw [List.append_nil]; exact ha.args 0
  intro n
  induction n with
  | zero =>
    have h0 : ∀ (M : rx_M) (full suf : rx_P) (st : rx_S) (r : rx_R), (∀ q ∈ full, rx_Sd G MT M q.1 q.2) → (∀ q ∈ suf, q ∈ full) → rx_run MT 0 full suf st = some r →
      ∀ (q : Nat × rx_T) (rest : rx_P), suf = q :: rest → ∀ (p : Program) (e : Env) (s : State) (m : MethodId) (args : Array Value) (below : List Frame) (meth : Method) (c : Code) (A : Nat → Prop), rx_X G M p s m args meth c A → ∀ ρ0 : List Nat, rx_Go G M p e s m args below meth c A ρ0 r q.1 st := by
      intro M full suf st r _ _ h
      cases h
    exact ⟨top 0 h0, h0⟩
  | succ n ih =>
    have h1 : ∀ (M : rx_M) (full suf : rx_P) (st : rx_S) (r : rx_R), (∀ q ∈ full, rx_Sd G MT M q.1 q.2) → (∀ q ∈ suf, q ∈ full) → rx_run MT (n + 1) full suf st = some r →
      ∀ (q : Nat × rx_T) (rest : rx_P), suf = q :: rest → ∀ (p : Program) (e : Env) (s : State) (m : MethodId) (args : Array Value) (below : List Frame) (meth : Method) (c : Code) (A : Nat → Prop), rx_X G M p s m args meth c A → ∀ ρ0 : List Nat, rx_Go G M p e s m args below meth c A ρ0 r q.1 st := by
      intro M full suf st r hsd hin hrun q rest hsuf p e s m args below meth c A X ρ0
      subst hsuf
      rw [rx_run_s] at hrun
      have hq := hsd q (hin q List.mem_cons_self) p e s m args below meth c A X (rx_call MT n) ih.1 st
      cases ho : q.2 (rx_call MT n) st with
      | none => rw [ho] at hrun; cases hrun
      | some o =>
        rw [ho] at hrun
        refine hq o ho ρ0 r ?_
        match o, hrun with
        | .inr r', hrun => exact Option.some.inj hrun
        | .inl (pc', st'), hrun =>
          show rx_Go G M p e s m args below meth c A ρ0 r pc' st'
          have hrun : rx_run MT n full (rx_next full pc' rest) st' = some r := hrun
          cases hn : rx_next full pc' rest with
          | nil =>
            rw [hn] at hrun
            cases n with
            | zero => cases hrun
            | succ n => cases hrun
          | cons q' rest' =>
            obtain ⟨g1, g2⟩ := rx_next_ok (fun x hx => hin x (List.mem_cons_of_mem _ hx)) hn
            rw [hn] at hrun
            have := ih.2 M full (q' :: rest') st' r hsd g2 hrun q' rest' rfl p e s m args below meth c A X ρ0
            rw [g1] at this
            exact this
    exact ⟨top (n + 1) h1, h1⟩
end
section
/-! RULES THAT TOUCH NO CELL -/
def rx_Step (cc : ByteArray) (pc pc' : Nat) (st st' : List Value) : Prop := ∀ (p : Program) (l : Launch) (e : Env) (R : Room) (s : State) (m : MethodId) (args : Array Value) (below : List Frame) (meth : Method) (c : Code) (H : Heap) (locs : List Loc) (cells slots : Nat) (Q : State → Prop) (ls : Array Slot),
  p.tables.exec = Jvm.exec → c.code = cc → W p l e R s m args below meth c H locs cells slots Q (F0 m pc' ls st') → W p l e R s m args below meth c H locs cells slots Q (F0 m pc ls st)
def rx_pure (f : List Value → Option (List Value)) (pc' : Nat) : rx_T := fun _ st => match f st.2.1 with
  | none => none
  | some k => some (.inl (pc', (st.1, k, st.2.2)))
theorem rx_sd_pure {G : rx_G} {MT : Nat → rx_M} {M : rx_M} {pc pc' : Nat} {f : List Value → Option (List Value)} (hf : ∀ (ρ : List Nat) (st cst st' : List Value), f st = some st' → rx_l ρ G.sg st cst → ∃ cst', rx_l ρ G.sg st' cst' ∧ rx_Step M.2.1 pc pc' cst cst') : rx_Sd G MT M pc (rx_pure f pc') := by
  intro p e s m args below meth c A X rec hrec st o h ρ0 r hgo
  obtain ⟨hx, hb, hml, hr, hown, hts, hlk, hnm, hK, hA⟩ := X
  unfold rx_pure at h
  cases hk : f st.2.1 with
  | none => rw [hk] at h; cases h
  | some k =>
    rw [hk] at h
    cases h
    intro tl cws H locs ls cst clv hw hP hD hS hlv hl hst
    obtain ⟨cst', g1, g2⟩ := hf (ρ0 ++ tl) st.2.1 cst k hk hst
    exact g2 p G.l e _ s m args below meth c H locs _ _ _ ls hx hb (hgo tl cws H locs ls cst' clv hw hP hD hS hlv hl g1)
section PU
variable {G : rx_G} {MT : Nat → rx_M} {M : rx_M} {pc : Nat}
def rx_push (v : Value) : List Value → Option (List Value) := fun st => some (v :: st)
theorem rx_sd_push {pc' : Nat} {v : Value} (hv : ∀ ρ, rx_v ρ G.sg v v) (hs : ∀ st, rx_Step M.2.1 pc pc' st (v :: st)) : rx_Sd G MT M pc (rx_pure (rx_push v) pc') := by
  refine rx_sd_pure (fun ρ st cst st' h hst => ?_)
  cases h
  exact ⟨v :: cst, ⟨hv ρ, hst⟩, hs cst⟩
theorem rx_sd_iconst {n : Int} {x : Int32} (d : decode M.2.1 pc = .ok (.iconst n, 1)) (hv : Int32.ofInt n = x) : rx_Sd G MT M pc (rx_pure (rx_push (.int x)) (pc + 1)) :=
  rx_sd_push (fun _ => rfl) (fun st p l e R s m args below meth c H locs cells slots Q ls hx hb k => lv_iconst hx hb d hv k)
theorem rx_sd_bipush {n : Int} {x : Int32} (d : decode M.2.1 pc = .ok (.bipush n, 2)) (hv : (Int8.ofInt n).toInt32 = x) : rx_Sd G MT M pc (rx_pure (rx_push (.int x)) (pc + 2)) :=
  rx_sd_push (fun _ => rfl) (fun st p l e R s m args below meth c H locs cells slots Q ls hx hb k => lv_bipush hx hb d hv k)
theorem rx_sd_sipush {n : Int} {x : Int32} (d : decode M.2.1 pc = .ok (.sipush n, 3)) (hv : (Int16.ofInt n).toInt32 = x) : rx_Sd G MT M pc (rx_pure (rx_push (.int x)) (pc + 3)) :=
  rx_sd_push (fun _ => rfl) (fun st p l e R s m args below meth c H locs cells slots Q ls hx hb k => lv_sipush hx hb d hv k)
theorem rx_sd_lconst {n : Fin 2} {x : Int64} (d : decode M.2.1 pc = .ok (.lconst n, 1)) (hv : Int64.ofNat (n : Nat) = x) : rx_Sd G MT M pc (rx_pure (rx_push (.long x)) (pc + 1)) :=
  rx_sd_push (fun _ => rfl) (fun st p l e R s m args below meth c H locs cells slots Q ls hx hb k => lv_lconst hx hb d hv k)
theorem rx_sd_null (d : decode M.2.1 pc = .ok (.aconst_null, 1)) : rx_Sd G MT M pc (rx_pure (rx_push .null) (pc + 1)) :=
  rx_sd_push (fun _ => rfl) (fun st p l e R s m args below meth c H locs cells slots Q ls hx hb k => lv_null hx hb d k)
noncomputable def rx_bi (g : Int32 → Int32 → Int32) : List Value → Option (List Value)
  | .int y :: .int x :: r => rx_fI (g x y) (fun z => some (.int z :: r))
  | _ => none
theorem rx_sd_bi {pc' : Nat} {g : Int32 → Int32 → Int32} (hs : ∀ x y r, rx_Step M.2.1 pc pc' (.int y :: .int x :: r) (.int (g x y) :: r)) : rx_Sd G MT M pc (rx_pure (rx_bi g) pc') := by
  refine rx_sd_pure (fun ρ st cst st' h hst => ?_)
  match st, cst, h, hst with
  | .int y :: .int x :: r, w1 :: w2 :: cr, h, ⟨h1, h2, h3⟩ =>
    simp only [rx_bi, rx_fI_eq] at h
    cases h; cases h1; cases h2
    exact ⟨.int (g x y) :: cr, ⟨rfl, h3⟩, hs x y cr⟩
theorem rx_sd_iadd (d : decode M.2.1 pc = .ok (.iadd, 1)) : rx_Sd G MT M pc (rx_pure (rx_bi (fun x y => x + y)) (pc + 1)) :=
  rx_sd_bi (fun x y r p l e R s m args below meth c H locs cells slots Q ls hx hb k => lv_iadd hx hb d k)
theorem rx_sd_isub (d : decode M.2.1 pc = .ok (.isub, 1)) : rx_Sd G MT M pc (rx_pure (rx_bi (fun x y => x - y)) (pc + 1)) :=
  rx_sd_bi (fun x y r p l e R s m args below meth c H locs cells slots Q ls hx hb k => lv_isub hx hb d k)
theorem rx_sd_imul (d : decode M.2.1 pc = .ok (.imul, 1)) : rx_Sd G MT M pc (rx_pure (rx_bi (fun x y => x * y)) (pc + 1)) :=
  rx_sd_bi (fun x y r p l e R s m args below meth c H locs cells slots Q ls hx hb k => lv_imul hx hb d k)
theorem rx_sd_iand (d : decode M.2.1 pc = .ok (.iand, 1)) : rx_Sd G MT M pc (rx_pure (rx_bi (fun x y => x &&& y)) (pc + 1)) :=
  rx_sd_bi (fun x y r p l e R s m args below meth c H locs cells slots Q ls hx hb k => lv_iand hx hb d k)
theorem rx_sd_ior (d : decode M.2.1 pc = .ok (.ior, 1)) : rx_Sd G MT M pc (rx_pure (rx_bi (fun x y => x ||| y)) (pc + 1)) :=
  rx_sd_bi (fun x y r p l e R s m args below meth c H locs cells slots Q ls hx hb k => lv_ior hx hb d k)
theorem rx_sd_ixor (d : decode M.2.1 pc = .ok (.ixor, 1)) : rx_Sd G MT M pc (rx_pure (rx_bi (fun x y => x ^^^ y)) (pc + 1)) :=
  rx_sd_bi (fun x y r p l e R s m args below meth c H locs cells slots Q ls hx hb k => lv_ixor hx hb d k)
theorem rx_sd_ishl (d : decode M.2.1 pc = .ok (.ishl, 1)) : rx_Sd G MT M pc (rx_pure (rx_bi (fun x y => x <<< (y &&& 31))) (pc + 1)) :=
  rx_sd_bi (fun x y r p l e R s m args below meth c H locs cells slots Q ls hx hb k => lv_ishl hx hb d k)
theorem rx_sd_ishr (d : decode M.2.1 pc = .ok (.ishr, 1)) : rx_Sd G MT M pc (rx_pure (rx_bi (fun x y => x >>> (y &&& 31))) (pc + 1)) :=
  rx_sd_bi (fun x y r p l e R s m args below meth c H locs cells slots Q ls hx hb k => lv_ishr hx hb d k)
theorem rx_sd_iushr (d : decode M.2.1 pc = .ok (.iushr, 1)) : rx_Sd G MT M pc (rx_pure (rx_bi (fun x y => (x.toUInt32 >>> (y.toUInt32 &&& Int32.toUInt32 31)).toInt32)) (pc + 1)) :=
  rx_sd_bi (fun x y r p l e R s m args below meth c H locs cells slots Q ls hx hb k => lv_iushr hx hb d rfl k)
noncomputable def rx_bid (g : Int32 → Int32 → Int32) : List Value → Option (List Value)
  | .int y :: .int x :: r => if y = 0 then none else rx_fI (g x y) (fun z => some (.int z :: r))
  | _ => none
theorem rx_sd_bid {pc' : Nat} {g : Int32 → Int32 → Int32} (hs : ∀ x y r, ¬ y = 0 → rx_Step M.2.1 pc pc' (.int y :: .int x :: r) (.int (g x y) :: r)) : rx_Sd G MT M pc (rx_pure (rx_bid g) pc') := by
  refine rx_sd_pure (fun ρ st cst st' h hst => ?_)
  match st, cst, h, hst with
  | .int y :: .int x :: r, w1 :: w2 :: cr, h, ⟨h1, h2, h3⟩ =>
    simp only [rx_bid, rx_fI_eq] at h
    split at h
    · cases h
    · next hy =>
      cases h; cases h1; cases h2
      exact ⟨.int (g x y) :: cr, ⟨rfl, h3⟩, hs x y cr hy⟩
theorem rx_sd_idiv (d : decode M.2.1 pc = .ok (.idiv, 1)) : rx_Sd G MT M pc (rx_pure (rx_bid (fun x y => x / y)) (pc + 1)) :=
  rx_sd_bid (fun x y r hy p l e R s m args below meth c H locs cells slots Q ls hx hb k => lv_idiv hx hb d hy k)
theorem rx_sd_irem (d : decode M.2.1 pc = .ok (.irem, 1)) : rx_Sd G MT M pc (rx_pure (rx_bid (fun x y => x - x / y * y)) (pc + 1)) :=
  rx_sd_bid (fun x y r hy p l e R s m args below meth c H locs cells slots Q ls hx hb k => lv_irem hx hb d hy k)
noncomputable def rx_lb (g : Int64 → Int64 → Int64) : List Value → Option (List Value)
  | .long y :: .long x :: r => rx_fL (g x y) (fun z => some (.long z :: r))
  | _ => none
theorem rx_sd_lb {pc' : Nat} {g : Int64 → Int64 → Int64} (hs : ∀ x y r, rx_Step M.2.1 pc pc' (.long y :: .long x :: r) (.long (g x y) :: r)) : rx_Sd G MT M pc (rx_pure (rx_lb g) pc') := by
  refine rx_sd_pure (fun ρ st cst st' h hst => ?_)
  match st, cst, h, hst with
  | .long y :: .long x :: r, w1 :: w2 :: cr, h, ⟨h1, h2, h3⟩ =>
    simp only [rx_lb, rx_fL_eq] at h
    cases h; cases h1; cases h2
    exact ⟨.long (g x y) :: cr, ⟨rfl, h3⟩, hs x y cr⟩
theorem rx_sd_ladd (d : decode M.2.1 pc = .ok (.ladd, 1)) : rx_Sd G MT M pc (rx_pure (rx_lb (fun x y => x + y)) (pc + 1)) :=
  rx_sd_lb (fun x y r p l e R s m args below meth c H locs cells slots Q ls hx hb k => lv_ladd hx hb d k)
theorem rx_sd_lsub (d : decode M.2.1 pc = .ok (.lsub, 1)) : rx_Sd G MT M pc (rx_pure (rx_lb (fun x y => x - y)) (pc + 1)) :=
  rx_sd_lb (fun x y r p l e R s m args below meth c H locs cells slots Q ls hx hb k => lv_lsub hx hb d k)
theorem rx_sd_lmul (d : decode M.2.1 pc = .ok (.lmul, 1)) : rx_Sd G MT M pc (rx_pure (rx_lb (fun x y => x * y)) (pc + 1)) :=
  rx_sd_lb (fun x y r p l e R s m args below meth c H locs cells slots Q ls hx hb k => lv_lmul hx hb d k)
theorem rx_sd_land (d : decode M.2.1 pc = .ok (.land, 1)) : rx_Sd G MT M pc (rx_pure (rx_lb (fun x y => x &&& y)) (pc + 1)) :=
  rx_sd_lb (fun x y r p l e R s m args below meth c H locs cells slots Q ls hx hb k => lv_land hx hb d k)
theorem rx_sd_lor (d : decode M.2.1 pc = .ok (.lor, 1)) : rx_Sd G MT M pc (rx_pure (rx_lb (fun x y => x ||| y)) (pc + 1)) :=
  rx_sd_lb (fun x y r p l e R s m args below meth c H locs cells slots Q ls hx hb k => lv_lor hx hb d k)
theorem rx_sd_lxor (d : decode M.2.1 pc = .ok (.lxor, 1)) : rx_Sd G MT M pc (rx_pure (rx_lb (fun x y => x ^^^ y)) (pc + 1)) :=
  rx_sd_lb (fun x y r p l e R s m args below meth c H locs cells slots Q ls hx hb k => lv_lxor hx hb d k)
noncomputable def rx_lbd (g : Int64 → Int64 → Int64) : List Value → Option (List Value)
  | .long y :: .long x :: r => if y = 0 then none else rx_fL (g x y) (fun z => some (.long z :: r))
  | _ => none
theorem rx_sd_lbd {pc' : Nat} {g : Int64 → Int64 → Int64} (hs : ∀ x y r, ¬ y = 0 → rx_Step M.2.1 pc pc' (.long y :: .long x :: r) (.long (g x y) :: r)) : rx_Sd G MT M pc (rx_pure (rx_lbd g) pc') := by
  refine rx_sd_pure (fun ρ st cst st' h hst => ?_)
  match st, cst, h, hst with
  | .long y :: .long x :: r, w1 :: w2 :: cr, h, ⟨h1, h2, h3⟩ =>
    simp only [rx_lbd, rx_fL_eq] at h
    split at h
    · cases h
    · next hy =>
      cases h; cases h1; cases h2
      exact ⟨.long (g x y) :: cr, ⟨rfl, h3⟩, hs x y cr hy⟩
theorem rx_sd_ldiv (d : decode M.2.1 pc = .ok (.ldiv, 1)) : rx_Sd G MT M pc (rx_pure (rx_lbd (fun x y => x / y)) (pc + 1)) :=
  rx_sd_lbd (fun x y r hy p l e R s m args below meth c H locs cells slots Q ls hx hb k => lv_ldiv hx hb d hy k)
theorem rx_sd_lrem (d : decode M.2.1 pc = .ok (.lrem, 1)) : rx_Sd G MT M pc (rx_pure (rx_lbd (fun x y => x - x / y * y)) (pc + 1)) :=
  rx_sd_lbd (fun x y r hy p l e R s m args below meth c H locs cells slots Q ls hx hb k => lv_lrem hx hb d hy k)
noncomputable def rx_ls (g : Int64 → Int32 → Int64) : List Value → Option (List Value)
  | .int y :: .long x :: r => rx_fL (g x y) (fun z => some (.long z :: r))
  | _ => none
theorem rx_sd_ls {pc' : Nat} {g : Int64 → Int32 → Int64} (hs : ∀ x y r, rx_Step M.2.1 pc pc' (.int y :: .long x :: r) (.long (g x y) :: r)) : rx_Sd G MT M pc (rx_pure (rx_ls g) pc') := by
  refine rx_sd_pure (fun ρ st cst st' h hst => ?_)
  match st, cst, h, hst with
  | .int y :: .long x :: r, w1 :: w2 :: cr, h, ⟨h1, h2, h3⟩ =>
    simp only [rx_ls, rx_fL_eq] at h
    cases h; cases h1; cases h2
    exact ⟨.long (g x y) :: cr, ⟨rfl, h3⟩, hs x y cr⟩
theorem rx_sd_lshl (d : decode M.2.1 pc = .ok (.lshl, 1)) : rx_Sd G MT M pc (rx_pure (rx_ls (fun x y => x <<< (y.toInt64 &&& 63))) (pc + 1)) :=
  rx_sd_ls (fun x y r p l e R s m args below meth c H locs cells slots Q ls hx hb k => lv_lshl hx hb d rfl k)
theorem rx_sd_lshr (d : decode M.2.1 pc = .ok (.lshr, 1)) : rx_Sd G MT M pc (rx_pure (rx_ls (fun x y => x >>> (y.toInt64 &&& 63))) (pc + 1)) :=
  rx_sd_ls (fun x y r p l e R s m args below meth c H locs cells slots Q ls hx hb k => lv_lshr hx hb d rfl k)
theorem rx_sd_lushr (d : decode M.2.1 pc = .ok (.lushr, 1)) : rx_Sd G MT M pc (rx_pure (rx_ls (fun x y => (x.toUInt64 >>> (y.toInt64.toUInt64 &&& Int64.toUInt64 63)).toInt64)) (pc + 1)) :=
  rx_sd_ls (fun x y r p l e R s m args below meth c H locs cells slots Q ls hx hb k => lv_lushr hx hb d rfl k)
noncomputable def rx_ineg : List Value → Option (List Value)
  | .int x :: r => rx_fI (-x) (fun z => some (.int z :: r))
  | _ => none
theorem rx_sd_ineg (d : decode M.2.1 pc = .ok (.ineg, 1)) : rx_Sd G MT M pc (rx_pure rx_ineg (pc + 1)) := by
  refine rx_sd_pure (fun ρ st cst st' h hst => ?_)
  match st, cst, h, hst with
  | .int x :: r, w1 :: cr, h, ⟨h1, h3⟩ =>
    simp only [rx_ineg, rx_fI_eq] at h
    cases h; cases h1
    exact ⟨.int (-x) :: cr, ⟨rfl, h3⟩, fun p l e R s m args below meth c H locs cells slots Q ls hx hb k => lv_ineg hx hb d k⟩
noncomputable def rx_lneg : List Value → Option (List Value)
  | .long x :: r => rx_fL (-x) (fun z => some (.long z :: r))
  | _ => none
theorem rx_sd_lneg (d : decode M.2.1 pc = .ok (.lneg, 1)) : rx_Sd G MT M pc (rx_pure rx_lneg (pc + 1)) := by
  refine rx_sd_pure (fun ρ st cst st' h hst => ?_)
  match st, cst, h, hst with
  | .long x :: r, w1 :: cr, h, ⟨h1, h3⟩ =>
    simp only [rx_lneg, rx_fL_eq] at h
    cases h; cases h1
    exact ⟨.long (-x) :: cr, ⟨rfl, h3⟩, fun p l e R s m args below meth c H locs cells slots Q ls hx hb k => lv_lneg hx hb d k⟩
noncomputable def rx_i2l : List Value → Option (List Value)
  | .int x :: r => rx_fL x.toInt64 (fun z => some (.long z :: r))
  | _ => none
theorem rx_sd_i2l (d : decode M.2.1 pc = .ok (.i2l, 1)) : rx_Sd G MT M pc (rx_pure rx_i2l (pc + 1)) := by
  refine rx_sd_pure (fun ρ st cst st' h hst => ?_)
  match st, cst, h, hst with
  | .int x :: r, w1 :: cr, h, ⟨h1, h3⟩ =>
    simp only [rx_i2l, rx_fL_eq] at h
    cases h; cases h1
    exact ⟨.long x.toInt64 :: cr, ⟨rfl, h3⟩, fun p l e R s m args below meth c H locs cells slots Q ls hx hb k => lv_i2l hx hb d rfl k⟩
noncomputable def rx_l2i : List Value → Option (List Value)
  | .long x :: r => rx_fI x.toInt32 (fun z => some (.int z :: r))
  | _ => none
theorem rx_sd_l2i (d : decode M.2.1 pc = .ok (.l2i, 1)) : rx_Sd G MT M pc (rx_pure rx_l2i (pc + 1)) := by
  refine rx_sd_pure (fun ρ st cst st' h hst => ?_)
  match st, cst, h, hst with
  | .long x :: r, w1 :: cr, h, ⟨h1, h3⟩ =>
    simp only [rx_l2i, rx_fI_eq] at h
    cases h; cases h1
    exact ⟨.int x.toInt32 :: cr, ⟨rfl, h3⟩, fun p l e R s m args below meth c H locs cells slots Q ls hx hb k => lv_l2i hx hb d rfl k⟩
noncomputable def rx_lcmp : List Value → Option (List Value)
  | .long y :: .long x :: r => rx_fI (lg_cmp x y) (fun z => some (.int z :: r))
  | _ => none
theorem rx_sd_lcmp (d : decode M.2.1 pc = .ok (.lcmp, 1)) : rx_Sd G MT M pc (rx_pure rx_lcmp (pc + 1)) := by
  refine rx_sd_pure (fun ρ st cst st' h hst => ?_)
  match st, cst, h, hst with
  | .long y :: .long x :: r, w1 :: w2 :: cr, h, ⟨h1, h2, h3⟩ =>
    simp only [rx_lcmp, rx_fI_eq] at h
    cases h; cases h1; cases h2
    exact ⟨.int (lg_cmp x y) :: cr, ⟨rfl, h3⟩, fun p l e R s m args below meth c H locs cells slots Q ls hx hb k => W.lcmp hx hb d k⟩
def rx_dup : List Value → Option (List Value)
  | v :: r => cond (Nat.beq (rx_cat v) 1) (some (v :: v :: r)) none
  | _ => none
theorem rx_cond_some {α : Type} {b : Bool} {x : Option α} {y : α} (h : cond b x none = some y) : b = true ∧ x = some y := by
  cases b with
  | true => exact ⟨rfl, h⟩
  | false => cases h
theorem rx_sd_dup (d : decode M.2.1 pc = .ok (.dup, 1)) : rx_Sd G MT M pc (rx_pure rx_dup (pc + 1)) := by
  refine rx_sd_pure (fun ρ st cst st' h hst => ?_)
  match st, cst, h, hst with
  | v :: r, w :: cr, h, ⟨h1, h3⟩ =>
    obtain ⟨g1, g2⟩ := rx_cond_some h
    cases g2
    exact ⟨w :: w :: cr, ⟨h1, h1, h3⟩, fun p l e R s m args below meth c H locs cells slots Q ls hx hb k => lv_dup hx hb d (h1.cat'.trans (Nat.eq_of_beq_eq_true g1)) k⟩
def rx_pop : List Value → Option (List Value)
  | v :: r => cond (Nat.beq (rx_cat v) 1) (some r) none
  | _ => none
theorem rx_sd_pop (d : decode M.2.1 pc = .ok (.pop, 1)) : rx_Sd G MT M pc (rx_pure rx_pop (pc + 1)) := by
  refine rx_sd_pure (fun ρ st cst st' h hst => ?_)
  match st, cst, h, hst with
  | v :: r, w :: cr, h, ⟨h1, h3⟩ =>
    obtain ⟨g1, g2⟩ := rx_cond_some h
    cases g2
    exact ⟨cr, h3, fun p l e R s m args below meth c H locs cells slots Q ls hx hb k => lv_pop hx hb d (h1.cat'.trans (Nat.eq_of_beq_eq_true g1)) k⟩
def rx_dup2 : List Value → Option (List Value)
  | v :: u :: r => cond (Nat.beq (rx_cat v) 1 && Nat.beq (rx_cat u) 1) (some (v :: u :: v :: u :: r)) none
  | _ => none
theorem rx_sd_dup2 (d : decode M.2.1 pc = .ok (.dup2, 1)) : rx_Sd G MT M pc (rx_pure rx_dup2 (pc + 1)) := by
  refine rx_sd_pure (fun ρ st cst st' h hst => ?_)
  match st, cst, h, hst with
  | v :: u :: r, w :: w2 :: cr, h, ⟨h1, h2, h3⟩ =>
    obtain ⟨g1, g2⟩ := rx_cond_some h
    cases g2
    rw [Bool.and_eq_true] at g1
    exact ⟨w :: w2 :: w :: w2 :: cr, ⟨h1, h2, h1, h2, h3⟩, fun p l e R s m args below meth c H locs cells slots Q ls hx hb k => lv_dup2_11 hx hb d (h1.cat'.trans (Nat.eq_of_beq_eq_true g1.1)) (h2.cat'.trans (Nat.eq_of_beq_eq_true g1.2)) k⟩
/-- branches -/
def rx_br (f : List Value → Option (Bool × List Value)) (tgt nxt : Nat) : rx_T := fun _ st => match f st.2.1 with
  | none => none
  | some (b, k) => some (.inl (cond b tgt nxt, (st.1, k, st.2.2)))
theorem rx_sd_br {tgt nxt : Nat} {f : List Value → Option (Bool × List Value)} (hf : ∀ (ρ : List Nat) (st cst st' : List Value) (b : Bool), f st = some (b, st') → rx_l ρ G.sg st cst → ∃ cst', rx_l ρ G.sg st' cst' ∧ rx_Step M.2.1 pc (cond b tgt nxt) cst cst') : rx_Sd G MT M pc (rx_br f tgt nxt) := by
  intro p e s m args below meth c A X rec hrec st o h ρ0 r hgo
  obtain ⟨hx, hb, hml, hr, hown, hts, hlk, hnm, hK, hA⟩ := X
  unfold rx_br at h
  cases hk : f st.2.1 with
  | none => rw [hk] at h; cases h
  | some k =>
    obtain ⟨b, k⟩ := k
    rw [hk] at h
    cases h
    intro tl cws H locs ls cst clv hw hP hD hS hlv hl hst
    obtain ⟨cst', g1, g2⟩ := hf (ρ0 ++ tl) st.2.1 cst k b hk hst
    exact g2 p G.l e _ s m args below meth c H locs _ _ _ ls hx hb (hgo tl cws H locs ls cst' clv hw hP hD hS hlv hl g1)
def rx_goto : List Value → Option (Bool × List Value) := fun st => some (true, st)
theorem rx_sd_goto {off : Int} {tgt nxt : Nat} (d : decode M.2.1 pc = .ok (.goto off, 3)) (ht : (pc : Int) + off = (tgt : Int)) : rx_Sd G MT M pc (rx_br rx_goto tgt nxt) := by
  refine rx_sd_br (fun ρ st cst st' b h hst => ?_)
  cases h
  exact ⟨cst, hst, fun p l e R s m args below meth c H locs cells slots Q ls hx hb k => lv_goto hx hb d ht k⟩
def rx_nul : List Value → Option (Bool × List Value)
  | .null :: r => some (true, r)
  | .ref _ :: r => some (false, r)
  | _ => none
theorem rx_sd_ifnull {off : Int} {tgt : Nat} (d : decode M.2.1 pc = .ok (.ifnull off, 3)) (ht : (pc : Int) + off = (tgt : Int)) : rx_Sd G MT M pc (rx_br rx_nul tgt (pc + 3)) := by
  refine rx_sd_br (fun ρ st cst st' b h hst => ?_)
  match st, cst, h, hst with
  | .null :: r, w :: cr, h, ⟨h1, h3⟩ =>
    cases h; cases h1
    exact ⟨cr, h3, fun p l e R s m args below meth c H locs cells slots Q ls hx hb k => lv_ifnullN hx hb d ht k⟩
  | .ref a :: r, w :: cr, h, ⟨h1, h3⟩ =>
    cases h
    obtain ⟨a', -, h1⟩ := h1
    cases h1
    exact ⟨cr, h3, fun p l e R s m args below meth c H locs cells slots Q ls hx hb k => lv_ifnull hx hb d k⟩
def rx_YOk (Y : rx_Y) (σ : Nat → Int32) : Prop := (∀ (n : Nat) (q : Int × Int), Y.1[n]? = some q → q.1 ≤ (σ n).toInt ∧ (σ n).toInt ≤ q.2) ∧ ∀ q ∈ Y.2, (σ q.1 < σ q.2.1 ↔ q.2.2 = true)
def rx_iv (Y : rx_Y) : Value → Option (Int × Int)
  | .int x => some (x.toInt, x.toInt)
  | .float n => Y.1[n.toNat]?
  | _ => none
theorem rx_iv_ok {Y : rx_Y} {ρ : List Nat} {σ : Nat → Int32} (hY : rx_YOk Y σ) {v w : Value} {q : Int × Int} (h : rx_iv Y v = some q) (hv : rx_v ρ σ v w) : ∃ x : Int32, w = .int x ∧ q.1 ≤ x.toInt ∧ x.toInt ≤ q.2 := by
  cases v with
  | int x => cases h; cases hv; exact ⟨x, rfl, Int.le_refl _, Int.le_refl _⟩
  | float n => cases hv; exact ⟨_, rfl, hY.1 _ _ h⟩
  | _ => cases h
def rx_rel : List (Nat × Nat × Bool) → Nat → Nat → Option Bool
  | [], _, _ => none
  | (a, b, c) :: t, i, j => cond (Nat.beq a i && Nat.beq b j) (some c) (rx_rel t i j)
theorem rx_rel_ok : ∀ {t : List (Nat × Nat × Bool)} {i j : Nat} {b : Bool}, rx_rel t i j = some b → (i, j, b) ∈ t
  | [], _, _, _, h => by cases h
  | (a, b, c) :: t, i, j, x, h => by
    simp only [rx_rel] at h
    cases hb : (Nat.beq a i && Nat.beq b j) with
    | true =>
      rw [hb] at h
      rw [Bool.and_eq_true] at hb
      have h1 := Nat.eq_of_beq_eq_true hb.1
      have h2 := Nat.eq_of_beq_eq_true hb.2
      cases h
      subst h1; subst h2
      exact List.mem_cons_self
    | false =>
      rw [hb] at h
      exact List.mem_cons_of_mem _ (rx_rel_ok h)
def rx_rels (Y : rx_Y) : Value → Value → Option Bool
  | .float n, .float k => rx_rel Y.2 n.toNat k.toNat
  | _, _ => none
def rx_lt2 (Y : rx_Y) (v w : Value) : Option Bool := match rx_iv Y v, rx_iv Y w with
  | some q, some r => if q.2 < r.1 then some true else if r.2 ≤ q.1 then some false else rx_rels Y v w
  | _, _ => none
def rx_lt (Y : rx_Y) (v w : Value) : Option Bool := match v, w with
  | .int x, .int y => some (decide (x < y))
  | v, w => rx_lt2 Y v w
theorem rx_lt_ok {Y : rx_Y} {ρ : List Nat} {σ : Nat → Int32} (hY : rx_YOk Y σ) {v w v' w' : Value} {b : Bool} (h : rx_lt Y v w = some b) (hv : rx_v ρ σ v v') (hw : rx_v ρ σ w w') : ∃ x y : Int32, v' = .int x ∧ w' = .int y ∧ (x < y ↔ b = true) := by
  unfold rx_lt at h
  split at h
  · next x y =>
    cases hv; cases hw
    cases h
    exact ⟨x, y, rfl, rfl, by simp⟩
  · unfold rx_lt2 at h
    cases h1 : rx_iv Y v with
    | none => rw [h1] at h; cases h
    | some q =>
      cases h2 : rx_iv Y w with
      | none => rw [h1, h2] at h; cases h
      | some r =>
        rw [h1, h2] at h
        obtain ⟨x, e1, a1, a2⟩ := rx_iv_ok hY h1 hv
        obtain ⟨y, e2, b1, b2⟩ := rx_iv_ok hY h2 hw
        refine ⟨x, y, e1, e2, ?_⟩
        simp only at h
        split at h
        · cases h
          simp only [iff_true]
          rw [Int32.lt_iff_toInt_lt]
          omega
        · split at h
          · cases h
            simp only [Bool.false_eq_true, iff_false]
            rw [Int32.lt_iff_toInt_lt]
            omega
          · unfold rx_rels at h
            split at h
            · next n k =>
              have := hY.2 _ (rx_rel_ok h)
              cases hv; cases hw
              cases e1; cases e2
              exact this
            · cases h
def rx_eq2 (Y : rx_Y) (v w : Value) : Option Bool := match rx_iv Y v, rx_iv Y w with
  | some q, some r => if q.2 < r.1 ∨ r.2 < q.1 then some false else none
  | _, _ => none
def rx_eq (Y : rx_Y) (v w : Value) : Option Bool := match v, w with
  | .int x, .int y => some (decide (x = y))
  | v, w => rx_eq2 Y v w
theorem rx_eq_ok {Y : rx_Y} {ρ : List Nat} {σ : Nat → Int32} (hY : rx_YOk Y σ) {v w v' w' : Value} {b : Bool} (h : rx_eq Y v w = some b) (hv : rx_v ρ σ v v') (hw : rx_v ρ σ w w') : ∃ x y : Int32, v' = .int x ∧ w' = .int y ∧ (x = y ↔ b = true) := by
  unfold rx_eq at h
  split at h
  · next x y =>
    cases hv; cases hw
    cases h
    exact ⟨x, y, rfl, rfl, by simp⟩
  · unfold rx_eq2 at h
    cases h1 : rx_iv Y v with
    | none => rw [h1] at h; cases h
    | some q =>
      cases h2 : rx_iv Y w with
      | none => rw [h1, h2] at h; cases h
      | some r =>
        rw [h1, h2] at h
        obtain ⟨x, e1, a1, a2⟩ := rx_iv_ok hY h1 hv
        obtain ⟨y, e2, b1, b2⟩ := rx_iv_ok hY h2 hw
        refine ⟨x, y, e1, e2, ?_⟩
        simp only at h
        split at h
        · cases h
          simp only [Bool.false_eq_true, iff_false]
          intro hxy
          subst hxy
          omega
        · cases h
/-- which test: 0 lt, 1 ge, 2 gt, 3 le, 4 eq, 5 ne -/
def rx_tst (Y : rx_Y) (op : Nat) (v w : Value) : Option Bool := match op with
  | 0 => rx_lt Y v w
  | 1 => (rx_lt Y v w).map (!·)
  | 2 => rx_lt Y w v
  | 3 => (rx_lt Y w v).map (!·)
  | 4 => rx_eq Y v w
  | _ => (rx_eq Y v w).map (!·)
def rx_cmp (Y : rx_Y) (op : Nat) : List Value → Option (Bool × List Value)
  | w :: v :: r => match rx_tst Y op v w with
    | none => none
    | some b => some (b, r)
  | _ => none
def rx_cm0 (Y : rx_Y) (op : Nat) : List Value → Option (Bool × List Value)
  | v :: r => match rx_tst Y op v (.int 0) with
    | none => none
    | some b => some (b, r)
  | _ => none
def rx_tp (op : Nat) (x y : Int32) : Prop := match op with
  | 0 => x < y
  | 1 => y ≤ x
  | 2 => y < x
  | 3 => x ≤ y
  | 4 => x = y
  | _ => ¬ x = y
theorem rx_tst_ok {Y : rx_Y} {ρ : List Nat} {σ : Nat → Int32} (hY : rx_YOk Y σ) {op : Nat} {v w cv cw : Value} {b : Bool} (ht : rx_tst Y op v w = some b) (h2 : rx_v ρ σ v cv) (h1 : rx_v ρ σ w cw) : ∃ x y : Int32, cv = .int x ∧ cw = .int y ∧ (rx_tp op x y ↔ b = true) := by
  match op, ht with
  | 0, ht => exact rx_lt_ok hY ht h2 h1
  | 1, ht =>
    simp only [rx_tst, Option.map_eq_some_iff] at ht
    obtain ⟨b0, g1, g2⟩ := ht
    obtain ⟨x, y, e1, e2, e3⟩ := rx_lt_ok hY g1 h2 h1
    refine ⟨x, y, e1, e2, ?_⟩
    rw [Int32.lt_iff_toInt_lt] at e3
    show y ≤ x ↔ _
    rw [Int32.le_iff_toInt_le]
    subst g2
    cases b0 <;> simp at e3 ⊢ <;> omega
  | 2, ht =>
    obtain ⟨y, x, e1, e2, e3⟩ := rx_lt_ok hY ht h1 h2
    exact ⟨x, y, e2, e1, e3⟩
  | 3, ht =>
    simp only [rx_tst, Option.map_eq_some_iff] at ht
    obtain ⟨b0, g1, g2⟩ := ht
    obtain ⟨y, x, e1, e2, e3⟩ := rx_lt_ok hY g1 h1 h2
    refine ⟨x, y, e2, e1, ?_⟩
    rw [Int32.lt_iff_toInt_lt] at e3
    show x ≤ y ↔ _
    rw [Int32.le_iff_toInt_le]
    subst g2
    cases b0 <;> simp at e3 ⊢ <;> omega
  | 4, ht => exact rx_eq_ok hY ht h2 h1
  | n + 5, ht =>
    simp only [rx_tst, Option.map_eq_some_iff] at ht
    obtain ⟨b0, g1, g2⟩ := ht
    obtain ⟨x, y, e1, e2, e3⟩ := rx_eq_ok hY g1 h2 h1
    refine ⟨x, y, e1, e2, ?_⟩
    subst g2
    show ¬ x = y ↔ _
    cases b0 <;> simp at e3 ⊢ <;> exact e3
theorem rx_sd_cmp {Y : rx_Y} (hY : rx_YOk Y G.sg) (op tgt : Nat) (hs : ∀ (x y : Int32) (b : Bool) (r : List Value), (rx_tp op x y ↔ b = true) → rx_Step M.2.1 pc (cond b tgt (pc + 3)) (.int y :: .int x :: r) r) : rx_Sd G MT M pc (rx_br (rx_cmp Y op) tgt (pc + 3)) := by
  refine rx_sd_br (fun ρ st cst st' b h hst => ?_)
  match st, cst, h, hst with
  | w :: v :: r, cw :: cv :: cr, h, ⟨h1, h2, h3⟩ =>
    unfold rx_cmp at h
    simp only at h
    cases ht : rx_tst Y op v w with
    | none => rw [ht] at h; cases h
    | some b' =>
      rw [ht] at h
      cases h
      obtain ⟨x, y, rfl, rfl, hk⟩ := rx_tst_ok hY ht h2 h1
      exact ⟨cr, h3, hs x y b cr hk⟩
theorem rx_sd_cm0 {Y : rx_Y} (hY : rx_YOk Y G.sg) (op tgt : Nat) (hs : ∀ (x : Int32) (b : Bool) (r : List Value), (rx_tp op x 0 ↔ b = true) → rx_Step M.2.1 pc (cond b tgt (pc + 3)) (.int x :: r) r) : rx_Sd G MT M pc (rx_br (rx_cm0 Y op) tgt (pc + 3)) := by
  refine rx_sd_br (fun ρ st cst st' b h hst => ?_)
  match st, cst, h, hst with
  | v :: r, cv :: cr, h, ⟨h2, h3⟩ =>
    unfold rx_cm0 at h
    simp only at h
    cases ht : rx_tst Y op v (.int 0) with
    | none => rw [ht] at h; cases h
    | some b' =>
      rw [ht] at h
      cases h
      obtain ⟨x, y, rfl, e2, hk⟩ := rx_tst_ok (ρ := ρ) hY ht h2 (show rx_v ρ G.sg (.int 0) (.int 0) from rfl)
      cases e2
      exact ⟨cr, h3, hs x b cr hk⟩
theorem rx_two {P : Prop} {b : Bool} (A : Bool → Prop) (hk : P ↔ b = true) (k : A b) : (P → A true) ∧ (¬ P → A false) := by
  cases b with
  | true => exact ⟨fun _ => k, fun h => absurd (hk.mpr rfl) h⟩
  | false => exact ⟨fun h => absurd (hk.mp h) (by simp), fun _ => k⟩
theorem rx_sd_icmp_lt {Y : rx_Y} (hY : rx_YOk Y G.sg) {off : Int} {tgt : Nat} (d : decode M.2.1 pc = .ok (.if_icmp .lt off, 3)) (ht : (pc : Int) + off = (tgt : Int)) : rx_Sd G MT M pc (rx_br (rx_cmp Y 0) tgt (pc + 3)) :=
  rx_sd_cmp hY 0 tgt (fun x y b r hk p l e R s m args below meth c H locs cells slots Q ls hx hb k => have K := rx_two (fun b => W p l e R s m args below meth c H locs cells slots Q (F0 m (cond b tgt (pc + 3)) ls r)) hk k; lv_icmp_lt hx hb d ht K.1 K.2)
theorem rx_sd_if_lt {Y : rx_Y} (hY : rx_YOk Y G.sg) {off : Int} {tgt : Nat} (d : decode M.2.1 pc = .ok (.ifCond .lt off, 3)) (ht : (pc : Int) + off = (tgt : Int)) : rx_Sd G MT M pc (rx_br (rx_cm0 Y 0) tgt (pc + 3)) :=
  rx_sd_cm0 hY 0 tgt (fun x b r hk p l e R s m args below meth c H locs cells slots Q ls hx hb k => have K := rx_two (fun b => W p l e R s m args below meth c H locs cells slots Q (F0 m (cond b tgt (pc + 3)) ls r)) hk k; lv_if_lt hx hb d ht K.1 K.2)
theorem rx_sd_icmp_ge {Y : rx_Y} (hY : rx_YOk Y G.sg) {off : Int} {tgt : Nat} (d : decode M.2.1 pc = .ok (.if_icmp .ge off, 3)) (ht : (pc : Int) + off = (tgt : Int)) : rx_Sd G MT M pc (rx_br (rx_cmp Y 1) tgt (pc + 3)) :=
  rx_sd_cmp hY 1 tgt (fun x y b r hk p l e R s m args below meth c H locs cells slots Q ls hx hb k => have K := rx_two (fun b => W p l e R s m args below meth c H locs cells slots Q (F0 m (cond b tgt (pc + 3)) ls r)) hk k; lv_icmp_ge hx hb d ht K.1 K.2)
theorem rx_sd_if_ge {Y : rx_Y} (hY : rx_YOk Y G.sg) {off : Int} {tgt : Nat} (d : decode M.2.1 pc = .ok (.ifCond .ge off, 3)) (ht : (pc : Int) + off = (tgt : Int)) : rx_Sd G MT M pc (rx_br (rx_cm0 Y 1) tgt (pc + 3)) :=
  rx_sd_cm0 hY 1 tgt (fun x b r hk p l e R s m args below meth c H locs cells slots Q ls hx hb k => have K := rx_two (fun b => W p l e R s m args below meth c H locs cells slots Q (F0 m (cond b tgt (pc + 3)) ls r)) hk k; lv_if_ge hx hb d ht K.1 K.2)
theorem rx_sd_icmp_gt {Y : rx_Y} (hY : rx_YOk Y G.sg) {off : Int} {tgt : Nat} (d : decode M.2.1 pc = .ok (.if_icmp .gt off, 3)) (ht : (pc : Int) + off = (tgt : Int)) : rx_Sd G MT M pc (rx_br (rx_cmp Y 2) tgt (pc + 3)) :=
  rx_sd_cmp hY 2 tgt (fun x y b r hk p l e R s m args below meth c H locs cells slots Q ls hx hb k => have K := rx_two (fun b => W p l e R s m args below meth c H locs cells slots Q (F0 m (cond b tgt (pc + 3)) ls r)) hk k; lv_icmp_gt hx hb d ht K.1 K.2)
theorem rx_sd_if_gt {Y : rx_Y} (hY : rx_YOk Y G.sg) {off : Int} {tgt : Nat} (d : decode M.2.1 pc = .ok (.ifCond .gt off, 3)) (ht : (pc : Int) + off = (tgt : Int)) : rx_Sd G MT M pc (rx_br (rx_cm0 Y 2) tgt (pc + 3)) :=
  rx_sd_cm0 hY 2 tgt (fun x b r hk p l e R s m args below meth c H locs cells slots Q ls hx hb k => have K := rx_two (fun b => W p l e R s m args below meth c H locs cells slots Q (F0 m (cond b tgt (pc + 3)) ls r)) hk k; lv_if_gt hx hb d ht K.1 K.2)
theorem rx_sd_icmp_le {Y : rx_Y} (hY : rx_YOk Y G.sg) {off : Int} {tgt : Nat} (d : decode M.2.1 pc = .ok (.if_icmp .le off, 3)) (ht : (pc : Int) + off = (tgt : Int)) : rx_Sd G MT M pc (rx_br (rx_cmp Y 3) tgt (pc + 3)) :=
  rx_sd_cmp hY 3 tgt (fun x y b r hk p l e R s m args below meth c H locs cells slots Q ls hx hb k => have K := rx_two (fun b => W p l e R s m args below meth c H locs cells slots Q (F0 m (cond b tgt (pc + 3)) ls r)) hk k; lv_icmp_le hx hb d ht K.1 K.2)
theorem rx_sd_if_le {Y : rx_Y} (hY : rx_YOk Y G.sg) {off : Int} {tgt : Nat} (d : decode M.2.1 pc = .ok (.ifCond .le off, 3)) (ht : (pc : Int) + off = (tgt : Int)) : rx_Sd G MT M pc (rx_br (rx_cm0 Y 3) tgt (pc + 3)) :=
  rx_sd_cm0 hY 3 tgt (fun x b r hk p l e R s m args below meth c H locs cells slots Q ls hx hb k => have K := rx_two (fun b => W p l e R s m args below meth c H locs cells slots Q (F0 m (cond b tgt (pc + 3)) ls r)) hk k; lv_if_le hx hb d ht K.1 K.2)
theorem rx_sd_icmp_eq {Y : rx_Y} (hY : rx_YOk Y G.sg) {off : Int} {tgt : Nat} (d : decode M.2.1 pc = .ok (.if_icmp .eq off, 3)) (ht : (pc : Int) + off = (tgt : Int)) : rx_Sd G MT M pc (rx_br (rx_cmp Y 4) tgt (pc + 3)) :=
  rx_sd_cmp hY 4 tgt (fun x y b r hk p l e R s m args below meth c H locs cells slots Q ls hx hb k => have K := rx_two (fun b => W p l e R s m args below meth c H locs cells slots Q (F0 m (cond b tgt (pc + 3)) ls r)) hk k; lv_icmp_eq hx hb d ht K.1 K.2)
theorem rx_sd_if_eq {Y : rx_Y} (hY : rx_YOk Y G.sg) {off : Int} {tgt : Nat} (d : decode M.2.1 pc = .ok (.ifCond .eq off, 3)) (ht : (pc : Int) + off = (tgt : Int)) : rx_Sd G MT M pc (rx_br (rx_cm0 Y 4) tgt (pc + 3)) :=
  rx_sd_cm0 hY 4 tgt (fun x b r hk p l e R s m args below meth c H locs cells slots Q ls hx hb k => have K := rx_two (fun b => W p l e R s m args below meth c H locs cells slots Q (F0 m (cond b tgt (pc + 3)) ls r)) hk k; lv_if_eq hx hb d ht K.1 K.2)
theorem rx_sd_icmp_ne {Y : rx_Y} (hY : rx_YOk Y G.sg) {off : Int} {tgt : Nat} (d : decode M.2.1 pc = .ok (.if_icmp .ne off, 3)) (ht : (pc : Int) + off = (tgt : Int)) : rx_Sd G MT M pc (rx_br (rx_cmp Y 5) tgt (pc + 3)) :=
  rx_sd_cmp hY 5 tgt (fun x y b r hk p l e R s m args below meth c H locs cells slots Q ls hx hb k => have K := rx_two (fun b => W p l e R s m args below meth c H locs cells slots Q (F0 m (cond b tgt (pc + 3)) ls r)) hk k; lv_icmp_ne hx hb d ht K.1 (fun h => K.2 (fun q => q h)))
theorem rx_sd_if_ne {Y : rx_Y} (hY : rx_YOk Y G.sg) {off : Int} {tgt : Nat} (d : decode M.2.1 pc = .ok (.ifCond .ne off, 3)) (ht : (pc : Int) + off = (tgt : Int)) : rx_Sd G MT M pc (rx_br (rx_cm0 Y 5) tgt (pc + 3)) :=
  rx_sd_cm0 hY 5 tgt (fun x b r hk p l e R s m args below meth c H locs cells slots Q ls hx hb k => have K := rx_two (fun b => W p l e R s m args below meth c H locs cells slots Q (F0 m (cond b tgt (pc + 3)) ls r)) hk k; lv_if_ne hx hb d ht K.1 (fun h => K.2 (fun q => q h)))
def rx_sw (Y : rx_Y) (lo hi : Int) (tgts : List Nat) (dflt : Nat) : rx_T := fun _ st => match st.2.1 with
  | .int x :: r => if x.toInt < lo ∨ hi < x.toInt then some (.inl (dflt, (st.1, r, st.2.2))) else match tgts[(x.toInt - lo).toNat]? with
    | some t => some (.inl (t, (st.1, r, st.2.2)))
    | none => none
  | v :: r => match rx_iv Y v with
    | some q => if q.2 < lo ∨ hi < q.1 then some (.inl (dflt, (st.1, r, st.2.2))) else none
    | none => none
  | _ => none
theorem rx_sd_sw {Y : rx_Y} (hY : rx_YOk Y G.sg) {df lo hi : Int} {offs : Array Int} {len dflt : Nat} {tgts : List Nat} (d : decode M.2.1 pc = .ok (.tableswitch df lo hi offs, len)) (hd : (pc : Int) + df = (dflt : Int)) (ht : offs.toList.map (fun o => (pc : Int) + o) = tgts.map (fun t : Nat => (t : Int))) : rx_Sd G MT M pc (rx_sw Y lo hi tgts dflt) := by
  intro p e s m args below meth c A X rec hrec st o h ρ0 r hgo
  obtain ⟨hx, hb, hml, hr, hown, hts, hlk, hnm, hK, hA⟩ := X
  obtain ⟨lv, sk, ws, c0, s0⟩ := st
  intro tl cws H locs ls cst clv hw hP hD hS hlv hl hst
  unfold rx_sw at h
  simp only at h hst
  split at h
  · next x rr =>
    match cst, hst with
    | w :: cr, ⟨h1, h3⟩ =>
      cases h1
      split at h
      · next hc =>
        cases h
        exact lv_tableOut hx hb d hc hd (hgo tl cws H locs ls cr clv hw hP hD hS hlv hl h3)
      · next hc =>
        split at h
        · next t ht1 =>
          cases h
          have hc1 : ¬ x.toInt < lo := fun q => hc (Or.inl q)
          have hc2 : ¬ hi < x.toInt := fun q => hc (Or.inr q)
          have e1 : (offs.toList.map (fun o => (pc : Int) + o))[(x.toInt - lo).toNat]? = some (t : Int) := by rw [ht, List.getElem?_map, ht1]; rfl
          rw [List.getElem?_map, Option.map_eq_some_iff] at e1
          obtain ⟨off, g1, g2⟩ := e1
          exact lv_tableIn hx hb d hc1 hc2 (by rw [← Array.getElem?_toList]; exact g1) g2 (hgo tl cws H locs ls cr clv hw hP hD hS hlv hl h3)
        · cases h
  · next v rr hne =>
    match cst, hst with
    | w :: cr, ⟨h1, h3⟩ =>
      cases hq : rx_iv Y v with
      | none => rw [hq] at h; cases h
      | some q =>
        rw [hq] at h
        simp only at h
        split at h
        · next hc =>
          cases h
          obtain ⟨x, rfl, a1, a2⟩ := rx_iv_ok hY hq h1
          exact lv_tableOut hx hb d (by omega) hd (hgo tl cws H locs ls cr clv hw hP hD hS hlv hl h3)
        · cases h
  · cases h
end PU
end
section
/-! RULES OF LOCALS, CELLS, CALLS AND ENDS -/
theorem rx_lv.cons {ρ : List Nat} {σ : Nat → Int32} {i : Nat} {v w : Value} {a b : rx_L} (hv : rx_v ρ σ v w) (h : rx_lv ρ σ a b) : rx_lv ρ σ ((i, v) :: a) ((i, w) :: b) := ⟨rfl, hv, h⟩
section CE
variable {G : rx_G} {MT : Nat → rx_M} {M : rx_M} {pc : Nat}
/-- kinds: 0 int, 1 long, 2 reference -/
def rx_is (kind : Nat) : Value → Bool
  | .int _ => Nat.beq kind 0
  | .float _ => Nat.beq kind 0
  | .double _ => Nat.beq kind 0
  | .long _ => Nat.beq kind 1
  | .ref _ => Nat.beq kind 2
  | .null => Nat.beq kind 2
  | .retAddr _ => false
theorem rx_is0 {ρ : List Nat} {σ : Nat → Int32} {v w : Value} (h : rx_is 0 v = true) (hv : rx_v ρ σ v w) : ∃ x : Int32, w = .int x := by
  cases v with
  | int x => exact ⟨x, hv⟩
  | float n => exact ⟨_, hv⟩
  | double n => exact hv
  | _ => cases h
theorem rx_is1 {ρ : List Nat} {σ : Nat → Int32} {v w : Value} (h : rx_is 1 v = true) (hv : rx_v ρ σ v w) : ∃ x : Int64, w = .long x := by
  cases v with
  | long x => exact ⟨x, hv⟩
  | _ => cases h
theorem rx_is2 {ρ : List Nat} {σ : Nat → Int32} {v w : Value} (h : rx_is 2 v = true) (hv : rx_v ρ σ v w) : w = .null ∨ ∃ a, w = .ref a := by
  cases v with
  | null => exact Or.inl hv
  | ref a => obtain ⟨a', -, h2⟩ := hv; exact Or.inr ⟨a', h2⟩
  | _ => cases h
def rx_ld (kind i pc' : Nat) : rx_T := fun _ st => match rx_find st.1 i with
  | none => none
  | some v => cond (rx_is kind v) (some (.inl (pc', (st.1, v :: st.2.1, st.2.2)))) none
theorem rx_sd_ld {kind i pc' : Nat} (hs : ∀ (ρ : List Nat) (v w : Value) (p : Program) (l : Launch) (e : Env) (R : Room) (s : State) (m : MethodId) (args : Array Value) (below : List Frame) (meth : Method) (c : Code) (H : Heap) (locs : List Loc) (cells slots : Nat) (Q : State → Prop) (ls : Array Slot) (rest : List Value), p.tables.exec = Jvm.exec → c.code = M.2.1 → rx_is kind v = true → rx_v ρ G.sg v w → ls[i]? = some (.val w) →
      W p l e R s m args below meth c H locs cells slots Q (F0 m pc' ls (w :: rest)) → W p l e R s m args below meth c H locs cells slots Q (F0 m pc ls rest)) : rx_Sd G MT M pc (rx_ld kind i pc') := by
  intro p e s m args below meth c A X rec hrec st o h ρ0 r hgo
  obtain ⟨hx, hb, hml, hr, hown, hts, hlk, hnm, hK, hA⟩ := X
  unfold rx_ld at h
  cases hk : rx_find st.1 i with
  | none => rw [hk] at h; cases h
  | some v =>
    rw [hk] at h
    obtain ⟨g1, g2⟩ := rx_cond_some h
    cases g2
    intro tl cws H locs ls cst clv hw hP hD hS hlv hl hst
    obtain ⟨k, w, e1, e2⟩ := hlv.find hk
    exact hs _ v w p G.l e _ s m args below meth c H locs _ _ _ ls cst hx hb g1 e2 (lv_at hl k e1) (hgo tl cws H locs ls (w :: cst) clv hw hP hD hS hlv hl ⟨e2, hst⟩)
theorem rx_sd_iload_n {k : Fin 4} {i : Nat} (d : decode M.2.1 pc = .ok (.iload_n k, 1)) (hi : (k : Nat) = i) : rx_Sd G MT M pc (rx_ld 0 i (pc + 1)) :=
  rx_sd_ld (fun ρ v w p l e R s m args below meth c H locs cells slots Q ls rest hx hb hk hv hl kk => by
    obtain ⟨x, rfl⟩ := rx_is0 hk hv
    exact lv_iload_n hx hb d hi hl kk)
theorem rx_sd_iload {i : Nat} (d : decode M.2.1 pc = .ok (.iload i, 2)) : rx_Sd G MT M pc (rx_ld 0 i (pc + 2)) :=
  rx_sd_ld (fun ρ v w p l e R s m args below meth c H locs cells slots Q ls rest hx hb hk hv hl kk => by
    obtain ⟨x, rfl⟩ := rx_is0 hk hv
    exact lv_iload hx hb d hl kk)
theorem rx_sd_lload_n {k : Fin 4} {i : Nat} (d : decode M.2.1 pc = .ok (.lload_n k, 1)) (hi : (k : Nat) = i) : rx_Sd G MT M pc (rx_ld 1 i (pc + 1)) :=
  rx_sd_ld (fun ρ v w p l e R s m args below meth c H locs cells slots Q ls rest hx hb hk hv hl kk => by
    obtain ⟨x, rfl⟩ := rx_is1 hk hv
    exact lv_lload_n hx hb d hi hl kk)
theorem rx_sd_lload {i : Nat} (d : decode M.2.1 pc = .ok (.lload i, 2)) : rx_Sd G MT M pc (rx_ld 1 i (pc + 2)) :=
  rx_sd_ld (fun ρ v w p l e R s m args below meth c H locs cells slots Q ls rest hx hb hk hv hl kk => by
    obtain ⟨x, rfl⟩ := rx_is1 hk hv
    exact lv_lload hx hb d hl kk)
theorem rx_sd_aload_n {k : Fin 4} {i : Nat} (d : decode M.2.1 pc = .ok (.aload_n k, 1)) (hi : (k : Nat) = i) : rx_Sd G MT M pc (rx_ld 2 i (pc + 1)) :=
  rx_sd_ld (fun ρ v w p l e R s m args below meth c H locs cells slots Q ls rest hx hb hk hv hl kk => by
    rcases rx_is2 hk hv with rfl | ⟨a, rfl⟩
    · exact lv_aload_nN hx hb d hi hl kk
    · exact lv_aload_n hx hb d hi hl kk)
theorem rx_sd_aload {i : Nat} (d : decode M.2.1 pc = .ok (.aload i, 2)) : rx_Sd G MT M pc (rx_ld 2 i (pc + 2)) :=
  rx_sd_ld (fun ρ v w p l e R s m args below meth c H locs cells slots Q ls rest hx hb hk hv hl kk => by
    rcases rx_is2 hk hv with rfl | ⟨a, rfl⟩
    · exact lv_aloadN hx hb d hl kk
    · exact lv_aload hx hb d hl kk)
def rx_st (kind i pc' nL : Nat) : rx_T := fun _ st => match st.2.1 with
  | v :: r => cond (rx_is kind v && Nat.ble (i + rx_cat v) nL) (some (.inl (pc', ((i, v) :: cond (Nat.beq kind 1) (rx_put2 st.1 i) (rx_put1 st.1 i), r, st.2.2)))) none
  | [] => none
theorem rx_sd_st1 {kind i pc' : Nat} (hkd : Nat.beq kind 1 = false) (hs : ∀ (ρ : List Nat) (v w : Value) (p : Program) (l : Launch) (e : Env) (R : Room) (s : State) (m : MethodId) (args : Array Value) (below : List Frame) (meth : Method) (c : Code) (H : Heap) (locs : List Loc) (cells slots : Nat) (Q : State → Prop) (ls : Array Slot) (rest : List Value) (lv : rx_L), p.tables.exec = Jvm.exec → c.code = M.2.1 → rx_is kind v = true → rx_v ρ G.sg v w → lv_has ls M.2.2.1 lv → i < M.2.2.1 →
      (∀ ls' : Array Slot, lv_has ls' M.2.2.1 ((i, w) :: lv.filter (fun q => !(q.1 == i) && !(q.1 + 1 == i && q.2.category == 2))) → W p l e R s m args below meth c H locs cells slots Q (F0 m pc' ls' rest)) → W p l e R s m args below meth c H locs cells slots Q (F0 m pc ls (w :: rest))) : rx_Sd G MT M pc (rx_st kind i pc' M.2.2.1) := by
  intro p e s m args below meth c A X rec hrec st o h ρ0 r hgo
  obtain ⟨hx, hb, hml, hr, hown, hts, hlk, hnm, hK, hA⟩ := X
  obtain ⟨lv, sk, ws, c0, s0⟩ := st
  intro tl cws H locs ls cst clv hw hP hD hS hlv hl hst
  unfold rx_st at h
  simp only at h hst hlv
  match sk, cst, h, hst with
  | v :: sr, w :: cr, h, ⟨h1, h3⟩ =>
    simp only at h
    obtain ⟨g1, g2⟩ := rx_cond_some h
    rw [Bool.and_eq_true] at g1
    cases g2
    rw [hkd] at hgo
    have hc : 1 ≤ rx_cat v := by cases v <;> simp [rx_cat]
    have hn := Nat.le_of_ble_eq_true g1.2
    exact hs _ v w p G.l e _ s m args below meth c H locs _ _ _ ls cr clv hx hb g1.1 h1 hl (by omega) (fun ls' hl' => hgo tl cws H locs ls' cr _ hw hP hD hS (rx_lv.cons h1 (hlv.put1 i)) hl' h3)
theorem rx_sd_istore_n {k : Fin 4} {i : Nat} (d : decode M.2.1 pc = .ok (.istore_n k, 1)) (hi : (k : Nat) = i) : rx_Sd G MT M pc (rx_st 0 i (pc + 1) M.2.2.1) :=
  rx_sd_st1 rfl (fun ρ v w p l e R s m args below meth c H locs cells slots Q ls rest lv hx hb hk hv hl hn kk => by
    obtain ⟨x, rfl⟩ := rx_is0 hk hv
    exact lv_istore_n hx hb d hi hl hn rfl kk)
theorem rx_sd_istore {i : Nat} (d : decode M.2.1 pc = .ok (.istore i, 2)) : rx_Sd G MT M pc (rx_st 0 i (pc + 2) M.2.2.1) :=
  rx_sd_st1 rfl (fun ρ v w p l e R s m args below meth c H locs cells slots Q ls rest lv hx hb hk hv hl hn kk => by
    obtain ⟨x, rfl⟩ := rx_is0 hk hv
    exact lv_istore hx hb d hl hn rfl kk)
theorem rx_sd_astore_n {k : Fin 4} {i : Nat} (d : decode M.2.1 pc = .ok (.astore_n k, 1)) (hi : (k : Nat) = i) : rx_Sd G MT M pc (rx_st 2 i (pc + 1) M.2.2.1) :=
  rx_sd_st1 rfl (fun ρ v w p l e R s m args below meth c H locs cells slots Q ls rest lv hx hb hk hv hl hn kk => by
    rcases rx_is2 hk hv with rfl | ⟨a, rfl⟩
    · exact lv_astore_nN hx hb d hi hl hn rfl kk
    · exact lv_astore_n hx hb d hi hl hn rfl kk)
theorem rx_sd_astore {i : Nat} (d : decode M.2.1 pc = .ok (.astore i, 2)) : rx_Sd G MT M pc (rx_st 2 i (pc + 2) M.2.2.1) :=
  rx_sd_st1 rfl (fun ρ v w p l e R s m args below meth c H locs cells slots Q ls rest lv hx hb hk hv hl hn kk => by
    rcases rx_is2 hk hv with rfl | ⟨a, rfl⟩
    · exact lv_astoreN hx hb d hl hn rfl kk
    · exact lv_astore hx hb d hl hn rfl kk)
theorem rx_sd_st2 {i pc' : Nat} (hs : ∀ (x : Int64) (p : Program) (l : Launch) (e : Env) (R : Room) (s : State) (m : MethodId) (args : Array Value) (below : List Frame) (meth : Method) (c : Code) (H : Heap) (locs : List Loc) (cells slots : Nat) (Q : State → Prop) (ls : Array Slot) (rest : List Value) (lv : rx_L), p.tables.exec = Jvm.exec → c.code = M.2.1 → lv_has ls M.2.2.1 lv → i + 1 < M.2.2.1 →
      (∀ ls' : Array Slot, lv_has ls' M.2.2.1 ((i, .long x) :: lv.filter (fun q => !(q.1 == i) && (!(q.1 == i + 1) && !(q.1 + 1 == i && q.2.category == 2)))) → W p l e R s m args below meth c H locs cells slots Q (F0 m pc' ls' rest)) → W p l e R s m args below meth c H locs cells slots Q (F0 m pc ls (.long x :: rest))) : rx_Sd G MT M pc (rx_st 1 i pc' M.2.2.1) := by
  intro p e s m args below meth c A X rec hrec st o h ρ0 r hgo
  obtain ⟨hx, hb, hml, hr, hown, hts, hlk, hnm, hK, hA⟩ := X
  obtain ⟨lv, sk, ws, c0, s0⟩ := st
  intro tl cws H locs ls cst clv hw hP hD hS hlv hl hst
  unfold rx_st at h
  simp only at h hst hlv
  match sk, cst, h, hst with
  | v :: sr, w :: cr, h, ⟨h1, h3⟩ =>
    simp only at h
    obtain ⟨g1, g2⟩ := rx_cond_some h
    rw [Bool.and_eq_true] at g1
    cases g2
    have hn := Nat.le_of_ble_eq_true g1.2
    have hv : ∃ x, v = .long x := by
      cases v with
      | long x => exact ⟨x, rfl⟩
      | _ => exact absurd g1.1 (by simp [rx_is])
    obtain ⟨x, rfl⟩ := hv
    cases h1
    exact hs x p G.l e _ s m args below meth c H locs _ _ _ ls cr clv hx hb hl (by simp only [rx_cat] at hn; omega) (fun ls' hl' => hgo tl cws H locs ls' cr _ hw hP hD hS (rx_lv.cons (v := .long x) rfl (hlv.put2 i)) hl' h3)
theorem rx_sd_lstore_n {k : Fin 4} {i : Nat} (d : decode M.2.1 pc = .ok (.lstore_n k, 1)) (hi : (k : Nat) = i) : rx_Sd G MT M pc (rx_st 1 i (pc + 1) M.2.2.1) :=
  rx_sd_st2 (fun x p l e R s m args below meth c H locs cells slots Q ls rest lv hx hb hl hn kk => lv_lstore_n hx hb d hi hl hn rfl kk)
theorem rx_sd_lstore {i : Nat} (d : decode M.2.1 pc = .ok (.lstore i, 2)) : rx_Sd G MT M pc (rx_st 1 i (pc + 2) M.2.2.1) :=
  rx_sd_st2 (fun x p l e R s m args below meth c H locs cells slots Q ls rest lv hx hb hl hn kk => lv_lstore hx hb d hl hn rfl kk)
noncomputable def rx_inc (i : Nat) (n : Int32) (pc' nL : Nat) : rx_T := fun _ st => match rx_find st.1 i with
  | some (.int x) => cond (Nat.ble (i + 1) nL) (rx_fI (x + n) (fun z => some (.inl (pc', ((i, .int z) :: rx_put1 st.1 i, st.2))))) none
  | _ => none
theorem rx_sd_iinc {i : Nat} {n : Int} {x0 : Int32} (d : decode M.2.1 pc = .ok (.iinc i n, 3)) (hn : Int32.ofInt n = x0) : rx_Sd G MT M pc (rx_inc i x0 (pc + 3) M.2.2.1) := by
  intro p e s m args below meth c A X rec hrec st o h ρ0 r hgo
  obtain ⟨hx, hb, hml, hr, hown, hts, hlk, hnm, hK, hA⟩ := X
  obtain ⟨lv, sk, ws, c0, s0⟩ := st
  intro tl cws H locs ls cst clv hw hP hD hS hlv hl hst
  unfold rx_inc at h
  simp only at h hst hlv
  cases hk : rx_find lv i with
  | none => rw [hk] at h; cases h
  | some v =>
    rw [hk] at h
    cases v with
    | int x =>
      simp only [rx_fI_eq] at h
      obtain ⟨g1, g2⟩ := rx_cond_some h
      cases g2
      obtain ⟨k, w, e1, e2⟩ := hlv.find hk
      cases e2
      subst hn
      exact lv_iinc hx hb d hl e1 rfl (Nat.le_of_ble_eq_true g1) rfl (fun ls' hl' => hgo tl cws H locs ls' cst _ hw hP hD hS (rx_lv.cons (v := .int (x + Int32.ofInt n)) rfl (hlv.put1 i)) hl' hst)
    | _ => cases h
/-- fields -/
def rx_get (ci k pc' : Nat) : rx_T := fun _ st => match st.2.1 with
  | .ref a :: sk => match st.2.2.1[a]? with
    | some (.inl (ci', fs)) => cond (Nat.beq ci ci') (match fs[k]? with
      | some v => some (.inl (pc', (st.1, v :: sk, st.2.2)))
      | none => none) none
    | _ => none
  | _ => none
theorem rx_sd_get {ci k index N : Nat} {C : String} {T : u_T} (hin : ∀ w ∈ u_ws C T N, w ∈ G.gT) (hc : G.cl[ci]? = some (C, T, N)) (hk : k < N) (hl0 : Cond.fieldLink M.1.cls index (T k).1 (T k).2.1 (T k).2.2.1 ∈ G.gT) (d : decode M.2.1 pc = .ok (.getfield index, 3)) : rx_Sd G MT M pc (rx_get ci k (pc + 3)) := by
  intro p e s m args below meth c A X rec hrec st o h ρ0 r hgo
  obtain ⟨hx, hb, hml, hr, hown, hts, hlk, hnm, hK, hA⟩ := X
  obtain ⟨lv, sk, ws, c0, s0⟩ := st
  intro tl cws H locs ls cst clv hw hP hD hS hlv hl hst
  unfold rx_get at h
  simp only at h hst hlv hw
  match sk, cst, h, hst with
  | .ref a :: sr, w :: cr, h, ⟨⟨a', ha, hwe⟩, h3⟩ =>
    subst hwe
    simp only at h
    cases hwa : ws[a]? with
    | none => rw [hwa] at h; cases h
    | some e0 =>
      rw [hwa] at h
      cases e0 with
      | inr _ => cases h
      | inl q =>
        obtain ⟨ci', fs⟩ := q
        simp only at h
        obtain ⟨g1, g2⟩ := rx_cond_some h
        have hci := Nat.eq_of_beq_eq_true g1
        subst hci
        cases hf : fs[k]? with
        | none => rw [hf] at g2; cases g2
        | some v =>
          rw [hf] at g2
          cases g2
          obtain ⟨ce, f1, cfs, f2, f3⟩ := hw.at hwa ha
          subst f2
          obtain ⟨w, f4, f5⟩ := f3.get k hf
          exact va_get hx hb hts hin hown hK.1 hP a f1 hc k hk (hts _ hl0) (fun _ h9 => h9) f4 d (hgo tl cws H locs ls (w :: cr) clv hw hP hD hS hlv hl ⟨f5, h3⟩)
def rx_okty (ty : FieldType) (v : Value) : Bool := match ty with
  | .int => rx_is 0 v
  | .long => rx_is 1 v
  | .boolean => match v with
    | .int x => decide (x = 0) || decide (x = 1)
    | _ => false
  | .object _ => rx_is 2 v
  | .array _ => rx_is 2 v
  | _ => false
theorem rx_okty_ok {ρ : List Nat} {σ : Nat → Int32} {ty : FieldType} {v w : Value} (h : rx_okty ty v = true) (hv : rx_v ρ σ v w) : narrow ty w = w ∧ fits ty w = true := by
  cases ty with
  | int => obtain ⟨x, rfl⟩ := rx_is0 h hv; exact ⟨rfl, rfl⟩
  | long => obtain ⟨x, rfl⟩ := rx_is1 h hv; exact ⟨rfl, rfl⟩
  | boolean =>
    cases v with
    | int x =>
      cases hv
      simp only [rx_okty, Bool.or_eq_true, decide_eq_true_eq] at h
      rcases h with rfl | rfl <;> exact ⟨by decide, by decide⟩
    | _ => cases h
  | object C => rcases rx_is2 h hv with rfl | ⟨a, rfl⟩ <;> exact ⟨rfl, rfl⟩
  | array C => rcases rx_is2 h hv with rfl | ⟨a, rfl⟩ <;> exact ⟨rfl, rfl⟩
  | _ => cases h
def rx_putf (ci k : Nat) (ty : FieldType) (pc' : Nat) : rx_T := fun _ st => match st.2.1 with
  | v :: .ref a :: sk => match st.2.2.1[a]? with
    | some (.inl (ci', fs)) => cond (Nat.beq ci ci' && (rx_okty ty v && Nat.ble (k + 1) fs.length)) (some (.inl (pc', (st.1, sk, st.2.2.1.set a (.inl (ci', fs.set k v)), st.2.2.2)))) none
    | _ => none
  | _ => none
theorem rx_sd_putf {ci k index N : Nat} {C : String} {T : u_T} {ty : FieldType} {ty0 : Nat → FieldType} (hin : ∀ w ∈ u_ws C T N, w ∈ G.gT) (hty : ∀ k, k < N → parseFieldDescriptor (T k).2.2.1 = some (ty0 k)) (hnm : ∀ a, a < N → ∀ b, b < N → a ≠ b → (T a).2.1 ≠ (T b).2.1) (hc : G.cl[ci]? = some (C, T, N)) (hk : k < N) (hl0 : Cond.fieldLink M.1.cls index (T k).1 (T k).2.1 (T k).2.2.1 ∈ G.gT) (hfin : (T k).2.2.2 = false ∨ (T k).2.2.2 = true ∧ M.1.name = "<init>" ∧ (T k).1 = M.1.cls) (hd : ty0 k = ty) (d : decode M.2.1 pc = .ok (.putfield index, 3)) : rx_Sd G MT M pc (rx_putf ci k ty (pc + 3)) := by
  intro p e s m args below meth c A X rec hrec st o h ρ0 r hgo
  obtain ⟨hx, hb, hml, hr, hown, hts, hlk, hnm0, hK, hA⟩ := X
  obtain ⟨lv, sk, ws, c0, s0⟩ := st
  intro tl cws H locs ls cst clv hw hP hD hS hlv hl hst
  unfold rx_putf at h
  simp only at h hst hlv hw
  match sk, cst, h, hst with
  | v :: .ref a :: sr, w1 :: w2 :: cr, h, ⟨h1, ⟨a', ha, hwe⟩, h3⟩ =>
    subst hwe
    simp only at h
    cases hwa : ws[a]? with
    | none => rw [hwa] at h; cases h
    | some e0 =>
      rw [hwa] at h
      cases e0 with
      | inr _ => cases h
      | inl q =>
        obtain ⟨ci', fs⟩ := q
        simp only at h
        obtain ⟨g1, g2⟩ := rx_cond_some h
        cases g2
        rw [Bool.and_eq_true, Bool.and_eq_true] at g1
        have hci := Nat.eq_of_beq_eq_true g1.1
        subst hci
        obtain ⟨ce, f1, cfs, f2, f3⟩ := hw.at hwa ha
        subst f2
        obtain ⟨n1, n2⟩ := rx_okty_ok g1.2.1 h1
        have hlen : k < cfs.length := by rw [← f3.len]; exact Nat.le_of_ble_eq_true g1.2.2
        have hd' : parseFieldDescriptor (T k).2.2.1 = some ty := by rw [hty k hk, hd]
        have K : ∀ (H1 : Heap) (locs1 : List Loc), va_P G.D G.cl (cws.set a (a', .inr (ci, cfs.set k w1))) H1 → va_D A (cws.set a (a', .inr (ci, cfs.set k w1))) → va_S A s.heap H1 locs1 → W p G.l e M.2.2.2.2.1 s m args below meth c H1 locs1 c0 s0 (MQ below (rx_Q G ρ0 r A) args s M.2.2.2.2.1.cells M.2.2.2.2.1.slots A) (F0 m (pc + 3) ls cr) := by
          intro H1 locs1 hP1 hD1 hS1
          exact hgo tl _ H1 locs1 ls cr clv (hw.set f1 ⟨_, rfl, f3.set k h1⟩) hP1 hD1 hS1 hlv hl h3
        rcases hfin with hfin | ⟨hfin, hini, hown2⟩
        · exact va_put hx hb hts hin ty0 hty hnm hown hK.1 hP hD hS a f1 hc k hk (hts _ hl0) (fun _ h9 => h9) hfin hd' n1 n2 hlen d K
        · exact va_putF hx hb hts hin ty0 hty hnm hown hK.1 hP hD hS a f1 hc k hk (hts _ hl0) (fun _ h9 => h9) hfin (hnm0.trans hini) hown2 hd' n1 n2 hlen d K
end CE
end
section
/-! ARRAYS -/
section AR
variable {G : rx_G} {MT : Nat → rx_M} {M : rx_M} {pc : Nat}
/-- what array class a kind has: 0 int, 1 long, 2 boolean, from 3 on references -/
def rx_TYOk (G : rx_G) : Prop := G.TY[0]? = some (G.cy 0, .int) ∧ G.TY[1]? = some (G.cy 1, .long) ∧ G.TY[2]? = some (G.cy 2, .boolean)
noncomputable def rx_ix {α : Type} (i : Int32) (n : Nat) (k : Nat → Option α) : Option α := cond (decide (i < 0)) none (rx_fN i.toNatClampNeg (fun j => cond (Nat.ble n j) none (k j)))
theorem rx_ix_some {α : Type} {i : Int32} {n : Nat} {k : Nat → Option α} {y : α} (h : rx_ix i n k = some y) : vp_in i n ∧ k i.toNatClampNeg = some y := by
  unfold rx_ix at h
  cases hb : decide (i < 0) with
  | true => rw [hb] at h; cases h
  | false =>
    rw [hb] at h
    simp only [cond_false, rx_fN_eq] at h
    cases hb2 : Nat.ble n i.toNatClampNeg with
    | true => rw [hb2] at h; cases h
    | false =>
      rw [hb2] at h
      refine ⟨fun q => ?_, h⟩
      rcases q with q | q
      · simp [q] at hb
      · rw [Nat.ble_eq_true_of_le q] at hb2; cases hb2
noncomputable def rx_ald (tag kind pc' : Nat) : rx_T := fun _ st => match st.2.1 with
  | .int i :: .ref a :: sk => match st.2.2.1[a]? with
    | some (.inr (t, n, u, d)) => cond (Nat.beq tag t) (rx_ix i n (fun j => match rx_look u d j with
      | .int x => cond (Nat.beq kind 0) (some (.inl (pc', (st.1, .int x :: sk, st.2.2)))) none
      | .float x => cond (Nat.beq kind 0) (some (.inl (pc', (st.1, .float x :: sk, st.2.2)))) none
      | .double x => cond (Nat.beq kind 0) (some (.inl (pc', (st.1, .double x :: sk, st.2.2)))) none
      | .long x => cond (Nat.beq kind 1) (some (.inl (pc', (st.1, .long x :: sk, st.2.2)))) none
      | .ref x => cond (Nat.beq kind 2) (some (.inl (pc', (st.1, .ref x :: sk, st.2.2)))) none
      | .null => cond (Nat.beq kind 2) (some (.inl (pc', (st.1, .null :: sk, st.2.2)))) none
      | .retAddr _ => none)) none
    | _ => none
  | _ => none
theorem rx_ald_some {tag kind pc' : Nat} {rec : rx_C} {lv : rx_L} {sk : List Value} {ws : rx_W} {c0 s0 : Nat} {o : rx_O} (h : rx_ald tag kind pc' rec (lv, sk, ws, c0, s0) = some o) : ∃ (i : Int32) (a : Nat) (sr : List Value) (n : Nat) (u : List (Nat × Value)) (d : Value), sk = .int i :: .ref a :: sr ∧ ws[a]? = some (.inr (tag, n, u, d)) ∧ vp_in i n ∧ rx_is kind (rx_look u d i.toNatClampNeg) = true ∧ o = .inl (pc', (lv, rx_look u d i.toNatClampNeg :: sr, ws, c0, s0)) := by
  unfold rx_ald at h
  simp only at h
  split at h
  · next i a sr =>
    split at h
    · next t n u d hw =>
      obtain ⟨g1, g2⟩ := rx_cond_some h
      have := Nat.eq_of_beq_eq_true g1
      subst this
      obtain ⟨g3, g4⟩ := rx_ix_some g2
      refine ⟨i, a, sr, n, u, d, rfl, hw, g3, ?_⟩
      cases hv : rx_look u d i.toNatClampNeg with
      | retAddr _ => rw [hv] at g4; cases g4
      | _ =>
        rw [hv] at g4
        obtain ⟨g5, g6⟩ := rx_cond_some g4
        cases g6
        exact ⟨g5, rfl⟩
    · cases h
  · cases h
theorem rx_sd_iald (hT : rx_TYOk G) (d : decode M.2.1 pc = .ok (.iaload, 1)) : rx_Sd G MT M pc (rx_ald 0 0 (pc + 1)) := by
  intro p e s m args below meth c A X rec hrec st o h ρ0 r hgo
  obtain ⟨hx, hb, hml, hr, hown, hts, hlk, hnm, hK, hA⟩ := X
  obtain ⟨lv, sk, ws, c0, s0⟩ := st
  intro tl cws H locs ls cst clv hw hP hD hS hlv hl hst
  obtain ⟨i, a, sr, n, u, dd, rfl, g1, g2, g3, rfl⟩ := rx_ald_some h
  match cst, hst with
  | w1 :: w2 :: cr, ⟨h1, ⟨a', ha, h2⟩, h3⟩ =>
    cases h1; subst h2
    obtain ⟨ce, f1, f, f2, f3⟩ := hw.at g1 ha
    subst f2
    exact va_iald hx hb hK.1 hP a 0 f1 hT.1 g2 d (hgo tl cws H locs ls _ clv hw hP hD hS hlv hl ⟨f3 _, h3⟩)
theorem rx_sd_zald (hT : rx_TYOk G) (d : decode M.2.1 pc = .ok (.baload, 1)) : rx_Sd G MT M pc (rx_ald 2 0 (pc + 1)) := by
  intro p e s m args below meth c A X rec hrec st o h ρ0 r hgo
  obtain ⟨hx, hb, hml, hr, hown, hts, hlk, hnm, hK, hA⟩ := X
  obtain ⟨lv, sk, ws, c0, s0⟩ := st
  intro tl cws H locs ls cst clv hw hP hD hS hlv hl hst
  obtain ⟨i, a, sr, n, u, dd, rfl, g1, g2, g3, rfl⟩ := rx_ald_some h
  match cst, hst with
  | w1 :: w2 :: cr, ⟨h1, ⟨a', ha, h2⟩, h3⟩ =>
    cases h1; subst h2
    obtain ⟨ce, f1, f, f2, f3⟩ := hw.at g1 ha
    subst f2
    exact va_zald hx hb hK.1 hP a 2 f1 hT.2.2 g2 d (hgo tl cws H locs ls _ clv hw hP hD hS hlv hl ⟨f3 _, h3⟩)
theorem rx_sd_lald (hT : rx_TYOk G) (d : decode M.2.1 pc = .ok (.laload, 1)) : rx_Sd G MT M pc (rx_ald 1 1 (pc + 1)) := by
  intro p e s m args below meth c A X rec hrec st o h ρ0 r hgo
  obtain ⟨hx, hb, hml, hr, hown, hts, hlk, hnm, hK, hA⟩ := X
  obtain ⟨lv, sk, ws, c0, s0⟩ := st
  intro tl cws H locs ls cst clv hw hP hD hS hlv hl hst
  obtain ⟨i, a, sr, n, u, dd, rfl, g1, g2, g3, rfl⟩ := rx_ald_some h
  match cst, hst with
  | w1 :: w2 :: cr, ⟨h1, ⟨a', ha, h2⟩, h3⟩ =>
    cases h1; subst h2
    obtain ⟨ce, f1, f, f2, f3⟩ := hw.at g1 ha
    subst f2
    exact va_lald hx hb hK.1 hP a 1 f1 hT.2.1 g2 d (hgo tl cws H locs ls _ clv hw hP hD hS hlv hl ⟨f3 _, h3⟩)
theorem rx_sd_aald {t : Nat} {C : String} (hT : G.TY[t + 3]? = some (G.cy (t + 3), .object C)) (d : decode M.2.1 pc = .ok (.aaload, 1)) : rx_Sd G MT M pc (rx_ald (t + 3) 2 (pc + 1)) := by
  intro p e s m args below meth c A X rec hrec st o h ρ0 r hgo
  obtain ⟨hx, hb, hml, hr, hown, hts, hlk, hnm, hK, hA⟩ := X
  obtain ⟨lv, sk, ws, c0, s0⟩ := st
  intro tl cws H locs ls cst clv hw hP hD hS hlv hl hst
  obtain ⟨i, a, sr, n, u, dd, rfl, g1, g2, g3, rfl⟩ := rx_ald_some h
  match cst, hst with
  | w1 :: w2 :: cr, ⟨h1, ⟨a', ha, h2⟩, h3⟩ =>
    cases h1; subst h2
    obtain ⟨ce, f1, f, f2, f3⟩ := hw.at g1 ha
    subst f2
    exact va_aldq hx hb hK.1 hP a (t + 3) f1 hT g2 d (hgo tl cws H locs ls _ clv hw hP hD hS hlv hl ⟨f3 _, h3⟩)
/-- an int stored at a place that is known within bounds alone: the array's ints are any ints from then on -/
def rx_anyix (Y : rx_Y) (n : Nat) : Value → Bool
  | .float k => match Y.1[k.toNat]? with
    | some q => decide (0 ≤ q.1) && decide (q.2 < n)
    | none => false
  | _ => false
def rx_ints : List (Nat × Value) → Bool
  | [] => true
  | (_, v) :: t => rx_is 0 v && rx_ints t
noncomputable def rx_ast (Y : rx_Y) (tag : Nat) (ty : FieldType) (pc' : Nat) : rx_T := fun _ st => match st.2.1 with
  | v :: .int i :: .ref a :: sk => match st.2.2.1[a]? with
    | some (.inr (t, n, u, d)) => cond (Nat.beq tag t && rx_okty ty v) (rx_ix i n (fun j => some (.inl (pc', (st.1, sk, st.2.2.1.set a (.inr (t, n, (j, v) :: u, d)), st.2.2.2))))) none
    | _ => none
  | v :: x :: .ref a :: sk => match st.2.2.1[a]? with
    | some (.inr (t, n, _, _)) => cond (Nat.beq tag 0 && (Nat.beq tag t && (rx_is 0 v && rx_anyix Y n x))) (some (.inl (pc', (st.1, sk, st.2.2.1.set a (.inr (t, n, [], .double 0)), st.2.2.2)))) none
    | _ => none
  | _ => none
theorem rx_look_upd {ρ : List Nat} {σ : Nat → Int32} {u : List (Nat × Value)} {d v : Value} {k : Nat} {α : Type} {f : Nat → α} {g : α → Value} {x : α} {f' : Nat → α} (hf' : ∀ j, f' j = if j = k then x else f j) (hf : ∀ j, rx_v ρ σ (rx_look u d j) (g (f j))) (hv : rx_v ρ σ v (g x)) : ∀ j, rx_v ρ σ (rx_look ((k, v) :: u) d j) (g (f' j)) := by
  intro j
  rw [rx_look_cons, hf']
  by_cases h : j = k
  · simp [h]; exact hv
  · simp [h]; exact hf j
theorem rx_ast_some {Y : rx_Y} {tag : Nat} {ty : FieldType} {pc' : Nat} {rec : rx_C} {lv : rx_L} {sk : List Value} {ws : rx_W} {c0 s0 : Nat} {o : rx_O} (h : rx_ast Y tag ty pc' rec (lv, sk, ws, c0, s0) = some o) :
    (∃ (v : Value) (i : Int32) (a : Nat) (sr : List Value) (n : Nat) (u : List (Nat × Value)) (d : Value), sk = v :: .int i :: .ref a :: sr ∧ ws[a]? = some (.inr (tag, n, u, d)) ∧ vp_in i n ∧ rx_okty ty v = true ∧ o = .inl (pc', (lv, sr, ws.set a (.inr (tag, n, (i.toNatClampNeg, v) :: u, d)), c0, s0))) ∨
    (∃ (v x : Value) (a : Nat) (sr : List Value) (n : Nat) (u : List (Nat × Value)) (d : Value), tag = 0 ∧ sk = v :: x :: .ref a :: sr ∧ ws[a]? = some (.inr (0, n, u, d)) ∧ rx_is 0 v = true ∧ rx_anyix Y n x = true ∧ o = .inl (pc', (lv, sr, ws.set a (.inr (0, n, [], .double 0)), c0, s0))) := by
  unfold rx_ast at h
  simp only at h
  split at h
  · next v i a sr =>
    left
    split at h
    · next t n u d hw =>
      obtain ⟨g1, g2⟩ := rx_cond_some h
      rw [Bool.and_eq_true] at g1
      have := Nat.eq_of_beq_eq_true g1.1
      subst this
      obtain ⟨g3, g4⟩ := rx_ix_some g2
      cases g4
      exact ⟨v, i, a, sr, n, u, d, rfl, hw, g3, g1.2, rfl⟩
    · cases h
  · next v x a sr _ =>
    right
    split at h
    · next t n u d hw =>
      obtain ⟨g1, g2⟩ := rx_cond_some h
      simp only [Bool.and_eq_true] at g1
      obtain ⟨k0, k1, k2, k3⟩ := g1
      have k0 := Nat.eq_of_beq_eq_true k0
      have k1 := Nat.eq_of_beq_eq_true k1
      subst k0; subst k1
      cases g2
      exact ⟨v, x, a, sr, n, u, d, rfl, rfl, hw, k2, k3, rfl⟩
    · cases h
  · cases h
theorem rx_anyix_ok {Y : rx_Y} {ρ : List Nat} {σ : Nat → Int32} (hY : rx_YOk Y σ) {n : Nat} {x w : Value} (h : rx_anyix Y n x = true) (hv : rx_v ρ σ x w) : ∃ i : Int32, w = .int i ∧ vp_in i n := by
  cases x with
  | float k =>
    cases hv
    unfold rx_anyix at h
    simp only at h
    cases hk : Y.1[k.toNat]? with
    | none => rw [hk] at h; cases h
    | some q =>
      rw [hk] at h
      simp only [Bool.and_eq_true, decide_eq_true_eq] at h
      have := hY.1 _ _ hk
      exact ⟨_, rfl, vp_in_iff.mpr ⟨by omega, by omega⟩⟩
  | _ => cases h
theorem rx_sd_iast {Y : rx_Y} (hY : rx_YOk Y G.sg) (hT : rx_TYOk G) (d : decode M.2.1 pc = .ok (.iastore, 1)) : rx_Sd G MT M pc (rx_ast Y 0 .int (pc + 1)) := by
  intro p e s m args below meth c A X rec hrec st o h ρ0 r hgo
  obtain ⟨hx, hb, hml, hr, hown, hts, hlk, hnm, hK, hA⟩ := X
  obtain ⟨lv, sk, ws, c0, s0⟩ := st
  intro tl cws H locs ls cst clv hw hP hD hS hlv hl hst
  rcases rx_ast_some h with ⟨v, i, a, sr, n, u, dd, rfl, g1, g2, g3, rfl⟩ | ⟨v, x, a, sr, n, u, dd, -, rfl, g1, g2, g3, rfl⟩
  · match cst, hst with
    | w1 :: w2 :: w3 :: cr, ⟨h1, h2, ⟨a', ha, h4⟩, h3⟩ =>
      cases h2; subst h4
      obtain ⟨y, rfl⟩ := rx_is0 g3 h1
      obtain ⟨ce, f1, f, f2, f3⟩ := hw.at g1 ha
      subst f2
      exact va_iast hx hb hK.1 hP hD hS a 0 f1 hT.1 g2 d (fun H1 locs1 hP1 hD1 hS1 => hgo tl _ H1 locs1 ls cr clv (hw.set f1 (e := .inr (0, n, (i.toNatClampNeg, v) :: u, dd)) ⟨_, rfl, rx_look_upd (g := Value.int) (fun _ => rfl) f3 h1⟩) hP1 hD1 hS1 hlv hl h3)
  · match cst, hst with
    | w1 :: w2 :: w3 :: cr, ⟨h1, h2, ⟨a', ha, h4⟩, h3⟩ =>
      subst h4
      obtain ⟨y, rfl⟩ := rx_is0 g2 h1
      obtain ⟨i, rfl, hi⟩ := rx_anyix_ok hY g3 h2
      obtain ⟨ce, f1, f, f2, f3⟩ := hw.at g1 ha
      subst f2
      exact va_iast hx hb hK.1 hP hD hS a 0 f1 hT.1 hi d (fun H1 locs1 hP1 hD1 hS1 => hgo tl _ H1 locs1 ls cr clv (hw.set f1 (e := .inr (0, n, [], .double 0)) ⟨_, rfl, fun j => ⟨_, rfl⟩⟩) hP1 hD1 hS1 hlv hl h3)
theorem rx_sd_last {Y : rx_Y} (hT : rx_TYOk G) (d : decode M.2.1 pc = .ok (.lastore, 1)) : rx_Sd G MT M pc (rx_ast Y 1 .long (pc + 1)) := by
  intro p e s m args below meth c A X rec hrec st o h ρ0 r hgo
  obtain ⟨hx, hb, hml, hr, hown, hts, hlk, hnm, hK, hA⟩ := X
  obtain ⟨lv, sk, ws, c0, s0⟩ := st
  intro tl cws H locs ls cst clv hw hP hD hS hlv hl hst
  rcases rx_ast_some h with ⟨v, i, a, sr, n, u, dd, rfl, g1, g2, g3, rfl⟩ | ⟨v, x, a, sr, n, u, dd, h9, -⟩
  · match cst, hst with
    | w1 :: w2 :: w3 :: cr, ⟨h1, h2, ⟨a', ha, h4⟩, h3⟩ =>
      cases h2; subst h4
      obtain ⟨y, rfl⟩ := rx_is1 g3 h1
      obtain ⟨ce, f1, f, f2, f3⟩ := hw.at g1 ha
      subst f2
      exact va_last hx hb hK.1 hP hD hS a 1 f1 hT.2.1 g2 d (fun H1 locs1 hP1 hD1 hS1 => hgo tl _ H1 locs1 ls cr clv (hw.set f1 (e := .inr (1, n, (i.toNatClampNeg, v) :: u, dd)) ⟨_, rfl, rx_look_upd (g := Value.long) (fun _ => rfl) f3 h1⟩) hP1 hD1 hS1 hlv hl h3)
  · cases h9
theorem rx_sd_zast {Y : rx_Y} (hT : rx_TYOk G) (d : decode M.2.1 pc = .ok (.bastore, 1)) : rx_Sd G MT M pc (rx_ast Y 2 .boolean (pc + 1)) := by
  intro p e s m args below meth c A X rec hrec st o h ρ0 r hgo
  obtain ⟨hx, hb, hml, hr, hown, hts, hlk, hnm, hK, hA⟩ := X
  obtain ⟨lv, sk, ws, c0, s0⟩ := st
  intro tl cws H locs ls cst clv hw hP hD hS hlv hl hst
  rcases rx_ast_some h with ⟨v, i, a, sr, n, u, dd, rfl, g1, g2, g3, rfl⟩ | ⟨v, x, a, sr, n, u, dd, h9, -⟩
  · match cst, hst with
    | w1 :: w2 :: w3 :: cr, ⟨h1, h2, ⟨a', ha, h4⟩, h3⟩ =>
      cases h2; subst h4
      cases v with
      | int y =>
        have hn : vp_nar .boolean y = y := by
          have := (rx_okty_ok (ρ := ρ0 ++ tl) (σ := G.sg) g3 (show rx_v (ρ0 ++ tl) G.sg (.int y) (.int y) from rfl)).1
          unfold vp_nar
          rw [this]
        cases h1
        obtain ⟨ce, f1, f, f2, f3⟩ := hw.at g1 ha
        subst f2
        refine va_zast hx hb hK.1 hP hD hS a 2 f1 hT.2.2 g2 d (fun H1 locs1 hP1 hD1 hS1 => ?_)
        rw [hn] at hP1 hD1
        exact hgo tl _ H1 locs1 ls cr clv (hw.set f1 (e := .inr (2, n, (i.toNatClampNeg, .int y) :: u, dd)) ⟨_, rfl, rx_look_upd (g := Value.int) (fun _ => rfl) f3 rfl⟩) hP1 hD1 hS1 hlv hl h3
      | _ => cases g3
  · cases h9
noncomputable def rx_asq (tag ci pc' : Nat) : rx_T := fun _ st => match st.2.1 with
  | .ref b :: .int i :: .ref a :: sk => match st.2.2.1[a]? with
    | some (.inr (t, n, u, d)) => match st.2.2.1[b]? with
      | some (.inl (ci', _)) => cond (Nat.beq tag t && Nat.beq ci ci') (rx_ix i n (fun j => some (.inl (pc', (st.1, sk, st.2.2.1.set a (.inr (t, n, (j, .ref b) :: u, d)), st.2.2.2))))) none
      | _ => none
    | _ => none
  | _ => none
theorem rx_sd_aast {t ci : Nat} {C : vw_C} (hT : G.TY[t + 3]? = some (G.cy (t + 3), .object C.1)) (hc : G.cl[ci]? = some C) (d : decode M.2.1 pc = .ok (.aastore, 1)) : rx_Sd G MT M pc (rx_asq (t + 3) ci (pc + 1)) := by
  intro p e s m args below meth c A X rec hrec st o h ρ0 r hgo
  obtain ⟨hx, hb, hml, hr, hown, hts, hlk, hnm, hK, hA⟩ := X
  obtain ⟨lv, sk, ws, c0, s0⟩ := st
  intro tl cws H locs ls cst clv hw hP hD hS hlv hl hst
  unfold rx_asq at h
  simp only at h hst hlv hw
  split at h
  · next b i a sr =>
    split at h
    · next t' n u dd hwa =>
      split at h
      · next ci' fs hwb =>
        obtain ⟨g1, g2⟩ := rx_cond_some h
        rw [Bool.and_eq_true] at g1
        have e1 := Nat.eq_of_beq_eq_true g1.1
        have e2 := Nat.eq_of_beq_eq_true g1.2
        subst e1; subst e2
        obtain ⟨g3, g4⟩ := rx_ix_some g2
        cases g4
        match cst, hst with
        | w1 :: w2 :: w3 :: cr, ⟨⟨b', hb', h1⟩, h2, ⟨a', ha, h4⟩, h3⟩ =>
          cases h2; subst h4; subst h1
          obtain ⟨ce, f1, f, f2, f3⟩ := hw.at hwa ha
          obtain ⟨ce2, k1, cfs, k2, k3⟩ := hw.at hwb hb'
          subst f2; subst k2
          exact va_astq hx hb hK.1 hP hD hS a (t + 3) b ci f1 hT k1 hc g3 d (fun H1 locs1 hP1 hD1 hS1 => hgo tl _ H1 locs1 ls cr clv (hw.set f1 (e := .inr (t + 3, n, (i.toNatClampNeg, .ref b) :: u, dd)) ⟨_, rfl, rx_look_upd (g := va_rf) (fun _ => rfl) f3 ⟨b', hb', rfl⟩⟩) hP1 hD1 hS1 hlv hl h3)
      · cases h
    · cases h
  · cases h
end AR
end
section
/-! NEW CELLS, CALLS, ENDS -/
section CA
variable {G : rx_G} {MT : Nat → rx_M} {M : rx_M} {pc : Nat}
noncomputable def rx_new (ci : Nat) (fs : List Value) (RC RS pc' : Nat) : rx_T := fun _ st => cond (Nat.ble (st.2.2.2.1 + 1) RC && Nat.ble (st.2.2.2.2 + fs.length) RS) (rx_fN st.2.2.1.length (fun n => some (.inl (pc', (st.1, .ref n :: st.2.1, st.2.2.1 ++ [.inl (ci, fs)], st.2.2.2.1 + 1, st.2.2.2.2 + fs.length))))) none
def rx_consts (σ : Nat → Int32) (fs : List Value) : Prop := ∀ ρ, rx_l ρ σ fs fs
theorem rx_w.fresh {ρ : List Nat} {σ : Nat → Int32} {cy : Nat → ClassId} {ws : rx_W} {cws : va_W} (h : rx_w ρ σ cy ws cws) (q : Nat) : (ρ ++ [q])[ws.length]? = some q := by
  have : ρ.length = ws.length := by rw [← h.1, List.length_map, h.2.1]
  rw [List.getElem?_append_right (by omega), this]
  simp
theorem rx_sd_new {ci index N : Nat} {C : String} {T : u_T} {ty : Nat → FieldType} {fs : List Value} (hin : ∀ w ∈ u_ws C T N, w ∈ G.gT) (hty : ∀ k, k < N → parseFieldDescriptor (T k).2.2.1 = some (ty k)) (hc : G.cl[ci]? = some (C, T, N)) (hl0 : Cond.classLink M.1.cls index C ∈ G.gT) (hin0 : Cond.instantiable C N ∈ G.gT) (hini : Cond.initialized C ∈ G.gT) (hfs : ∀ j, j < N → defaultValue (ty j) = vp_V fs j) (hlen : fs.length = N) (hcs : rx_consts G.sg fs) (d : decode M.2.1 pc = .ok (.new index, 3)) : rx_Sd G MT M pc (rx_new ci fs M.2.2.2.2.1.cells M.2.2.2.2.1.slots (pc + 3)) := by
  intro p e s m args below meth c A X rec hrec st o h ρ0 r hgo
  obtain ⟨hx, hb, hml, hr, hown, hts, hlk, hnm, hK, hA⟩ := X
  obtain ⟨lv, sk, ws, c0, s0⟩ := st
  intro tl cws H locs ls cst clv hw hP hD hS hlv hl hst
  unfold rx_new at h
  simp only [rx_fN_eq] at h hst hlv hw
  obtain ⟨g1, g2⟩ := rx_cond_some h
  rw [Bool.and_eq_true] at g1
  cases g2
  subst hlen
  refine va_new (fs := fs) hx hb hts hin ty hty hown (hts _ hl0) (hts _ hin0) (hts _ hini) hK.1 hP hD hS hA hc hfs (Nat.le_of_ble_eq_true g1.1) (Nat.le_of_ble_eq_true g1.2) d (fun q H1 hP1 hD1 hS1 => ?_)
  have e1 : ρ0 ++ (tl ++ [q]) = (ρ0 ++ tl) ++ [q] := by rw [List.append_assoc]
  refine hgo (tl ++ [q]) _ H1 locs ls (.ref q :: cst) clv ?_ hP1 hD1 hS1 ?_ hl ?_
  · rw [e1]; exact hw.new (e := .inl (ci, fs)) ⟨_, rfl, hcs _⟩
  · rw [e1]; exact hlv.mono
  · rw [e1]; exact ⟨⟨q, hw.fresh q, rfl⟩, hst.mono⟩
theorem rx_ra_same {U : State} {c1 c2 : ClassId} {ty : FieldType} (h1 : va_RA U c1 ty) (h2 : va_RA U c2 ty) : c1 = c2 := by
  cases ty with
  | object C =>
    obtain ⟨_, _, _, _, _, e1⟩ := h1
    obtain ⟨_, _, _, _, _, e2⟩ := h2
    exact Option.some.inj (e1.symm.trans e2)
  | _ => exact Option.some.inj (Eq.trans (Eq.symm h1) h2)
theorem rx_new_cls {D : va_G} {cl : List vw_C} {TY : List (ClassId × FieldType)} {s : State} {cA c1 : ClassId} {ty : FieldType} {t : Nat} (h : va_K D cl (TY ++ [(cA, ty)]) s) (ht : TY[t]? = some (c1, ty)) : cA = c1 := by
  have hl : t < TY.length := (List.getElem?_eq_some_iff.mp ht).1
  have h1 := (h.2 t (c1, ty) (by rw [List.getElem?_append_left hl]; exact ht)).2
  have h2 := (h.2 TY.length (cA, ty) (by rw [List.getElem?_append_right (Nat.le_refl _)]; simp)).2
  exact rx_ra_same h2 h1
/-- a kind's first value -/
def rx_d0 : Nat → Value
  | 0 => .int 0
  | 1 => .long 0
  | 2 => .int 0
  | _ => .null
noncomputable def rx_nwa (tag RC RS pc' : Nat) : rx_T := fun _ st => match st.2.1 with
  | .int n :: sk => cond (decide (n < 0)) none (rx_fN n.toNatClampNeg (fun N => cond (Nat.ble (st.2.2.2.1 + 1) RC && (Nat.ble (st.2.2.2.2 + N) RS && Nat.ble N 60000000)) (rx_fN st.2.2.1.length (fun k => some (.inl (pc', (st.1, .ref k :: sk, st.2.2.1 ++ [.inr (tag, N, [], rx_d0 tag)], st.2.2.2.1 + 1, st.2.2.2.2 + N))))) none))
  | _ => none
theorem rx_nwa_some {tag RC RS pc' : Nat} {rec : rx_C} {lv : rx_L} {sk : List Value} {ws : rx_W} {c0 s0 : Nat} {o : rx_O} (h : rx_nwa tag RC RS pc' rec (lv, sk, ws, c0, s0) = some o) : ∃ (n : Int32) (sr : List Value), sk = .int n :: sr ∧ ¬ n < 0 ∧ c0 + 1 ≤ RC ∧ s0 + n.toNatClampNeg ≤ RS ∧ n.toNatClampNeg ≤ 60000000 ∧ o = .inl (pc', (lv, .ref ws.length :: sr, ws ++ [.inr (tag, n.toNatClampNeg, [], rx_d0 tag)], c0 + 1, s0 + n.toNatClampNeg)) := by
  unfold rx_nwa at h
  simp only at h
  split at h
  · next n sr =>
    cases hb : decide (n < 0) with
    | true => rw [hb] at h; cases h
    | false =>
      rw [hb] at h
      simp only [cond_false, rx_fN_eq] at h
      obtain ⟨g1, g2⟩ := rx_cond_some h
      simp only [Bool.and_eq_true] at g1
      cases g2
      exact ⟨n, sr, rfl, by simpa using hb, Nat.le_of_ble_eq_true g1.1, Nat.le_of_ble_eq_true g1.2.1, Nat.le_of_ble_eq_true g1.2.2, rfl⟩
  · cases h
theorem rx_arr_i (N : Nat) (cA : ClassId) : vp_cell cA (N, .inl (fun _ => 0)) = arrV cA N (fun _ => defaultValue .int) := rfl
theorem rx_arr_z (N : Nat) (cA : ClassId) : vp_cell cA (N, .inl (fun _ => 0)) = arrV cA N (fun _ => defaultValue .boolean) := rfl
theorem rx_arr_l (N : Nat) (cA : ClassId) : vp_cell cA (N, .inr (.inl (fun _ => 0))) = arrV cA N (fun _ => defaultValue .long) := rfl
theorem rx_sd_newI (hT : rx_TYOk G) (hw0 : Cond.arrayClass .int ∈ G.gT) {at' : ArrayType} (hat : newarray.typeOf at' = .int) (d : decode M.2.1 pc = .ok (.newarray at', 2)) : rx_Sd G MT M pc (rx_nwa 0 M.2.2.2.2.1.cells M.2.2.2.2.1.slots (pc + 2)) := by
  intro p e s m args below meth c A X rec hrec st o h ρ0 r hgo
  obtain ⟨hx, hb, hml, hr, hown, hts, hlk, hnm, hK, hA⟩ := X
  obtain ⟨lv, sk, ws, c0, s0⟩ := st
  intro tl cws H locs ls cst clv hw hP hD hS hlv hl hst
  obtain ⟨n, sr, rfl, g1, g2, g3, g4, rfl⟩ := rx_nwa_some h
  match cst, hst with
  | w1 :: cr, ⟨h1, h3⟩ =>
    cases h1
    refine va_newa (a0 := (n.toNatClampNeg, .inl (fun _ => 0))) hx hb (by rw [hat]; exact hts _ hw0) hat hK.1 hP hD hS hA (rx_arr_i _) g1 rfl (by simp only [componentBytes]; omega) g2 g3 d (fun q cA H1 hK1 hP1 hD1 hS1 => ?_)
    have := rx_new_cls hK1 hT.1
    subst this
    have e1 : ρ0 ++ (tl ++ [q]) = (ρ0 ++ tl) ++ [q] := by rw [List.append_assoc]
    refine hgo (tl ++ [q]) _ H1 locs ls (.ref q :: cr) clv ?_ hP1 hD1 hS1 ?_ hl ?_
    · rw [e1]; exact hw.new (e := .inr (0, n.toNatClampNeg, [], .int 0)) ⟨_, rfl, fun _ => rfl⟩
    · rw [e1]; exact hlv.mono
    · rw [e1]; exact ⟨⟨q, hw.fresh q, rfl⟩, h3.mono⟩
theorem rx_sd_newZ (hT : rx_TYOk G) (hw0 : Cond.arrayClass .boolean ∈ G.gT) {at' : ArrayType} (hat : newarray.typeOf at' = .boolean) (d : decode M.2.1 pc = .ok (.newarray at', 2)) : rx_Sd G MT M pc (rx_nwa 2 M.2.2.2.2.1.cells M.2.2.2.2.1.slots (pc + 2)) := by
  intro p e s m args below meth c A X rec hrec st o h ρ0 r hgo
  obtain ⟨hx, hb, hml, hr, hown, hts, hlk, hnm, hK, hA⟩ := X
  obtain ⟨lv, sk, ws, c0, s0⟩ := st
  intro tl cws H locs ls cst clv hw hP hD hS hlv hl hst
  obtain ⟨n, sr, rfl, g1, g2, g3, g4, rfl⟩ := rx_nwa_some h
  match cst, hst with
  | w1 :: cr, ⟨h1, h3⟩ =>
    cases h1
    refine va_newa (a0 := (n.toNatClampNeg, .inl (fun _ => 0))) hx hb (by rw [hat]; exact hts _ hw0) hat hK.1 hP hD hS hA (rx_arr_z _) g1 rfl (by simp only [componentBytes]; omega) g2 g3 d (fun q cA H1 hK1 hP1 hD1 hS1 => ?_)
    have := rx_new_cls hK1 hT.2.2
    subst this
    have e1 : ρ0 ++ (tl ++ [q]) = (ρ0 ++ tl) ++ [q] := by rw [List.append_assoc]
    refine hgo (tl ++ [q]) _ H1 locs ls (.ref q :: cr) clv ?_ hP1 hD1 hS1 ?_ hl ?_
    · rw [e1]; exact hw.new (e := .inr (2, n.toNatClampNeg, [], .int 0)) ⟨_, rfl, fun _ => rfl⟩
    · rw [e1]; exact hlv.mono
    · rw [e1]; exact ⟨⟨q, hw.fresh q, rfl⟩, h3.mono⟩
theorem rx_sd_newL (hT : rx_TYOk G) (hw0 : Cond.arrayClass .long ∈ G.gT) {at' : ArrayType} (hat : newarray.typeOf at' = .long) (d : decode M.2.1 pc = .ok (.newarray at', 2)) : rx_Sd G MT M pc (rx_nwa 1 M.2.2.2.2.1.cells M.2.2.2.2.1.slots (pc + 2)) := by
  intro p e s m args below meth c A X rec hrec st o h ρ0 r hgo
  obtain ⟨hx, hb, hml, hr, hown, hts, hlk, hnm, hK, hA⟩ := X
  obtain ⟨lv, sk, ws, c0, s0⟩ := st
  intro tl cws H locs ls cst clv hw hP hD hS hlv hl hst
  obtain ⟨n, sr, rfl, g1, g2, g3, g4, rfl⟩ := rx_nwa_some h
  match cst, hst with
  | w1 :: cr, ⟨h1, h3⟩ =>
    cases h1
    refine va_newa (a0 := (n.toNatClampNeg, .inr (.inl (fun _ => 0)))) hx hb (by rw [hat]; exact hts _ hw0) hat hK.1 hP hD hS hA (rx_arr_l _) g1 rfl (by simp only [componentBytes]; omega) g2 g3 d (fun q cA H1 hK1 hP1 hD1 hS1 => ?_)
    have := rx_new_cls hK1 hT.2.1
    subst this
    have e1 : ρ0 ++ (tl ++ [q]) = (ρ0 ++ tl) ++ [q] := by rw [List.append_assoc]
    refine hgo (tl ++ [q]) _ H1 locs ls (.ref q :: cr) clv ?_ hP1 hD1 hS1 ?_ hl ?_
    · rw [e1]; exact hw.new (e := .inr (1, n.toNatClampNeg, [], .long 0)) ⟨_, rfl, fun _ => rfl⟩
    · rw [e1]; exact hlv.mono
    · rw [e1]; exact ⟨⟨q, hw.fresh q, rfl⟩, h3.mono⟩
theorem rx_sd_newq {t index : Nat} {C : String} (hT : G.TY[t + 3]? = some (G.cy (t + 3), .object C)) (hO : C ∈ G.OC) (hl0 : Cond.classLink M.1.cls index C ∈ G.gT) (d : decode M.2.1 pc = .ok (.anewarray index, 3)) : rx_Sd G MT M pc (rx_nwa (t + 3) M.2.2.2.2.1.cells M.2.2.2.2.1.slots (pc + 3)) := by
  intro p e s m args below meth c A X rec hrec st o h ρ0 r hgo
  obtain ⟨hx, hb, hml, hr, hown, hts, hlk, hnm, hK, hA⟩ := X
  obtain ⟨lv, sk, ws, c0, s0⟩ := st
  intro tl cws H locs ls cst clv hw hP hD hS hlv hl hst
  obtain ⟨n, sr, rfl, g1, g2, g3, g4, rfl⟩ := rx_nwa_some h
  match cst, hst with
  | w1 :: cr, ⟨h1, h3⟩ =>
    cases h1
    refine va_newq hx hb hown (hts _ hl0) (hK.2.2 C hO) hK.1 hP hD hS hA g1 rfl (by omega) g2 g3 d (fun q cA H1 hK1 hP1 hD1 hS1 => ?_)
    have := rx_new_cls hK1 hT
    subst this
    have e1 : ρ0 ++ (tl ++ [q]) = (ρ0 ++ tl) ++ [q] := by rw [List.append_assoc]
    refine hgo (tl ++ [q]) _ H1 locs ls (.ref q :: cr) clv ?_ hP1 hD1 hS1 ?_ hl ?_
    · rw [e1]; exact hw.new (e := .inr (t + 3, n.toNatClampNeg, [], .null)) ⟨_, rfl, fun _ => rfl⟩
    · rw [e1]; exact hlv.mono
    · rw [e1]; exact ⟨⟨q, hw.fresh q, rfl⟩, h3.mono⟩
/-- Object.<init> -/
def rx_obj (RL pc' : Nat) : rx_T := fun _ st => match st.2.1 with
  | .ref _ :: sk => cond (Nat.ble ((sk.map rx_cat).sum + 12) RL) (some (.inl (pc', (st.1, sk, st.2.2)))) none
  | _ => none
theorem rx_sd_obj {index : Nat} (hl0 : Cond.methodLink M.1.cls index objectInit ∈ G.gT) (hi0 : Cond.instanceMethod objectInit ∈ G.gT) (hc0 : Cond.code objectInit ⟨#[0xb1]⟩ 1 none ∈ G.gT) (hf : 1 ≤ M.2.2.2.2.1.frames) (d : decode M.2.1 pc = .ok (.invokespecial index, 3)) : rx_Sd G MT M pc (rx_obj M.2.2.2.2.1.locals (pc + 3)) := by
  intro p e s m args below meth c A X rec hrec st o h ρ0 r hgo
  obtain ⟨hx, hb, hml, hr, hown, hts, hlk, hnm, hK, hA⟩ := X
  obtain ⟨lv, sk, ws, c0, s0⟩ := st
  intro tl cws H locs ls cst clv hw hP hD hS hlv hl hst
  unfold rx_obj at h
  simp only at h hst hlv hw
  match sk, cst, h, hst with
  | .ref a :: sr, w :: cr, h, ⟨⟨a', ha, hwe⟩, h3⟩ =>
    subst hwe
    simp only at h
    obtain ⟨g1, g2⟩ := rx_cond_some h
    cases g2
    have hs := Nat.le_of_ble_eq_true g1
    refine W.objInit hx hb hown (hts _ hl0) (hts _ hi0) (hts _ hc0) (g := F0 m pc ls (.ref a' :: cr)) rfl (by rw [hml]; exact hl.1) rfl d hf (by rw [h3.cats]; simpa [JFrame.monitorRoom] using hs) ?_
    refine W.eq (g2 := F0 m (pc + 3) ls cr) rfl ?_
    exact hgo tl cws H locs ls cr clv hw hP hD hS hlv hl h3
/-- behind a call -/
theorem rx_behind {p : Program} {l : Launch} {e : Env} {R : Room} {s : State} {m : MethodId} {args : Array Value} {below : List Frame} {meth : Method} {c : Code} {H : Heap} {locs : List Loc} {cells slots : Nat} {Q : State → Prop} {pc : Nat} {ls : Array Slot} {rest st0 : List Value} {a : Array Value} {A0 A1 : Nat → Prop} {H0 : Heap} {mc ms : Nat} {free : Addr → Prop} {ρ : List Nat} {r : rx_R}
    (hr : va_Run p l e R s m args below meth c H locs cells slots mc ms (F0 m pc ls st0) rest (rx_Q G ρ r A1 a) free) (hS : va_S A0 H0 H locs) (hA : ∀ q, q < H.size → A1 q → A0 q) (hf : ∀ q, free q → A0 q)
    (kk : ∀ (v : Option Value) (tl : List Nat) (cws : va_W) (H1 : Heap) (locs1 : List Loc), rx_o (ρ ++ tl) G.sg r.1 v → rx_w (ρ ++ tl) G.sg G.cy r.2 cws → va_P G.D G.cl cws H1 → va_D A1 cws → va_S A0 H0 H1 locs1 → W p l e R s m args below meth c H1 locs1 (cells + mc) (slots + ms) Q (F0 m (pc + 3) ls (v.toList ++ rest))) : W p l e R s m args below meth c H locs cells slots Q (F0 m pc ls st0) := by
  intro T hT X
  obtain ⟨v, st₀, t, T', L, h0, X', hL, e1, e2, ⟨⟨v', tl, cws, hv, hp, hb, hP, hD⟩, hz, hk⟩, st⟩ := hr T hT X
  cases hv
  rw [h0] at hz hk
  obtain ⟨t2, a1, b1⟩ := kk v tl cws T'.heap (locs ++ L) hp hb (by rw [e1]; exact hP) hD
    ⟨Nat.le_trans hS.1 (by rw [e1]; exact hz), fun q h1 h2 => by rw [e1, hk q (Nat.lt_of_lt_of_le h1 hS.1) (fun z => h2 (hA q (Nat.lt_of_lt_of_le h1 hS.1) z))]; exact hS.2.1 q h1 h2, fun q hq => by
      rcases List.mem_append.mp hq with h | h
      · exact hS.2.2 q h
      · exact hf _ (hL q h)⟩ T' rfl X'
  exact ⟨t2, st t2 a1, b1⟩
def rx_recv (ci : Nat) (ws : rx_W) : List Value → Bool
  | .ref k :: _ => match ws[k]? with
    | some (.inl (ci', _)) => Nat.beq ci ci'
    | _ => false
  | _ => false
/-- a call of method 'mid' with n values (the receiver first); virt: the receiver is an object of class ci -/
def rx_cl (mid n ci : Nat) (virt : Bool) (mc ms RC RS pc' : Nat) : rx_T := fun rec st => cond (Nat.beq (st.2.1.take n).length n && (Nat.ble ((st.2.1.drop n).map rx_cat).sum 8 && (Nat.ble (st.2.2.2.1 + mc) RC && (Nat.ble (st.2.2.2.2 + ms) RS && (!virt || rx_recv ci st.2.2.1 (st.2.1.take n).reverse))))) (match rec mid (st.2.1.take n).reverse st.2.2.1 with
  | none => none
  | some (v, ws') => some (.inl (pc', (st.1, v.toList ++ st.2.1.drop n, ws', st.2.2.2.1 + mc, st.2.2.2.2 + ms)))) none
/-- how a call is linked: what the tables say, out of a contract -/
def rx_Lk (G : rx_G) (MT : Nat → rx_M) (M : rx_M) (pc mid n ci : Nat) (virt : Bool) : Prop :=
  ∀ (p : Program) (e : Env) (s : State) (m : MethodId) (args : Array Value) (below : List Frame) (meth : Method) (c : Code) (A : Nat → Prop) (H : Heap) (locs : List Loc) (cells slots : Nat) (ls : Array Slot) (ca rest : List Value) (Pc : Array Value → State → Prop) (Qc : Array Value → State → Outcome → State → Prop) (free : Addr → Prop), rx_X G M p s m args meth c A → ls.size = M.2.2.1 →
    Met G.l (MT mid).1 (rx_ws G (MT mid)) (MT mid).2.2.2.2.1 Pc Qc (MT mid).2.2.2.2.1.cells (MT mid).2.2.2.2.1.slots free → FrameBlind Pc → (∀ U : State, U.heap = H → s.WarmedH U.vm → Pc ca.toArray U) → ca.length = n →
    (virt = true → ∃ (b : Nat) (As : List Value) (C : vw_C) (cell : Cell), ca = .ref b :: As ∧ G.cl[ci]? = some C ∧ H[b]? = some cell ∧ cell.vm.isStatics = false ∧ s.vm.findClass C.1 = some cell.cls) → (rest.map fun v => v.category).sum ≤ 8 → cells + (MT mid).2.2.2.2.1.cells ≤ M.2.2.2.2.1.cells → slots + (MT mid).2.2.2.2.1.slots ≤ M.2.2.2.2.1.slots →
    va_Run p G.l e M.2.2.2.2.1 s m args below meth c H locs cells slots (MT mid).2.2.2.2.1.cells (MT mid).2.2.2.2.1.slots (F0 m pc ls (ca.reverse ++ rest)) rest (Qc ca.toArray) free
theorem rx_sd_cl {mid n ci : Nat} {virt : Bool} {mc ms : Nat} (hL : rx_Lk G MT M pc mid n ci virt) (hci : virt = true → ∃ C, G.cl[ci]? = some C) (hmc : (MT mid).2.2.2.2.1.cells = mc) (hms : (MT mid).2.2.2.2.1.slots = ms) : rx_Sd G MT M pc (rx_cl mid n ci virt mc ms M.2.2.2.2.1.cells M.2.2.2.2.1.slots (pc + 3)) := by
  intro p e s m args below meth c A X rec hrec st o h ρ0 r hgo
  have X0 := X
  obtain ⟨hx, hb, hml, hr, hown, hts, hlk, hnm, hK, hA⟩ := X
  obtain ⟨lv, sk, ws, c0, s0⟩ := st
  intro tl cws H locs ls cst clv hw hP hD hS hlv hl hst
  unfold rx_cl at h
  simp only at h hst hlv hw
  obtain ⟨g1, g2⟩ := rx_cond_some h
  simp only [Bool.and_eq_true] at g1
  obtain ⟨k1, k2, k3, k4, k5⟩ := g1
  subst hmc; subst hms
  cases hrc : rec mid (sk.take n).reverse ws with
  | none => rw [hrc] at g2; cases g2
  | some r1 =>
    obtain ⟨v1, ws1⟩ := r1
    rw [hrc] at g2
    cases g2
    have ht := hst.take n
    have hca := ht.1.rev
    have hM := hrec mid _ ws _ hrc (ρ0 ++ tl) cws H.size ((cst.take n).reverse) hw hca
    have hF : ∀ q, va_A cws H.size q → A q := by
      intro q hq
      rcases hq with ⟨k, e', hk⟩ | hq
      · exact hD.2 k (q, e') hk
      · exact hA q (Nat.le_trans hS.1 hq)
    have hlen : ((cst.take n).reverse).length = n := by
      rw [List.length_reverse, ← ht.1.len]
      exact Nat.eq_of_beq_eq_true k1
    have hrun := hL p e s m args below meth c A H locs c0 s0 ls ((cst.take n).reverse) (cst.drop n) _ _ _ X0 hl.1 hM (rx_Pc.blind G _ cws H.size) (fun U hU hW => ⟨rfl, by rw [hU], by rw [hU]; exact hP, hK.warm hW, hD.weaken (fun _ _ _ _ => trivial)⟩) hlen (fun hv => by
      subst hv
      simp only [Bool.not_true, Bool.false_or] at k5
      unfold rx_recv at k5
      split at k5
      · next k t hk =>
        split at k5
        · next ci' fs hwk =>
          have e1 := Nat.eq_of_beq_eq_true k5
          subst e1
          rw [hk] at hca
          obtain ⟨C, hC⟩ := hci rfl
          cases hcr : (cst.take n).reverse with
          | nil => rw [hcr] at hca; exact hca.elim
          | cons w As =>
            rw [hcr] at hca
            obtain ⟨⟨b, hb', hwb⟩, -⟩ := hca
            subst hwb
            obtain ⟨ce, f1, cfs, f2, f3⟩ := hw.at hwk hb'
            subst f2
            obtain ⟨cell, q1, q2, q3⟩ := va_recv hK.1 hP hC f1
            exact ⟨b, As, C, cell, rfl, hC, q1, q2, q3⟩
        · cases k5
      · cases k5) (by rw [ht.2.cats]; exact Nat.le_of_ble_eq_true k2) (Nat.le_of_ble_eq_true k3) (Nat.le_of_ble_eq_true k4)
    rw [List.reverse_reverse, List.take_append_drop] at hrun
    refine rx_behind hrun hS (fun q _ hq => hF q hq) hF (fun v t2 cws2 H2 locs2 e1 e2 e3 e4 e5 => ?_)
    have e6 : ρ0 ++ (tl ++ t2) = (ρ0 ++ tl) ++ t2 := by rw [List.append_assoc]
    refine hgo (tl ++ t2) cws2 H2 locs2 ls _ clv ?_ e3 (e4.weaken (fun k q _ hq => hF _ hq)) e5 ?_ hl ?_
    · rw [e6]; exact e2
    · rw [e6]; exact hlv.mono
    · rw [e6]
      refine rx_l.app ?_ ht.2.mono
      match v1, v, e1 with
      | none, none, _ => trivial
      | some x, some y, e1 => exact ⟨e1, trivial⟩
end CA
end
section
/-! LINKS, ENDS, COPIES, CONSTANTS -/
section EN
variable {G : rx_G} {MT : Nat → rx_M} {M : rx_M} {pc : Nat}
def rx_gok (G : rx_G) : Prop := ∀ w ∈ G.gT, (w.onTables && w.keeps) = true ∨ ∃ ty, w = .arrayClass ty
theorem rx_goodIn (hg : rx_gok G) {M' : rx_M} (hc : Cond.code M'.1 M'.2.1 M'.2.2.1 M'.2.2.2.1 ∈ G.gT) : GoodIn G.gT (rx_ws G M') := by
  intro w hw
  rcases List.mem_cons.mp hw with rfl | h
  · exact ⟨hc, hg _ hc⟩
  · exact ⟨h, hg _ h⟩
/-- what a call's link needs of the callee: its code in the tables, its owner ready, its parameters, its room in the caller's -/
def rx_fits (G : rx_G) (MT : Nat → rx_M) (M : rx_M) (mid n : Nat) : Prop := Cond.code (MT mid).1 (MT mid).2.1 (MT mid).2.2.1 (MT mid).2.2.2.1 ∈ G.gT ∧ Cond.initialized (MT mid).1.cls ∈ G.gT ∧ ((MT mid).1.cls ≠ "java/lang/invoke/MethodHandle" ∧ (MT mid).1.cls ≠ "java/lang/invoke/VarHandle" ∧ (parseMethodDescriptor (MT mid).1.desc).map (fun d => d.parameters.length) = some n) ∧ ((MT mid).2.2.2.2.1.frames + 1 ≤ M.2.2.2.2.1.frames ∧ 8 + ((MT mid).2.2.1 + 11) + (MT mid).2.2.2.2.1.locals ≤ M.2.2.2.2.1.locals)
theorem rx_rv (b : Value) (As rest : List Value) : (b :: As).reverse ++ rest = As.reverse ++ b :: rest := by simp
theorem rx_lk_V (hg : rx_gok G) {mid n ci index : Nat} {C : vw_C} (hf : rx_fits G MT M mid n) (hcl : G.cl[ci]? = some C) (hl : Cond.methodLink M.1.cls index (MT mid).1 ∈ G.gT) (hin : Cond.instanceMethod (MT mid).1 ∈ G.gT) (hse : Cond.selects C.1 (MT mid).1 (MT mid).1 ∈ G.gT) (d : decode M.2.1 pc = .ok (.invokevirtual index, 3)) : rx_Lk G MT M pc mid (n + 1) ci true := by
  intro p e s m args below meth c A H locs cells slots ls ca rest Pc Qc free X hls hM hbl hpre hlen hv hrest hc hs
  obtain ⟨hx, hb, hml, hr, hown, hts, hlk, hnm, hK, hA⟩ := X
  obtain ⟨b, As, C', cell, rfl, hC', q1, q2, q3⟩ := hv rfl
  rw [hcl] at hC'
  cases hC'
  refine va_runV (C := C.1) (b := b) (As := As) (rest := rest) ⟨hx, hb, hml, hown, hts⟩ hM ⟨callB_of n hts (rx_goodIn hg hf.1) rfl rfl rfl (hts _ hf.2.1) (hts _ hl) hf.2.2.1 hf.2.2.2, hts _ hin, hts _ hse⟩ ⟨hbl, ⟨cell, q1, q2, q3⟩, hpre⟩ rfl (by simpa using hlen) hls ?_ (lv_room hrest) d ⟨hc, hs⟩
  exact rx_rv _ As rest
theorem rx_lk_VN (hg : rx_gok G) {mid n ci index : Nat} {C : vw_C} {host : String} (hf : rx_fits G MT M mid n) (hcl : G.cl[ci]? = some C) (hl : (M.1.cls, index, (MT mid).1, host) ∈ G.NW) (hin : Cond.instanceMethod (MT mid).1 ∈ G.gT) (hse : Cond.selects C.1 (MT mid).1 (MT mid).1 ∈ G.gT) (d : decode M.2.1 pc = .ok (.invokevirtual index, 3)) : rx_Lk G MT M pc mid (n + 1) ci true := by
  intro p e s m args below meth c A H locs cells slots ls ca rest Pc Qc free X hls hM hbl hpre hlen hv hrest hc hs
  obtain ⟨hx, hb, hml, hr, hown, hts, hlk, hnm, hK, hA⟩ := X
  obtain ⟨b, As, C', cell, rfl, hC', q1, q2, q3⟩ := hv rfl
  rw [hcl] at hC'
  cases hC'
  refine va_runVN (C := C.1) (b := b) (As := As) (rest := rest) ⟨hx, hb, hml, hown, hts⟩ hM ⟨va_cnB n hts (rx_goodIn hg hf.1) rfl rfl rfl (hK.2.1 _ hl) (hts _ hf.2.1) hf.2.2.1 hf.2.2.2, hts _ hin, hts _ hse⟩ ⟨hbl, ⟨cell, q1, q2, q3⟩, hpre⟩ rfl (by simpa using hlen) hls ?_ (lv_room hrest) d ⟨hc, hs⟩
  exact rx_rv _ As rest
theorem rx_lk_S (hg : rx_gok G) {mid n index : Nat} (hf : rx_fits G MT M mid n) (hl : Cond.methodLink M.1.cls index (MT mid).1 ∈ G.gT) (hst : Cond.static (MT mid).1 ∈ G.gT) (d : decode M.2.1 pc = .ok (.invokestatic index, 3)) : rx_Lk G MT M pc mid n 0 false := by
  intro p e s m args below meth c A H locs cells slots ls ca rest Pc Qc free X hls hM hbl hpre hlen hv hrest hc hs
  obtain ⟨hx, hb, hml, hr, hown, hts, hlk, hnm, hK, hA⟩ := X
  exact va_runS (As := ca) (rest := rest) ⟨hx, hb, hml, hown, hts⟩ hM ⟨callB_of n hts (rx_goodIn hg hf.1) rfl rfl rfl (hts _ hf.2.1) (hts _ hl) hf.2.2.1 hf.2.2.2, hts _ hst⟩ ⟨hbl, hpre⟩ rfl hlen hls rfl (lv_room hrest) d ⟨hc, hs⟩
theorem rx_lk_SN (hg : rx_gok G) {mid n index : Nat} {host : String} (hf : rx_fits G MT M mid n) (hl : (M.1.cls, index, (MT mid).1, host) ∈ G.NW) (hst : Cond.static (MT mid).1 ∈ G.gT) (d : decode M.2.1 pc = .ok (.invokestatic index, 3)) : rx_Lk G MT M pc mid n 0 false := by
  intro p e s m args below meth c A H locs cells slots ls ca rest Pc Qc free X hls hM hbl hpre hlen hv hrest hc hs
  obtain ⟨hx, hb, hml, hr, hown, hts, hlk, hnm, hK, hA⟩ := X
  exact va_runSN (As := ca) (rest := rest) ⟨hx, hb, hml, hown, hts⟩ hM ⟨va_cnB n hts (rx_goodIn hg hf.1) rfl rfl rfl (hK.2.1 _ hl) (hts _ hf.2.1) hf.2.2.1 hf.2.2.2, hts _ hst, trivial⟩ ⟨hbl, hpre⟩ rfl hlen hls rfl (lv_room hrest) d ⟨hc, hs⟩
theorem rx_lk_I (hg : rx_gok G) {mid n ci index : Nat} {C : vw_C} (hf : rx_fits G MT M mid n) (hcl : G.cl[ci]? = some C) (hret : (MT mid).2.2.2.1 = none) (hl : Cond.methodLink M.1.cls index (MT mid).1 ∈ G.gT) (hin : Cond.instanceMethod (MT mid).1 ∈ G.gT) (hy : (MT mid).1.name = "<init>") (d : decode M.2.1 pc = .ok (.invokespecial index, 3)) : rx_Lk G MT M pc mid (n + 1) ci true := by
  intro p e s m args below meth c A H locs cells slots ls ca rest Pc Qc free X hls hM hbl hpre hlen hv hrest hc hs
  obtain ⟨hx, hb, hml, hr, hown, hts, hlk, hnm, hK, hA⟩ := X
  obtain ⟨b, As, C', cell, rfl, -, -⟩ := hv rfl
  refine va_runI (b := b) (As := As) (rest := rest) (maxL := (MT mid).2.2.1) (bytes := (MT mid).2.1) ⟨hx, hb, hml, hown, hts⟩ hM ⟨callB_of n hts (rx_goodIn hg hf.1) (by rw [← hret]) rfl rfl (hts _ hf.2.1) (hts _ hl) hf.2.2.1 hf.2.2.2, hy, hts _ hin⟩ ⟨hbl, hpre⟩ rfl (by simpa using hlen) hls ?_ (lv_room hrest) d ⟨hc, hs⟩
  exact rx_rv _ As rest
theorem rx_lk_IN (hg : rx_gok G) {mid n ci index : Nat} {C : vw_C} {host : String} (hf : rx_fits G MT M mid n) (hcl : G.cl[ci]? = some C) (hret : (MT mid).2.2.2.1 = none) (hl : (M.1.cls, index, (MT mid).1, host) ∈ G.NW) (hin : Cond.instanceMethod (MT mid).1 ∈ G.gT) (hy : (MT mid).1.name = "<init>") (d : decode M.2.1 pc = .ok (.invokespecial index, 3)) : rx_Lk G MT M pc mid (n + 1) ci true := by
  intro p e s m args below meth c A H locs cells slots ls ca rest Pc Qc free X hls hM hbl hpre hlen hv hrest hc hs
  obtain ⟨hx, hb, hml, hr, hown, hts, hlk, hnm, hK, hA⟩ := X
  obtain ⟨b, As, C', cell, rfl, -, -⟩ := hv rfl
  refine va_runIN (b := b) (As := As) (rest := rest) (maxL := (MT mid).2.2.1) (bytes := (MT mid).2.1) ⟨hx, hb, hml, hown, hts⟩ hM ⟨va_cnB n hts (rx_goodIn hg hf.1) (by rw [← hret]) rfl rfl (hK.2.1 _ hl) (hts _ hf.2.1) hf.2.2.1 hf.2.2.2, hy, hts _ hin⟩ ⟨hbl, hpre⟩ rfl (by simpa using hlen) hls ?_ (lv_room hrest) d ⟨hc, hs⟩
  exact rx_rv _ As rest
/-- ends -/
def rx_ret0 (RC RS : Nat) : rx_T := fun _ st => match st.2.1 with
  | [] => cond (Nat.ble st.2.2.2.1 RC && Nat.ble st.2.2.2.2 RS) (some (.inr (none, st.2.2.1))) none
  | _ => none
def rx_retv (ty : FieldType) (RC RS : Nat) : rx_T := fun _ st => match st.2.1 with
  | [v] => cond (rx_okty ty v && (Nat.ble st.2.2.2.1 RC && Nat.ble st.2.2.2.2 RS)) (some (.inr (some v, st.2.2.1))) none
  | _ => none
theorem rx_sd_ret0 (hR : M.2.2.2.1 = none) (d : decode M.2.1 pc = .ok (.return_, 1)) : rx_Sd G MT M pc (rx_ret0 M.2.2.2.2.1.cells M.2.2.2.2.1.slots) := by
  intro p e s m args below meth c A X rec hrec st o h ρ0 r hgo
  obtain ⟨hx, hb, hml, hr, hown, hts, hlk, hnm, hK, hA⟩ := X
  obtain ⟨lv, sk, ws, c0, s0⟩ := st
  intro tl cws H locs ls cst clv hw hP hD hS hlv hl hst
  unfold rx_ret0 at h
  simp only at h hst hlv hw
  match sk, cst, h, hst with
  | [], [], h, _ =>
    simp only at h
    obtain ⟨g1, g2⟩ := rx_cond_some h
    rw [Bool.and_eq_true] at g1
    cases g2
    subst hgo
    refine W.widen (k := M.2.2.2.2.1.cells) (n := M.2.2.2.2.1.slots) (Nat.le_of_ble_eq_true g1.1) (Nat.le_of_ble_eq_true g1.2) ?_
    exact W.vret hx hb (hr.trans hR) (fun t ht hW => ⟨⟨none, tl, cws, rfl, trivial, hw, by rw [ht]; exact hP, hD⟩, hS.F ht⟩) hS.2.2 d hlk
theorem rx_sd_retI {ty : FieldType} (hR : M.2.2.2.1 = some ty) (hty : ty = .int ∨ ty = .boolean) (d : decode M.2.1 pc = .ok (.ireturn, 1)) : rx_Sd G MT M pc (rx_retv ty M.2.2.2.2.1.cells M.2.2.2.2.1.slots) := by
  intro p e s m args below meth c A X rec hrec st o h ρ0 r hgo
  obtain ⟨hx, hb, hml, hr, hown, hts, hlk, hnm, hK, hA⟩ := X
  obtain ⟨lv, sk, ws, c0, s0⟩ := st
  intro tl cws H locs ls cst clv hw hP hD hS hlv hl hst
  unfold rx_retv at h
  simp only at h hst hlv hw
  match sk, cst, h, hst with
  | [v], [w], h, ⟨h1, _⟩ =>
    simp only at h
    obtain ⟨g1, g2⟩ := rx_cond_some h
    simp only [Bool.and_eq_true] at g1
    cases g2
    subst hgo
    obtain ⟨n1, -⟩ := rx_okty_ok g1.1 h1
    have hw' : ∃ x : Int32, w = .int x := by
      rcases hty with rfl | rfl
      · exact rx_is0 g1.1 h1
      · cases v with
        | int x => exact ⟨x, h1⟩
        | _ => cases g1.1
    obtain ⟨x, rfl⟩ := hw'
    refine W.widen (k := M.2.2.2.2.1.cells) (n := M.2.2.2.2.1.slots) (Nat.le_of_ble_eq_true g1.2.1) (Nat.le_of_ble_eq_true g1.2.2) ?_
    exact W.zret hx hb (hr.trans hR) n1 (fun t ht hW => ⟨⟨some (.int x), tl, cws, rfl, h1, hw, by rw [ht]; exact hP, hD⟩, hS.F ht⟩) hS.2.2 d hlk
theorem rx_sd_retL (hR : M.2.2.2.1 = some .long) (d : decode M.2.1 pc = .ok (.lreturn, 1)) : rx_Sd G MT M pc (rx_retv .long M.2.2.2.2.1.cells M.2.2.2.2.1.slots) := by
  intro p e s m args below meth c A X rec hrec st o h ρ0 r hgo
  obtain ⟨hx, hb, hml, hr, hown, hts, hlk, hnm, hK, hA⟩ := X
  obtain ⟨lv, sk, ws, c0, s0⟩ := st
  intro tl cws H locs ls cst clv hw hP hD hS hlv hl hst
  unfold rx_retv at h
  simp only at h hst hlv hw
  match sk, cst, h, hst with
  | [v], [w], h, ⟨h1, _⟩ =>
    simp only at h
    obtain ⟨g1, g2⟩ := rx_cond_some h
    simp only [Bool.and_eq_true] at g1
    cases g2
    subst hgo
    obtain ⟨x, rfl⟩ := rx_is1 g1.1 h1
    refine W.widen (k := M.2.2.2.2.1.cells) (n := M.2.2.2.2.1.slots) (Nat.le_of_ble_eq_true g1.2.1) (Nat.le_of_ble_eq_true g1.2.2) ?_
    exact W.lret hx hb (hr.trans hR) (fun t ht hW => ⟨⟨some (.long x), tl, cws, rfl, h1, hw, by rw [ht]; exact hP, hD⟩, hS.F ht⟩) hS.2.2 d hlk
theorem rx_sd_retA {C : String} (hR : M.2.2.2.1 = some (.object C)) (d : decode M.2.1 pc = .ok (.areturn, 1)) : rx_Sd G MT M pc (rx_retv (.object C) M.2.2.2.2.1.cells M.2.2.2.2.1.slots) := by
  intro p e s m args below meth c A X rec hrec st o h ρ0 r hgo
  obtain ⟨hx, hb, hml, hr, hown, hts, hlk, hnm, hK, hA⟩ := X
  obtain ⟨lv, sk, ws, c0, s0⟩ := st
  intro tl cws H locs ls cst clv hw hP hD hS hlv hl hst
  unfold rx_retv at h
  simp only at h hst hlv hw
  match sk, cst, h, hst with
  | [v], [w], h, ⟨h1, _⟩ =>
    simp only at h
    obtain ⟨g1, g2⟩ := rx_cond_some h
    simp only [Bool.and_eq_true] at g1
    cases g2
    subst hgo
    refine W.widen (k := M.2.2.2.2.1.cells) (n := M.2.2.2.2.1.slots) (Nat.le_of_ble_eq_true g1.2.1) (Nat.le_of_ble_eq_true g1.2.2) ?_
    exact W.aret hx hb (hr.trans hR) (Or.inl ⟨C, rfl⟩) (rx_is2 g1.1 h1) (fun t ht hW => ⟨⟨some w, tl, cws, rfl, h1, hw, by rw [ht]; exact hP, hD⟩, hS.F ht⟩) hS.2.2 d hlk
/-- constants out of the pool -/
def rx_con (v : Value) (pc' : Nat) : rx_T := fun _ st => some (.inl (pc', (st.1, v :: st.2.1, st.2.2)))
theorem rx_sd_ldc {index : Nat} {x : Int32} (hc : Cond.constant M.1.cls index x ∈ G.gT) (d : decode M.2.1 pc = .ok (.ldc index, 2)) : rx_Sd G MT M pc (rx_con (.int x) (pc + 2)) := by
  intro p e s m args below meth c A X rec hrec st o h ρ0 r hgo
  obtain ⟨hx, hb, hml, hr, hown, hts, hlk, hnm, hK, hA⟩ := X
  cases h
  intro tl cws H locs ls cst clv hw hP hD hS hlv hl hst
  exact lv_ldc hx hb hown (hts _ hc) d (hgo tl cws H locs ls _ clv hw hP hD hS hlv hl ⟨rfl, hst⟩)
theorem rx_sd_ldcw {index : Nat} {x : Int32} (hc : Cond.constant M.1.cls index x ∈ G.gT) (d : decode M.2.1 pc = .ok (.ldc_w index, 3)) : rx_Sd G MT M pc (rx_con (.int x) (pc + 3)) := by
  intro p e s m args below meth c A X rec hrec st o h ρ0 r hgo
  obtain ⟨hx, hb, hml, hr, hown, hts, hlk, hnm, hK, hA⟩ := X
  cases h
  intro tl cws H locs ls cst clv hw hP hD hS hlv hl hst
  exact lv_ldcw hx hb hown (hts _ hc) d (hgo tl cws H locs ls _ clv hw hP hD hS hlv hl ⟨rfl, hst⟩)
theorem rx_sd_ldc2 {index : Nat} {x : Int64} (hc : Cond.constantLong M.1.cls index x ∈ G.gT) (d : decode M.2.1 pc = .ok (.ldc2_w index, 3)) : rx_Sd G MT M pc (rx_con (.long x) (pc + 3)) := by
  intro p e s m args below meth c A X rec hrec st o h ρ0 r hgo
  obtain ⟨hx, hb, hml, hr, hown, hts, hlk, hnm, hK, hA⟩ := X
  cases h
  intro tl cws H locs ls cst clv hw hP hD hS hlv hl hst
  exact lv_ldc2 hx hb hown (hts _ hc) d (hgo tl cws H locs ls _ clv hw hP hD hS hlv hl ⟨rfl, hst⟩)
/-- System.arraycopy, of ints (kind 0) and longs (kind 1) -/
def rx_cp (ua : List (Nat × Value)) (da : Value) (sp dp : Nat) (ub : List (Nat × Value)) : Nat → List (Nat × Value)
  | 0 => ub
  | n + 1 => (dp + n, rx_look ua da (sp + n)) :: rx_cp ua da sp dp ub n
theorem rx_look_cp (ua ub : List (Nat × Value)) (da db : Value) (sp dp : Nat) : ∀ (n j : Nat), rx_look (rx_cp ua da sp dp ub n) db j = if dp ≤ j ∧ j < dp + n then rx_look ua da (sp + (j - dp)) else rx_look ub db j
  | 0, j => by
    have : ¬ (dp ≤ j ∧ j < dp + 0) := by omega
    simp only [rx_cp, if_neg this]
  | n + 1, j => by
    rw [rx_cp, rx_look_cons, rx_look_cp ua ub da db sp dp n j]
    by_cases h : j = dp + n
    · subst h
      have h1 : dp ≤ dp + n ∧ dp + n < dp + (n + 1) := by omega
      rw [if_pos rfl, if_pos h1]
      congr 1; omega
    · rw [if_neg h]
      by_cases h1 : dp ≤ j ∧ j < dp + n
      · rw [if_pos h1, if_pos (by omega)]
      · rw [if_neg h1, if_neg (by omega)]
def rx_acp (tag RL pc' : Nat) : rx_T := fun _ st => match st.2.1 with
  | .int n :: .int dp :: .ref b :: .int sp :: .ref a :: sk => match st.2.2.1[a]? with
    | some (.inr (ta, na, ua, da)) => match st.2.2.1[b]? with
      | some (.inr (tb, nb, ub, db)) => cond (Nat.beq tag ta && (Nat.beq tag tb && (!decide (n < 0) && (!decide (dp < 0) && (!decide (sp < 0) && (Nat.ble (sp.toNatClampNeg + n.toNatClampNeg) na && (Nat.ble (dp.toNatClampNeg + n.toNatClampNeg) nb && Nat.ble ((sk.map rx_cat).sum + 18) RL)))))))
          (some (.inl (pc', (st.1, sk, st.2.2.1.set b (.inr (tb, nb, rx_cp ua da sp.toNatClampNeg dp.toNatClampNeg ub n.toNatClampNeg, db)), st.2.2.2)))) none
      | _ => none
    | _ => none
  | _ => none
theorem rx_acp_some {tag RL pc' : Nat} {rec : rx_C} {lv : rx_L} {sk : List Value} {ws : rx_W} {c0 s0 : Nat} {o : rx_O} (h : rx_acp tag RL pc' rec (lv, sk, ws, c0, s0) = some o) : ∃ (n dp sp : Int32) (b a : Nat) (sr : List Value) (na nb : Nat) (ua ub : List (Nat × Value)) (da db : Value), sk = .int n :: .int dp :: .ref b :: .int sp :: .ref a :: sr ∧ ws[a]? = some (.inr (tag, na, ua, da)) ∧ ws[b]? = some (.inr (tag, nb, ub, db)) ∧ ¬ n < 0 ∧ ¬ dp < 0 ∧ ¬ sp < 0 ∧ sp.toNatClampNeg + n.toNatClampNeg ≤ na ∧ dp.toNatClampNeg + n.toNatClampNeg ≤ nb ∧ (sr.map rx_cat).sum + 18 ≤ RL ∧
    o = .inl (pc', (lv, sr, ws.set b (.inr (tag, nb, rx_cp ua da sp.toNatClampNeg dp.toNatClampNeg ub n.toNatClampNeg, db)), c0, s0)) := by
  unfold rx_acp at h
  simp only at h
  split at h
  · next n dp b sp a sr =>
    split at h
    · next ta na ua da hwa =>
      split at h
      · next tb nb ub db hwb =>
        obtain ⟨g1, g2⟩ := rx_cond_some h
        simp only [Bool.and_eq_true, Bool.not_eq_true', decide_eq_false_iff_not] at g1
        obtain ⟨k1, k2, k3, k4, k5, k6, k7, k8⟩ := g1
        have k1 := Nat.eq_of_beq_eq_true k1
        have k2 := Nat.eq_of_beq_eq_true k2
        subst k1; subst k2
        cases g2
        exact ⟨n, dp, sp, b, a, sr, na, nb, ua, ub, da, db, rfl, hwa, hwb, k3, k4, k5, Nat.le_of_ble_eq_true k6, Nat.le_of_ble_eq_true k7, Nat.le_of_ble_eq_true k8, rfl⟩
      · cases h
    · cases h
  · cases h
theorem rx_look_copy {ρ : List Nat} {σ : Nat → Int32} {ua ub : List (Nat × Value)} {da db : Value} {α : Type} {f g : Nat → α} {K : α → Value} (hf : ∀ j, rx_v ρ σ (rx_look ua da j) (K (f j))) (hg : ∀ j, rx_v ρ σ (rx_look ub db j) (K (g j))) (sp dp n : Nat) : ∀ j, rx_v ρ σ (rx_look (rx_cp ua da sp dp ub n) db j) (K (va_cpy f g sp dp n j)) := by
  intro j
  rw [rx_look_cp]
  unfold va_cpy
  split
  · exact hf _
  · exact hg j
theorem rx_sd_cpI (hT : rx_TYOk G) {index : Nat} (hl0 : Cond.methodLink M.1.cls index arraycopyName ∈ G.gT) (hna : Cond.native arraycopyName ∈ G.gT) (hst0 : Cond.static arraycopyName ∈ G.gT) (hin0 : Cond.initialized "java/lang/System" ∈ G.gT) (hf : 1 ≤ M.2.2.2.2.1.frames) (d : decode M.2.1 pc = .ok (.invokestatic index, 3)) : rx_Sd G MT M pc (rx_acp 0 M.2.2.2.2.1.locals (pc + 3)) := by
  intro p e s m args below meth c A X rec hrec st o h ρ0 r hgo
  obtain ⟨hx, hb, hml, hr, hown, hts, hlk, hnm, hK, hA⟩ := X
  obtain ⟨lv, sk, ws, c0, s0⟩ := st
  intro tl cws H locs ls cst clv hw hP hD hS hlv hl hst
  obtain ⟨n, dp, sp, b, a, sr, na, nb, ua, ub, da, db, rfl, g1, g2, g3, g4, g5, g6, g7, g8, rfl⟩ := rx_acp_some h
  match cst, hst with
  | w1 :: w2 :: w3 :: w4 :: w5 :: cr, ⟨h1, h2, ⟨b', hb', h3⟩, h4, ⟨a', ha', h5⟩, h6⟩ =>
    cases h1; cases h2; cases h4; subst h3; subst h5
    obtain ⟨ce, f1, f, f2, f3⟩ := hw.at g1 ha'
    subst f2
    obtain ⟨ce, k1, g, k2, k3⟩ := hw.at g2 hb'
    subst k2
    exact va_copyi hx hb (by rw [hml, hl.1]) hown (hts _ hl0) (hts _ hna) (hts _ hst0) (hts _ hin0) hK.1 hP hD hS a b 0 0 f1 k1 hT.1 hT.1 rfl g5 g4 g3 g6 g7 (fun _ _ => rfl) hf (by rw [h6.cats]; exact g8) d (fun H1 locs1 hP1 hD1 hS1 => hgo tl _ H1 locs1 ls cr clv (hw.set k1 (e := .inr (0, nb, rx_cp ua da sp.toNatClampNeg dp.toNatClampNeg ub n.toNatClampNeg, db)) ⟨_, rfl, rx_look_copy (K := Value.int) f3 k3 _ _ _⟩) hP1 hD1 hS1 hlv hl h6)
theorem rx_sd_cpL (hT : rx_TYOk G) {index : Nat} (hl0 : Cond.methodLink M.1.cls index arraycopyName ∈ G.gT) (hna : Cond.native arraycopyName ∈ G.gT) (hst0 : Cond.static arraycopyName ∈ G.gT) (hin0 : Cond.initialized "java/lang/System" ∈ G.gT) (hf : 1 ≤ M.2.2.2.2.1.frames) (d : decode M.2.1 pc = .ok (.invokestatic index, 3)) : rx_Sd G MT M pc (rx_acp 1 M.2.2.2.2.1.locals (pc + 3)) := by
  intro p e s m args below meth c A X rec hrec st o h ρ0 r hgo
  obtain ⟨hx, hb, hml, hr, hown, hts, hlk, hnm, hK, hA⟩ := X
  obtain ⟨lv, sk, ws, c0, s0⟩ := st
  intro tl cws H locs ls cst clv hw hP hD hS hlv hl hst
  obtain ⟨n, dp, sp, b, a, sr, na, nb, ua, ub, da, db, rfl, g1, g2, g3, g4, g5, g6, g7, g8, rfl⟩ := rx_acp_some h
  match cst, hst with
  | w1 :: w2 :: w3 :: w4 :: w5 :: cr, ⟨h1, h2, ⟨b', hb', h3⟩, h4, ⟨a', ha', h5⟩, h6⟩ =>
    cases h1; cases h2; cases h4; subst h3; subst h5
    obtain ⟨ce, f1, f, f2, f3⟩ := hw.at g1 ha'
    subst f2
    obtain ⟨ce, k1, g, k2, k3⟩ := hw.at g2 hb'
    subst k2
    exact va_copyl hx hb (by rw [hml, hl.1]) hown (hts _ hl0) (hts _ hna) (hts _ hst0) (hts _ hin0) hK.1 hP hD hS a b 1 1 f1 k1 hT.2.1 hT.2.1 rfl g5 g4 g3 g6 g7 (fun _ _ => rfl) hf (by rw [h6.cats]; exact g8) d (fun H1 locs1 hP1 hD1 hS1 => hgo tl _ H1 locs1 ls cr clv (hw.set k1 (e := .inr (1, nb, rx_cp ua da sp.toNatClampNeg dp.toNatClampNeg ub n.toNatClampNeg, db)) ⟨_, rfl, rx_look_copy (K := Value.long) f3 k3 _ _ _⟩) hP1 hD1 hS1 hlv hl h6)
end EN
end
section
/-! ARRAYS.FILL: its loop at once -/
section FI
variable {G : rx_G} {MT : Nat → rx_M} {M : rx_M}
theorem rx_arr_ext (cA : ClassId) (n : Nat) {f g : Nat → Int32} (h : ∀ j, j < n → f j = g j) : vp_cell cA (n, .inl f) = vp_cell cA (n, .inl g) := by
  rw [vp_cell_i, vp_cell_i]
  unfold arrV
  congr 1
  apply Array.ext
  · simp
  · intro i h1 h2
    simp at h1
    simp [h i h1]
theorem rx_P_ext {D : va_G} {cl : List vw_C} {cws : va_W} {a a' n : Nat} {cA : ClassId} {f g : Nat → Int32} {H : Heap} (h : va_P D cl (cws.set a (a', .inl (cA, n, .inl f))) H) (hfg : ∀ j, j < n → f j = g j) : va_P D cl (cws.set a (a', .inl (cA, n, .inl g))) H := by
  intro k q hk
  by_cases hka : a = k
  · subst hka
    rw [List.getElem?_set] at hk
    by_cases hl : a < cws.length
    · simp [hl] at hk
      subst hk
      have := h a (a', .inl (cA, n, .inl f)) (by rw [List.getElem?_set]; simp [hl])
      show H[a']? = some (vp_cell cA (n, .inl g))
      rw [← rx_arr_ext cA n hfg]
      exact this
    · simp [hl] at hk
  · rw [List.getElem?_set] at hk
    simp [hka] at hk
    exact h k q (by rw [List.getElem?_set]; simp [hka, hk])
theorem rx_D_ext {A : Nat → Prop} {cws : va_W} {a a' : Nat} {e1 e2 : va_E} (h : va_D A (cws.set a (a', e1))) : va_D A (cws.set a (a', e2)) := by
  have key : ∀ (k : Nat) (q : Nat × va_E), (cws.set a (a', e2))[k]? = some q → ∃ q', (cws.set a (a', e1))[k]? = some q' ∧ q'.1 = q.1 := by
    intro k q hk
    rw [List.getElem?_set] at hk
    by_cases hka : a = k
    · subst hka
      by_cases hl : a < cws.length
      · simp [hl] at hk
        subst hk
        exact ⟨(a', e1), by rw [List.getElem?_set]; simp [hl], rfl⟩
      · simp [hl] at hk
    · simp [hka] at hk
      exact ⟨q, by rw [List.getElem?_set]; simp [hka, hk], rfl⟩
  refine ⟨fun i j p q hi hj hpq => ?_, fun k q hk => ?_⟩
  · obtain ⟨p', h1, h2⟩ := key i p hi
    obtain ⟨q', h3, h4⟩ := key j q hj
    exact h.1 i j p' q' h1 h3 (by rw [h2, h4]; exact hpq)
  · obtain ⟨q', h1, h2⟩ := key k q hk
    rw [← h2]
    exact h.2 k q' h1
def rx_fil : rx_T := fun _ st => match rx_find st.1 0, rx_find st.1 1, rx_find st.1 2, rx_find st.1 3, st.2.1 with
  | some (.ref a), some v, some (.int i), some (.int n'), [] => match st.2.2.1[a]? with
    | some (.inr (t, n, _, _)) => cond (Nat.beq t 0 && (rx_is 0 v && (decide (i = 0) && (decide (n' = Int32.ofNat n) && Nat.ble n 1000000)))) (some (.inl (20, ([], [], st.2.2.1.set a (.inr (t, n, [], v)), st.2.2.2)))) none
    | _ => none
  | _, _, _, _, _ => none
theorem rx_has4 {ls : Array Slot} {nL : Nat} {l : rx_L} (h : lv_has ls nL l) {k0 k1 k2 k3 : Nat} {q0 q1 q2 q3 : Nat × Value} (h0 : l[k0]? = some q0) (h1 : l[k1]? = some q1) (h2 : l[k2]? = some q2) (h3 : l[k3]? = some q3) : lv_has ls nL [q0, q1, q2, q3] := by
  refine ⟨h.1, h.2.1, fun q hq => ?_⟩
  simp only [List.mem_cons, List.not_mem_nil, or_false] at hq
  rcases hq with rfl | rfl | rfl | rfl
  · exact h.2.2 _ (List.mem_of_getElem? h0)
  · exact h.2.2 _ (List.mem_of_getElem? h1)
  · exact h.2.2 _ (List.mem_of_getElem? h2)
  · exact h.2.2 _ (List.mem_of_getElem? h3)
theorem rx_sd_fil (hT : rx_TYOk G) (hn4 : M.2.2.1 = 4) (d5 : decode M.2.1 5 = .ok (.iload_n 2, 1)) (d6 : decode M.2.1 6 = .ok (.iload_n 3, 1)) (d7 : decode M.2.1 7 = .ok (.if_icmp .ge 13, 3)) (d10 : decode M.2.1 10 = .ok (.aload_n 0, 1)) (d11 : decode M.2.1 11 = .ok (.iload_n 2, 1)) (d12 : decode M.2.1 12 = .ok (.iload_n 1, 1)) (d13 : decode M.2.1 13 = .ok (.iastore, 1)) (d14 : decode M.2.1 14 = .ok (.iinc 2 1, 3)) (d17 : decode M.2.1 17 = .ok (.goto (-12), 3)) : rx_Sd G MT M 5 rx_fil := by
  intro p e s m args below meth c A X rec hrec st o h ρ0 r hgo
  obtain ⟨hx, hb, hml, hr, hown, hts, hlk, hnm, hK, hA⟩ := X
  obtain ⟨lv, sk, ws, c0, s0⟩ := st
  intro tl cws H locs ls cst clv hw hP hD hS hlv hl hst
  unfold rx_fil at h
  simp only at h hst hlv hw
  split at h
  · next a v i n' e0 e1 e2 e3 =>
    split at h
    · next t n u dd hwa =>
      obtain ⟨g1, g2⟩ := rx_cond_some h
      simp only [Bool.and_eq_true, decide_eq_true_eq] at g1
      obtain ⟨k1, k2, k3, k4, k5⟩ := g1
      have k1 := Nat.eq_of_beq_eq_true k1
      have k5 := Nat.le_of_ble_eq_true k5
      subst k1; subst k3; subst k4
      cases g2
      obtain ⟨p0, w0, q0, v0⟩ := hlv.find e0
      obtain ⟨p1, w1, q1, v1⟩ := hlv.find e1
      obtain ⟨p2, w2, q2, v2⟩ := hlv.find e2
      obtain ⟨p3, w3, q3, v3⟩ := hlv.find e3
      obtain ⟨a', ha, rfl⟩ := v0
      obtain ⟨x, rfl⟩ := rx_is0 k2 v1
      cases v2; cases v3
      obtain ⟨ce, f1, f, f2, f3⟩ := hw.at hwa ha
      subst f2
      have hla : a < cws.length := (List.getElem?_eq_some_iff.mp f1).1
      match cst, hst with
      | [], _ =>
        have loop : ∀ (k i : Nat), i + k = n → ∀ (f : Nat → Int32), (∀ j, j < i → f j = x) → ∀ (H : Heap) (locs : List Loc) (ls : Array Slot), va_P G.D G.cl (cws.set a (a', .inl (G.cy 0, n, .inl f))) H → va_D A (cws.set a (a', .inl (G.cy 0, n, .inl f))) → va_S A s.heap H locs → lv_has ls M.2.2.1 [(0, .ref a'), (1, .int x), (2, .int (nI i)), (3, .int (nI n))] →
            W p G.l e M.2.2.2.2.1 s m args below meth c H locs c0 s0 (MQ below (rx_Q G ρ0 r A) args s M.2.2.2.2.1.cells M.2.2.2.2.1.slots A) (F0 m 5 ls []) := by
          intro k
          induction k with
          | zero =>
            intro i hi f hf H locs ls hP hD hS hl
            have hin : i = n := by omega
            subst hin
            refine lv_iload_n hx hb d5 rfl (lv_at hl 2 rfl) ?_
            refine lv_iload_n hx hb d6 rfl (lv_at hl 3 rfl) ?_
            refine lv_icmp_ge (tgt := 20) hx hb d7 (by decide) (fun _ => ?_) (fun hc => absurd (nI_le (Nat.le_refl _) (by omega)) hc)
            exact hgo tl _ H locs ls [] [] (hw.set f1 (e := .inr (0, i, [], v)) ⟨fun _ => x, rfl, fun _ => v1⟩) (rx_P_ext hP hf) (rx_D_ext hD) hS trivial ⟨hl.1, hl.2.1, fun _ h => by cases h⟩ trivial
          | succ k ih =>
            intro i hi f hf H locs ls hP hD hS hl
            refine lv_iload_n hx hb d5 rfl (lv_at hl 2 rfl) ?_
            refine lv_iload_n hx hb d6 rfl (lv_at hl 3 rfl) ?_
            refine lv_icmp_ge (tgt := 20) hx hb d7 (by decide) (fun hc => absurd hc (nI_ge (by omega) (by omega))) (fun _ => ?_)
            refine lv_aload_n hx hb d10 rfl (lv_at hl 0 rfl) ?_
            refine lv_iload_n hx hb d11 rfl (lv_at hl 2 rfl) ?_
            refine lv_iload_n hx hb d12 rfl (lv_at hl 1 rfl) ?_
            refine va_iast hx hb hK.1 hP hD hS a 0 (f := f) (n := n) (cA := G.cy 0) (by rw [List.getElem?_set]; simp [hla]) hT.1 (vp_in_nI (by omega) (by omega)) d13 (fun H1 locs1 hP1 hD1 hS1 => ?_)
            rw [List.set_set, nI_clamp (by omega)] at hP1 hD1
            refine lv_iinc (v := nI (i + 1)) (lv' := [(2, .int (nI (i + 1))), (0, .ref a'), (1, .int x), (3, .int (nI n))]) hx hb d14 hl (k := 2) rfl (nI_1 i) (by omega) rfl (fun ls' hl' => ?_)
            refine lv_goto (tgt := 5) hx hb d17 (by decide) ?_
            refine ih (i + 1) (by omega) _ ?_ H1 locs1 ls' hP1 hD1 hS1 (lv_sub hl' [1, 2, 0, 3] rfl)
            intro j hj
            unfold upd
            by_cases hji : j = i
            · rw [if_pos hji]
            · rw [if_neg hji]; exact hf j (by omega)
        refine loop n 0 (by omega) f (fun j hj => absurd hj (by omega)) H locs ls ?_ ?_ hS (rx_has4 hl q0 q1 q2 q3)
        · rw [rx_set_same f1]; exact hP
        · rw [rx_set_same f1]; exact hD
    · cases h
  · cases h
def rx_aln (tag pc' : Nat) : rx_T := fun _ st => match st.2.1 with
  | .ref a :: sk => match st.2.2.1[a]? with
    | some (.inr (t, n, _, _)) => cond (Nat.beq tag t) (some (.inl (pc', (st.1, .int (Int32.ofNat n) :: sk, st.2.2)))) none
    | _ => none
  | _ => none
theorem rx_sd_alnI {pc : Nat} (hT : rx_TYOk G) (d : decode M.2.1 pc = .ok (.arraylength, 1)) : rx_Sd G MT M pc (rx_aln 0 (pc + 1)) := by
  intro p e s m args below meth c A X rec hrec st o h ρ0 r hgo
  obtain ⟨hx, hb, hml, hr, hown, hts, hlk, hnm, hK, hA⟩ := X
  obtain ⟨lv, sk, ws, c0, s0⟩ := st
  intro tl cws H locs ls cst clv hw hP hD hS hlv hl hst
  unfold rx_aln at h
  simp only at h hst hlv hw
  split at h
  · next a sr =>
    split at h
    · next t n u dd hwa =>
      obtain ⟨g1, g2⟩ := rx_cond_some h
      have g1 := Nat.eq_of_beq_eq_true g1
      subst g1
      cases g2
      match cst, hst with
      | w :: cr, ⟨⟨a', ha, hwe⟩, h3⟩ =>
        subst hwe
        obtain ⟨ce, f1, f, f2, f3⟩ := hw.at hwa ha
        subst f2
        exact va_alen hx hb hK.1 hP a 0 f1 hT.1 rfl d (hgo tl cws H locs ls _ clv hw hP hD hS hlv hl ⟨rfl, h3⟩)
    · cases h
  · cases h
end FI
end
section
-- ===== PART A: goes FIRST, ahead of the names: the tables' words, and 'selects' of the private methods out of them =====
/-- a private method of a class that the tables say can be made, by its rows of tables_1 -/
def lw_okq (q : MethodName × Nat) : Prop := (q.1.cls ≠ "java/lang/invoke/MethodHandle" ∧ q.1.cls ≠ "java/lang/invoke/VarHandle") ∧ Cond.instantiable q.1.cls q.2 ∈ tables_1 ∧ Cond.privateMethod q.1 ∈ tables_1 ∧ Cond.instanceMethod q.1 ∈ tables_1
theorem lw_p0 : lw_okq (⟨"SeedBench$Draft", "findSizes", "()Z"⟩, 5) := ⟨⟨by decide +kernel, by decide +kernel⟩, List.mem_of_getElem? (i := 96) (by decide +kernel), List.mem_of_getElem? (i := 409) (by decide +kernel), List.mem_of_getElem? (i := 410) (by decide +kernel)⟩
theorem lw_p1 : lw_okq (⟨"SeedBench$Draft", "sizeGroup", "(I)V"⟩, 5) := ⟨⟨by decide +kernel, by decide +kernel⟩, List.mem_of_getElem? (i := 96) (by decide +kernel), List.mem_of_getElem? (i := 416) (by decide +kernel), List.mem_of_getElem? (i := 417) (by decide +kernel)⟩
theorem lw_p2 : lw_okq (⟨"SeedBench$Draft", "sizeAlong", "(III)J"⟩, 5) := ⟨⟨by decide +kernel, by decide +kernel⟩, List.mem_of_getElem? (i := 96) (by decide +kernel), List.mem_of_getElem? (i := 420) (by decide +kernel), List.mem_of_getElem? (i := 421) (by decide +kernel)⟩
theorem lw_p3 : lw_okq (⟨"SeedBench", "startSeed", "()V"⟩, 15) := ⟨⟨by decide +kernel, by decide +kernel⟩, List.mem_of_getElem? (i := 18) (by decide +kernel), List.mem_of_getElem? (i := 430) (by decide +kernel), List.mem_of_getElem? (i := 431) (by decide +kernel)⟩
theorem lw_p4 : lw_okq (⟨"SeedBench", "isPlace", "(I)Z"⟩, 15) := ⟨⟨by decide +kernel, by decide +kernel⟩, List.mem_of_getElem? (i := 18) (by decide +kernel), List.mem_of_getElem? (i := 438) (by decide +kernel), List.mem_of_getElem? (i := 439) (by decide +kernel)⟩
theorem lw_p5 : lw_okq (⟨"SeedBench$Mill", "product", "(LSeedBench$Seed;IILSeedBench$Share;LSeedBench$Share;)LSeedBench$Share;"⟩, 7) := ⟨⟨by decide +kernel, by decide +kernel⟩, List.mem_of_getElem? (i := 122) (by decide +kernel), List.mem_of_getElem? (i := 457) (by decide +kernel), List.mem_of_getElem? (i := 458) (by decide +kernel)⟩
theorem lw_p6 : lw_okq (⟨"SeedBench$Mill", "beginProduct", "(LSeedBench$Seed;IILSeedBench$Share;)Z"⟩, 7) := ⟨⟨by decide +kernel, by decide +kernel⟩, List.mem_of_getElem? (i := 122) (by decide +kernel), List.mem_of_getElem? (i := 461) (by decide +kernel), List.mem_of_getElem? (i := 462) (by decide +kernel)⟩
theorem lw_p7 : lw_okq (⟨"SeedBench$Mill", "multiply", "(LSeedBench$Share;LSeedBench$Share;LSeedBench$Share;)Z"⟩, 7) := ⟨⟨by decide +kernel, by decide +kernel⟩, List.mem_of_getElem? (i := 122) (by decide +kernel), List.mem_of_getElem? (i := 482) (by decide +kernel), List.mem_of_getElem? (i := 483) (by decide +kernel)⟩
theorem lw_p8 : lw_okq (⟨"SeedBench$Mill", "addAll", "(LSeedBench$Share;LSeedBench$Share;)Z"⟩, 7) := ⟨⟨by decide +kernel, by decide +kernel⟩, List.mem_of_getElem? (i := 122) (by decide +kernel), List.mem_of_getElem? (i := 486) (by decide +kernel), List.mem_of_getElem? (i := 487) (by decide +kernel)⟩
theorem lw_p9 : lw_okq (⟨"SeedBench$Mill", "divide", "(LSeedBench$Share;LSeedBench$Share;)Z"⟩, 7) := ⟨⟨by decide +kernel, by decide +kernel⟩, List.mem_of_getElem? (i := 122) (by decide +kernel), List.mem_of_getElem? (i := 491) (by decide +kernel), List.mem_of_getElem? (i := 492) (by decide +kernel)⟩
theorem lw_p10 : lw_okq (⟨"SeedBench$Mill", "takeAway", "(LSeedBench$Share;ILSeedBench$Share;J)Z"⟩, 7) := ⟨⟨by decide +kernel, by decide +kernel⟩, List.mem_of_getElem? (i := 122) (by decide +kernel), List.mem_of_getElem? (i := 495) (by decide +kernel), List.mem_of_getElem? (i := 496) (by decide +kernel)⟩
theorem lw_p11 : lw_okq (⟨"SeedBench$Seed", "placeOf", "(LSeedBench$Share;)I"⟩, 6) := ⟨⟨by decide +kernel, by decide +kernel⟩, List.mem_of_getElem? (i := 26) (by decide +kernel), List.mem_of_getElem? (i := 566) (by decide +kernel), List.mem_of_getElem? (i := 567) (by decide +kernel)⟩
theorem lw_p12 : lw_okq (⟨"SeedBench$Atlas", "enterFirst", "(LSeedBench$Seed;)Z"⟩, 18) := ⟨⟨by decide +kernel, by decide +kernel⟩, List.mem_of_getElem? (i := 154) (by decide +kernel), List.mem_of_getElem? (i := 586) (by decide +kernel), List.mem_of_getElem? (i := 587) (by decide +kernel)⟩
theorem lw_p13 : lw_okq (⟨"SeedBench$Atlas", "numberOf", "(LSeedBench$Share;)I"⟩, 18) := ⟨⟨by decide +kernel, by decide +kernel⟩, List.mem_of_getElem? (i := 154) (by decide +kernel), List.mem_of_getElem? (i := 591) (by decide +kernel), List.mem_of_getElem? (i := 592) (by decide +kernel)⟩
theorem lw_p14 : lw_okq (⟨"SeedBench$Atlas", "gatherLetters", "()V"⟩, 18) := ⟨⟨by decide +kernel, by decide +kernel⟩, List.mem_of_getElem? (i := 154) (by decide +kernel), List.mem_of_getElem? (i := 597) (by decide +kernel), List.mem_of_getElem? (i := 598) (by decide +kernel)⟩
theorem lw_p15 : lw_okq (⟨"SeedBench$Atlas", "enter", "()Z"⟩, 18) := ⟨⟨by decide +kernel, by decide +kernel⟩, List.mem_of_getElem? (i := 154) (by decide +kernel), List.mem_of_getElem? (i := 601) (by decide +kernel), List.mem_of_getElem? (i := 602) (by decide +kernel)⟩
def lw_privs_1 : List (MethodName × Nat) := [(⟨"SeedBench$Draft", "findSizes", "()Z"⟩, 5), (⟨"SeedBench$Draft", "sizeGroup", "(I)V"⟩, 5), (⟨"SeedBench$Draft", "sizeAlong", "(III)J"⟩, 5), (⟨"SeedBench", "startSeed", "()V"⟩, 15), (⟨"SeedBench", "isPlace", "(I)Z"⟩, 15), (⟨"SeedBench$Mill", "product", "(LSeedBench$Seed;IILSeedBench$Share;LSeedBench$Share;)LSeedBench$Share;"⟩, 7), (⟨"SeedBench$Mill", "beginProduct", "(LSeedBench$Seed;IILSeedBench$Share;)Z"⟩, 7), (⟨"SeedBench$Mill", "multiply", "(LSeedBench$Share;LSeedBench$Share;LSeedBench$Share;)Z"⟩, 7), (⟨"SeedBench$Mill", "addAll", "(LSeedBench$Share;LSeedBench$Share;)Z"⟩, 7), (⟨"SeedBench$Mill", "divide", "(LSeedBench$Share;LSeedBench$Share;)Z"⟩, 7), (⟨"SeedBench$Mill", "takeAway", "(LSeedBench$Share;ILSeedBench$Share;J)Z"⟩, 7), (⟨"SeedBench$Seed", "placeOf", "(LSeedBench$Share;)I"⟩, 6), (⟨"SeedBench$Atlas", "enterFirst", "(LSeedBench$Seed;)Z"⟩, 18), (⟨"SeedBench$Atlas", "numberOf", "(LSeedBench$Share;)I"⟩, 18), (⟨"SeedBench$Atlas", "gatherLetters", "()V"⟩, 18), (⟨"SeedBench$Atlas", "enter", "()Z"⟩, 18)]
theorem lw_r1 : ∀ q ∈ lw_privs_1, lw_okq q := List.forall_mem_cons.mpr ⟨lw_p0, List.forall_mem_cons.mpr ⟨lw_p1, List.forall_mem_cons.mpr ⟨lw_p2, List.forall_mem_cons.mpr ⟨lw_p3, List.forall_mem_cons.mpr ⟨lw_p4, List.forall_mem_cons.mpr ⟨lw_p5, List.forall_mem_cons.mpr ⟨lw_p6, List.forall_mem_cons.mpr ⟨lw_p7, List.forall_mem_cons.mpr ⟨lw_p8, List.forall_mem_cons.mpr ⟨lw_p9, List.forall_mem_cons.mpr ⟨lw_p10, List.forall_mem_cons.mpr ⟨lw_p11, List.forall_mem_cons.mpr ⟨lw_p12, List.forall_mem_cons.mpr ⟨lw_p13, List.forall_mem_cons.mpr ⟨lw_p14, List.forall_mem_cons.mpr ⟨lw_p15, fun _ h => absurd h List.not_mem_nil⟩⟩⟩⟩⟩⟩⟩⟩⟩⟩⟩⟩⟩⟩⟩⟩
theorem lw_p16 : lw_okq (⟨"SeedBench$Atlas", "load", "(I)V"⟩, 18) := ⟨⟨by decide +kernel, by decide +kernel⟩, List.mem_of_getElem? (i := 154) (by decide +kernel), List.mem_of_getElem? (i := 605) (by decide +kernel), List.mem_of_getElem? (i := 606) (by decide +kernel)⟩
theorem lw_p17 : lw_okq (⟨"SeedBench$Atlas", "arrive", "(I)Z"⟩, 18) := ⟨⟨by decide +kernel, by decide +kernel⟩, List.mem_of_getElem? (i := 154) (by decide +kernel), List.mem_of_getElem? (i := 611) (by decide +kernel), List.mem_of_getElem? (i := 612) (by decide +kernel)⟩
theorem lw_p18 : lw_okq (⟨"SeedBench$Atlas", "rowOf", "()I"⟩, 18) := ⟨⟨by decide +kernel, by decide +kernel⟩, List.mem_of_getElem? (i := 154) (by decide +kernel), List.mem_of_getElem? (i := 615) (by decide +kernel), List.mem_of_getElem? (i := 616) (by decide +kernel)⟩
theorem lw_p19 : lw_okq (⟨"SeedBench$Atlas", "seatsMap", "(I)V"⟩, 18) := ⟨⟨by decide +kernel, by decide +kernel⟩, List.mem_of_getElem? (i := 154) (by decide +kernel), List.mem_of_getElem? (i := 619) (by decide +kernel), List.mem_of_getElem? (i := 620) (by decide +kernel)⟩
theorem lw_p20 : lw_okq (⟨"SeedBench$Atlas", "remember", "()V"⟩, 18) := ⟨⟨by decide +kernel, by decide +kernel⟩, List.mem_of_getElem? (i := 154) (by decide +kernel), List.mem_of_getElem? (i := 624) (by decide +kernel), List.mem_of_getElem? (i := 625) (by decide +kernel)⟩
theorem lw_p21 : lw_okq (⟨"SeedBench$Kinds", "isWild", "(I)Z"⟩, 6) := ⟨⟨by decide +kernel, by decide +kernel⟩, List.mem_of_getElem? (i := 253) (by decide +kernel), List.mem_of_getElem? (i := 651) (by decide +kernel), List.mem_of_getElem? (i := 652) (by decide +kernel)⟩
theorem lw_p22 : lw_okq (⟨"SeedBench$Kinds", "pack", "(I)V"⟩, 6) := ⟨⟨by decide +kernel, by decide +kernel⟩, List.mem_of_getElem? (i := 253) (by decide +kernel), List.mem_of_getElem? (i := 660) (by decide +kernel), List.mem_of_getElem? (i := 661) (by decide +kernel)⟩
theorem lw_p23 : lw_okq (⟨"SeedBench$Book", "slotOf", "(JJ)I"⟩, 6) := ⟨⟨by decide +kernel, by decide +kernel⟩, List.mem_of_getElem? (i := 220) (by decide +kernel), List.mem_of_getElem? (i := 668) (by decide +kernel), List.mem_of_getElem? (i := 669) (by decide +kernel)⟩
theorem lw_p24 : lw_okq (⟨"SeedBench$Kinds", "unpack", "(LSeedBench$Book;II)V"⟩, 6) := ⟨⟨by decide +kernel, by decide +kernel⟩, List.mem_of_getElem? (i := 253) (by decide +kernel), List.mem_of_getElem? (i := 674) (by decide +kernel), List.mem_of_getElem? (i := 675) (by decide +kernel)⟩
theorem lw_p25 : lw_okq (⟨"SeedBench$Kinds", "tracePath", "(LSeedBench$Book;II)V"⟩, 6) := ⟨⟨by decide +kernel, by decide +kernel⟩, List.mem_of_getElem? (i := 253) (by decide +kernel), List.mem_of_getElem? (i := 680) (by decide +kernel), List.mem_of_getElem? (i := 681) (by decide +kernel)⟩
theorem lw_p26 : lw_okq (⟨"SeedBench", "walkRow", "()Z"⟩, 15) := ⟨⟨by decide +kernel, by decide +kernel⟩, List.mem_of_getElem? (i := 18) (by decide +kernel), List.mem_of_getElem? (i := 705) (by decide +kernel), List.mem_of_getElem? (i := 706) (by decide +kernel)⟩
theorem lw_p27 : lw_okq (⟨"SeedBench$Ring", "areLinked", "(II)Z"⟩, 2) := ⟨⟨by decide +kernel, by decide +kernel⟩, List.mem_of_getElem? (i := 289) (by decide +kernel), List.mem_of_getElem? (i := 766) (by decide +kernel), List.mem_of_getElem? (i := 767) (by decide +kernel)⟩
theorem lw_p28 : lw_okq (⟨"SeedBench$Ring", "thirds", "(I)I"⟩, 2) := ⟨⟨by decide +kernel, by decide +kernel⟩, List.mem_of_getElem? (i := 289) (by decide +kernel), List.mem_of_getElem? (i := 782) (by decide +kernel), List.mem_of_getElem? (i := 783) (by decide +kernel)⟩
theorem lw_p29 : lw_okq (⟨"SeedBench$Guide", "flipped", "(I)J"⟩, 3) := ⟨⟨by decide +kernel, by decide +kernel⟩, List.mem_of_getElem? (i := 283) (by decide +kernel), List.mem_of_getElem? (i := 810) (by decide +kernel), List.mem_of_getElem? (i := 811) (by decide +kernel)⟩
theorem lw_p30 : lw_okq (⟨"SeedBench$Guide", "goNearer", "(ILSeedBench$Book;)I"⟩, 3) := ⟨⟨by decide +kernel, by decide +kernel⟩, List.mem_of_getElem? (i := 283) (by decide +kernel), List.mem_of_getElem? (i := 821) (by decide +kernel), List.mem_of_getElem? (i := 822) (by decide +kernel)⟩
theorem lw_p31 : lw_okq (⟨"SeedBench$Ring", "placeOf", "(II)I"⟩, 2) := ⟨⟨by decide +kernel, by decide +kernel⟩, List.mem_of_getElem? (i := 289) (by decide +kernel), List.mem_of_getElem? (i := 837) (by decide +kernel), List.mem_of_getElem? (i := 838) (by decide +kernel)⟩
def lw_privs_2 : List (MethodName × Nat) := [(⟨"SeedBench$Atlas", "load", "(I)V"⟩, 18), (⟨"SeedBench$Atlas", "arrive", "(I)Z"⟩, 18), (⟨"SeedBench$Atlas", "rowOf", "()I"⟩, 18), (⟨"SeedBench$Atlas", "seatsMap", "(I)V"⟩, 18), (⟨"SeedBench$Atlas", "remember", "()V"⟩, 18), (⟨"SeedBench$Kinds", "isWild", "(I)Z"⟩, 6), (⟨"SeedBench$Kinds", "pack", "(I)V"⟩, 6), (⟨"SeedBench$Book", "slotOf", "(JJ)I"⟩, 6), (⟨"SeedBench$Kinds", "unpack", "(LSeedBench$Book;II)V"⟩, 6), (⟨"SeedBench$Kinds", "tracePath", "(LSeedBench$Book;II)V"⟩, 6), (⟨"SeedBench", "walkRow", "()Z"⟩, 15), (⟨"SeedBench$Ring", "areLinked", "(II)Z"⟩, 2), (⟨"SeedBench$Ring", "thirds", "(I)I"⟩, 2), (⟨"SeedBench$Guide", "flipped", "(I)J"⟩, 3), (⟨"SeedBench$Guide", "goNearer", "(ILSeedBench$Book;)I"⟩, 3), (⟨"SeedBench$Ring", "placeOf", "(II)I"⟩, 2)]
theorem lw_r2 : ∀ q ∈ lw_privs_2, lw_okq q := List.forall_mem_cons.mpr ⟨lw_p16, List.forall_mem_cons.mpr ⟨lw_p17, List.forall_mem_cons.mpr ⟨lw_p18, List.forall_mem_cons.mpr ⟨lw_p19, List.forall_mem_cons.mpr ⟨lw_p20, List.forall_mem_cons.mpr ⟨lw_p21, List.forall_mem_cons.mpr ⟨lw_p22, List.forall_mem_cons.mpr ⟨lw_p23, List.forall_mem_cons.mpr ⟨lw_p24, List.forall_mem_cons.mpr ⟨lw_p25, List.forall_mem_cons.mpr ⟨lw_p26, List.forall_mem_cons.mpr ⟨lw_p27, List.forall_mem_cons.mpr ⟨lw_p28, List.forall_mem_cons.mpr ⟨lw_p29, List.forall_mem_cons.mpr ⟨lw_p30, List.forall_mem_cons.mpr ⟨lw_p31, fun _ h => absurd h List.not_mem_nil⟩⟩⟩⟩⟩⟩⟩⟩⟩⟩⟩⟩⟩⟩⟩⟩
theorem lw_p32 : lw_okq (⟨"SeedBenchModel", "firsts", "()V"⟩, 58) := ⟨⟨by decide +kernel, by decide +kernel⟩, List.mem_of_getElem? (i := 852) (by decide +kernel), List.mem_of_getElem? (i := 860) (by decide +kernel), List.mem_of_getElem? (i := 861) (by decide +kernel)⟩
theorem lw_p33 : lw_okq (⟨"SeedBenchModel", "one", "(I)V"⟩, 58) := ⟨⟨by decide +kernel, by decide +kernel⟩, List.mem_of_getElem? (i := 852) (by decide +kernel), List.mem_of_getElem? (i := 864) (by decide +kernel), List.mem_of_getElem? (i := 865) (by decide +kernel)⟩
theorem lw_p34 : lw_okq (⟨"SeedBenchModel", "hasSizes", "()Z"⟩, 58) := ⟨⟨by decide +kernel, by decide +kernel⟩, List.mem_of_getElem? (i := 852) (by decide +kernel), List.mem_of_getElem? (i := 1054) (by decide +kernel), List.mem_of_getElem? (i := 1055) (by decide +kernel)⟩
theorem lw_p35 : lw_okq (⟨"SeedBenchModel", "group", "(I)V"⟩, 58) := ⟨⟨by decide +kernel, by decide +kernel⟩, List.mem_of_getElem? (i := 852) (by decide +kernel), List.mem_of_getElem? (i := 1058) (by decide +kernel), List.mem_of_getElem? (i := 1059) (by decide +kernel)⟩
theorem lw_p36 : lw_okq (⟨"SeedBenchModel", "begins", "()V"⟩, 58) := ⟨⟨by decide +kernel, by decide +kernel⟩, List.mem_of_getElem? (i := 852) (by decide +kernel), List.mem_of_getElem? (i := 1068) (by decide +kernel), List.mem_of_getElem? (i := 1069) (by decide +kernel)⟩
theorem lw_p37 : lw_okq (⟨"SeedBenchModel", "turns", "(I)Z"⟩, 58) := ⟨⟨by decide +kernel, by decide +kernel⟩, List.mem_of_getElem? (i := 852) (by decide +kernel), List.mem_of_getElem? (i := 1080) (by decide +kernel), List.mem_of_getElem? (i := 1081) (by decide +kernel)⟩
theorem lw_p38 : lw_okq (⟨"SeedBenchModel", "product", "(III)V"⟩, 58) := ⟨⟨by decide +kernel, by decide +kernel⟩, List.mem_of_getElem? (i := 852) (by decide +kernel), List.mem_of_getElem? (i := 1084) (by decide +kernel), List.mem_of_getElem? (i := 1085) (by decide +kernel)⟩
theorem lw_p39 : lw_okq (⟨"SeedBenchModel", "heldSlot", "(I)I"⟩, 58) := ⟨⟨by decide +kernel, by decide +kernel⟩, List.mem_of_getElem? (i := 852) (by decide +kernel), List.mem_of_getElem? (i := 1088) (by decide +kernel), List.mem_of_getElem? (i := 1089) (by decide +kernel)⟩
theorem lw_p40 : lw_okq (⟨"SeedBenchModel", "timesOften", "(IIII)V"⟩, 58) := ⟨⟨by decide +kernel, by decide +kernel⟩, List.mem_of_getElem? (i := 852) (by decide +kernel), List.mem_of_getElem? (i := 1093) (by decide +kernel), List.mem_of_getElem? (i := 1094) (by decide +kernel)⟩
theorem lw_p41 : lw_okq (⟨"SeedBenchModel", "times", "(III)V"⟩, 58) := ⟨⟨by decide +kernel, by decide +kernel⟩, List.mem_of_getElem? (i := 852) (by decide +kernel), List.mem_of_getElem? (i := 1097) (by decide +kernel), List.mem_of_getElem? (i := 1098) (by decide +kernel)⟩
theorem lw_p42 : lw_okq (⟨"SeedBenchModel", "add", "(I)V"⟩, 58) := ⟨⟨by decide +kernel, by decide +kernel⟩, List.mem_of_getElem? (i := 852) (by decide +kernel), List.mem_of_getElem? (i := 1102) (by decide +kernel), List.mem_of_getElem? (i := 1103) (by decide +kernel)⟩
theorem lw_p43 : lw_okq (⟨"SeedBenchModel", "placeIn", "(I)I"⟩, 58) := ⟨⟨by decide +kernel, by decide +kernel⟩, List.mem_of_getElem? (i := 852) (by decide +kernel), List.mem_of_getElem? (i := 1106) (by decide +kernel), List.mem_of_getElem? (i := 1107) (by decide +kernel)⟩
theorem lw_p44 : lw_okq (⟨"SeedBenchModel", "against", "(II)I"⟩, 58) := ⟨⟨by decide +kernel, by decide +kernel⟩, List.mem_of_getElem? (i := 852) (by decide +kernel), List.mem_of_getElem? (i := 1110) (by decide +kernel), List.mem_of_getElem? (i := 1111) (by decide +kernel)⟩
theorem lw_p45 : lw_okq (⟨"SeedBenchModel", "copy", "(II)V"⟩, 58) := ⟨⟨by decide +kernel, by decide +kernel⟩, List.mem_of_getElem? (i := 852) (by decide +kernel), List.mem_of_getElem? (i := 1114) (by decide +kernel), List.mem_of_getElem? (i := 1115) (by decide +kernel)⟩
theorem lw_p46 : lw_okq (⟨"SeedBenchModel", "turnsArrows", "(I)Z"⟩, 58) := ⟨⟨by decide +kernel, by decide +kernel⟩, List.mem_of_getElem? (i := 852) (by decide +kernel), List.mem_of_getElem? (i := 1118) (by decide +kernel), List.mem_of_getElem? (i := 1119) (by decide +kernel)⟩
theorem lw_p47 : lw_okq (⟨"SeedBenchModel", "parts", "(III)V"⟩, 58) := ⟨⟨by decide +kernel, by decide +kernel⟩, List.mem_of_getElem? (i := 852) (by decide +kernel), List.mem_of_getElem? (i := 1122) (by decide +kernel), List.mem_of_getElem? (i := 1123) (by decide +kernel)⟩
def lw_privs_3 : List (MethodName × Nat) := [(⟨"SeedBenchModel", "firsts", "()V"⟩, 58), (⟨"SeedBenchModel", "one", "(I)V"⟩, 58), (⟨"SeedBenchModel", "hasSizes", "()Z"⟩, 58), (⟨"SeedBenchModel", "group", "(I)V"⟩, 58), (⟨"SeedBenchModel", "begins", "()V"⟩, 58), (⟨"SeedBenchModel", "turns", "(I)Z"⟩, 58), (⟨"SeedBenchModel", "product", "(III)V"⟩, 58), (⟨"SeedBenchModel", "heldSlot", "(I)I"⟩, 58), (⟨"SeedBenchModel", "timesOften", "(IIII)V"⟩, 58), (⟨"SeedBenchModel", "times", "(III)V"⟩, 58), (⟨"SeedBenchModel", "add", "(I)V"⟩, 58), (⟨"SeedBenchModel", "placeIn", "(I)I"⟩, 58), (⟨"SeedBenchModel", "against", "(II)I"⟩, 58), (⟨"SeedBenchModel", "copy", "(II)V"⟩, 58), (⟨"SeedBenchModel", "turnsArrows", "(I)Z"⟩, 58), (⟨"SeedBenchModel", "parts", "(III)V"⟩, 58)]
theorem lw_r3 : ∀ q ∈ lw_privs_3, lw_okq q := List.forall_mem_cons.mpr ⟨lw_p32, List.forall_mem_cons.mpr ⟨lw_p33, List.forall_mem_cons.mpr ⟨lw_p34, List.forall_mem_cons.mpr ⟨lw_p35, List.forall_mem_cons.mpr ⟨lw_p36, List.forall_mem_cons.mpr ⟨lw_p37, List.forall_mem_cons.mpr ⟨lw_p38, List.forall_mem_cons.mpr ⟨lw_p39, List.forall_mem_cons.mpr ⟨lw_p40, List.forall_mem_cons.mpr ⟨lw_p41, List.forall_mem_cons.mpr ⟨lw_p42, List.forall_mem_cons.mpr ⟨lw_p43, List.forall_mem_cons.mpr ⟨lw_p44, List.forall_mem_cons.mpr ⟨lw_p45, List.forall_mem_cons.mpr ⟨lw_p46, List.forall_mem_cons.mpr ⟨lw_p47, fun _ h => absurd h List.not_mem_nil⟩⟩⟩⟩⟩⟩⟩⟩⟩⟩⟩⟩⟩⟩⟩⟩
theorem lw_p48 : lw_okq (⟨"SeedBenchModel", "less", "(IIJ)V"⟩, 58) := ⟨⟨by decide +kernel, by decide +kernel⟩, List.mem_of_getElem? (i := 852) (by decide +kernel), List.mem_of_getElem? (i := 1126) (by decide +kernel), List.mem_of_getElem? (i := 1127) (by decide +kernel)⟩
theorem lw_p49 : lw_okq (⟨"SeedBenchModel", "turnRound", "(I)V"⟩, 58) := ⟨⟨by decide +kernel, by decide +kernel⟩, List.mem_of_getElem? (i := 852) (by decide +kernel), List.mem_of_getElem? (i := 1130) (by decide +kernel), List.mem_of_getElem? (i := 1131) (by decide +kernel)⟩
theorem lw_p50 : lw_okq (⟨"SeedBenchModel", "leastOf", "(II)I"⟩, 58) := ⟨⟨by decide +kernel, by decide +kernel⟩, List.mem_of_getElem? (i := 852) (by decide +kernel), List.mem_of_getElem? (i := 1154) (by decide +kernel), List.mem_of_getElem? (i := 1155) (by decide +kernel)⟩
theorem lw_p51 : lw_okq (⟨"SeedBenchModel", "sumOf", "(I)J"⟩, 58) := ⟨⟨by decide +kernel, by decide +kernel⟩, List.mem_of_getElem? (i := 852) (by decide +kernel), List.mem_of_getElem? (i := 1165) (by decide +kernel), List.mem_of_getElem? (i := 1166) (by decide +kernel)⟩
theorem lw_p52 : lw_okq (⟨"SeedBenchModel", "areAlike", "(II)Z"⟩, 58) := ⟨⟨by decide +kernel, by decide +kernel⟩, List.mem_of_getElem? (i := 852) (by decide +kernel), List.mem_of_getElem? (i := 1177) (by decide +kernel), List.mem_of_getElem? (i := 1178) (by decide +kernel)⟩
theorem lw_p53 : lw_okq (⟨"SeedBenchModel", "saves", "(I)V"⟩, 58) := ⟨⟨by decide +kernel, by decide +kernel⟩, List.mem_of_getElem? (i := 852) (by decide +kernel), List.mem_of_getElem? (i := 1185) (by decide +kernel), List.mem_of_getElem? (i := 1186) (by decide +kernel)⟩
theorem lw_p54 : lw_okq (⟨"SeedBenchModel", "goesThrough", "()Z"⟩, 58) := ⟨⟨by decide +kernel, by decide +kernel⟩, List.mem_of_getElem? (i := 852) (by decide +kernel), List.mem_of_getElem? (i := 1189) (by decide +kernel), List.mem_of_getElem? (i := 1190) (by decide +kernel)⟩
theorem lw_p55 : lw_okq (⟨"SeedBenchModel", "letterOf", "(I)I"⟩, 58) := ⟨⟨by decide +kernel, by decide +kernel⟩, List.mem_of_getElem? (i := 852) (by decide +kernel), List.mem_of_getElem? (i := 1193) (by decide +kernel), List.mem_of_getElem? (i := 1194) (by decide +kernel)⟩
theorem lw_p56 : lw_okq (⟨"SeedBenchModel", "comes", "()Z"⟩, 58) := ⟨⟨by decide +kernel, by decide +kernel⟩, List.mem_of_getElem? (i := 852) (by decide +kernel), List.mem_of_getElem? (i := 1197) (by decide +kernel), List.mem_of_getElem? (i := 1198) (by decide +kernel)⟩
theorem lw_p57 : lw_okq (⟨"SeedBenchModel", "takes", "(I)V"⟩, 58) := ⟨⟨by decide +kernel, by decide +kernel⟩, List.mem_of_getElem? (i := 852) (by decide +kernel), List.mem_of_getElem? (i := 1201) (by decide +kernel), List.mem_of_getElem? (i := 1202) (by decide +kernel)⟩
theorem lw_p58 : lw_okq (⟨"SeedBenchModel", "isThere", "()Z"⟩, 58) := ⟨⟨by decide +kernel, by decide +kernel⟩, List.mem_of_getElem? (i := 852) (by decide +kernel), List.mem_of_getElem? (i := 1205) (by decide +kernel), List.mem_of_getElem? (i := 1206) (by decide +kernel)⟩
theorem lw_p59 : lw_okq (⟨"SeedBenchModel", "restores", "(I)V"⟩, 58) := ⟨⟨by decide +kernel, by decide +kernel⟩, List.mem_of_getElem? (i := 852) (by decide +kernel), List.mem_of_getElem? (i := 1209) (by decide +kernel), List.mem_of_getElem? (i := 1210) (by decide +kernel)⟩
theorem lw_p60 : lw_okq (⟨"SeedBenchModel", "searches", "()I"⟩, 58) := ⟨⟨by decide +kernel, by decide +kernel⟩, List.mem_of_getElem? (i := 852) (by decide +kernel), List.mem_of_getElem? (i := 1222) (by decide +kernel), List.mem_of_getElem? (i := 1223) (by decide +kernel)⟩
theorem lw_p61 : lw_okq (⟨"SeedBenchModel", "tells", "(II)I"⟩, 58) := ⟨⟨by decide +kernel, by decide +kernel⟩, List.mem_of_getElem? (i := 852) (by decide +kernel), List.mem_of_getElem? (i := 1226) (by decide +kernel), List.mem_of_getElem? (i := 1227) (by decide +kernel)⟩
theorem lw_p62 : lw_okq (⟨"SeedBenchModel", "tableHash", "()I"⟩, 58) := ⟨⟨by decide +kernel, by decide +kernel⟩, List.mem_of_getElem? (i := 852) (by decide +kernel), List.mem_of_getElem? (i := 1230) (by decide +kernel), List.mem_of_getElem? (i := 1231) (by decide +kernel)⟩
theorem lw_p63 : lw_okq (⟨"SeedBenchModel", "isTable", "(I)Z"⟩, 58) := ⟨⟨by decide +kernel, by decide +kernel⟩, List.mem_of_getElem? (i := 852) (by decide +kernel), List.mem_of_getElem? (i := 1234) (by decide +kernel), List.mem_of_getElem? (i := 1235) (by decide +kernel)⟩
def lw_privs_4 : List (MethodName × Nat) := [(⟨"SeedBenchModel", "less", "(IIJ)V"⟩, 58), (⟨"SeedBenchModel", "turnRound", "(I)V"⟩, 58), (⟨"SeedBenchModel", "leastOf", "(II)I"⟩, 58), (⟨"SeedBenchModel", "sumOf", "(I)J"⟩, 58), (⟨"SeedBenchModel", "areAlike", "(II)Z"⟩, 58), (⟨"SeedBenchModel", "saves", "(I)V"⟩, 58), (⟨"SeedBenchModel", "goesThrough", "()Z"⟩, 58), (⟨"SeedBenchModel", "letterOf", "(I)I"⟩, 58), (⟨"SeedBenchModel", "comes", "()Z"⟩, 58), (⟨"SeedBenchModel", "takes", "(I)V"⟩, 58), (⟨"SeedBenchModel", "isThere", "()Z"⟩, 58), (⟨"SeedBenchModel", "restores", "(I)V"⟩, 58), (⟨"SeedBenchModel", "searches", "()I"⟩, 58), (⟨"SeedBenchModel", "tells", "(II)I"⟩, 58), (⟨"SeedBenchModel", "tableHash", "()I"⟩, 58), (⟨"SeedBenchModel", "isTable", "(I)Z"⟩, 58)]
theorem lw_r4 : ∀ q ∈ lw_privs_4, lw_okq q := List.forall_mem_cons.mpr ⟨lw_p48, List.forall_mem_cons.mpr ⟨lw_p49, List.forall_mem_cons.mpr ⟨lw_p50, List.forall_mem_cons.mpr ⟨lw_p51, List.forall_mem_cons.mpr ⟨lw_p52, List.forall_mem_cons.mpr ⟨lw_p53, List.forall_mem_cons.mpr ⟨lw_p54, List.forall_mem_cons.mpr ⟨lw_p55, List.forall_mem_cons.mpr ⟨lw_p56, List.forall_mem_cons.mpr ⟨lw_p57, List.forall_mem_cons.mpr ⟨lw_p58, List.forall_mem_cons.mpr ⟨lw_p59, List.forall_mem_cons.mpr ⟨lw_p60, List.forall_mem_cons.mpr ⟨lw_p61, List.forall_mem_cons.mpr ⟨lw_p62, List.forall_mem_cons.mpr ⟨lw_p63, fun _ h => absurd h List.not_mem_nil⟩⟩⟩⟩⟩⟩⟩⟩⟩⟩⟩⟩⟩⟩⟩⟩
theorem lw_p64 : lw_okq (⟨"SeedBenchModel", "isWild", "()Z"⟩, 58) := ⟨⟨by decide +kernel, by decide +kernel⟩, List.mem_of_getElem? (i := 852) (by decide +kernel), List.mem_of_getElem? (i := 1238) (by decide +kernel), List.mem_of_getElem? (i := 1239) (by decide +kernel)⟩
theorem lw_p65 : lw_okq (⟨"SeedBenchModel", "isBegun", "()Z"⟩, 58) := ⟨⟨by decide +kernel, by decide +kernel⟩, List.mem_of_getElem? (i := 852) (by decide +kernel), List.mem_of_getElem? (i := 1258) (by decide +kernel), List.mem_of_getElem? (i := 1259) (by decide +kernel)⟩
theorem lw_p66 : lw_okq (⟨"SeedBenchModel", "isSlot", "(I)Z"⟩, 58) := ⟨⟨by decide +kernel, by decide +kernel⟩, List.mem_of_getElem? (i := 852) (by decide +kernel), List.mem_of_getElem? (i := 1266) (by decide +kernel), List.mem_of_getElem? (i := 1267) (by decide +kernel)⟩
theorem lw_p67 : lw_okq (⟨"SeedBenchModel", "fences", "(I)I"⟩, 58) := ⟨⟨by decide +kernel, by decide +kernel⟩, List.mem_of_getElem? (i := 852) (by decide +kernel), List.mem_of_getElem? (i := 1283) (by decide +kernel), List.mem_of_getElem? (i := 1284) (by decide +kernel)⟩
theorem lw_p68 : lw_okq (⟨"SeedBenchModel", "isCutting", "(I)Z"⟩, 58) := ⟨⟨by decide +kernel, by decide +kernel⟩, List.mem_of_getElem? (i := 852) (by decide +kernel), List.mem_of_getElem? (i := 1291) (by decide +kernel), List.mem_of_getElem? (i := 1292) (by decide +kernel)⟩
theorem lw_p69 : lw_okq (⟨"SeedBenchModel", "flips", "(II)I"⟩, 58) := ⟨⟨by decide +kernel, by decide +kernel⟩, List.mem_of_getElem? (i := 852) (by decide +kernel), List.mem_of_getElem? (i := 1295) (by decide +kernel), List.mem_of_getElem? (i := 1296) (by decide +kernel)⟩
theorem lw_p70 : lw_okq (⟨"SeedBenchModel", "other", "(III)I"⟩, 58) := ⟨⟨by decide +kernel, by decide +kernel⟩, List.mem_of_getElem? (i := 852) (by decide +kernel), List.mem_of_getElem? (i := 1299) (by decide +kernel), List.mem_of_getElem? (i := 1300) (by decide +kernel)⟩
theorem lw_p71 : lw_okq (⟨"SeedBenchModel", "isSide", "(III)Z"⟩, 58) := ⟨⟨by decide +kernel, by decide +kernel⟩, List.mem_of_getElem? (i := 852) (by decide +kernel), List.mem_of_getElem? (i := 1303) (by decide +kernel), List.mem_of_getElem? (i := 1304) (by decide +kernel)⟩
theorem lw_p72 : lw_okq (⟨"SeedBenchModel", "thirds", "(II)I"⟩, 58) := ⟨⟨by decide +kernel, by decide +kernel⟩, List.mem_of_getElem? (i := 852) (by decide +kernel), List.mem_of_getElem? (i := 1314) (by decide +kernel), List.mem_of_getElem? (i := 1315) (by decide +kernel)⟩
theorem lw_p73 : lw_okq (⟨"SeedBenchModel", "fenceAt", "(II)I"⟩, 58) := ⟨⟨by decide +kernel, by decide +kernel⟩, List.mem_of_getElem? (i := 852) (by decide +kernel), List.mem_of_getElem? (i := 1318) (by decide +kernel), List.mem_of_getElem? (i := 1319) (by decide +kernel)⟩
theorem lw_p74 : lw_okq (⟨"SeedBenchModel", "bits", "(I)J"⟩, 58) := ⟨⟨by decide +kernel, by decide +kernel⟩, List.mem_of_getElem? (i := 852) (by decide +kernel), List.mem_of_getElem? (i := 1330) (by decide +kernel), List.mem_of_getElem? (i := 1331) (by decide +kernel)⟩
theorem lw_p75 : lw_okq (⟨"SeedBenchModel", "takesBits", "(IJ)V"⟩, 58) := ⟨⟨by decide +kernel, by decide +kernel⟩, List.mem_of_getElem? (i := 852) (by decide +kernel), List.mem_of_getElem? (i := 1334) (by decide +kernel), List.mem_of_getElem? (i := 1335) (by decide +kernel)⟩
theorem lw_p76 : lw_okq (⟨"SeedBenchModel", "cuttingOf", "(J)I"⟩, 58) := ⟨⟨by decide +kernel, by decide +kernel⟩, List.mem_of_getElem? (i := 852) (by decide +kernel), List.mem_of_getElem? (i := 1338) (by decide +kernel), List.mem_of_getElem? (i := 1339) (by decide +kernel)⟩
theorem lw_p77 : lw_okq (⟨"SeedBenchModel", "placeOf", "(III)I"⟩, 58) := ⟨⟨by decide +kernel, by decide +kernel⟩, List.mem_of_getElem? (i := 852) (by decide +kernel), List.mem_of_getElem? (i := 1351) (by decide +kernel), List.mem_of_getElem? (i := 1352) (by decide +kernel)⟩
theorem lw_p78 : lw_okq (⟨"SeedBenchModel", "leads", "(II)V"⟩, 58) := ⟨⟨by decide +kernel, by decide +kernel⟩, List.mem_of_getElem? (i := 852) (by decide +kernel), List.mem_of_getElem? (i := 1355) (by decide +kernel), List.mem_of_getElem? (i := 1356) (by decide +kernel)⟩
def lw_privs_5 : List (MethodName × Nat) := [(⟨"SeedBenchModel", "isWild", "()Z"⟩, 58), (⟨"SeedBenchModel", "isBegun", "()Z"⟩, 58), (⟨"SeedBenchModel", "isSlot", "(I)Z"⟩, 58), (⟨"SeedBenchModel", "fences", "(I)I"⟩, 58), (⟨"SeedBenchModel", "isCutting", "(I)Z"⟩, 58), (⟨"SeedBenchModel", "flips", "(II)I"⟩, 58), (⟨"SeedBenchModel", "other", "(III)I"⟩, 58), (⟨"SeedBenchModel", "isSide", "(III)Z"⟩, 58), (⟨"SeedBenchModel", "thirds", "(II)I"⟩, 58), (⟨"SeedBenchModel", "fenceAt", "(II)I"⟩, 58), (⟨"SeedBenchModel", "bits", "(I)J"⟩, 58), (⟨"SeedBenchModel", "takesBits", "(IJ)V"⟩, 58), (⟨"SeedBenchModel", "cuttingOf", "(J)I"⟩, 58), (⟨"SeedBenchModel", "placeOf", "(III)I"⟩, 58), (⟨"SeedBenchModel", "leads", "(II)V"⟩, 58)]
theorem lw_r5 : ∀ q ∈ lw_privs_5, lw_okq q := List.forall_mem_cons.mpr ⟨lw_p64, List.forall_mem_cons.mpr ⟨lw_p65, List.forall_mem_cons.mpr ⟨lw_p66, List.forall_mem_cons.mpr ⟨lw_p67, List.forall_mem_cons.mpr ⟨lw_p68, List.forall_mem_cons.mpr ⟨lw_p69, List.forall_mem_cons.mpr ⟨lw_p70, List.forall_mem_cons.mpr ⟨lw_p71, List.forall_mem_cons.mpr ⟨lw_p72, List.forall_mem_cons.mpr ⟨lw_p73, List.forall_mem_cons.mpr ⟨lw_p74, List.forall_mem_cons.mpr ⟨lw_p75, List.forall_mem_cons.mpr ⟨lw_p76, List.forall_mem_cons.mpr ⟨lw_p77, List.forall_mem_cons.mpr ⟨lw_p78, fun _ h => absurd h List.not_mem_nil⟩⟩⟩⟩⟩⟩⟩⟩⟩⟩⟩⟩⟩⟩⟩
def lw_privs : List (MethodName × Nat) := lw_privs_1 ++ (lw_privs_2 ++ (lw_privs_3 ++ (lw_privs_4 ++ (lw_privs_5))))
def lw_tbl : List Cond := k2_sels lw_privs ++ tables_1
theorem lw_privs_ok : ∀ q ∈ lw_privs, lw_okq q := by
  show ∀ q ∈ lw_privs_1 ++ (lw_privs_2 ++ (lw_privs_3 ++ (lw_privs_4 ++ (lw_privs_5)))), lw_okq q
  exact List.forall_mem_append.mpr ⟨lw_r1, List.forall_mem_append.mpr ⟨lw_r2, List.forall_mem_append.mpr ⟨lw_r3, List.forall_mem_append.mpr ⟨lw_r4, lw_r5⟩⟩⟩⟩
/-! the good words of the tables -/
def gT : List Cond := lw_tbl.filter goodWord
theorem gT_of {w : Cond} (h : w ∈ lw_tbl) (hg : goodWord w = true) : w ∈ gT := List.mem_filter.mpr ⟨h, hg⟩
theorem gT_t {w : Cond} (h : w ∈ tables_1) (hg : goodWord w = true) : w ∈ gT := gT_of (List.mem_append_right _ h) hg
theorem gm_1 {w : Cond} (h : w ∈ tables_1_1) (hg : goodWord w = true) : w ∈ gT := gT_t (List.mem_append_left _ h) hg
theorem gm_2 {w : Cond} (h : w ∈ tables_1_2) (hg : goodWord w = true) : w ∈ gT := gT_t (List.mem_append_right _ (List.mem_append_left _ h)) hg
theorem gm_3 {w : Cond} (h : w ∈ tables_1_3) (hg : goodWord w = true) : w ∈ gT := gT_t (List.mem_append_right _ (List.mem_append_right _ (List.mem_append_left _ h))) hg
theorem gm_4 {w : Cond} (h : w ∈ tables_1_4) (hg : goodWord w = true) : w ∈ gT := gT_t (List.mem_append_right _ (List.mem_append_right _ (List.mem_append_right _ (List.mem_append_left _ h)))) hg
theorem gm_5 {w : Cond} (h : w ∈ tables_1_5) (hg : goodWord w = true) : w ∈ gT := gT_t (List.mem_append_right _ (List.mem_append_right _ (List.mem_append_right _ (List.mem_append_right _ (List.mem_append_left _ h))))) hg
theorem gm_6 {w : Cond} (h : w ∈ tables_1_6) (hg : goodWord w = true) : w ∈ gT := gT_t (List.mem_append_right _ (List.mem_append_right _ (List.mem_append_right _ (List.mem_append_right _ (List.mem_append_right _ (h)))))) hg
theorem gs_p {w : Cond} {l : List (MethodName × Nat)} (hl : ∀ q ∈ l, q ∈ lw_privs) (h : w ∈ k2_sels l) (hg : goodWord w = true) : w ∈ gT := by
  obtain ⟨q, h1, rfl⟩ := List.mem_map.mp h
  exact gT_of (List.mem_append_left _ (List.mem_map.mpr ⟨q, hl q h1, rfl⟩)) hg
theorem gs_1 {w : Cond} (h : w ∈ k2_sels lw_privs_1) (hg : goodWord w = true) : w ∈ gT := gs_p (fun q h => List.mem_append_left _ h) h hg
theorem gs_2 {w : Cond} (h : w ∈ k2_sels lw_privs_2) (hg : goodWord w = true) : w ∈ gT := gs_p (fun q h => List.mem_append_right _ (List.mem_append_left _ h)) h hg
theorem gs_3 {w : Cond} (h : w ∈ k2_sels lw_privs_3) (hg : goodWord w = true) : w ∈ gT := gs_p (fun q h => List.mem_append_right _ (List.mem_append_right _ (List.mem_append_left _ h))) h hg
theorem gs_4 {w : Cond} (h : w ∈ k2_sels lw_privs_4) (hg : goodWord w = true) : w ∈ gT := gs_p (fun q h => List.mem_append_right _ (List.mem_append_right _ (List.mem_append_right _ (List.mem_append_left _ h)))) h hg
theorem gs_5 {w : Cond} (h : w ∈ k2_sels lw_privs_5) (hg : goodWord w = true) : w ∈ gT := gs_p (fun q h => List.mem_append_right _ (List.mem_append_right _ (List.mem_append_right _ (List.mem_append_right _ (h))))) h hg
theorem rx_ac {G : rx_G} {MT : Nat → rx_M} {M : rx_M} {pc : Nat} {tr : rx_T} {l : rx_P} (h : rx_Sd G MT M pc tr) (t : ∀ q ∈ l, rx_Sd G MT M q.1 q.2) : ∀ q ∈ (pc, tr) :: l, rx_Sd G MT M q.1 q.2 := List.forall_mem_cons.mpr ⟨h, t⟩
theorem rx_an {G : rx_G} {MT : Nat → rx_M} {M : rx_M} : ∀ q ∈ ([] : rx_P), rx_Sd G MT M q.1 q.2 := fun _ h => absurd h List.not_mem_nil
end
section
/-! names of classes, their fields, what a new object of each holds -/
def RX0 : String := "SeedBench$Atlas"
def TX0 : u_T := fun k => match k with
  | 0 => ("SeedBench$Atlas", "letters", "[LSeedBench$Share;", true)
  | 1 => ("SeedBench$Atlas", "found", "I", false)
  | 2 => ("SeedBench$Atlas", "seats", "[I", true)
  | 3 => ("SeedBench$Atlas", "explored", "[Z", true)
  | 4 => ("SeedBench$Atlas", "tablesOf", "[I", true)
  | 5 => ("SeedBench$Atlas", "lowLetters", "[J", true)
  | 6 => ("SeedBench$Atlas", "highLetters", "[J", true)
  | 7 => ("SeedBench$Atlas", "rows", "I", false)
  | 8 => ("SeedBench$Atlas", "at", "LSeedBench$Seed;", true)
  | 9 => ("SeedBench$Atlas", "seatsAt", "[I", true)
  | 10 => ("SeedBench$Atlas", "lowAt", "J", false)
  | 11 => ("SeedBench$Atlas", "highAt", "J", false)
  | 12 => ("SeedBench$Atlas", "to", "[I", true)
  | 13 => ("SeedBench$Atlas", "toldLetters", "I", false)
  | 14 => ("SeedBench$Atlas", "toldWidth", "I", false)
  | 15 => ("SeedBench$Atlas", "toldTerms", "[I", true)
  | 16 => ("SeedBench$Atlas", "toldSums", "[J", true)
  | _ => ("SeedBench$Atlas", "toldLeast", "[I", true)
def tyX0 : Nat → FieldType := fun k => match k with
  | 0 => .array (.object "SeedBench$Share")
  | 1 => .int
  | 2 => .array .int
  | 3 => .array .boolean
  | 4 => .array .int
  | 5 => .array .long
  | 6 => .array .long
  | 7 => .int
  | 8 => .object "SeedBench$Seed"
  | 9 => .array .int
  | 10 => .long
  | 11 => .long
  | 12 => .array .int
  | 13 => .int
  | 14 => .int
  | 15 => .array .int
  | 16 => .array .long
  | _ => .array .int
theorem nmX0 : ∀ a, a < 18 → ∀ b, b < 18 → a ≠ b → (TX0 a).2.1 ≠ (TX0 b).2.1 := by decide +kernel
theorem tyX0_ok : ∀ k, k < 18 → parseFieldDescriptor (TX0 k).2.2.1 = some (tyX0 k) := by decide +kernel
theorem li_X0_0 : u_lay RX0 TX0 0 ∈ gT := gm_1 (List.mem_of_getElem? (i := 181) rfl) rfl
theorem li_X0_1 : u_lay RX0 TX0 1 ∈ gT := gm_1 (List.mem_of_getElem? (i := 183) rfl) rfl
theorem li_X0_2 : u_lay RX0 TX0 2 ∈ gT := gm_1 (List.mem_of_getElem? (i := 185) rfl) rfl
theorem li_X0_3 : u_lay RX0 TX0 3 ∈ gT := gm_1 (List.mem_of_getElem? (i := 187) rfl) rfl
theorem li_X0_4 : u_lay RX0 TX0 4 ∈ gT := gm_1 (List.mem_of_getElem? (i := 189) rfl) rfl
theorem li_X0_5 : u_lay RX0 TX0 5 ∈ gT := gm_1 (List.mem_of_getElem? (i := 191) rfl) rfl
theorem li_X0_6 : u_lay RX0 TX0 6 ∈ gT := gm_1 (List.mem_of_getElem? (i := 193) rfl) rfl
theorem li_X0_7 : u_lay RX0 TX0 7 ∈ gT := gm_1 (List.mem_of_getElem? (i := 195) rfl) rfl
theorem li_X0_8 : u_lay RX0 TX0 8 ∈ gT := gm_1 (List.mem_of_getElem? (i := 197) rfl) rfl
theorem li_X0_9 : u_lay RX0 TX0 9 ∈ gT := gm_1 (List.mem_of_getElem? (i := 199) rfl) rfl
theorem li_X0_10 : u_lay RX0 TX0 10 ∈ gT := gm_1 (List.mem_of_getElem? (i := 201) rfl) rfl
theorem li_X0_11 : u_lay RX0 TX0 11 ∈ gT := gm_1 (List.mem_of_getElem? (i := 203) rfl) rfl
theorem li_X0_12 : u_lay RX0 TX0 12 ∈ gT := gm_1 (List.mem_of_getElem? (i := 205) rfl) rfl
theorem li_X0_13 : u_lay RX0 TX0 13 ∈ gT := gm_1 (List.mem_of_getElem? (i := 207) rfl) rfl
theorem li_X0_14 : u_lay RX0 TX0 14 ∈ gT := gm_1 (List.mem_of_getElem? (i := 209) rfl) rfl
theorem li_X0_15 : u_lay RX0 TX0 15 ∈ gT := gm_1 (List.mem_of_getElem? (i := 211) rfl) rfl
theorem li_X0_16 : u_lay RX0 TX0 16 ∈ gT := gm_1 (List.mem_of_getElem? (i := 213) rfl) rfl
theorem li_X0_17 : u_lay RX0 TX0 17 ∈ gT := gm_1 (List.mem_of_getElem? (i := 215) rfl) rfl
theorem in_X0 : ∀ w ∈ u_ws RX0 TX0 18, w ∈ gT := List.forall_mem_cons.mpr ⟨li_X0_0, List.forall_mem_cons.mpr ⟨li_X0_1, List.forall_mem_cons.mpr ⟨li_X0_2, List.forall_mem_cons.mpr ⟨li_X0_3, List.forall_mem_cons.mpr ⟨li_X0_4, List.forall_mem_cons.mpr ⟨li_X0_5, List.forall_mem_cons.mpr ⟨li_X0_6, List.forall_mem_cons.mpr ⟨li_X0_7, List.forall_mem_cons.mpr ⟨li_X0_8, List.forall_mem_cons.mpr ⟨li_X0_9, List.forall_mem_cons.mpr ⟨li_X0_10, List.forall_mem_cons.mpr ⟨li_X0_11, List.forall_mem_cons.mpr ⟨li_X0_12, List.forall_mem_cons.mpr ⟨li_X0_13, List.forall_mem_cons.mpr ⟨li_X0_14, List.forall_mem_cons.mpr ⟨li_X0_15, List.forall_mem_cons.mpr ⟨li_X0_16, List.forall_mem_cons.mpr ⟨li_X0_17, fun _ h => absurd h List.not_mem_nil⟩⟩⟩⟩⟩⟩⟩⟩⟩⟩⟩⟩⟩⟩⟩⟩⟩⟩
def fs_X0 : List Value := [.null, .int 0, .null, .null, .null, .null, .null, .int 0, .null, .null, .long 0, .long 0, .null, .int 0, .int 0, .null, .null, .null]
theorem df_X0 : ∀ j, j < 18 → defaultValue (tyX0 j) = vp_V fs_X0 j := by decide +kernel
theorem cs_X0 (σ : Nat → Int32) : rx_consts σ fs_X0 := fun _ => ⟨rfl, rfl, rfl, rfl, rfl, rfl, rfl, rfl, rfl, rfl, rfl, rfl, rfl, rfl, rfl, rfl, rfl, rfl, trivial⟩
def RX1 : String := "SeedBench$Book"
def TX1 : u_T := fun k => match k with
  | 0 => ("SeedBench$Book", "firsts", "[J", true)
  | 1 => ("SeedBench$Book", "seconds", "[J", true)
  | 2 => ("SeedBench$Book", "from", "[I", true)
  | 3 => ("SeedBench$Book", "note", "[I", true)
  | 4 => ("SeedBench$Book", "slots", "[I", true)
  | _ => ("SeedBench$Book", "entries", "I", false)
def tyX1 : Nat → FieldType := fun k => match k with
  | 0 => .array .long
  | 1 => .array .long
  | 2 => .array .int
  | 3 => .array .int
  | 4 => .array .int
  | _ => .int
theorem nmX1 : ∀ a, a < 6 → ∀ b, b < 6 → a ≠ b → (TX1 a).2.1 ≠ (TX1 b).2.1 := by decide +kernel
theorem tyX1_ok : ∀ k, k < 6 → parseFieldDescriptor (TX1 k).2.2.1 = some (tyX1 k) := by decide +kernel
theorem li_X1_0 : u_lay RX1 TX1 0 ∈ gT := gm_1 (List.mem_of_getElem? (i := 239) rfl) rfl
theorem li_X1_1 : u_lay RX1 TX1 1 ∈ gT := gm_2 (List.mem_of_getElem? (i := 1) rfl) rfl
theorem li_X1_2 : u_lay RX1 TX1 2 ∈ gT := gm_2 (List.mem_of_getElem? (i := 3) rfl) rfl
theorem li_X1_3 : u_lay RX1 TX1 3 ∈ gT := gm_2 (List.mem_of_getElem? (i := 5) rfl) rfl
theorem li_X1_4 : u_lay RX1 TX1 4 ∈ gT := gm_2 (List.mem_of_getElem? (i := 7) rfl) rfl
theorem li_X1_5 : u_lay RX1 TX1 5 ∈ gT := gm_2 (List.mem_of_getElem? (i := 9) rfl) rfl
theorem in_X1 : ∀ w ∈ u_ws RX1 TX1 6, w ∈ gT := List.forall_mem_cons.mpr ⟨li_X1_0, List.forall_mem_cons.mpr ⟨li_X1_1, List.forall_mem_cons.mpr ⟨li_X1_2, List.forall_mem_cons.mpr ⟨li_X1_3, List.forall_mem_cons.mpr ⟨li_X1_4, List.forall_mem_cons.mpr ⟨li_X1_5, fun _ h => absurd h List.not_mem_nil⟩⟩⟩⟩⟩⟩
def fs_X1 : List Value := [.null, .null, .null, .null, .null, .int 0]
theorem df_X1 : ∀ j, j < 6 → defaultValue (tyX1 j) = vp_V fs_X1 j := by decide +kernel
theorem cs_X1 (σ : Nat → Int32) : rx_consts σ fs_X1 := fun _ => ⟨rfl, rfl, rfl, rfl, rfl, rfl, trivial⟩
def RX2 : String := "SeedBench$Draft"
def TX2 : u_T := fun k => match k with
  | 0 => ("SeedBench$Draft", "places", "I", false)
  | 1 => ("SeedBench$Draft", "held", "I", false)
  | 2 => ("SeedBench$Draft", "table", "[I", true)
  | 3 => ("SeedBench$Draft", "sizes", "[J", true)
  | _ => ("SeedBench$Draft", "group", "[I", true)
def tyX2 : Nat → FieldType := fun k => match k with
  | 0 => .int
  | 1 => .int
  | 2 => .array .int
  | 3 => .array .long
  | _ => .array .int
theorem nmX2 : ∀ a, a < 5 → ∀ b, b < 5 → a ≠ b → (TX2 a).2.1 ≠ (TX2 b).2.1 := by decide +kernel
theorem tyX2_ok : ∀ k, k < 5 → parseFieldDescriptor (TX2 k).2.2.1 = some (tyX2 k) := by decide +kernel
theorem li_X2_0 : u_lay RX2 TX2 0 ∈ gT := gm_1 (List.mem_of_getElem? (i := 110) rfl) rfl
theorem li_X2_1 : u_lay RX2 TX2 1 ∈ gT := gm_1 (List.mem_of_getElem? (i := 112) rfl) rfl
theorem li_X2_2 : u_lay RX2 TX2 2 ∈ gT := gm_1 (List.mem_of_getElem? (i := 114) rfl) rfl
theorem li_X2_3 : u_lay RX2 TX2 3 ∈ gT := gm_1 (List.mem_of_getElem? (i := 116) rfl) rfl
theorem li_X2_4 : u_lay RX2 TX2 4 ∈ gT := gm_1 (List.mem_of_getElem? (i := 118) rfl) rfl
theorem in_X2 : ∀ w ∈ u_ws RX2 TX2 5, w ∈ gT := List.forall_mem_cons.mpr ⟨li_X2_0, List.forall_mem_cons.mpr ⟨li_X2_1, List.forall_mem_cons.mpr ⟨li_X2_2, List.forall_mem_cons.mpr ⟨li_X2_3, List.forall_mem_cons.mpr ⟨li_X2_4, fun _ h => absurd h List.not_mem_nil⟩⟩⟩⟩⟩
def fs_X2 : List Value := [.int 0, .int 0, .null, .null, .null]
theorem df_X2 : ∀ j, j < 5 → defaultValue (tyX2 j) = vp_V fs_X2 j := by decide +kernel
theorem cs_X2 (σ : Nat → Int32) : rx_consts σ fs_X2 := fun _ => ⟨rfl, rfl, rfl, rfl, rfl, trivial⟩
def RX3 : String := "SeedBench$Guide"
def TX3 : u_T := fun k => match k with
  | 0 => ("SeedBench$Guide", "flips", "I", false)
  | 1 => ("SeedBench$Guide", "gone", "[I", true)
  | _ => ("SeedBench$Guide", "ring", "LSeedBench$Ring;", true)
def tyX3 : Nat → FieldType := fun k => match k with
  | 0 => .int
  | 1 => .array .int
  | _ => .object "SeedBench$Ring"
theorem nmX3 : ∀ a, a < 3 → ∀ b, b < 3 → a ≠ b → (TX3 a).2.1 ≠ (TX3 b).2.1 := by decide +kernel
theorem tyX3_ok : ∀ k, k < 3 → parseFieldDescriptor (TX3 k).2.2.1 = some (tyX3 k) := by decide +kernel
theorem li_X3_0 : u_lay RX3 TX3 0 ∈ gT := gm_2 (List.mem_of_getElem? (i := 70) rfl) rfl
theorem li_X3_1 : u_lay RX3 TX3 1 ∈ gT := gm_2 (List.mem_of_getElem? (i := 72) rfl) rfl
theorem li_X3_2 : u_lay RX3 TX3 2 ∈ gT := gm_2 (List.mem_of_getElem? (i := 74) rfl) rfl
theorem in_X3 : ∀ w ∈ u_ws RX3 TX3 3, w ∈ gT := List.forall_mem_cons.mpr ⟨li_X3_0, List.forall_mem_cons.mpr ⟨li_X3_1, List.forall_mem_cons.mpr ⟨li_X3_2, fun _ h => absurd h List.not_mem_nil⟩⟩⟩
def fs_X3 : List Value := [.int 0, .null, .null]
theorem df_X3 : ∀ j, j < 3 → defaultValue (tyX3 j) = vp_V fs_X3 j := by decide +kernel
theorem cs_X3 (σ : Nat → Int32) : rx_consts σ fs_X3 := fun _ => ⟨rfl, rfl, rfl, trivial⟩
def RX4 : String := "SeedBench$Kinds"
def TX4 : u_T := fun k => match k with
  | 0 => ("SeedBench$Kinds", "steps", "I", false)
  | 1 => ("SeedBench$Kinds", "seen", "I", false)
  | 2 => ("SeedBench$Kinds", "path", "[I", true)
  | 3 => ("SeedBench$Kinds", "now", "[I", true)
  | 4 => ("SeedBench$Kinds", "first", "J", false)
  | _ => ("SeedBench$Kinds", "second", "J", false)
def tyX4 : Nat → FieldType := fun k => match k with
  | 0 => .int
  | 1 => .int
  | 2 => .array .int
  | 3 => .array .int
  | 4 => .long
  | _ => .long
theorem nmX4 : ∀ a, a < 6 → ∀ b, b < 6 → a ≠ b → (TX4 a).2.1 ≠ (TX4 b).2.1 := by decide +kernel
theorem tyX4_ok : ∀ k, k < 6 → parseFieldDescriptor (TX4 k).2.2.1 = some (tyX4 k) := by decide +kernel
theorem li_X4_0 : u_lay RX4 TX4 0 ∈ gT := gm_2 (List.mem_of_getElem? (i := 27) rfl) rfl
theorem li_X4_1 : u_lay RX4 TX4 1 ∈ gT := gm_2 (List.mem_of_getElem? (i := 29) rfl) rfl
theorem li_X4_2 : u_lay RX4 TX4 2 ∈ gT := gm_2 (List.mem_of_getElem? (i := 31) rfl) rfl
theorem li_X4_3 : u_lay RX4 TX4 3 ∈ gT := gm_2 (List.mem_of_getElem? (i := 33) rfl) rfl
theorem li_X4_4 : u_lay RX4 TX4 4 ∈ gT := gm_2 (List.mem_of_getElem? (i := 35) rfl) rfl
theorem li_X4_5 : u_lay RX4 TX4 5 ∈ gT := gm_2 (List.mem_of_getElem? (i := 37) rfl) rfl
theorem in_X4 : ∀ w ∈ u_ws RX4 TX4 6, w ∈ gT := List.forall_mem_cons.mpr ⟨li_X4_0, List.forall_mem_cons.mpr ⟨li_X4_1, List.forall_mem_cons.mpr ⟨li_X4_2, List.forall_mem_cons.mpr ⟨li_X4_3, List.forall_mem_cons.mpr ⟨li_X4_4, List.forall_mem_cons.mpr ⟨li_X4_5, fun _ h => absurd h List.not_mem_nil⟩⟩⟩⟩⟩⟩
def fs_X4 : List Value := [.int 0, .int 0, .null, .null, .long 0, .long 0]
theorem df_X4 : ∀ j, j < 6 → defaultValue (tyX4 j) = vp_V fs_X4 j := by decide +kernel
theorem cs_X4 (σ : Nat → Int32) : rx_consts σ fs_X4 := fun _ => ⟨rfl, rfl, rfl, rfl, rfl, rfl, trivial⟩
def RX5 : String := "SeedBench$Mill"
def TX5 : u_T := fun k => match k with
  | 0 => ("SeedBench$Mill", "fresh", "LSeedBench$Share;", false)
  | 1 => ("SeedBench$Mill", "one", "LSeedBench$Share;", true)
  | 2 => ("SeedBench$Mill", "oneMore", "LSeedBench$Share;", true)
  | 3 => ("SeedBench$Mill", "two", "LSeedBench$Share;", true)
  | 4 => ("SeedBench$Mill", "twoMore", "LSeedBench$Share;", true)
  | 5 => ("SeedBench$Mill", "key", "[I", true)
  | _ => ("SeedBench$Mill", "gap", "[I", true)
def tyX5 : Nat → FieldType := fun k => match k with
  | 0 => .object "SeedBench$Share"
  | 1 => .object "SeedBench$Share"
  | 2 => .object "SeedBench$Share"
  | 3 => .object "SeedBench$Share"
  | 4 => .object "SeedBench$Share"
  | 5 => .array .int
  | _ => .array .int
theorem nmX5 : ∀ a, a < 7 → ∀ b, b < 7 → a ≠ b → (TX5 a).2.1 ≠ (TX5 b).2.1 := by decide +kernel
theorem tyX5_ok : ∀ k, k < 7 → parseFieldDescriptor (TX5 k).2.2.1 = some (tyX5 k) := by decide +kernel
theorem li_X5_0 : u_lay RX5 TX5 0 ∈ gT := gm_1 (List.mem_of_getElem? (i := 137) rfl) rfl
theorem li_X5_1 : u_lay RX5 TX5 1 ∈ gT := gm_1 (List.mem_of_getElem? (i := 139) rfl) rfl
theorem li_X5_2 : u_lay RX5 TX5 2 ∈ gT := gm_1 (List.mem_of_getElem? (i := 141) rfl) rfl
theorem li_X5_3 : u_lay RX5 TX5 3 ∈ gT := gm_1 (List.mem_of_getElem? (i := 143) rfl) rfl
theorem li_X5_4 : u_lay RX5 TX5 4 ∈ gT := gm_1 (List.mem_of_getElem? (i := 145) rfl) rfl
theorem li_X5_5 : u_lay RX5 TX5 5 ∈ gT := gm_1 (List.mem_of_getElem? (i := 147) rfl) rfl
theorem li_X5_6 : u_lay RX5 TX5 6 ∈ gT := gm_1 (List.mem_of_getElem? (i := 149) rfl) rfl
theorem in_X5 : ∀ w ∈ u_ws RX5 TX5 7, w ∈ gT := List.forall_mem_cons.mpr ⟨li_X5_0, List.forall_mem_cons.mpr ⟨li_X5_1, List.forall_mem_cons.mpr ⟨li_X5_2, List.forall_mem_cons.mpr ⟨li_X5_3, List.forall_mem_cons.mpr ⟨li_X5_4, List.forall_mem_cons.mpr ⟨li_X5_5, List.forall_mem_cons.mpr ⟨li_X5_6, fun _ h => absurd h List.not_mem_nil⟩⟩⟩⟩⟩⟩⟩
def fs_X5 : List Value := [.null, .null, .null, .null, .null, .null, .null]
theorem df_X5 : ∀ j, j < 7 → defaultValue (tyX5 j) = vp_V fs_X5 j := by decide +kernel
theorem cs_X5 (σ : Nat → Int32) : rx_consts σ fs_X5 := fun _ => ⟨rfl, rfl, rfl, rfl, rfl, rfl, rfl, trivial⟩
def RX6 : String := "SeedBench$Ring"
def TX6 : u_T := fun k => match k with
  | 0 => ("SeedBench$Ring", "corners", "I", false)
  | _ => ("SeedBench$Ring", "fences", "J", false)
def tyX6 : Nat → FieldType := fun k => match k with
  | 0 => .int
  | _ => .long
theorem nmX6 : ∀ a, a < 2 → ∀ b, b < 2 → a ≠ b → (TX6 a).2.1 ≠ (TX6 b).2.1 := by decide +kernel
theorem tyX6_ok : ∀ k, k < 2 → parseFieldDescriptor (TX6 k).2.2.1 = some (tyX6 k) := by decide +kernel
theorem li_X6_0 : u_lay RX6 TX6 0 ∈ gT := gm_2 (List.mem_of_getElem? (i := 60) rfl) rfl
theorem li_X6_1 : u_lay RX6 TX6 1 ∈ gT := gm_2 (List.mem_of_getElem? (i := 62) rfl) rfl
theorem in_X6 : ∀ w ∈ u_ws RX6 TX6 2, w ∈ gT := List.forall_mem_cons.mpr ⟨li_X6_0, List.forall_mem_cons.mpr ⟨li_X6_1, fun _ h => absurd h List.not_mem_nil⟩⟩
def fs_X6 : List Value := [.int 0, .long 0]
theorem df_X6 : ∀ j, j < 2 → defaultValue (tyX6 j) = vp_V fs_X6 j := by decide +kernel
theorem cs_X6 (σ : Nat → Int32) : rx_consts σ fs_X6 := fun _ => ⟨rfl, rfl, trivial⟩
def RX7 : String := "SeedBench$Seed"
def TX7 : u_T := fun k => match k with
  | 0 => ("SeedBench$Seed", "places", "I", false)
  | 1 => ("SeedBench$Seed", "held", "I", false)
  | 2 => ("SeedBench$Seed", "table", "[I", true)
  | 3 => ("SeedBench$Seed", "sizes", "[J", true)
  | 4 => ("SeedBench$Seed", "letters", "[LSeedBench$Share;", true)
  | _ => ("SeedBench$Seed", "to", "[I", true)
def tyX7 : Nat → FieldType := fun k => match k with
  | 0 => .int
  | 1 => .int
  | 2 => .array .int
  | 3 => .array .long
  | 4 => .array (.object "SeedBench$Share")
  | _ => .array .int
theorem nmX7 : ∀ a, a < 6 → ∀ b, b < 6 → a ≠ b → (TX7 a).2.1 ≠ (TX7 b).2.1 := by decide +kernel
theorem tyX7_ok : ∀ k, k < 6 → parseFieldDescriptor (TX7 k).2.2.1 = some (tyX7 k) := by decide +kernel
theorem li_X7_0 : u_lay RX7 TX7 0 ∈ gT := gm_1 (List.mem_of_getElem? (i := 82) rfl) rfl
theorem li_X7_1 : u_lay RX7 TX7 1 ∈ gT := gm_1 (List.mem_of_getElem? (i := 84) rfl) rfl
theorem li_X7_2 : u_lay RX7 TX7 2 ∈ gT := gm_1 (List.mem_of_getElem? (i := 86) rfl) rfl
theorem li_X7_3 : u_lay RX7 TX7 3 ∈ gT := gm_1 (List.mem_of_getElem? (i := 88) rfl) rfl
theorem li_X7_4 : u_lay RX7 TX7 4 ∈ gT := gm_1 (List.mem_of_getElem? (i := 90) rfl) rfl
theorem li_X7_5 : u_lay RX7 TX7 5 ∈ gT := gm_1 (List.mem_of_getElem? (i := 92) rfl) rfl
theorem in_X7 : ∀ w ∈ u_ws RX7 TX7 6, w ∈ gT := List.forall_mem_cons.mpr ⟨li_X7_0, List.forall_mem_cons.mpr ⟨li_X7_1, List.forall_mem_cons.mpr ⟨li_X7_2, List.forall_mem_cons.mpr ⟨li_X7_3, List.forall_mem_cons.mpr ⟨li_X7_4, List.forall_mem_cons.mpr ⟨li_X7_5, fun _ h => absurd h List.not_mem_nil⟩⟩⟩⟩⟩⟩
def fs_X7 : List Value := [.int 0, .int 0, .null, .null, .null, .null]
theorem df_X7 : ∀ j, j < 6 → defaultValue (tyX7 j) = vp_V fs_X7 j := by decide +kernel
theorem cs_X7 (σ : Nat → Int32) : rx_consts σ fs_X7 := fun _ => ⟨rfl, rfl, rfl, rfl, rfl, rfl, trivial⟩
def RX8 : String := "SeedBench$Share"
def TX8 : u_T := fun k => match k with
  | 0 => ("SeedBench$Share", "width", "I", false)
  | 1 => ("SeedBench$Share", "length", "I", false)
  | 2 => ("SeedBench$Share", "numbers", "[J", true)
  | _ => ("SeedBench$Share", "powers", "[I", true)
def tyX8 : Nat → FieldType := fun k => match k with
  | 0 => .int
  | 1 => .int
  | 2 => .array .long
  | _ => .array .int
theorem nmX8 : ∀ a, a < 4 → ∀ b, b < 4 → a ≠ b → (TX8 a).2.1 ≠ (TX8 b).2.1 := by decide +kernel
theorem tyX8_ok : ∀ k, k < 4 → parseFieldDescriptor (TX8 k).2.2.1 = some (tyX8 k) := by decide +kernel
theorem li_X8_0 : u_lay RX8 TX8 0 ∈ gT := gm_1 (List.mem_of_getElem? (i := 52) rfl) rfl
theorem li_X8_1 : u_lay RX8 TX8 1 ∈ gT := gm_1 (List.mem_of_getElem? (i := 54) rfl) rfl
theorem li_X8_2 : u_lay RX8 TX8 2 ∈ gT := gm_1 (List.mem_of_getElem? (i := 56) rfl) rfl
theorem li_X8_3 : u_lay RX8 TX8 3 ∈ gT := gm_1 (List.mem_of_getElem? (i := 58) rfl) rfl
theorem in_X8 : ∀ w ∈ u_ws RX8 TX8 4, w ∈ gT := List.forall_mem_cons.mpr ⟨li_X8_0, List.forall_mem_cons.mpr ⟨li_X8_1, List.forall_mem_cons.mpr ⟨li_X8_2, List.forall_mem_cons.mpr ⟨li_X8_3, fun _ h => absurd h List.not_mem_nil⟩⟩⟩⟩
def fs_X8 : List Value := [.int 0, .int 0, .null, .null]
theorem df_X8 : ∀ j, j < 4 → defaultValue (tyX8 j) = vp_V fs_X8 j := by decide +kernel
theorem cs_X8 (σ : Nat → Int32) : rx_consts σ fs_X8 := fun _ => ⟨rfl, rfl, rfl, rfl, trivial⟩
def RX9 : String := "SeedBench"
def TX9 : u_T := fun k => match k with
  | 0 => ("SeedBench", "seed", "LSeedBench$Seed;", true)
  | 1 => ("SeedBench", "draft", "LSeedBench$Draft;", true)
  | 2 => ("SeedBench", "mill", "LSeedBench$Mill;", true)
  | 3 => ("SeedBench", "turned", "[I", true)
  | 4 => ("SeedBench", "turns", "I", false)
  | 5 => ("SeedBench", "kept", "[LSeedBench$Seed;", true)
  | 6 => ("SeedBench", "rowPlaces", "[I", true)
  | 7 => ("SeedBench", "rowLength", "I", false)
  | 8 => ("SeedBench", "walker", "LSeedBench$Seed;", true)
  | 9 => ("SeedBench", "atlas", "LSeedBench$Atlas;", true)
  | 10 => ("SeedBench", "seedsOfAll", "I", false)
  | 11 => ("SeedBench", "book", "LSeedBench$Book;", true)
  | 12 => ("SeedBench", "kinds", "LSeedBench$Kinds;", true)
  | 13 => ("SeedBench", "rings", "[LSeedBench$Ring;", true)
  | _ => ("SeedBench", "guide", "LSeedBench$Guide;", true)
def tyX9 : Nat → FieldType := fun k => match k with
  | 0 => .object "SeedBench$Seed"
  | 1 => .object "SeedBench$Draft"
  | 2 => .object "SeedBench$Mill"
  | 3 => .array .int
  | 4 => .int
  | 5 => .array (.object "SeedBench$Seed")
  | 6 => .array .int
  | 7 => .int
  | 8 => .object "SeedBench$Seed"
  | 9 => .object "SeedBench$Atlas"
  | 10 => .int
  | 11 => .object "SeedBench$Book"
  | 12 => .object "SeedBench$Kinds"
  | 13 => .array (.object "SeedBench$Ring")
  | _ => .object "SeedBench$Guide"
theorem nmX9 : ∀ a, a < 15 → ∀ b, b < 15 → a ≠ b → (TX9 a).2.1 ≠ (TX9 b).2.1 := by decide +kernel
theorem tyX9_ok : ∀ k, k < 15 → parseFieldDescriptor (TX9 k).2.2.1 = some (tyX9 k) := by decide +kernel
theorem li_X9_0 : u_lay RX9 TX9 0 ∈ gT := gm_2 (List.mem_of_getElem? (i := 108) rfl) rfl
theorem li_X9_1 : u_lay RX9 TX9 1 ∈ gT := gm_2 (List.mem_of_getElem? (i := 110) rfl) rfl
theorem li_X9_2 : u_lay RX9 TX9 2 ∈ gT := gm_2 (List.mem_of_getElem? (i := 112) rfl) rfl
theorem li_X9_3 : u_lay RX9 TX9 3 ∈ gT := gm_2 (List.mem_of_getElem? (i := 114) rfl) rfl
theorem li_X9_4 : u_lay RX9 TX9 4 ∈ gT := gm_2 (List.mem_of_getElem? (i := 116) rfl) rfl
theorem li_X9_5 : u_lay RX9 TX9 5 ∈ gT := gm_2 (List.mem_of_getElem? (i := 118) rfl) rfl
theorem li_X9_6 : u_lay RX9 TX9 6 ∈ gT := gm_2 (List.mem_of_getElem? (i := 120) rfl) rfl
theorem li_X9_7 : u_lay RX9 TX9 7 ∈ gT := gm_2 (List.mem_of_getElem? (i := 122) rfl) rfl
theorem li_X9_8 : u_lay RX9 TX9 8 ∈ gT := gm_2 (List.mem_of_getElem? (i := 124) rfl) rfl
theorem li_X9_9 : u_lay RX9 TX9 9 ∈ gT := gm_2 (List.mem_of_getElem? (i := 126) rfl) rfl
theorem li_X9_10 : u_lay RX9 TX9 10 ∈ gT := gm_2 (List.mem_of_getElem? (i := 128) rfl) rfl
theorem li_X9_11 : u_lay RX9 TX9 11 ∈ gT := gm_2 (List.mem_of_getElem? (i := 130) rfl) rfl
theorem li_X9_12 : u_lay RX9 TX9 12 ∈ gT := gm_2 (List.mem_of_getElem? (i := 132) rfl) rfl
theorem li_X9_13 : u_lay RX9 TX9 13 ∈ gT := gm_2 (List.mem_of_getElem? (i := 134) rfl) rfl
theorem li_X9_14 : u_lay RX9 TX9 14 ∈ gT := gm_2 (List.mem_of_getElem? (i := 136) rfl) rfl
theorem in_X9 : ∀ w ∈ u_ws RX9 TX9 15, w ∈ gT := List.forall_mem_cons.mpr ⟨li_X9_0, List.forall_mem_cons.mpr ⟨li_X9_1, List.forall_mem_cons.mpr ⟨li_X9_2, List.forall_mem_cons.mpr ⟨li_X9_3, List.forall_mem_cons.mpr ⟨li_X9_4, List.forall_mem_cons.mpr ⟨li_X9_5, List.forall_mem_cons.mpr ⟨li_X9_6, List.forall_mem_cons.mpr ⟨li_X9_7, List.forall_mem_cons.mpr ⟨li_X9_8, List.forall_mem_cons.mpr ⟨li_X9_9, List.forall_mem_cons.mpr ⟨li_X9_10, List.forall_mem_cons.mpr ⟨li_X9_11, List.forall_mem_cons.mpr ⟨li_X9_12, List.forall_mem_cons.mpr ⟨li_X9_13, List.forall_mem_cons.mpr ⟨li_X9_14, fun _ h => absurd h List.not_mem_nil⟩⟩⟩⟩⟩⟩⟩⟩⟩⟩⟩⟩⟩⟩⟩
def fs_X9 : List Value := [.null, .null, .null, .null, .int 0, .null, .null, .int 0, .null, .null, .int 0, .null, .null, .null, .null]
theorem df_X9 : ∀ j, j < 15 → defaultValue (tyX9 j) = vp_V fs_X9 j := by decide +kernel
theorem cs_X9 (σ : Nat → Int32) : rx_consts σ fs_X9 := fun _ => ⟨rfl, rfl, rfl, rfl, rfl, rfl, rfl, rfl, rfl, rfl, rfl, rfl, rfl, rfl, rfl, trivial⟩
def RX10 : String := "SeedBenchModel"
def TX10 : u_T := fun k => match k with
  | 0 => ("SeedBenchModel", "thrown", "I", false)
  | 1 => ("SeedBenchModel", "many", "[I", true)
  | 2 => ("SeedBenchModel", "num", "[J", true)
  | 3 => ("SeedBenchModel", "power", "[I", true)
  | 4 => ("SeedBenchModel", "spent", "Z", false)
  | 5 => ("SeedBenchModel", "number", "J", false)
  | 6 => ("SeedBenchModel", "powers", "[I", true)
  | 7 => ("SeedBenchModel", "places", "I", false)
  | 8 => ("SeedBenchModel", "held", "I", false)
  | 9 => ("SeedBenchModel", "arrow", "[I", true)
  | 10 => ("SeedBenchModel", "done", "I", false)
  | 11 => ("SeedBenchModel", "turnedAt", "[I", true)
  | 12 => ("SeedBenchModel", "toldPlaces", "I", false)
  | 13 => ("SeedBenchModel", "toldHeld", "I", false)
  | 14 => ("SeedBenchModel", "told", "[I", true)
  | 15 => ("SeedBenchModel", "sizeUp", "[J", true)
  | 16 => ("SeedBenchModel", "sizeLow", "[J", true)
  | 17 => ("SeedBenchModel", "sizes", "[I", true)
  | 18 => ("SeedBenchModel", "inGroup", "[Z", true)
  | 19 => ("SeedBenchModel", "next", "[I", true)
  | 20 => ("SeedBenchModel", "keptPlaces", "[I", true)
  | 21 => ("SeedBenchModel", "keptHeld", "[I", true)
  | 22 => ("SeedBenchModel", "keptArrow", "[I", true)
  | 23 => ("SeedBenchModel", "order", "[I", true)
  | 24 => ("SeedBenchModel", "seeds", "I", false)
  | 25 => ("SeedBenchModel", "latestSeeds", "I", false)
  | 26 => ("SeedBenchModel", "letters", "I", false)
  | 27 => ("SeedBenchModel", "seedLetter", "[I", true)
  | 28 => ("SeedBenchModel", "seedArrow", "[I", true)
  | 29 => ("SeedBenchModel", "hasAll", "Z", false)
  | 30 => ("SeedBenchModel", "allLetters", "I", false)
  | 31 => ("SeedBenchModel", "allTerms", "[I", true)
  | 32 => ("SeedBenchModel", "allSum", "[J", true)
  | 33 => ("SeedBenchModel", "allLeast", "[I", true)
  | 34 => ("SeedBenchModel", "savedArrow", "[I", true)
  | 35 => ("SeedBenchModel", "these", "[I", true)
  | 36 => ("SeedBenchModel", "allWide", "I", false)
  | 37 => ("SeedBenchModel", "tableRow", "[I", true)
  | 38 => ("SeedBenchModel", "tableFrom", "[I", true)
  | 39 => ("SeedBenchModel", "tableBy", "[I", true)
  | 40 => ("SeedBenchModel", "tableMany", "I", false)
  | 41 => ("SeedBenchModel", "finiteTables", "I", false)
  | 42 => ("SeedBenchModel", "stepMany", "I", false)
  | 43 => ("SeedBenchModel", "steps", "[I", true)
  | 44 => ("SeedBenchModel", "tableHead", "[I", true)
  | 45 => ("SeedBenchModel", "tableLink", "[I", true)
  | 46 => ("SeedBenchModel", "rowMany", "I", false)
  | 47 => ("SeedBenchModel", "rowPlace", "[I", true)
  | 48 => ("SeedBenchModel", "corners", "[I", true)
  | 49 => ("SeedBenchModel", "fence", "[Z", true)
  | 50 => ("SeedBenchModel", "fenceBit", "[I", true)
  | 51 => ("SeedBenchModel", "bitFence", "[I", true)
  | 52 => ("SeedBenchModel", "cuttings", "[J", true)
  | 53 => ("SeedBenchModel", "far", "[I", true)
  | 54 => ("SeedBenchModel", "cuttingMany", "I", false)
  | 55 => ("SeedBenchModel", "wayMany", "I", false)
  | 56 => ("SeedBenchModel", "wayFence", "[I", true)
  | _ => ("SeedBenchModel", "savedFence", "[Z", true)
def tyX10 : Nat → FieldType := fun k => match k with
  | 0 => .int
  | 1 => .array .int
  | 2 => .array .long
  | 3 => .array .int
  | 4 => .boolean
  | 5 => .long
  | 6 => .array .int
  | 7 => .int
  | 8 => .int
  | 9 => .array .int
  | 10 => .int
  | 11 => .array .int
  | 12 => .int
  | 13 => .int
  | 14 => .array .int
  | 15 => .array .long
  | 16 => .array .long
  | 17 => .array .int
  | 18 => .array .boolean
  | 19 => .array .int
  | 20 => .array .int
  | 21 => .array .int
  | 22 => .array .int
  | 23 => .array .int
  | 24 => .int
  | 25 => .int
  | 26 => .int
  | 27 => .array .int
  | 28 => .array .int
  | 29 => .boolean
  | 30 => .int
  | 31 => .array .int
  | 32 => .array .long
  | 33 => .array .int
  | 34 => .array .int
  | 35 => .array .int
  | 36 => .int
  | 37 => .array .int
  | 38 => .array .int
  | 39 => .array .int
  | 40 => .int
  | 41 => .int
  | 42 => .int
  | 43 => .array .int
  | 44 => .array .int
  | 45 => .array .int
  | 46 => .int
  | 47 => .array .int
  | 48 => .array .int
  | 49 => .array .boolean
  | 50 => .array .int
  | 51 => .array .int
  | 52 => .array .long
  | 53 => .array .int
  | 54 => .int
  | 55 => .int
  | 56 => .array .int
  | _ => .array .boolean
theorem nmX10 : ∀ a, a < 58 → ∀ b, b < 58 → a ≠ b → (TX10 a).2.1 ≠ (TX10 b).2.1 := by decide +kernel
theorem tyX10_ok : ∀ k, k < 58 → parseFieldDescriptor (TX10 k).2.2.1 = some (tyX10 k) := by decide +kernel
theorem li_X10_0 : u_lay RX10 TX10 0 ∈ gT := gm_4 (List.mem_of_getElem? (i := 204) rfl) rfl
theorem li_X10_1 : u_lay RX10 TX10 1 ∈ gT := gm_4 (List.mem_of_getElem? (i := 206) rfl) rfl
theorem li_X10_2 : u_lay RX10 TX10 2 ∈ gT := gm_4 (List.mem_of_getElem? (i := 208) rfl) rfl
theorem li_X10_3 : u_lay RX10 TX10 3 ∈ gT := gm_4 (List.mem_of_getElem? (i := 210) rfl) rfl
theorem li_X10_4 : u_lay RX10 TX10 4 ∈ gT := gm_4 (List.mem_of_getElem? (i := 212) rfl) rfl
theorem li_X10_5 : u_lay RX10 TX10 5 ∈ gT := gm_4 (List.mem_of_getElem? (i := 214) rfl) rfl
theorem li_X10_6 : u_lay RX10 TX10 6 ∈ gT := gm_4 (List.mem_of_getElem? (i := 216) rfl) rfl
theorem li_X10_7 : u_lay RX10 TX10 7 ∈ gT := gm_4 (List.mem_of_getElem? (i := 218) rfl) rfl
theorem li_X10_8 : u_lay RX10 TX10 8 ∈ gT := gm_4 (List.mem_of_getElem? (i := 220) rfl) rfl
theorem li_X10_9 : u_lay RX10 TX10 9 ∈ gT := gm_4 (List.mem_of_getElem? (i := 222) rfl) rfl
theorem li_X10_10 : u_lay RX10 TX10 10 ∈ gT := gm_4 (List.mem_of_getElem? (i := 224) rfl) rfl
theorem li_X10_11 : u_lay RX10 TX10 11 ∈ gT := gm_4 (List.mem_of_getElem? (i := 226) rfl) rfl
theorem li_X10_12 : u_lay RX10 TX10 12 ∈ gT := gm_4 (List.mem_of_getElem? (i := 228) rfl) rfl
theorem li_X10_13 : u_lay RX10 TX10 13 ∈ gT := gm_4 (List.mem_of_getElem? (i := 230) rfl) rfl
theorem li_X10_14 : u_lay RX10 TX10 14 ∈ gT := gm_4 (List.mem_of_getElem? (i := 232) rfl) rfl
theorem li_X10_15 : u_lay RX10 TX10 15 ∈ gT := gm_4 (List.mem_of_getElem? (i := 234) rfl) rfl
theorem li_X10_16 : u_lay RX10 TX10 16 ∈ gT := gm_4 (List.mem_of_getElem? (i := 236) rfl) rfl
theorem li_X10_17 : u_lay RX10 TX10 17 ∈ gT := gm_4 (List.mem_of_getElem? (i := 238) rfl) rfl
theorem li_X10_18 : u_lay RX10 TX10 18 ∈ gT := gm_5 (List.mem_of_getElem? (i := 0) rfl) rfl
theorem li_X10_19 : u_lay RX10 TX10 19 ∈ gT := gm_5 (List.mem_of_getElem? (i := 2) rfl) rfl
theorem li_X10_20 : u_lay RX10 TX10 20 ∈ gT := gm_5 (List.mem_of_getElem? (i := 4) rfl) rfl
theorem li_X10_21 : u_lay RX10 TX10 21 ∈ gT := gm_5 (List.mem_of_getElem? (i := 6) rfl) rfl
theorem li_X10_22 : u_lay RX10 TX10 22 ∈ gT := gm_5 (List.mem_of_getElem? (i := 8) rfl) rfl
theorem li_X10_23 : u_lay RX10 TX10 23 ∈ gT := gm_5 (List.mem_of_getElem? (i := 10) rfl) rfl
theorem li_X10_24 : u_lay RX10 TX10 24 ∈ gT := gm_5 (List.mem_of_getElem? (i := 12) rfl) rfl
theorem li_X10_25 : u_lay RX10 TX10 25 ∈ gT := gm_5 (List.mem_of_getElem? (i := 14) rfl) rfl
theorem li_X10_26 : u_lay RX10 TX10 26 ∈ gT := gm_5 (List.mem_of_getElem? (i := 16) rfl) rfl
theorem li_X10_27 : u_lay RX10 TX10 27 ∈ gT := gm_5 (List.mem_of_getElem? (i := 18) rfl) rfl
theorem li_X10_28 : u_lay RX10 TX10 28 ∈ gT := gm_5 (List.mem_of_getElem? (i := 20) rfl) rfl
theorem li_X10_29 : u_lay RX10 TX10 29 ∈ gT := gm_5 (List.mem_of_getElem? (i := 22) rfl) rfl
theorem li_X10_30 : u_lay RX10 TX10 30 ∈ gT := gm_5 (List.mem_of_getElem? (i := 24) rfl) rfl
theorem li_X10_31 : u_lay RX10 TX10 31 ∈ gT := gm_5 (List.mem_of_getElem? (i := 26) rfl) rfl
theorem li_X10_32 : u_lay RX10 TX10 32 ∈ gT := gm_5 (List.mem_of_getElem? (i := 28) rfl) rfl
theorem li_X10_33 : u_lay RX10 TX10 33 ∈ gT := gm_5 (List.mem_of_getElem? (i := 30) rfl) rfl
theorem li_X10_34 : u_lay RX10 TX10 34 ∈ gT := gm_5 (List.mem_of_getElem? (i := 32) rfl) rfl
theorem li_X10_35 : u_lay RX10 TX10 35 ∈ gT := gm_5 (List.mem_of_getElem? (i := 34) rfl) rfl
theorem li_X10_36 : u_lay RX10 TX10 36 ∈ gT := gm_5 (List.mem_of_getElem? (i := 36) rfl) rfl
theorem li_X10_37 : u_lay RX10 TX10 37 ∈ gT := gm_5 (List.mem_of_getElem? (i := 38) rfl) rfl
theorem li_X10_38 : u_lay RX10 TX10 38 ∈ gT := gm_5 (List.mem_of_getElem? (i := 40) rfl) rfl
theorem li_X10_39 : u_lay RX10 TX10 39 ∈ gT := gm_5 (List.mem_of_getElem? (i := 42) rfl) rfl
theorem li_X10_40 : u_lay RX10 TX10 40 ∈ gT := gm_5 (List.mem_of_getElem? (i := 44) rfl) rfl
theorem li_X10_41 : u_lay RX10 TX10 41 ∈ gT := gm_5 (List.mem_of_getElem? (i := 46) rfl) rfl
theorem li_X10_42 : u_lay RX10 TX10 42 ∈ gT := gm_5 (List.mem_of_getElem? (i := 48) rfl) rfl
theorem li_X10_43 : u_lay RX10 TX10 43 ∈ gT := gm_5 (List.mem_of_getElem? (i := 50) rfl) rfl
theorem li_X10_44 : u_lay RX10 TX10 44 ∈ gT := gm_5 (List.mem_of_getElem? (i := 52) rfl) rfl
theorem li_X10_45 : u_lay RX10 TX10 45 ∈ gT := gm_5 (List.mem_of_getElem? (i := 54) rfl) rfl
theorem li_X10_46 : u_lay RX10 TX10 46 ∈ gT := gm_5 (List.mem_of_getElem? (i := 56) rfl) rfl
theorem li_X10_47 : u_lay RX10 TX10 47 ∈ gT := gm_5 (List.mem_of_getElem? (i := 58) rfl) rfl
theorem li_X10_48 : u_lay RX10 TX10 48 ∈ gT := gm_5 (List.mem_of_getElem? (i := 60) rfl) rfl
theorem li_X10_49 : u_lay RX10 TX10 49 ∈ gT := gm_5 (List.mem_of_getElem? (i := 62) rfl) rfl
theorem li_X10_50 : u_lay RX10 TX10 50 ∈ gT := gm_5 (List.mem_of_getElem? (i := 64) rfl) rfl
theorem li_X10_51 : u_lay RX10 TX10 51 ∈ gT := gm_5 (List.mem_of_getElem? (i := 66) rfl) rfl
theorem li_X10_52 : u_lay RX10 TX10 52 ∈ gT := gm_5 (List.mem_of_getElem? (i := 68) rfl) rfl
theorem li_X10_53 : u_lay RX10 TX10 53 ∈ gT := gm_5 (List.mem_of_getElem? (i := 70) rfl) rfl
theorem li_X10_54 : u_lay RX10 TX10 54 ∈ gT := gm_5 (List.mem_of_getElem? (i := 72) rfl) rfl
theorem li_X10_55 : u_lay RX10 TX10 55 ∈ gT := gm_5 (List.mem_of_getElem? (i := 74) rfl) rfl
theorem li_X10_56 : u_lay RX10 TX10 56 ∈ gT := gm_5 (List.mem_of_getElem? (i := 76) rfl) rfl
theorem li_X10_57 : u_lay RX10 TX10 57 ∈ gT := gm_5 (List.mem_of_getElem? (i := 78) rfl) rfl
theorem in_X10 : ∀ w ∈ u_ws RX10 TX10 58, w ∈ gT := List.forall_mem_cons.mpr ⟨li_X10_0, List.forall_mem_cons.mpr ⟨li_X10_1, List.forall_mem_cons.mpr ⟨li_X10_2, List.forall_mem_cons.mpr ⟨li_X10_3, List.forall_mem_cons.mpr ⟨li_X10_4, List.forall_mem_cons.mpr ⟨li_X10_5, List.forall_mem_cons.mpr ⟨li_X10_6, List.forall_mem_cons.mpr ⟨li_X10_7, List.forall_mem_cons.mpr ⟨li_X10_8, List.forall_mem_cons.mpr ⟨li_X10_9, List.forall_mem_cons.mpr ⟨li_X10_10, List.forall_mem_cons.mpr ⟨li_X10_11, List.forall_mem_cons.mpr ⟨li_X10_12, List.forall_mem_cons.mpr ⟨li_X10_13, List.forall_mem_cons.mpr ⟨li_X10_14, List.forall_mem_cons.mpr ⟨li_X10_15, List.forall_mem_cons.mpr ⟨li_X10_16, List.forall_mem_cons.mpr ⟨li_X10_17, List.forall_mem_cons.mpr ⟨li_X10_18, List.forall_mem_cons.mpr ⟨li_X10_19, List.forall_mem_cons.mpr ⟨li_X10_20, List.forall_mem_cons.mpr ⟨li_X10_21, List.forall_mem_cons.mpr ⟨li_X10_22, List.forall_mem_cons.mpr ⟨li_X10_23, List.forall_mem_cons.mpr ⟨li_X10_24, List.forall_mem_cons.mpr ⟨li_X10_25, List.forall_mem_cons.mpr ⟨li_X10_26, List.forall_mem_cons.mpr ⟨li_X10_27, List.forall_mem_cons.mpr ⟨li_X10_28, List.forall_mem_cons.mpr ⟨li_X10_29, List.forall_mem_cons.mpr ⟨li_X10_30, List.forall_mem_cons.mpr ⟨li_X10_31, List.forall_mem_cons.mpr ⟨li_X10_32, List.forall_mem_cons.mpr ⟨li_X10_33, List.forall_mem_cons.mpr ⟨li_X10_34, List.forall_mem_cons.mpr ⟨li_X10_35, List.forall_mem_cons.mpr ⟨li_X10_36, List.forall_mem_cons.mpr ⟨li_X10_37, List.forall_mem_cons.mpr ⟨li_X10_38, List.forall_mem_cons.mpr ⟨li_X10_39, List.forall_mem_cons.mpr ⟨li_X10_40, List.forall_mem_cons.mpr ⟨li_X10_41, List.forall_mem_cons.mpr ⟨li_X10_42, List.forall_mem_cons.mpr ⟨li_X10_43, List.forall_mem_cons.mpr ⟨li_X10_44, List.forall_mem_cons.mpr ⟨li_X10_45, List.forall_mem_cons.mpr ⟨li_X10_46, List.forall_mem_cons.mpr ⟨li_X10_47, List.forall_mem_cons.mpr ⟨li_X10_48, List.forall_mem_cons.mpr ⟨li_X10_49, List.forall_mem_cons.mpr ⟨li_X10_50, List.forall_mem_cons.mpr ⟨li_X10_51, List.forall_mem_cons.mpr ⟨li_X10_52, List.forall_mem_cons.mpr ⟨li_X10_53, List.forall_mem_cons.mpr ⟨li_X10_54, List.forall_mem_cons.mpr ⟨li_X10_55, List.forall_mem_cons.mpr ⟨li_X10_56, List.forall_mem_cons.mpr ⟨li_X10_57, fun _ h => absurd h List.not_mem_nil⟩⟩⟩⟩⟩⟩⟩⟩⟩⟩⟩⟩⟩⟩⟩⟩⟩⟩⟩⟩⟩⟩⟩⟩⟩⟩⟩⟩⟩⟩⟩⟩⟩⟩⟩⟩⟩⟩⟩⟩⟩⟩⟩⟩⟩⟩⟩⟩⟩⟩⟩⟩⟩⟩⟩⟩⟩⟩
def fs_X10 : List Value := [.int 0, .null, .null, .null, .int 0, .long 0, .null, .int 0, .int 0, .null, .int 0, .null, .int 0, .int 0, .null, .null, .null, .null, .null, .null, .null, .null, .null, .null, .int 0, .int 0, .int 0, .null, .null, .int 0, .int 0, .null, .null, .null, .null, .null, .int 0, .null, .null, .null, .int 0, .int 0, .int 0, .null, .null, .null, .int 0, .null, .null, .null, .null, .null, .null, .null, .int 0, .int 0, .null, .null]
theorem df_X10 : ∀ j, j < 58 → defaultValue (tyX10 j) = vp_V fs_X10 j := by decide +kernel
theorem cs_X10 (σ : Nat → Int32) : rx_consts σ fs_X10 := fun _ => ⟨rfl, rfl, rfl, rfl, rfl, rfl, rfl, rfl, rfl, rfl, rfl, rfl, rfl, rfl, rfl, rfl, rfl, rfl, rfl, rfl, rfl, rfl, rfl, rfl, rfl, rfl, rfl, rfl, rfl, rfl, rfl, rfl, rfl, rfl, rfl, rfl, rfl, rfl, rfl, rfl, rfl, rfl, rfl, rfl, rfl, rfl, rfl, rfl, rfl, rfl, rfl, rfl, rfl, rfl, rfl, rfl, rfl, rfl, trivial⟩
abbrev vwCl : List vw_C := [(RX0, TX0, 18), (RX1, TX1, 6), (RX2, TX2, 5), (RX3, TX3, 3), (RX4, TX4, 6), (RX5, TX5, 7), (RX6, TX6, 2), (RX7, TX7, 6), (RX8, TX8, 4), (RX9, TX9, 15), (RX10, TX10, 58)]
def nwl : List (String × Nat × MethodName × String) := [("SeedBench$Seed", 28, ⟨"SeedBench$Share", "<init>", "()V"⟩, "SeedBench"), ("SeedBench", 18, ⟨"SeedBench$Draft", "<init>", "()V"⟩, "SeedBench"), ("SeedBench", 25, ⟨"SeedBench$Mill", "<init>", "()V"⟩, "SeedBench"), ("SeedBench$Mill", 11, ⟨"SeedBench$Share", "<init>", "()V"⟩, "SeedBench"), ("SeedBench$Atlas", 61, ⟨"SeedBench$Share", "<init>", "()V"⟩, "SeedBench"), ("SeedBench", 53, ⟨"SeedBench$Book", "<init>", "()V"⟩, "SeedBench"), ("SeedBench", 60, ⟨"SeedBench$Kinds", "<init>", "()V"⟩, "SeedBench"), ("SeedBench", 73, ⟨"SeedBench$Guide", "<init>", "()V"⟩, "SeedBench"), ("SeedBench$Guide", 17, ⟨"SeedBench$Ring", "<init>", "()V"⟩, "SeedBench"), ("SeedBench", 90, ⟨"SeedBench$Ring", "<init>", "()V"⟩, "SeedBench"), ("SeedBench$Mill", 49, ⟨"SeedBench", "isTableTurnable", "([IIII)Z"⟩, "SeedBench"), ("SeedBench$Mill", 68, ⟨"SeedBench", "turnTable", "([IIII)V"⟩, "SeedBench"), ("SeedBench$Atlas", 88, ⟨"SeedBench", "turnTable", "([IIII)V"⟩, "SeedBench"), ("SeedBench$Kinds", 62, ⟨"SeedBench", "turnTable", "([IIII)V"⟩, "SeedBench")]
def ocl : List String := ["SeedBench$Ring", "SeedBench$Seed", "SeedBench$Share"]
def tyl (cy : Nat → ClassId) : List (ClassId × FieldType) := [(cy 0, .int), (cy 1, .long), (cy 2, .boolean), (cy 3, .object "SeedBench$Ring"), (cy 4, .object "SeedBench$Seed"), (cy 5, .object "SeedBench$Share")]
abbrev gG (l : Launch) (D : va_G) (cy : Nat → ClassId) (σ : Nat → Int32) : rx_G := (l, D, vwCl, cy, tyl cy, nwl, ocl, gT, σ)
theorem gok {l : Launch} {D : va_G} {cy : Nat → ClassId} {σ : Nat → Int32} : rx_gok (gG l D cy σ) := fun w hw => good_of_word (List.mem_filter.mp hw).2
theorem kw_objcode : Cond.code objectInit ⟨#[0xb1]⟩ 1 none ∈ gT := gm_1 (List.mem_of_getElem? (i := 24) rfl) rfl
end
