/-! A MACHINE OF KNOWN VALUES. Values stand for values: .int x, .long x, .null for themselves, .ref k for the k-th cell's address, .float n for the n-th unknown int, .double _ for any int. A run of it is worked out by the kernel; 'sound' says that the real machine goes the same way. -/
abbrev rx_E : Type := (Nat × List Value) ⊕ (Nat × Nat × List (Nat × Value) × Value)
abbrev rx_W : Type := List rx_E
abbrev rx_L : Type := List (Nat × Value)
abbrev rx_S : Type := rx_L × List Value × rx_W × Nat × Nat
abbrev rx_R : Type := Option Value × rx_W
abbrev rx_O : Type := (Nat × rx_S) ⊕ rx_R
abbrev rx_C : Type := Nat → List Value → rx_W → Option rx_R
abbrev rx_T : Type := rx_C → rx_S → Option rx_O
abbrev rx_P : Type := List (Nat × rx_T)
/-- what is known of the unknown ints: bounds, and which is below which -/
abbrev rx_Y : Type := List (Int × Int) × List (Nat × Nat × Bool)
noncomputable def rx_fN {α : Type} (x : Nat) (k : Nat → α) : α := Nat.rec (motive := fun _ => α) (k 0) (fun n _ => k (n + 1)) x
theorem rx_fN_eq {α : Type} (x : Nat) (k : Nat → α) : rx_fN x k = k x := by cases x <;> rfl
noncomputable def rx_fI {α : Type} (x : Int32) (k : Int32 → α) : α := rx_fN x.toUInt32.toNat (fun n => k (Int32.ofNat n))
noncomputable def rx_fL {α : Type} (x : Int64) (k : Int64 → α) : α := rx_fN x.toUInt64.toNat (fun n => k (Int64.ofNat n))
theorem rx_i_of (x : Int32) : Int32.ofNat x.toUInt32.toNat = x := by
  apply Int32.toBitVec_inj.mp
  show BitVec.ofNat 32 x.toBitVec.toNat = x.toBitVec
  simp
theorem rx_l_of (x : Int64) : Int64.ofNat x.toUInt64.toNat = x := by
  apply Int64.toBitVec_inj.mp
  show BitVec.ofNat 64 x.toBitVec.toNat = x.toBitVec
  simp
theorem rx_fI_eq {α : Type} (x : Int32) (k : Int32 → α) : rx_fI x k = k x := by rw [rx_fI, rx_fN_eq, rx_i_of]
theorem rx_fL_eq {α : Type} (x : Int64) (k : Int64 → α) : rx_fL x k = k x := by rw [rx_fL, rx_fN_eq, rx_l_of]
def rx_look : List (Nat × Value) → Value → Nat → Value
  | [], d, _ => d
  | (k, v) :: t, d, j => cond (Nat.beq j k) v (rx_look t d j)
theorem rx_look_cons (k : Nat) (v : Value) (t : List (Nat × Value)) (d : Value) (j : Nat) : rx_look ((k, v) :: t) d j = if j = k then v else rx_look t d j := by
  by_cases h : j = k
  · subst h; simp [rx_look]
  · have : Nat.beq j k = false := by rw [← Bool.not_eq_true]; exact fun q => h (Nat.eq_of_beq_eq_true q)
    simp [rx_look, h, this]
def rx_find : rx_L → Nat → Option Value
  | [], _ => none
  | (k, v) :: t, i => cond (Nat.beq i k) (some v) (rx_find t i)
/-- a value stands for a value -/
def rx_v (ρ : List Nat) (σ : Nat → Int32) (v w : Value) : Prop := match v with
  | .int x => w = .int x
  | .long x => w = .long x
  | .null => w = .null
  | .ref k => ∃ a, ρ[k]? = some a ∧ w = .ref a
  | .float n => w = .int (σ n.toNat)
  | .double _ => ∃ x : Int32, w = .int x
  | .retAddr _ => False
def rx_l (ρ : List Nat) (σ : Nat → Int32) : List Value → List Value → Prop
  | [], [] => True
  | v :: vs, w :: ws => rx_v ρ σ v w ∧ rx_l ρ σ vs ws
  | _, _ => False
def rx_lv (ρ : List Nat) (σ : Nat → Int32) : rx_L → rx_L → Prop
  | [], [] => True
  | (i, v) :: vs, (j, w) :: ws => i = j ∧ rx_v ρ σ v w ∧ rx_lv ρ σ vs ws
  | _, _ => False
def rx_e (ρ : List Nat) (σ : Nat → Int32) (cy : Nat → ClassId) (e : rx_E) (ce : va_E) : Prop := match e with
  | .inl (ci, fs) => ∃ cfs, ce = .inr (ci, cfs) ∧ rx_l ρ σ fs cfs
  | .inr (0, n, u, d) => ∃ f : Nat → Int32, ce = .inl (cy 0, n, .inl f) ∧ ∀ j, rx_v ρ σ (rx_look u d j) (.int (f j))
  | .inr (1, n, u, d) => ∃ f : Nat → Int64, ce = .inl (cy 1, n, .inr (.inl f)) ∧ ∀ j, rx_v ρ σ (rx_look u d j) (.long (f j))
  | .inr (2, n, u, d) => ∃ f : Nat → Int32, ce = .inl (cy 2, n, .inl f) ∧ ∀ j, rx_v ρ σ (rx_look u d j) (.int (f j))
  | .inr (t + 3, n, u, d) => ∃ f : Nat → Option Nat, ce = .inl (cy (t + 3), n, .inr (.inr (.inr (.inr f)))) ∧ ∀ j, rx_v ρ σ (rx_look u d j) (va_rf (f j))
def rx_w (ρ : List Nat) (σ : Nat → Int32) (cy : Nat → ClassId) (ws : rx_W) (cws : va_W) : Prop :=
  cws.map Prod.fst = ρ ∧ ws.length = cws.length ∧ ∀ (k : Nat) (e : rx_E), ws[k]? = some e → ∃ (a : Nat) (ce : va_E), cws[k]? = some (a, ce) ∧ rx_e ρ σ cy e ce
/-- an answer -/
def rx_o (ρ : List Nat) (σ : Nat → Int32) : Option Value → Option Value → Prop
  | none, none => True
  | some v, some w => rx_v ρ σ v w
  | _, _ => False
theorem rx_v.mono {ρ t : List Nat} {σ : Nat → Int32} {v w : Value} (h : rx_v ρ σ v w) : rx_v (ρ ++ t) σ v w := by
  cases v with
  | ref k =>
    obtain ⟨a, h1, h2⟩ := h
    exact ⟨a, by rw [List.getElem?_append_left (List.getElem?_eq_some_iff.mp h1).1]; exact h1, h2⟩
  | _ => exact h
theorem rx_l.mono {ρ t : List Nat} {σ : Nat → Int32} : ∀ {vs ws : List Value}, rx_l ρ σ vs ws → rx_l (ρ ++ t) σ vs ws
  | [], [], _ => trivial
  | _ :: _, _ :: _, h => ⟨h.1.mono, rx_l.mono h.2⟩
  | [], _ :: _, h => h.elim
  | _ :: _, [], h => h.elim
theorem rx_lv.mono {ρ t : List Nat} {σ : Nat → Int32} : ∀ {vs ws : rx_L}, rx_lv ρ σ vs ws → rx_lv (ρ ++ t) σ vs ws
  | [], [], _ => trivial
  | _ :: _, _ :: _, h => ⟨h.1, h.2.1.mono, rx_lv.mono h.2.2⟩
  | [], _ :: _, h => h.elim
  | _ :: _, [], h => h.elim
theorem rx_e.mono {ρ t : List Nat} {σ : Nat → Int32} {cy : Nat → ClassId} {e : rx_E} {ce : va_E} (h : rx_e ρ σ cy e ce) : rx_e (ρ ++ t) σ cy e ce := by
  match e, h with
  | .inl (ci, fs), ⟨cfs, h1, h2⟩ => exact ⟨cfs, h1, h2.mono⟩
  | .inr (0, n, u, d), ⟨f, h1, h2⟩ => exact ⟨f, h1, fun j => (h2 j).mono⟩
  | .inr (1, n, u, d), ⟨f, h1, h2⟩ => exact ⟨f, h1, fun j => (h2 j).mono⟩
  | .inr (2, n, u, d), ⟨f, h1, h2⟩ => exact ⟨f, h1, fun j => (h2 j).mono⟩
  | .inr (t + 3, n, u, d), ⟨f, h1, h2⟩ => exact ⟨f, h1, fun j => (h2 j).mono⟩
theorem rx_l.app {ρ : List Nat} {σ : Nat → Int32} : ∀ {a b c d : List Value}, rx_l ρ σ a b → rx_l ρ σ c d → rx_l ρ σ (a ++ c) (b ++ d)
  | [], [], _, _, _, h => h
  | _ :: _, _ :: _, _, _, h, g => ⟨h.1, rx_l.app h.2 g⟩
  | [], _ :: _, _, _, h, _ => h.elim
  | _ :: _, [], _, _, h, _ => h.elim
theorem rx_l.rev {ρ : List Nat} {σ : Nat → Int32} : ∀ {a b : List Value}, rx_l ρ σ a b → rx_l ρ σ a.reverse b.reverse
  | [], [], _ => trivial
  | v :: vs, w :: ws, h => by
    rw [List.reverse_cons, List.reverse_cons]
    exact rx_l.app (rx_l.rev h.2) ⟨h.1, trivial⟩
  | [], _ :: _, h => h.elim
  | _ :: _, [], h => h.elim
theorem rx_l.len {ρ : List Nat} {σ : Nat → Int32} : ∀ {a b : List Value}, rx_l ρ σ a b → a.length = b.length
  | [], [], _ => rfl
  | _ :: _, _ :: _, h => congrArg (· + 1) (rx_l.len h.2)
  | [], _ :: _, h => h.elim
  | _ :: _, [], h => h.elim
theorem rx_l.take {ρ : List Nat} {σ : Nat → Int32} : ∀ (n : Nat) {a b : List Value}, rx_l ρ σ a b → rx_l ρ σ (a.take n) (b.take n) ∧ rx_l ρ σ (a.drop n) (b.drop n)
  | 0, _, _, h => ⟨trivial, h⟩
  | _ + 1, [], [], _ => ⟨trivial, trivial⟩
  | n + 1, _ :: _, _ :: _, h => ⟨⟨h.1, (rx_l.take n h.2).1⟩, (rx_l.take n h.2).2⟩
  | _ + 1, [], _ :: _, h => h.elim
  | _ + 1, _ :: _, [], h => h.elim
theorem rx_l.get {ρ : List Nat} {σ : Nat → Int32} : ∀ {a b : List Value} (k : Nat) {v : Value}, rx_l ρ σ a b → a[k]? = some v → ∃ w, b[k]? = some w ∧ rx_v ρ σ v w
  | [], [], _, _, _, h => by simp at h
  | v :: vs, w :: ws, 0, _, h, g => ⟨w, rfl, by simp at g; subst g; exact h.1⟩
  | v :: vs, w :: ws, k + 1, _, h, g => by
    simp only [List.getElem?_cons_succ] at g ⊢
    exact rx_l.get k h.2 g
  | [], _ :: _, _, _, h, _ => h.elim
  | _ :: _, [], _, _, h, _ => h.elim
theorem rx_l.set {ρ : List Nat} {σ : Nat → Int32} : ∀ {a b : List Value} (k : Nat) {v w : Value}, rx_l ρ σ a b → rx_v ρ σ v w → rx_l ρ σ (a.set k v) (b.set k w)
  | [], [], _, _, _, _, _ => trivial
  | _ :: _, _ :: _, 0, _, _, h, g => ⟨g, h.2⟩
  | _ :: _, _ :: _, k + 1, _, _, h, g => ⟨h.1, rx_l.set k h.2 g⟩
  | [], _ :: _, _, _, _, h, _ => h.elim
  | _ :: _, [], _, _, _, h, _ => h.elim
theorem rx_v.cat {ρ : List Nat} {σ : Nat → Int32} {v w : Value} (h : rx_v ρ σ v w) (hd : ∀ b, v ≠ .double b) : w.category = v.category := by
  cases v with
  | int x => cases h; rfl
  | long x => cases h; rfl
  | null => cases h; rfl
  | ref k => obtain ⟨a, -, h2⟩ := h; cases h2; rfl
  | float n => cases h; rfl
  | double b => exact absurd rfl (hd b)
  | retAddr _ => exact h.elim
/-- what a value weighs: any int is an int here -/
def rx_cat : Value → Nat
  | .long _ => 2
  | _ => 1
theorem rx_v.cat' {ρ : List Nat} {σ : Nat → Int32} {v w : Value} (h : rx_v ρ σ v w) : w.category = rx_cat v := by
  cases v with
  | int x => cases h; rfl
  | long x => cases h; rfl
  | null => cases h; rfl
  | ref k => obtain ⟨a, -, h2⟩ := h; cases h2; rfl
  | float n => cases h; rfl
  | double b => obtain ⟨x, hx⟩ := h; cases hx; rfl
  | retAddr _ => exact h.elim
theorem rx_l.cats {ρ : List Nat} {σ : Nat → Int32} : ∀ {a b : List Value}, rx_l ρ σ a b → (b.map fun v => v.category).sum = (a.map rx_cat).sum
  | [], [], _ => rfl
  | _ :: _, _ :: _, h => by
    simp only [List.map_cons, List.sum_cons]
    rw [h.1.cat', rx_l.cats h.2]
  | [], _ :: _, h => h.elim
  | _ :: _, [], h => h.elim
def rx_args : Nat → List Value → rx_L
  | _, [] => []
  | i, v :: vs => (i, v) :: rx_args (i + rx_cat v) vs
theorem rx_cat_12 (w : Value) : w.category = 2 ∨ w.category = 1 := by cases w <;> simp [Value.category]
theorem rx_l.args {ρ : List Nat} {σ : Nat → Int32} : ∀ {a b : List Value} (i : Nat), rx_l ρ σ a b → rx_lv ρ σ (rx_args i a) (lv_args i b)
  | [], [], _, _ => trivial
  | v :: vs, w :: ws, i, h => by
    refine ⟨rfl, h.1, ?_⟩
    have e : (if w.category = 2 then i + 2 else i + 1) = i + rx_cat v := by
      rw [← h.1.cat']
      rcases rx_cat_12 w with q | q <;> simp [q]
    rw [e]
    exact rx_l.args _ h.2
  | [], _ :: _, _, h => h.elim
  | _ :: _, [], _, h => h.elim
theorem rx_sl_len (vs : List Value) : (lg_sl vs).length = (vs.map fun v => v.category).sum := by
  induction vs with
  | nil => rfl
  | cons v vs ih =>
    have : lg_sl (v :: vs) = (if v.category = 2 then [.val v, .second] else [.val v]) ++ lg_sl vs := by simp [lg_sl]
    rw [this, List.length_append, ih, List.map_cons, List.sum_cons]
    rcases rx_cat_12 v with q | q <;> simp [q]
theorem rx_lv.find {ρ : List Nat} {σ : Nat → Int32} : ∀ {a b : rx_L} {i : Nat} {v : Value}, rx_lv ρ σ a b → rx_find a i = some v → ∃ (k : Nat) (w : Value), b[k]? = some (i, w) ∧ rx_v ρ σ v w
  | [], [], _, _, _, h => by simp [rx_find] at h
  | (j, v) :: vs, (j', w) :: ws, i, x, h, g => by
    simp only [rx_find] at g
    cases hb : Nat.beq i j with
    | true =>
      rw [hb] at g
      have := Nat.eq_of_beq_eq_true hb
      simp at g
      exact ⟨0, w, by rw [this, h.1]; rfl, by rw [← g]; exact h.2.1⟩
    | false =>
      rw [hb] at g
      obtain ⟨k, w', h1, h2⟩ := rx_lv.find h.2.2 g
      exact ⟨k + 1, w', h1, h2⟩
  | [], _ :: _, _, _, h, _ => h.elim
  | _ :: _, [], _, _, h, _ => h.elim
/-- one place of the locals is written -/
def rx_put1 (lv : rx_L) (i : Nat) : rx_L := lv.filter (fun q => !(q.1 == i) && !(q.1 + 1 == i && rx_cat q.2 == 2))
def rx_put2 (lv : rx_L) (i : Nat) : rx_L := lv.filter (fun q => !(q.1 == i) && (!(q.1 == i + 1) && !(q.1 + 1 == i && rx_cat q.2 == 2)))
theorem rx_lv.put1 {ρ : List Nat} {σ : Nat → Int32} (i : Nat) : ∀ {a b : rx_L}, rx_lv ρ σ a b → rx_lv ρ σ (rx_put1 a i) (b.filter (fun q => !(q.1 == i) && !(q.1 + 1 == i && q.2.category == 2)))
  | [], [], _ => trivial
  | (j, v) :: vs, (j', w) :: ws, h => by
    obtain ⟨rfl, h1, h2⟩ := h
    have ih := rx_lv.put1 i h2
    have e := h1.cat'
    simp only [rx_put1, List.filter_cons, e] at ih ⊢
    split
    · exact ⟨rfl, h1, ih⟩
    · exact ih
  | [], _ :: _, h => h.elim
  | _ :: _, [], h => h.elim
theorem rx_lv.put2 {ρ : List Nat} {σ : Nat → Int32} (i : Nat) : ∀ {a b : rx_L}, rx_lv ρ σ a b → rx_lv ρ σ (rx_put2 a i) (b.filter (fun q => !(q.1 == i) && (!(q.1 == i + 1) && !(q.1 + 1 == i && q.2.category == 2))))
  | [], [], _ => trivial
  | (j, v) :: vs, (j', w) :: ws, h => by
    obtain ⟨rfl, h1, h2⟩ := h
    have ih := rx_lv.put2 i h2
    have e := h1.cat'
    simp only [rx_put2, List.filter_cons, e] at ih ⊢
    split
    · exact ⟨rfl, h1, ih⟩
    · exact ih
  | [], _ :: _, h => h.elim
  | _ :: _, [], h => h.elim
theorem rx_set_same {α : Type} {l : List α} {k : Nat} {x : α} (h : l[k]? = some x) : l.set k x = l := by
  apply List.ext_getElem?
  intro j
  rw [List.getElem?_set]
  obtain ⟨hk, hx⟩ := List.getElem?_eq_some_iff.mp h
  by_cases hj : k = j
  · subst hj; simp [hk, hx]
  · simp [hj]
theorem rx_w.at {ρ : List Nat} {σ : Nat → Int32} {cy : Nat → ClassId} {ws : rx_W} {cws : va_W} (h : rx_w ρ σ cy ws cws) {k : Nat} {e : rx_E} (hk : ws[k]? = some e) {a : Nat} (ha : ρ[k]? = some a) : ∃ ce, cws[k]? = some (a, ce) ∧ rx_e ρ σ cy e ce := by
  obtain ⟨a', ce, h1, h2⟩ := h.2.2 k e hk
  have : ρ[k]? = some a' := by rw [← h.1, List.getElem?_map, h1]; rfl
  rw [ha] at this
  cases this
  exact ⟨ce, h1, h2⟩
theorem rx_w.set {ρ : List Nat} {σ : Nat → Int32} {cy : Nat → ClassId} {ws : rx_W} {cws : va_W} (h : rx_w ρ σ cy ws cws) {k a : Nat} {ce0 : va_E} (hk : cws[k]? = some (a, ce0)) {e : rx_E} {ce : va_E} (he : rx_e ρ σ cy e ce) : rx_w ρ σ cy (ws.set k e) (cws.set k (a, ce)) := by
  refine ⟨?_, by simp [h.2.1], ?_⟩
  · rw [List.map_set, ← h.1]
    exact rx_set_same (by rw [List.getElem?_map, hk]; rfl)
  · intro j e' hj
    rw [List.getElem?_set] at hj
    by_cases hkj : k = j
    · subst hkj
      have hl : k < cws.length := (List.getElem?_eq_some_iff.mp hk).1
      simp [h.2.1, hl] at hj
      subst hj
      exact ⟨a, ce, by simp [hl], he⟩
    · simp [hkj] at hj
      obtain ⟨a', ce', h1, h2⟩ := h.2.2 j e' hj
      exact ⟨a', ce', by rw [List.getElem?_set]; simp [hkj, h1], h2⟩
theorem rx_w.new {ρ : List Nat} {σ : Nat → Int32} {cy : Nat → ClassId} {ws : rx_W} {cws : va_W} (h : rx_w ρ σ cy ws cws) {a : Nat} {e : rx_E} {ce : va_E} (he : rx_e ρ σ cy e ce) : rx_w (ρ ++ [a]) σ cy (ws ++ [e]) (cws ++ [(a, ce)]) := by
  refine ⟨by rw [List.map_append, h.1]; rfl, by simp [h.2.1], ?_⟩
  intro j e' hj
  by_cases hl : j < ws.length
  · rw [List.getElem?_append_left hl] at hj
    obtain ⟨a', ce', h1, h2⟩ := h.2.2 j e' hj
    exact ⟨a', ce', by rw [List.getElem?_append_left (by rw [← h.2.1]; exact hl)]; exact h1, h2.mono⟩
  · rw [List.getElem?_append_right (by omega)] at hj
    have hj0 : j - ws.length = 0 := by
      rcases Nat.eq_zero_or_pos (j - ws.length) with q | q
      · exact q
      · rw [List.getElem?_eq_none (show [e].length ≤ j - ws.length from q)] at hj; cases hj
    rw [hj0] at hj
    simp at hj
    subst hj
    refine ⟨a, ce, ?_, he.mono⟩
    rw [List.getElem?_append_right (by rw [← h.2.1]; omega), ← h.2.1, hj0]
    rfl
