def cx_dg {B : Type} [Zero B] [Add B] [Mul (cx_S B)] [One (cx_S B)] [Add (cx_S B)] [Zero (cx_S B)] [Inhabited (cx_Idx B)] (b : B) : Rat := (cx_deg b : Rat)
theorem cx_dg_pos {B : Type} [Zero B] [Add B] [Mul (cx_S B)] [One (cx_S B)] [Add (cx_S B)] [Zero (cx_S B)] [Inhabited (cx_Idx B)] {b : B} (h : b ≠ 0) : 0 < cx_dg b := by
  have : cx_deg b ≠ 0 := fun e => h (cx_deg_pos b e)
  show (0 : Rat) < (cx_deg b : Rat)
  have h2 : 0 < cx_deg b := by omega
  exact_mod_cast h2
theorem cx_fun_dg {B : Type} [Zero B] [Add B] [Mul (cx_S B)] [One (cx_S B)] [Add (cx_S B)] [Zero (cx_S B)] [Inhabited (cx_Idx B)] : cx_Fun (cx_dg : B → Rat) := ⟨fun a b => by show ((cx_deg (a + b) : Nat) : Rat) = _; rw [cx_deg_add]; show _ = (cx_deg a : Rat) + (cx_deg b : Rat); exact_mod_cast rfl⟩
theorem cx_fun_pr {B : Type} [Zero B] [Add B] [Mul (cx_S B)] [One (cx_S B)] [Add (cx_S B)] [Zero (cx_S B)] [Inhabited (cx_Idx B)] {M : Type} [Add M] [Inhabited (PLift (cx_MGl M))] [Inhabited (cx_Tord B M)] (m : M) : cx_Fun (fun b : B => cx_pr b m) := ⟨fun a b => cx_pr_addL a b m⟩
theorem cx_Fun.lin {B : Type} [Zero B] [Add B] [Mul (cx_S B)] [One (cx_S B)] [Add (cx_S B)] [Zero (cx_S B)] [Inhabited (cx_Idx B)] {t u : B → Rat} (ht : cx_Fun t) (hu : cx_Fun u) (x y : Rat) : cx_Fun (fun b => x * t b + y * u b) :=
  ⟨fun a b => by show x * t (a + b) + y * u (a + b) = _; rw [ht.add, hu.add]; grind⟩
theorem cx_Fun.plus {B : Type} [Zero B] [Add B] [Mul (cx_S B)] [One (cx_S B)] [Add (cx_S B)] [Zero (cx_S B)] [Inhabited (cx_Idx B)] {t u : B → Rat} (ht : cx_Fun t) (hu : cx_Fun u) (e : Rat) : cx_Fun (fun b => t b + e * u b) :=
  ⟨fun a b => by show t (a + b) + e * u (a + b) = _; rw [ht.add, hu.add]; grind⟩
theorem cx_Fun.smul {B : Type} [Zero B] [Add B] [Mul (cx_S B)] [One (cx_S B)] [Add (cx_S B)] [Zero (cx_S B)] [Inhabited (cx_Idx B)] {t : B → Rat} (ht : cx_Fun t) (x : Rat) : cx_Fun (fun b => x * t b) :=
  ⟨fun a b => by show x * t (a + b) = _; rw [ht.add]; grind⟩
abbrev cx_Ptl (B : Type) [Zero B] [Add B] [Mul (cx_S B)] [One (cx_S B)] [Add (cx_S B)] [Zero (cx_S B)] [Inhabited (cx_Idx B)] : Prop := ∀ x y : B, (∀ v : B → Rat, cx_Fun v → v x = v y) → x = y
theorem cx_Pts.pts {B : Type} [Zero B] [Add B] [Mul (cx_S B)] [One (cx_S B)] [Add (cx_S B)] [Zero (cx_S B)] [Inhabited (cx_Idx B)] [Inhabited (PLift (cx_Ptl B))] : ∀ x y : B, (∀ v : B → Rat, cx_Fun v → v x = v y) → x = y := (default : PLift (cx_Ptl B)).down
def cx_Par {B : Type} [Zero B] [Add B] [Mul (cx_S B)] [One (cx_S B)] [Add (cx_S B)] [Zero (cx_S B)] [Inhabited (cx_Idx B)] (a x : B) : Prop := ∀ v : B → Rat, cx_Fun v → v x * cx_dg a = v a * cx_dg x
theorem cx_Par.refl {B : Type} [Zero B] [Add B] [Mul (cx_S B)] [One (cx_S B)] [Add (cx_S B)] [Zero (cx_S B)] [Inhabited (cx_Idx B)] (a : B) : cx_Par a a := fun _ _ => rfl
theorem cx_Par.symm {B : Type} [Zero B] [Add B] [Mul (cx_S B)] [One (cx_S B)] [Add (cx_S B)] [Zero (cx_S B)] [Inhabited (cx_Idx B)] {a x : B} (h : cx_Par a x) : cx_Par x a := fun v hv => (h v hv).symm
theorem cx_canc_pos {x y c : Rat} (hc : 0 < c) (h : x * c = y * c) : x = y := by
  have hc0 : c ≠ 0 := by grind
  have h2 : (x - y) * c = 0 := by grind
  rcases Rat.mul_eq_zero.1 h2 with h3 | h3
  · grind
  · exact absurd h3 hc0
theorem cx_Par.trans {B : Type} [Zero B] [Add B] [Mul (cx_S B)] [One (cx_S B)] [Add (cx_S B)] [Zero (cx_S B)] [Inhabited (cx_Idx B)] {a x y : B} (hx : x ≠ 0) (h : cx_Par a x) (h' : cx_Par x y) : cx_Par a y := by
  intro v hv
  have h1 := h v hv
  have h2 := h' v hv
  refine cx_canc_pos (cx_dg_pos hx) ?_
  grind
theorem cx_Par.clo {B : Type} [Zero B] [Add B] [Mul (cx_S B)] [One (cx_S B)] [Add (cx_S B)] [Zero (cx_S B)] [Inhabited (cx_Idx B)] (a : B) : cx_Clo (cx_Par a) := ⟨fun x y hx hy v hv => by
  have h1 := hx v hv
  have h2 := hy v hv
  rw [hv.add, cx_fun_dg.add]; grind⟩
theorem cx_Par.zero {B : Type} [Zero B] [Add B] [Mul (cx_S B)] [One (cx_S B)] [Add (cx_S B)] [Zero (cx_S B)] [Inhabited (cx_Idx B)] {a x : B} (ha : a ≠ 0) (h : cx_Par a x) {t : B → Rat} (ht : cx_Fun t) (h0 : t a = 0) : t x = 0 := by
  have h1 := h t ht
  refine cx_canc_pos (cx_dg_pos ha) ?_
  rw [h1, h0, Rat.zero_mul, Rat.zero_mul]
theorem cx_Par.form {B : Type} [Zero B] [Add B] [Mul (cx_S B)] [One (cx_S B)] [Add (cx_S B)] [Zero (cx_S B)] [Inhabited (cx_Idx B)] {M : Type} [Add M] [Inhabited (PLift (cx_MGl M))] [Inhabited (cx_Tord B M)] {a x y : B} (ha : a ≠ 0) (hx : cx_Par a x) (hy : cx_Par a y) : cx_pr x (cx_p y : M) = 0 := by
  refine hx.zero ha (cx_fun_pr (cx_p y : M)) ?_
  show cx_pr a (cx_p y : M) = 0
  rw [cx_skew]
  have : cx_pr y (cx_p a : M) = 0 := hy.zero ha (cx_fun_pr (cx_p a : M)) (cx_pr_self a)
  rw [this]; rfl
theorem cx_Par.eq {B : Type} [Zero B] [Add B] [Mul (cx_S B)] [One (cx_S B)] [Add (cx_S B)] [Zero (cx_S B)] [Inhabited (cx_Idx B)] [Inhabited (PLift (cx_Ptl B))] {a x : B} (ha : a ≠ 0) (h : cx_Par a x) (hd : cx_deg x = cx_deg a) : x = a := by
  refine cx_Pts.pts x a (fun v hv => cx_canc_pos (cx_dg_pos ha) ?_)
  have := h v hv
  rw [this]; unfold cx_dg; rw [hd]
theorem cx_small (L : List (Rat × Rat)) : ∃ ε : Rat, 0 < ε ∧ ∀ e, 0 < e → e ≤ ε → ∀ q ∈ L, (0 < q.1 → 0 < q.1 + e * q.2) ∧ (q.1 < 0 → q.1 + e * q.2 < 0) := by
  induction L with
  | nil => exact ⟨1, by grind, fun e _ _ q hq => by simp at hq⟩
  | cons q L ih =>
    obtain ⟨ε, hε, h⟩ := ih

    have cx_one : ∀ x y : Rat, 0 < x → ∃ δ : Rat, 0 < δ ∧ ∀ e, 0 < e → e ≤ δ → 0 < x + e * y := by
      intro x y hx
      by_cases hy : 0 ≤ y
      · refine ⟨1, by grind, fun e he _ => ?_⟩
        have := Rat.mul_nonneg (by grind : 0 ≤ e) hy
        grind
      · have hy' : 0 < -y := by grind
        have hi : 0 < (-y)⁻¹ := Rat.inv_pos.2 hy'
        refine ⟨x * (-y)⁻¹ * (1/2), ?_, fun e he hle => ?_⟩
        · exact Rat.mul_pos (Rat.mul_pos hx hi) (by grind)
        · have h1 : e * (-y) ≤ x * (-y)⁻¹ * (1/2) * (-y) := Rat.mul_le_mul_of_nonneg_right hle (by grind)
          have h2 : (-y)⁻¹ * (-y) = 1 := Rat.inv_mul_cancel _ (by grind)
          have h3 : x * (-y)⁻¹ * (1/2) * (-y) = x * (1/2) * ((-y)⁻¹ * (-y)) := by grind
          rw [h3, h2] at h1
          grind
    have two : ∃ δ : Rat, 0 < δ ∧ ∀ e, 0 < e → e ≤ δ → (0 < q.1 → 0 < q.1 + e * q.2) ∧ (q.1 < 0 → q.1 + e * q.2 < 0) := by
      by_cases h0 : 0 < q.1
      · obtain ⟨δ, h1, h2⟩ := cx_one q.1 q.2 h0
        exact ⟨δ, h1, fun e he hl => ⟨fun _ => h2 e he hl, fun h => by grind⟩⟩
      · by_cases h0' : q.1 < 0
        · obtain ⟨δ, h1, h2⟩ := cx_one (-q.1) (-q.2) (by grind)
          exact ⟨δ, h1, fun e he hl => ⟨fun h => by grind, fun _ => by have := h2 e he hl; grind⟩⟩
        · exact ⟨1, by grind, fun e _ _ => ⟨fun h => by grind, fun h => by grind⟩⟩
    obtain ⟨δ, hδ, h2⟩ := two
    by_cases hle : ε ≤ δ
    · refine ⟨ε, hε, fun e he hl r hr => ?_⟩
      rcases List.mem_cons.1 hr with rfl | hr
      · exact h2 e he (by grind)
      · exact h e he hl r hr
    · refine ⟨δ, hδ, fun e he hl r hr => ?_⟩
      rcases List.mem_cons.1 hr with rfl | hr
      · exact h2 e he hl
      · exact h e he (by grind) r hr
def cx_All {B : Type} [Zero B] [Add B] [Mul (cx_S B)] [One (cx_S B)] [Add (cx_S B)] [Zero (cx_S B)] [Inhabited (cx_Idx B)] : B → Prop := fun _ => True
theorem cx_near_small {B : Type} [Zero B] [Add B] [Mul (cx_S B)] [One (cx_S B)] [Add (cx_S B)] [Zero (cx_S B)] [Inhabited (cx_Idx B)] (d : Nat) (t u : B → Rat) : ∃ ε : Rat, 0 < ε ∧ ∀ e, 0 < e → e ≤ ε → cx_Near cx_All d t u (fun b => t b + e * u b) := by
  obtain ⟨ε, hε, h⟩ := cx_small ((cx_lst d : List B).map fun b => (t b, u b))
  refine ⟨ε, hε, fun e he hl => ?_⟩
  have key : ∀ b : B, cx_deg b ≤ d → (0 < t b → 0 < t b + e * u b) ∧ (t b < 0 → t b + e * u b < 0) := fun b hb =>
    h e he hl (t b, u b) (List.mem_map.2 ⟨b, (cx_mem_lst d b).2 hb, rfl⟩)
  refine ⟨fun b _ hb => (key b hb).1, fun b _ hb => (key b hb).2, fun b _ _ h0 h1 => ?_, fun b _ _ h0 h1 => ?_, fun b _ _ h0 h1 => ?_⟩
  · show 0 < t b + e * u b; rw [h0]; have := Rat.mul_pos he h1; grind
  · show t b + e * u b = 0; rw [h0, h1]; grind
  · show t b + e * u b < 0; rw [h0]
    have := Rat.mul_pos he (by grind : 0 < - u b); grind
theorem cx_generic {B : Type} [Zero B] [Add B] [Mul (cx_S B)] [One (cx_S B)] [Add (cx_S B)] [Zero (cx_S B)] [Inhabited (cx_Idx B)] (V : (B → Rat) → Prop) (hV : ∀ u v, V u → V v → ∀ e : Rat, V (fun b => u b + e * v b)) (h0 : ∃ v, V v)
    (L : List ((B × Rat) × (B × Rat))) (hL : ∀ q ∈ L, ∃ v, V v ∧ v q.1.1 * q.1.2 + v q.2.1 * q.2.2 ≠ 0) :
    ∃ v, V v ∧ ∀ q ∈ L, v q.1.1 * q.1.2 + v q.2.1 * q.2.2 ≠ 0 := by
  induction L with
  | nil => obtain ⟨v, hv⟩ := h0; exact ⟨v, hv, fun q hq => by simp at hq⟩
  | cons q L ih =>
    obtain ⟨v, hv, h1⟩ := ih (fun r hr => hL r (by simp [hr]))
    obtain ⟨v', hv', h2⟩ := hL q (by simp)
    let cx_ev (w : B → Rat) (r : (B × Rat) × (B × Rat)) : Rat := w r.1.1 * r.1.2 + w r.2.1 * r.2.2
    obtain ⟨ε, hε, hs⟩ := cx_small ((q :: L).map fun r => (cx_ev v r, cx_ev v' r))
    have hs := hs ε hε (by grind)
    refine ⟨fun b => v b + ε * v' b, hV v v' hv hv' ε, fun r hr => ?_⟩
    have e1 : (v r.1.1 + ε * v' r.1.1) * r.1.2 + (v r.2.1 + ε * v' r.2.1) * r.2.2 = cx_ev v r + ε * cx_ev v' r := by
      show _ = (v r.1.1 * r.1.2 + v r.2.1 * r.2.2) + ε * (v' r.1.1 * r.1.2 + v' r.2.1 * r.2.2); grind
    show (v r.1.1 + ε * v' r.1.1) * r.1.2 + (v r.2.1 + ε * v' r.2.1) * r.2.2 ≠ 0
    rw [e1]
    have hk := hs (cx_ev v r, cx_ev v' r) (List.mem_map.2 ⟨r, hr, rfl⟩)
    simp only at hk
    by_cases hz : cx_ev v r = 0
    · have hrq : r = q := by
        rcases List.mem_cons.1 hr with h | h
        · exact h
        · exact absurd hz (h1 r h)
      rw [hz, Rat.zero_add]
      intro h
      rcases Rat.mul_eq_zero.1 h with h | h
      · grind
      · rw [hrq] at h; exact h2 h
    · by_cases hp : 0 < cx_ev v r
      · have := hk.1 hp; grind
      · have := hk.2 (by grind); grind
abbrev cx_Gen {B : Type} [Zero B] [Add B] [Mul (cx_S B)] [One (cx_S B)] [Add (cx_S B)] [Zero (cx_S B)] [Inhabited (cx_Idx B)] (K : B → Prop) (d : Nat) (t : B → Rat) : Prop := (cx_Fun t) ∧ (∀ b, b ≠ 0 → cx_deg b ≤ d → (t b = 0 ↔ K b))
theorem cx_Gen.f {B : Type} [Zero B] [Add B] [Mul (cx_S B)] [One (cx_S B)] [Add (cx_S B)] [Zero (cx_S B)] [Inhabited (cx_Idx B)] {K : B → Prop} {d : Nat} {t : B → Rat} (hh_ : cx_Gen K d t) : cx_Fun t := hh_.1
theorem cx_Gen.z {B : Type} [Zero B] [Add B] [Mul (cx_S B)] [One (cx_S B)] [Add (cx_S B)] [Zero (cx_S B)] [Inhabited (cx_Idx B)] {K : B → Prop} {d : Nat} {t : B → Rat} (hh_ : cx_Gen K d t) : ∀ b, b ≠ 0 → cx_deg b ≤ d → (t b = 0 ↔ K b) := hh_.2
def cx_Van {B : Type} [Zero B] [Add B] [Mul (cx_S B)] [One (cx_S B)] [Add (cx_S B)] [Zero (cx_S B)] [Inhabited (cx_Idx B)] (K : B → Prop) (v : B → Rat) : Prop := cx_Fun v ∧ ∀ a, K a → v a = 0
def cx_Sp {B : Type} [Zero B] [Add B] [Mul (cx_S B)] [One (cx_S B)] [Add (cx_S B)] [Zero (cx_S B)] [Inhabited (cx_Idx B)] (K : B → Prop) (b0 b1 : B) : Prop := ∀ v, cx_Van K v → v b0 = 0 → v b1 = 0
def cx_Sgn {B : Type} [Zero B] [Add B] [Mul (cx_S B)] [One (cx_S B)] [Add (cx_S B)] [Zero (cx_S B)] [Inhabited (cx_Idx B)] (d : Nat) (t t' : B → Rat) : Prop := ∀ b : B, cx_deg b ≤ d → (0 < t b ↔ 0 < t' b) ∧ (t b < 0 ↔ t' b < 0)
theorem cx_Sgn.zero {B : Type} [Zero B] [Add B] [Mul (cx_S B)] [One (cx_S B)] [Add (cx_S B)] [Zero (cx_S B)] [Inhabited (cx_Idx B)] {d : Nat} {t t' : B → Rat} (h : cx_Sgn d t t') {b : B} (hb : cx_deg b ≤ d) : t b = 0 ↔ t' b = 0 := by
  have := h b hb
  constructor <;> intro h <;> grind
theorem cx_Sgn.symm {B : Type} [Zero B] [Add B] [Mul (cx_S B)] [One (cx_S B)] [Add (cx_S B)] [Zero (cx_S B)] [Inhabited (cx_Idx B)] {d : Nat} {t t' : B → Rat} (h : cx_Sgn d t t') : cx_Sgn d t' t := fun b hb => ⟨(h b hb).1.symm, (h b hb).2.symm⟩
theorem cx_Sgn.trans {B : Type} [Zero B] [Add B] [Mul (cx_S B)] [One (cx_S B)] [Add (cx_S B)] [Zero (cx_S B)] [Inhabited (cx_Idx B)] {d : Nat} {t t' t'' : B → Rat} (h : cx_Sgn d t t') (h' : cx_Sgn d t' t'') : cx_Sgn d t t'' := fun b hb => ⟨(h b hb).1.trans (h' b hb).1, (h b hb).2.trans (h' b hb).2⟩
theorem cx_Fun.nsm {B : Type} [Zero B] [Add B] [Mul (cx_S B)] [One (cx_S B)] [Add (cx_S B)] [Zero (cx_S B)] [Inhabited (cx_Idx B)] {t : B → Rat} (ht : cx_Fun t) (j : Nat) (a : B) : t (cx_nsm j a) = j * t a := by
  induction j with
  | zero => show t 0 = ((0 : Nat) : Rat) * _; rw [ht.zero, show ((0 : Nat) : Rat) = 0 from rfl, Rat.zero_mul]
  | succ j ih =>
    show t (cx_nsm j a + a) = _
    rw [ht.add, ih]
    have : ((j + 1 : Nat) : Rat) = (j : Rat) + 1 := by exact_mod_cast rfl
    rw [this]; grind
def cx_Lgen {B : Type} [Zero B] [Add B] [Mul (cx_S B)] [One (cx_S B)] [Add (cx_S B)] [Zero (cx_S B)] [Inhabited (cx_Idx B)] (K : B → Prop) (d : Nat) (T t : B → Rat) : Prop :=
  ∀ b0 b1 : B, b0 ≠ 0 → b1 ≠ 0 → cx_deg b0 ≤ d → cx_deg b1 ≤ d → T b0 ≠ 0 → t b0 * T b1 = t b1 * T b0 → cx_Sp K b0 b1
theorem cx_perturb {B : Type} [Zero B] [Add B] [Mul (cx_S B)] [One (cx_S B)] [Add (cx_S B)] [Zero (cx_S B)] [Inhabited (cx_Idx B)] {K : B → Prop} {d : Nat} {T t : B → Rat} (ht : cx_Gen K d t) (hKd : cx_Van K t) (hT : cx_Van K T) :
    ∃ t', cx_Gen K d t' ∧ cx_Van K t' ∧ cx_Sgn d t t' ∧ cx_Lgen K d T t' := by
  classical
  let P : List (B × B) := (cx_lst d).flatMap fun b0 => (cx_lst d).map fun b1 => (b0, b1)
  let L : List ((B × Rat) × (B × Rat)) := (P.filter (fun q => decide (T q.1 ≠ 0 ∧ ¬ cx_Sp K q.1 q.2))).map fun q => ((q.1, T q.2), (q.2, - T q.1))
  have hP : ∀ b0 b1 : B, cx_deg b0 ≤ d → cx_deg b1 ≤ d → (b0, b1) ∈ P := by
    intro b0 b1 h0 h1
    exact List.mem_flatMap.2 ⟨b0, (cx_mem_lst d b0).2 h0, List.mem_map.2 ⟨b1, (cx_mem_lst d b1).2 h1, rfl⟩⟩
  obtain ⟨v, hv, hgen⟩ := cx_generic (cx_Van K) (fun u v hu hv e => ⟨hu.1.plus hv.1 e, fun a ha => by show u a + e * v a = 0; rw [hu.2 a ha, hv.2 a ha]; grind⟩) ⟨T, hT⟩ L (by
    intro q hq
    obtain ⟨⟨b0, b1⟩, hb, rfl⟩ := List.mem_map.1 hq
    have hb := (List.mem_filter.1 hb).2
    simp only [decide_eq_true_eq] at hb
    obtain ⟨hT0, hns⟩ := hb
    have : ∃ v, cx_Van K v ∧ v b0 = 0 ∧ v b1 ≠ 0 := by
      refine Classical.byContradiction (fun hno => hns (fun v hv h0 => ?_))
      exact Classical.byContradiction (fun h1 => hno ⟨v, hv, h0, h1⟩)
    obtain ⟨v, hv, h0, h1⟩ := this
    refine ⟨v, hv, ?_⟩
    show v b0 * T b1 + v b1 * - T b0 ≠ 0
    rw [h0]
    intro h
    have h3 : v b1 * T b0 = 0 := by grind
    rcases Rat.mul_eq_zero.1 h3 with h | h
    · exact h1 h
    · exact hT0 h)
  obtain ⟨ε1, hε1, hn⟩ := cx_near_small d t v
  let evq (w : B → Rat) (r : (B × Rat) × (B × Rat)) : Rat := w r.1.1 * r.1.2 + w r.2.1 * r.2.2
  obtain ⟨ε2, hε2, hs⟩ := cx_small (L.map fun r => (evq t r, evq v r))
  obtain ⟨ε, hε, hle1, hle2⟩ : ∃ ε : Rat, 0 < ε ∧ ε ≤ ε1 ∧ ε ≤ ε2 := by
    by_cases h : ε1 ≤ ε2
    · exact ⟨ε1, hε1, by grind, h⟩
    · exact ⟨ε2, hε2, by grind, by grind⟩
  have hn := hn ε hε hle1
  have hs := hs ε hε hle2
  have hF : cx_Fun (fun b => t b + ε * v b) := ht.f.plus hv.1 ε
  have hvan : cx_Van K (fun b => t b + ε * v b) := ⟨hF, fun a ha => by show t a + ε * v a = 0; rw [hKd.2 a ha, hv.2 a ha]; grind⟩
  have hsg : cx_Sgn d t (fun b => t b + ε * v b) := by
    intro b hb
    by_cases hb0 : b = 0
    · subst hb0
      have h1 := ht.f.zero
      have h2 : t 0 + ε * v 0 = 0 := hF.zero
      show (0 < t 0 ↔ 0 < t 0 + ε * v 0) ∧ (t 0 < 0 ↔ t 0 + ε * v 0 < 0)
      rw [h2, h1]; exact ⟨Iff.rfl, Iff.rfl⟩
    by_cases h0 : t b = 0
    · have hK := (ht.z b hb0 hb).1 h0
      have h2 : t b + ε * v b = 0 := hvan.2 b hK
      show (0 < t b ↔ 0 < t b + ε * v b) ∧ (t b < 0 ↔ t b + ε * v b < 0)
      rw [h2, h0]; exact ⟨Iff.rfl, Iff.rfl⟩
    · have h1 := hn.pos b trivial hb
      have h2 := hn.neg b trivial hb
      show (0 < t b ↔ 0 < t b + ε * v b) ∧ (t b < 0 ↔ t b + ε * v b < 0)
      constructor
      · constructor
        · exact h1
        · intro h; by_cases h3 : 0 < t b
          · exact h3
          · have := h2 (by grind); grind
      · constructor
        · exact h2
        · intro h; by_cases h3 : t b < 0
          · exact h3
          · have := h1 (by grind); grind
  refine ⟨fun b => t b + ε * v b, ⟨hF, fun b hb hd => ?_⟩, hvan, hsg, ?_⟩
  · rw [← hsg.zero hd]; exact ht.z b hb hd
  · intro b0 b1 hb0 hb1 hd0 hd1 hT0 heq
    refine Classical.byContradiction (fun hns => ?_)
    have hmem : ((b0, T b1), (b1, - T b0)) ∈ L := List.mem_map.2 ⟨(b0, b1), List.mem_filter.2 ⟨hP b0 b1 hd0 hd1, by simp only [decide_eq_true_eq]; exact ⟨hT0, hns⟩⟩, rfl⟩
    have hg := hgen _ hmem
    have hk := hs (evq t ((b0, T b1), (b1, - T b0)), evq v ((b0, T b1), (b1, - T b0))) (List.mem_map.2 ⟨_, hmem, rfl⟩)
    simp only at hg hk
    have e1 : evq t ((b0, T b1), (b1, - T b0)) + ε * evq v ((b0, T b1), (b1, - T b0)) = 0 := by
      show (t b0 * T b1 + t b1 * - T b0) + ε * (v b0 * T b1 + v b1 * - T b0) = 0
      simp only at heq
      grind
    have e2 : evq v ((b0, T b1), (b1, - T b0)) ≠ 0 := hg
    by_cases hz : evq t ((b0, T b1), (b1, - T b0)) = 0
    · rw [hz, Rat.zero_add] at e1
      rcases Rat.mul_eq_zero.1 e1 with h | h
      · grind
      · exact e2 h
    · by_cases hp : 0 < evq t ((b0, T b1), (b1, - T b0))
      · have := hk.1 hp; grind
      · have := hk.2 (by grind); grind
