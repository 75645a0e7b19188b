noncomputable def cx_cm [Mul (cx_S Nat)] [One (cx_S Nat)] [Add (cx_S Nat)] [Zero (cx_S Nat)] [Inhabited (cx_Idx Nat)] [Inhabited (PLift cx_Natl)] {B : Type} [Zero B] [Add B] [Mul (cx_S B)] [One (cx_S B)] [Add (cx_S B)] [Zero (cx_S B)] [Inhabited (cx_Idx B)] (c : Rat) (a : B) : cx_S B := fun b => @ite _ (a = b) (Classical.propDecidable _) c 0
theorem cx_cm_mul [Mul (cx_S Nat)] [One (cx_S Nat)] [Add (cx_S Nat)] [Zero (cx_S Nat)] [Inhabited (cx_Idx Nat)] [Inhabited (PLift cx_Natl)] {B : Type} [Zero B] [Add B] [Mul (cx_S B)] [One (cx_S B)] [Add (cx_S B)] [Zero (cx_S B)] [Inhabited (cx_Idx B)] (c c' : Rat) (a a' : B) : cx_cm c a * cx_cm c' a' = cx_cm (c * c') (a + a') := by
  classical
  have e : ∀ (c : Rat) (a b : B), cx_cm c a b = c * cx_mon a b := fun c a b => by
    unfold cx_cm cx_mon
    by_cases h : a = b
    · rw [if_pos h, if_pos h.symm]; grind
    · rw [if_neg h, if_neg (fun e => h e.symm)]; grind
  refine cx_S.ext (fun b => ?_)
  rw [e, ← cx_mon_mul, cx_mul_D, cx_mul_D, ← cx_D_mulL]
  refine cx_D_congr (fun u v _ => ?_)
  rw [e, e]; grind
noncomputable def cx_ser [Mul (cx_S Nat)] [One (cx_S Nat)] [Add (cx_S Nat)] [Zero (cx_S Nat)] [Inhabited (cx_Idx Nat)] [Inhabited (PLift cx_Natl)] {B : Type} [Zero B] [Add B] [Mul (cx_S B)] [One (cx_S B)] [Add (cx_S B)] [Zero (cx_S B)] [Inhabited (cx_Idx B)] : List (Rat × B) → cx_S B
  | [] => fun _ => 0
  | x :: l => fun b => cx_cm x.1 x.2 b + cx_ser l b
theorem cx_ser_nil [Mul (cx_S Nat)] [One (cx_S Nat)] [Add (cx_S Nat)] [Zero (cx_S Nat)] [Inhabited (cx_Idx Nat)] [Inhabited (PLift cx_Natl)] {B : Type} [Zero B] [Add B] [Mul (cx_S B)] [One (cx_S B)] [Add (cx_S B)] [Zero (cx_S B)] [Inhabited (cx_Idx B)] : cx_ser ([] : List (Rat × B)) = (0 : cx_S B) := cx_S.ext (fun b => (cx_zero_def b).symm)
theorem cx_ser_cons [Mul (cx_S Nat)] [One (cx_S Nat)] [Add (cx_S Nat)] [Zero (cx_S Nat)] [Inhabited (cx_Idx Nat)] [Inhabited (PLift cx_Natl)] {B : Type} [Zero B] [Add B] [Mul (cx_S B)] [One (cx_S B)] [Add (cx_S B)] [Zero (cx_S B)] [Inhabited (cx_Idx B)] (x : Rat × B) (l : List (Rat × B)) : cx_ser (x :: l) = cx_cm x.1 x.2 + cx_ser l := cx_S.ext (fun b => (cx_add_def _ _ b).symm)
theorem cx_szero_add [Mul (cx_S Nat)] [One (cx_S Nat)] [Add (cx_S Nat)] [Zero (cx_S Nat)] [Inhabited (cx_Idx Nat)] [Inhabited (PLift cx_Natl)] {B : Type} [Zero B] [Add B] [Mul (cx_S B)] [One (cx_S B)] [Add (cx_S B)] [Zero (cx_S B)] [Inhabited (cx_Idx B)] (f : cx_S B) : (0 : cx_S B) + f = f := by refine cx_S.ext (fun b => ?_); rw [cx_add_def, cx_zero_def]; grind
theorem cx_smul_zero [Mul (cx_S Nat)] [One (cx_S Nat)] [Add (cx_S Nat)] [Zero (cx_S Nat)] [Inhabited (cx_Idx Nat)] [Inhabited (PLift cx_Natl)] {B : Type} [Zero B] [Add B] [Mul (cx_S B)] [One (cx_S B)] [Add (cx_S B)] [Zero (cx_S B)] [Inhabited (cx_Idx B)] (f : cx_S B) : f * (0 : cx_S B) = 0 := by
  refine cx_S.ext (fun b => ?_); rw [cx_mul_D, cx_zero_def]; exact cx_D_zero (fun u v _ => by rw [cx_zero_def]; grind)
theorem cx_szero_mul [Mul (cx_S Nat)] [One (cx_S Nat)] [Add (cx_S Nat)] [Zero (cx_S Nat)] [Inhabited (cx_Idx Nat)] [Inhabited (PLift cx_Natl)] {B : Type} [Zero B] [Add B] [Mul (cx_S B)] [One (cx_S B)] [Add (cx_S B)] [Zero (cx_S B)] [Inhabited (cx_Idx B)] (f : cx_S B) : (0 : cx_S B) * f = 0 := by rw [cx_mulC, cx_smul_zero]
theorem cx_ser_app [Mul (cx_S Nat)] [One (cx_S Nat)] [Add (cx_S Nat)] [Zero (cx_S Nat)] [Inhabited (cx_Idx Nat)] [Inhabited (PLift cx_Natl)] {B : Type} [Zero B] [Add B] [Mul (cx_S B)] [One (cx_S B)] [Add (cx_S B)] [Zero (cx_S B)] [Inhabited (cx_Idx B)] (l l' : List (Rat × B)) : cx_ser (l ++ l') = cx_ser l + cx_ser l' := by
  induction l with
  | nil => rw [List.nil_append, cx_ser_nil, cx_szero_add]
  | cons x l ih => rw [List.cons_append, cx_ser_cons, cx_ser_cons, ih, cx_saddA]
def cx_sh [Mul (cx_S Nat)] [One (cx_S Nat)] [Add (cx_S Nat)] [Zero (cx_S Nat)] [Inhabited (cx_Idx Nat)] [Inhabited (PLift cx_Natl)] {B : Type} [Zero B] [Add B] [Mul (cx_S B)] [One (cx_S B)] [Add (cx_S B)] [Zero (cx_S B)] [Inhabited (cx_Idx B)] (x : Rat × B) (l : List (Rat × B)) : List (Rat × B) := l.map fun y => (x.1 * y.1, x.2 + y.2)
theorem cx_ser_sh [Mul (cx_S Nat)] [One (cx_S Nat)] [Add (cx_S Nat)] [Zero (cx_S Nat)] [Inhabited (cx_Idx Nat)] [Inhabited (PLift cx_Natl)] {B : Type} [Zero B] [Add B] [Mul (cx_S B)] [One (cx_S B)] [Add (cx_S B)] [Zero (cx_S B)] [Inhabited (cx_Idx B)] (x : Rat × B) (l : List (Rat × B)) : cx_ser (cx_sh x l) = cx_cm x.1 x.2 * cx_ser l := by
  induction l with
  | nil => show cx_ser [] = _; rw [cx_ser_nil, cx_smul_zero]
  | cons y l ih =>
    show cx_ser ((x.1 * y.1, x.2 + y.2) :: cx_sh x l) = _
    rw [cx_ser_cons, ih, cx_ser_cons, cx_mulD, cx_cm_mul]
def cx_pm [Mul (cx_S Nat)] [One (cx_S Nat)] [Add (cx_S Nat)] [Zero (cx_S Nat)] [Inhabited (cx_Idx Nat)] [Inhabited (PLift cx_Natl)] {B : Type} [Zero B] [Add B] [Mul (cx_S B)] [One (cx_S B)] [Add (cx_S B)] [Zero (cx_S B)] [Inhabited (cx_Idx B)] (l l' : List (Rat × B)) : List (Rat × B) := l.flatMap fun x => cx_sh x l'
theorem cx_ser_pm [Mul (cx_S Nat)] [One (cx_S Nat)] [Add (cx_S Nat)] [Zero (cx_S Nat)] [Inhabited (cx_Idx Nat)] [Inhabited (PLift cx_Natl)] {B : Type} [Zero B] [Add B] [Mul (cx_S B)] [One (cx_S B)] [Add (cx_S B)] [Zero (cx_S B)] [Inhabited (cx_Idx B)] (l l' : List (Rat × B)) : cx_ser (cx_pm l l') = cx_ser l * cx_ser l' := by
  induction l with
  | nil => show cx_ser [] = _; rw [cx_ser_nil, cx_szero_mul]
  | cons x l ih =>
    show cx_ser (List.flatMap _ (x :: l)) = _
    rw [List.flatMap_cons, cx_ser_app, cx_ser_sh, cx_ser_cons, cx_mulD']
    congr 1
def cx_val [Mul (cx_S Nat)] [One (cx_S Nat)] [Add (cx_S Nat)] [Zero (cx_S Nat)] [Inhabited (cx_Idx Nat)] [Inhabited (PLift cx_Natl)] {B : Type} [Zero B] [Add B] [Mul (cx_S B)] [One (cx_S B)] [Add (cx_S B)] [Zero (cx_S B)] [Inhabited (cx_Idx B)] (y : B → Rat) (l : List (Rat × B)) : Rat := cx_sm l (fun x => x.1 * y x.2)
theorem cx_val_app [Mul (cx_S Nat)] [One (cx_S Nat)] [Add (cx_S Nat)] [Zero (cx_S Nat)] [Inhabited (cx_Idx Nat)] [Inhabited (PLift cx_Natl)] {B : Type} [Zero B] [Add B] [Mul (cx_S B)] [One (cx_S B)] [Add (cx_S B)] [Zero (cx_S B)] [Inhabited (cx_Idx B)] (y : B → Rat) (l l' : List (Rat × B)) : cx_val y (l ++ l') = cx_val y l + cx_val y l' := cx_sm_append _ _ _
theorem cx_val_sh [Mul (cx_S Nat)] [One (cx_S Nat)] [Add (cx_S Nat)] [Zero (cx_S Nat)] [Inhabited (cx_Idx Nat)] [Inhabited (PLift cx_Natl)] {B : Type} [Zero B] [Add B] [Mul (cx_S B)] [One (cx_S B)] [Add (cx_S B)] [Zero (cx_S B)] [Inhabited (cx_Idx B)] {y : B → Rat} (hy : ∀ a b, y (a + b) = y a * y b) (x : Rat × B) (l : List (Rat × B)) : cx_val y (cx_sh x l) = x.1 * y x.2 * cx_val y l := by
  unfold cx_val cx_sh
  rw [cx_sm_map, ← cx_sm_mulL]
  exact cx_sm_congr (fun z _ => by rw [hy]; grind)
theorem cx_val_pm [Mul (cx_S Nat)] [One (cx_S Nat)] [Add (cx_S Nat)] [Zero (cx_S Nat)] [Inhabited (cx_Idx Nat)] [Inhabited (PLift cx_Natl)] {B : Type} [Zero B] [Add B] [Mul (cx_S B)] [One (cx_S B)] [Add (cx_S B)] [Zero (cx_S B)] [Inhabited (cx_Idx B)] {y : B → Rat} (hy : ∀ a b, y (a + b) = y a * y b) (l l' : List (Rat × B)) : cx_val y (cx_pm l l') = cx_val y l * cx_val y l' := by
  induction l with
  | nil => show (0 : Rat) = 0 * _; grind
  | cons x l ih =>
    show cx_val y (List.flatMap _ (x :: l)) = _
    rw [List.flatMap_cons, cx_val_app, cx_val_sh hy]
    have : cx_val y (List.flatMap (fun x => cx_sh x l') l) = cx_val y l * cx_val y l' := ih
    rw [this]
    show _ = (x.1 * y x.2 + cx_val y l) * _
    grind
def cx_Nn [Mul (cx_S Nat)] [One (cx_S Nat)] [Add (cx_S Nat)] [Zero (cx_S Nat)] [Inhabited (cx_Idx Nat)] [Inhabited (PLift cx_Natl)] {B : Type} [Zero B] [Add B] [Mul (cx_S B)] [One (cx_S B)] [Add (cx_S B)] [Zero (cx_S B)] [Inhabited (cx_Idx B)] (l : List (Rat × B)) : Prop := ∀ x ∈ l, 0 ≤ x.1
def cx_Nz [Mul (cx_S Nat)] [One (cx_S Nat)] [Add (cx_S Nat)] [Zero (cx_S Nat)] [Inhabited (cx_Idx Nat)] [Inhabited (PLift cx_Natl)] {B : Type} [Zero B] [Add B] [Mul (cx_S B)] [One (cx_S B)] [Add (cx_S B)] [Zero (cx_S B)] [Inhabited (cx_Idx B)] (l : List (Rat × B)) : Prop := ∃ x ∈ l, 0 < x.1
theorem cx_Nn.sh [Mul (cx_S Nat)] [One (cx_S Nat)] [Add (cx_S Nat)] [Zero (cx_S Nat)] [Inhabited (cx_Idx Nat)] [Inhabited (PLift cx_Natl)] {B : Type} [Zero B] [Add B] [Mul (cx_S B)] [One (cx_S B)] [Add (cx_S B)] [Zero (cx_S B)] [Inhabited (cx_Idx B)] {x : Rat × B} {l : List (Rat × B)} (hx : 0 ≤ x.1) (h : cx_Nn l) : cx_Nn (cx_sh x l) := by
  intro z hz
  obtain ⟨y, hy, rfl⟩ := List.mem_map.1 hz
  exact Rat.mul_nonneg hx (h y hy)
theorem cx_Nn.pm [Mul (cx_S Nat)] [One (cx_S Nat)] [Add (cx_S Nat)] [Zero (cx_S Nat)] [Inhabited (cx_Idx Nat)] [Inhabited (PLift cx_Natl)] {B : Type} [Zero B] [Add B] [Mul (cx_S B)] [One (cx_S B)] [Add (cx_S B)] [Zero (cx_S B)] [Inhabited (cx_Idx B)] {l l' : List (Rat × B)} (h : cx_Nn l) (h' : cx_Nn l') : cx_Nn (cx_pm l l') := by
  intro z hz
  obtain ⟨x, hx, hz⟩ := List.mem_flatMap.1 hz
  exact cx_Nn.sh (h x hx) h' z hz
theorem cx_Nn.app [Mul (cx_S Nat)] [One (cx_S Nat)] [Add (cx_S Nat)] [Zero (cx_S Nat)] [Inhabited (cx_Idx Nat)] [Inhabited (PLift cx_Natl)] {B : Type} [Zero B] [Add B] [Mul (cx_S B)] [One (cx_S B)] [Add (cx_S B)] [Zero (cx_S B)] [Inhabited (cx_Idx B)] {l l' : List (Rat × B)} (h : cx_Nn l) (h' : cx_Nn l') : cx_Nn (l ++ l') := by
  intro z hz
  rcases List.mem_append.1 hz with hz | hz
  · exact h z hz
  · exact h' z hz
theorem cx_Nz.pm [Mul (cx_S Nat)] [One (cx_S Nat)] [Add (cx_S Nat)] [Zero (cx_S Nat)] [Inhabited (cx_Idx Nat)] [Inhabited (PLift cx_Natl)] {B : Type} [Zero B] [Add B] [Mul (cx_S B)] [One (cx_S B)] [Add (cx_S B)] [Zero (cx_S B)] [Inhabited (cx_Idx B)] {l l' : List (Rat × B)} (h : cx_Nz l) (h' : cx_Nz l') : cx_Nz (cx_pm l l') := by
  obtain ⟨x, hx, h1⟩ := h
  obtain ⟨y, hy, h2⟩ := h'
  exact ⟨(x.1 * y.1, x.2 + y.2), List.mem_flatMap.2 ⟨x, hx, List.mem_map.2 ⟨y, hy, rfl⟩⟩, Rat.mul_pos h1 h2⟩
theorem cx_Nz.app [Mul (cx_S Nat)] [One (cx_S Nat)] [Add (cx_S Nat)] [Zero (cx_S Nat)] [Inhabited (cx_Idx Nat)] [Inhabited (PLift cx_Natl)] {B : Type} [Zero B] [Add B] [Mul (cx_S B)] [One (cx_S B)] [Add (cx_S B)] [Zero (cx_S B)] [Inhabited (cx_Idx B)] {l l' : List (Rat × B)} (h : cx_Nz l) : cx_Nz (l ++ l') := by
  obtain ⟨x, hx, h1⟩ := h
  exact ⟨x, List.mem_append.2 (.inl hx), h1⟩
theorem cx_val_nonneg [Mul (cx_S Nat)] [One (cx_S Nat)] [Add (cx_S Nat)] [Zero (cx_S Nat)] [Inhabited (cx_Idx Nat)] [Inhabited (PLift cx_Natl)] {B : Type} [Zero B] [Add B] [Mul (cx_S B)] [One (cx_S B)] [Add (cx_S B)] [Zero (cx_S B)] [Inhabited (cx_Idx B)] {y : B → Rat} (hy : ∀ a, 0 < y a) {l : List (Rat × B)} (h : cx_Nn l) : 0 ≤ cx_val y l :=
  cx_sm_nonneg (fun x hx => Rat.mul_nonneg (h x hx) (by have := hy x.2; grind))
theorem cx_val_pos [Mul (cx_S Nat)] [One (cx_S Nat)] [Add (cx_S Nat)] [Zero (cx_S Nat)] [Inhabited (cx_Idx Nat)] [Inhabited (PLift cx_Natl)] {B : Type} [Zero B] [Add B] [Mul (cx_S B)] [One (cx_S B)] [Add (cx_S B)] [Zero (cx_S B)] [Inhabited (cx_Idx B)] {y : B → Rat} (hy : ∀ a, 0 < y a) {l : List (Rat × B)} (h : cx_Nn l) (hz : cx_Nz l) : 0 < cx_val y l := by
  induction l with
  | nil => obtain ⟨x, hx, _⟩ := hz; simp at hx
  | cons z l ih =>
    show 0 < z.1 * y z.2 + cx_val y l
    have h1 := Rat.mul_nonneg (h z (by simp)) (by have := hy z.2; grind : 0 ≤ y z.2)
    have h2 := cx_val_nonneg hy (l := l) (fun x hx => h x (by simp [hx]))
    obtain ⟨x, hx, hp⟩ := hz
    rcases List.mem_cons.1 hx with rfl | hx
    · have := Rat.mul_pos hp (hy x.2); grind
    · have := ih (fun x hx => h x (by simp [hx])) ⟨x, hx, hp⟩; grind
theorem cx_ser_nonneg [Mul (cx_S Nat)] [One (cx_S Nat)] [Add (cx_S Nat)] [Zero (cx_S Nat)] [Inhabited (cx_Idx Nat)] [Inhabited (PLift cx_Natl)] {B : Type} [Zero B] [Add B] [Mul (cx_S B)] [One (cx_S B)] [Add (cx_S B)] [Zero (cx_S B)] [Inhabited (cx_Idx B)] {l : List (Rat × B)} (h : cx_Nn l) (b : B) : 0 ≤ cx_ser l b := by
  classical
  induction l with
  | nil => show (0 : Rat) ≤ 0; grind
  | cons x l ih =>
    show 0 ≤ cx_cm x.1 x.2 b + cx_ser l b
    have h1 := ih (fun y hy => h y (by simp [hy]))
    have h2 : 0 ≤ cx_cm x.1 x.2 b := by
      unfold cx_cm
      by_cases e : x.2 = b
      · rw [if_pos e]; exact h x (by simp)
      · rw [if_neg e]; grind
    grind
theorem cx_ser_pos [Mul (cx_S Nat)] [One (cx_S Nat)] [Add (cx_S Nat)] [Zero (cx_S Nat)] [Inhabited (cx_Idx Nat)] [Inhabited (PLift cx_Natl)] {B : Type} [Zero B] [Add B] [Mul (cx_S B)] [One (cx_S B)] [Add (cx_S B)] [Zero (cx_S B)] [Inhabited (cx_Idx B)] {l : List (Rat × B)} (h : cx_Nn l) (hz : cx_Nz l) : ∃ c, 0 < cx_ser l c := by
  classical
  obtain ⟨x, hx, hp⟩ := hz
  refine ⟨x.2, ?_⟩
  induction l with
  | nil => simp at hx
  | cons z l ih =>
    show 0 < cx_cm z.1 z.2 x.2 + cx_ser l x.2
    have h1 := cx_ser_nonneg (l := l) (fun y hy => h y (by simp [hy])) x.2
    have h2 : 0 ≤ cx_cm z.1 z.2 x.2 := by
      unfold cx_cm
      by_cases e : z.2 = x.2
      · rw [if_pos e]; exact h z (by simp)
      · rw [if_neg e]; grind
    rcases List.mem_cons.1 hx with rfl | hx
    · have : cx_cm x.1 x.2 x.2 = x.1 := by unfold cx_cm; rw [if_pos rfl]
      grind
    · have := ih (fun y hy => h y (by simp [hy])) hx; grind
theorem cx_ser_mem [Mul (cx_S Nat)] [One (cx_S Nat)] [Add (cx_S Nat)] [Zero (cx_S Nat)] [Inhabited (cx_Idx Nat)] [Inhabited (PLift cx_Natl)] {B : Type} [Zero B] [Add B] [Mul (cx_S B)] [One (cx_S B)] [Add (cx_S B)] [Zero (cx_S B)] [Inhabited (cx_Idx B)] {l : List (Rat × B)} {b : B} (h : cx_ser l b ≠ 0) : b ∈ l.map (·.2) := by
  classical
  induction l with
  | nil => exact absurd rfl h
  | cons x l ih =>
    by_cases e : x.2 = b
    · simp [e]
    · have h2 : cx_ser l b ≠ 0 := by
        intro h0
        apply h
        show cx_cm x.1 x.2 b + cx_ser l b = 0
        unfold cx_cm
        rw [if_neg e, h0]; grind
      have := ih h2
      simp only [List.map_cons, List.mem_cons]
      exact .inr this
theorem cx_nodup_list [Mul (cx_S Nat)] [One (cx_S Nat)] [Add (cx_S Nat)] [Zero (cx_S Nat)] [Inhabited (cx_Idx Nat)] [Inhabited (PLift cx_Natl)]  {α : Type} (l : List α) : ∃ u : List α, u.Nodup ∧ ∀ x, x ∈ u ↔ x ∈ l := by
  classical
  induction l with
  | nil => exact ⟨[], by simp, fun x => Iff.rfl⟩
  | cons a l ih =>
    obtain ⟨u, hn, hm⟩ := ih
    by_cases ha : a ∈ u
    · exact ⟨u, hn, fun x => by
        rw [hm, List.mem_cons]
        exact ⟨fun h => .inr h, fun h => h.elim (fun e => e ▸ (hm a).1 ha) id⟩⟩
    · exact ⟨a :: u, List.nodup_cons.2 ⟨ha, hn⟩, fun x => by rw [List.mem_cons, List.mem_cons, hm]⟩
theorem cx_val_list [Mul (cx_S Nat)] [One (cx_S Nat)] [Add (cx_S Nat)] [Zero (cx_S Nat)] [Inhabited (cx_Idx Nat)] [Inhabited (PLift cx_Natl)] {B : Type} [Zero B] [Add B] [Mul (cx_S B)] [One (cx_S B)] [Add (cx_S B)] [Zero (cx_S B)] [Inhabited (cx_Idx B)] {U : List B} (hn : U.Nodup) (y : B → Rat) (l : List (Rat × B)) (h : ∀ x ∈ l, x.2 ∈ U) : cx_val y l = cx_sm U (fun b => cx_ser l b * y b) := by
  classical
  induction l with
  | nil => show (0 : Rat) = _; exact (cx_sm_zero (fun b _ => by show (0 : Rat) * _ = 0; grind)).symm
  | cons x l ih =>
    have ih := ih (fun z hz => h z (by simp [hz]))
    show x.1 * y x.2 + cx_val y l = _
    rw [ih]
    have e1 : cx_sm U (fun b => cx_ser (x :: l) b * y b) = cx_sm U (fun b => cx_cm x.1 x.2 b * y b) + cx_sm U (fun b => cx_ser l b * y b) := by
      rw [← cx_sm_add]
      exact cx_sm_congr (fun b _ => by show (cx_cm x.1 x.2 b + cx_ser l b) * y b = _; grind)
    have e2 : ∀ U : List B, U.Nodup → x.2 ∈ U → cx_sm U (fun b => cx_cm x.1 x.2 b * y b) = x.1 * y x.2 := by
      intro U
      induction U with
      | nil => intro _ h; simp at h
      | cons a U ihU =>
        intro hn hm
        rw [List.nodup_cons] at hn
        rw [cx_sm_cons]
        by_cases ha : x.2 = a
        · have e3 : cx_sm U (fun b => cx_cm x.1 x.2 b * y b) = 0 := cx_sm_zero (fun b hb => by
            unfold cx_cm
            rw [if_neg (fun e : x.2 = b => hn.1 (by rw [← ha, e]; exact hb))]; grind)
          rw [e3]
          unfold cx_cm
          rw [if_pos ha, ha]; grind
        · have hm2 : x.2 ∈ U := by
            rcases List.mem_cons.1 hm with h | h
            · exact absurd h ha
            · exact h
          rw [ihU hn.2 hm2]
          unfold cx_cm
          rw [if_neg ha]; grind
    rw [e1, e2 U hn (h x (by simp))]
theorem cx_val_ser [Mul (cx_S Nat)] [One (cx_S Nat)] [Add (cx_S Nat)] [Zero (cx_S Nat)] [Inhabited (cx_Idx Nat)] [Inhabited (PLift cx_Natl)] {B : Type} [Zero B] [Add B] [Mul (cx_S B)] [One (cx_S B)] [Add (cx_S B)] [Zero (cx_S B)] [Inhabited (cx_Idx B)] (y : B → Rat) {l l' : List (Rat × B)} (h : cx_ser l = cx_ser l') : cx_val y l = cx_val y l' := by
  obtain ⟨U, hn, hm⟩ := cx_nodup_list ((l ++ l').map (·.2))
  rw [cx_val_list hn y l (fun x hx => (hm _).2 (List.mem_map.2 ⟨x, by simp [hx], rfl⟩)), cx_val_list hn y l' (fun x hx => (hm _).2 (List.mem_map.2 ⟨x, by simp [hx], rfl⟩)), h]
abbrev cx_RR [Mul (cx_S Nat)] [One (cx_S Nat)] [Add (cx_S Nat)] [Zero (cx_S Nat)] [Inhabited (cx_Idx Nat)] [Inhabited (PLift cx_Natl)] {B : Type} [Zero B] [Add B] [Mul (cx_S B)] [One (cx_S B)] [Add (cx_S B)] [Zero (cx_S B)] [Inhabited (cx_Idx B)] {ι : Type} (y : ι → B → Rat) (f : cx_S B) (v : ι → Rat) : Prop := Nonempty (∃ P Q : List (Rat × B), cx_Nn P ∧ cx_Nn Q ∧ cx_Nz Q ∧ f * cx_ser Q = cx_ser P ∧ ∀ i, v i * cx_val (y i) Q = cx_val (y i) P)
theorem cx_RR.ex [Mul (cx_S Nat)] [One (cx_S Nat)] [Add (cx_S Nat)] [Zero (cx_S Nat)] [Inhabited (cx_Idx Nat)] [Inhabited (PLift cx_Natl)] {B : Type} [Zero B] [Add B] [Mul (cx_S B)] [One (cx_S B)] [Add (cx_S B)] [Zero (cx_S B)] [Inhabited (cx_Idx B)] {ι : Type} {y : ι → B → Rat} {f : cx_S B} {v : ι → Rat} (hh_ : cx_RR y f v) : ∃ P Q : List (Rat × B), cx_Nn P ∧ cx_Nn Q ∧ cx_Nz Q ∧ f * cx_ser Q = cx_ser P ∧ ∀ i, v i * cx_val (y i) Q = cx_val (y i) P := hh_.elim id
abbrev cx_Mul1 [Mul (cx_S Nat)] [One (cx_S Nat)] [Add (cx_S Nat)] [Zero (cx_S Nat)] [Inhabited (cx_Idx Nat)] [Inhabited (PLift cx_Natl)] {B : Type} [Zero B] [Add B] [Mul (cx_S B)] [One (cx_S B)] [Add (cx_S B)] [Zero (cx_S B)] [Inhabited (cx_Idx B)] {ι : Type} (y : ι → B → Rat) : Prop := (∀ i a b, y i (a + b) = y i a * y i b) ∧ (∀ i a, 0 < y i a)
theorem cx_Mul1.add [Mul (cx_S Nat)] [One (cx_S Nat)] [Add (cx_S Nat)] [Zero (cx_S Nat)] [Inhabited (cx_Idx Nat)] [Inhabited (PLift cx_Natl)] {B : Type} [Zero B] [Add B] [Mul (cx_S B)] [One (cx_S B)] [Add (cx_S B)] [Zero (cx_S B)] [Inhabited (cx_Idx B)] {ι : Type} {y : ι → B → Rat} (hh_ : cx_Mul1 y) : ∀ i a b, y i (a + b) = y i a * y i b := hh_.1
theorem cx_Mul1.pos [Mul (cx_S Nat)] [One (cx_S Nat)] [Add (cx_S Nat)] [Zero (cx_S Nat)] [Inhabited (cx_Idx Nat)] [Inhabited (PLift cx_Natl)] {B : Type} [Zero B] [Add B] [Mul (cx_S B)] [One (cx_S B)] [Add (cx_S B)] [Zero (cx_S B)] [Inhabited (cx_Idx B)] {ι : Type} {y : ι → B → Rat} (hh_ : cx_Mul1 y) : ∀ i a, 0 < y i a := hh_.2
theorem cx_Mul1.zero [Mul (cx_S Nat)] [One (cx_S Nat)] [Add (cx_S Nat)] [Zero (cx_S Nat)] [Inhabited (cx_Idx Nat)] [Inhabited (PLift cx_Natl)] {B : Type} [Zero B] [Add B] [Mul (cx_S B)] [One (cx_S B)] [Add (cx_S B)] [Zero (cx_S B)] [Inhabited (cx_Idx B)] {ι : Type} {y : ι → B → Rat} (h : cx_Mul1 y) (i : ι) : y i 0 = 1 := by
  have h1 := h.add i 0 0
  rw [cx_addZ] at h1
  have h2 := h.pos i 0
  refine cx_canc_pos h2 ?_
  grind
theorem cx_RR.one [Mul (cx_S Nat)] [One (cx_S Nat)] [Add (cx_S Nat)] [Zero (cx_S Nat)] [Inhabited (cx_Idx Nat)] [Inhabited (PLift cx_Natl)] {B : Type} [Zero B] [Add B] [Mul (cx_S B)] [One (cx_S B)] [Add (cx_S B)] [Zero (cx_S B)] [Inhabited (cx_Idx B)] {ι : Type} {y : ι → B → Rat} (hy : cx_Mul1 y) : cx_RR y (1 : cx_S B) (fun _ => 1) := by
  classical
  have e : cx_ser [((1 : Rat), (0 : B))] = 1 := by
    refine cx_S.ext (fun b => ?_)
    show cx_cm 1 0 b + (0 : Rat) = (1 : cx_S B) b
    unfold cx_cm
    by_cases hb : b = 0
    · rw [if_pos hb.symm, hb, cx_one_zero]; grind
    · rw [if_neg (fun e => hb e.symm), cx_one_ne hb]; grind
  refine ⟨[(1, 0)], [(1, 0)], ?_, ?_, ⟨(1, 0), by simp, by show (0 : Rat) < 1; grind⟩, ?_, fun i => by grind⟩
  · intro x hx; have : x = (1, 0) := by simpa using hx
    subst this; show (0 : Rat) ≤ 1; grind
  · intro x hx; have : x = (1, 0) := by simpa using hx
    subst this; show (0 : Rat) ≤ 1; grind
  · rw [e, cx_mul1]
theorem cx_RR.mul [Mul (cx_S Nat)] [One (cx_S Nat)] [Add (cx_S Nat)] [Zero (cx_S Nat)] [Inhabited (cx_Idx Nat)] [Inhabited (PLift cx_Natl)] {B : Type} [Zero B] [Add B] [Mul (cx_S B)] [One (cx_S B)] [Add (cx_S B)] [Zero (cx_S B)] [Inhabited (cx_Idx B)] {ι : Type} {y : ι → B → Rat} (hy : cx_Mul1 y) {f f' : cx_S B} {v v' : ι → Rat} (h : cx_RR y f v) (h' : cx_RR y f' v') : cx_RR y (f * f') (fun i => v i * v' i) := by
  obtain ⟨P, Q, p1, q1, z1, e1, w1⟩ := h.ex
  obtain ⟨P', Q', p2, q2, z2, e2, w2⟩ := h'.ex
  refine ⟨cx_pm P P', cx_pm Q Q', p1.pm p2, q1.pm q2, z1.pm z2, ?_, fun i => ?_⟩
  · rw [cx_ser_pm, cx_ser_pm, ← e1, ← e2, cx_mulA, cx_mulA, ← cx_mulA f', cx_mulC f' (cx_ser Q), cx_mulA (cx_ser Q)]
  · rw [cx_val_pm (hy.add i), cx_val_pm (hy.add i), ← w1 i, ← w2 i]; grind
theorem cx_RR.congr [Mul (cx_S Nat)] [One (cx_S Nat)] [Add (cx_S Nat)] [Zero (cx_S Nat)] [Inhabited (cx_Idx Nat)] [Inhabited (PLift cx_Natl)] {B : Type} [Zero B] [Add B] [Mul (cx_S B)] [One (cx_S B)] [Add (cx_S B)] [Zero (cx_S B)] [Inhabited (cx_Idx B)] {ι : Type} {y : ι → B → Rat} {f f' : cx_S B} {v v' : ι → Rat} (h : cx_RR y f v) (hf : f = f') (hv : ∀ i, v i = v' i) : cx_RR y f' v' := by
  subst hf
  have : v = v' := funext hv
  subst this
  exact h
theorem cx_RR.plus [Mul (cx_S Nat)] [One (cx_S Nat)] [Add (cx_S Nat)] [Zero (cx_S Nat)] [Inhabited (cx_Idx Nat)] [Inhabited (PLift cx_Natl)] {B : Type} [Zero B] [Add B] [Mul (cx_S B)] [One (cx_S B)] [Add (cx_S B)] [Zero (cx_S B)] [Inhabited (cx_Idx B)] {ι : Type} {y : ι → B → Rat} (hy : cx_Mul1 y) {F : cx_S B} {v : ι → Rat} (h : cx_RR y F v) (k : B) : cx_RR y (1 + cx_mon k * F) (fun i => 1 + y i k * v i) ∧
    ∀ A : cx_S B, (1 + cx_mon k * F) * A = 1 → cx_RR y A (fun i => (1 + y i k * v i)⁻¹) := by
  classical
  obtain ⟨P, Q, p1, q1, z1, e1, w1⟩ := h.ex
  have ecm : cx_cm 1 k = (cx_mon k : cx_S B) := by
    refine cx_S.ext (fun b => ?_); unfold cx_cm cx_mon
    by_cases hb : k = b
    · rw [if_pos hb, if_pos hb.symm]
    · rw [if_neg hb, if_neg (fun e => hb e.symm)]
  have nsh : cx_Nn (cx_sh (1, k) P) := cx_Nn.sh (by show (0 : Rat) ≤ 1; grind) p1
  have es : cx_ser (Q ++ cx_sh (1, k) P) = (1 + cx_mon k * F) * cx_ser Q := by
    rw [cx_ser_app, cx_ser_sh, ecm, ← e1, cx_mulD', cx_one_mul', cx_mulA]
  have cx_ev : ∀ i, cx_val (y i) (Q ++ cx_sh (1, k) P) = (1 + y i k * v i) * cx_val (y i) Q := fun i => by
    rw [cx_val_app, cx_val_sh (hy.add i), ← w1 i]; show _ + 1 * y i k * _ = _; grind
  refine ⟨⟨Q ++ cx_sh (1, k) P, Q, q1.app nsh, q1, z1, es.symm, fun i => (cx_ev i).symm⟩, fun A hA => ?_⟩
  refine ⟨Q, Q ++ cx_sh (1, k) P, q1, q1.app nsh, z1.app, ?_, fun i => ?_⟩
  · rw [es, ← cx_mulA, cx_mulC A, hA, cx_one_mul']
  · rw [cx_ev i]
    have hq := cx_val_pos (hy.pos i) q1 z1
    have hp := cx_val_nonneg (hy.pos i) p1
    have hv : 0 ≤ v i := by
      by_cases hn : 0 ≤ v i
      · exact hn
      · have := Rat.mul_pos (by grind : 0 < - v i) hq
        have := w1 i
        grind
    have h1 := Rat.mul_nonneg (by have := hy.pos i k; grind : 0 ≤ y i k) hv
    have h2 : (1 + y i k * v i)⁻¹ * (1 + y i k * v i) = 1 := Rat.inv_mul_cancel _ (by grind)
    grind
theorem cx_RR.finite [Mul (cx_S Nat)] [One (cx_S Nat)] [Add (cx_S Nat)] [Zero (cx_S Nat)] [Inhabited (cx_Idx Nat)] [Inhabited (PLift cx_Natl)] {B : Type} [Zero B] [Add B] [Mul (cx_S B)] [One (cx_S B)] [Add (cx_S B)] [Zero (cx_S B)] [Inhabited (cx_Idx B)] {ι : Type} {y : ι → B → Rat} (hy : cx_Mul1 y) {f : cx_S B} {v : ι → Rat} (h : cx_RR y f v) (h0 : ∀ b, 0 ≤ f b) : ∃ U : List B, U.Nodup ∧ (∀ b, f b ≠ 0 → b ∈ U) ∧ ∀ i, v i = cx_sm U (fun b => f b * y i b) := by
  classical
  obtain ⟨P, Q, p1, q1, z1, e1, w1⟩ := h.ex
  obtain ⟨c, hc⟩ := cx_ser_pos q1 z1

  have hin : ∀ b, f b ≠ 0 → cx_ser P (b + c) ≠ 0 := by
    intro b hb
    have e := congrFun e1 (b + c)
    have e2 : (f * cx_ser Q) (b + c) = cx_sm (cx_dec (b + c)) (fun x => f x.1 * cx_ser Q x.2) := cx_mul_def _ _ _
    rw [← e, e2]
    have hm : (b, c) ∈ cx_dec (b + c) := (cx_mem_dec _ _ _).2 rfl
    have hge : ∀ l : List (B × B), (b, c) ∈ l → f b * cx_ser Q c ≤ cx_sm l (fun x => f x.1 * cx_ser Q x.2) := by
      intro l
      induction l with
      | nil => intro h; simp at h
      | cons x l ih =>
        intro hx
        rw [cx_sm_cons]
        have hx0 : 0 ≤ f x.1 * cx_ser Q x.2 := Rat.mul_nonneg (h0 _) (cx_ser_nonneg q1 _)
        have hl0 : 0 ≤ cx_sm l (fun x => f x.1 * cx_ser Q x.2) := cx_sm_nonneg (fun z _ => Rat.mul_nonneg (h0 _) (cx_ser_nonneg q1 _))
        rcases List.mem_cons.1 hx with rfl | hx
        · grind
        · have := ih hx; grind
    have := hge _ hm
    have h2 := Rat.mul_pos (by have := h0 b; grind : 0 < f b) hc
    grind
  have ex : ∃ U : List B, U.Nodup ∧ ∀ b, f b ≠ 0 → b ∈ U := by
    obtain ⟨U, hU, hmU⟩ := cx_nodup_list ((P.map (·.2)).flatMap fun x => (cx_dec x).map (·.1))
    refine ⟨U, hU, fun b hb => (hmU b).2 ?_⟩
    exact List.mem_flatMap.2 ⟨b + c, cx_ser_mem (hin b hb), List.mem_map.2 ⟨(b, c), (cx_mem_dec _ _ _).2 rfl, rfl⟩⟩
  obtain ⟨U, hU, hmU⟩ := ex
  refine ⟨U, hU, hmU, fun i => ?_⟩
  let L : List (Rat × B) := U.map fun b => (f b, b)
  have esL : cx_ser L = f := by
    have key : ∀ U : List B, U.Nodup → ∀ b, cx_ser (U.map fun b => (f b, b)) b = if b ∈ U then f b else 0 := by
      intro U
      induction U with
      | nil => intro _ b; rw [if_neg (by simp)]; rfl
      | cons a U ih =>
        intro hn b
        rw [List.nodup_cons] at hn
        show cx_cm (f a) a b + cx_ser (U.map fun b => (f b, b)) b = _
        rw [ih hn.2 b]
        unfold cx_cm
        by_cases hab : a = b
        · subst hab
          rw [if_pos rfl, if_neg hn.1, if_pos (by simp)]; grind
        · rw [if_neg hab]
          by_cases hb : b ∈ U
          · rw [if_pos hb, if_pos (by simp [hb])]; grind
          · rw [if_neg hb, if_neg (by simp [hb]; exact fun e => hab e.symm)]; grind
    refine cx_S.ext (fun b => ?_)
    show cx_ser (U.map fun b => (f b, b)) b = f b
    rw [key U hU b]
    by_cases hb : b ∈ U
    · rw [if_pos hb]
    · rw [if_neg hb]
      exact Classical.byContradiction (fun h => hb (hmU b (fun e => h e.symm)))
  have e2 : cx_ser (cx_pm L Q) = cx_ser P := by rw [cx_ser_pm, esL, e1]
  have e3 := cx_val_ser (y i) e2
  rw [cx_val_pm (hy.add i), ← w1 i] at e3
  have hq := cx_val_pos (hy.pos i) q1 z1
  have e4 := cx_canc_pos hq e3
  rw [← e4]
  show cx_sm (U.map fun b => (f b, b)) _ = _
  rw [cx_sm_map]
def cx_tN [Mul (cx_S Nat)] [One (cx_S Nat)] [Add (cx_S Nat)] [Zero (cx_S Nat)] [Inhabited (cx_Idx Nat)] [Inhabited (PLift cx_Natl)] {n : Nat} [Zero (cx_Ex n)] [Add (cx_Ex n)] [Mul (cx_S (cx_Ex n))] [One (cx_S (cx_Ex n))] [Add (cx_S (cx_Ex n))] [Zero (cx_S (cx_Ex n))] [Inhabited (cx_Idx (cx_Ex n))] [Inhabited (PLift (cx_Exl n))] [∀ s : cx_Sd n, Add (cx_MM s)] [∀ s : cx_Sd n, Inhabited (PLift (cx_MGl (cx_MM s)))] [∀ s : cx_Sd n, Inhabited (cx_Tord (cx_Ex n) (cx_MM s))] [Inhabited (PLift (cx_MMl n))] (ρ : Fin n → Nat) (k : Fin n) (N : Nat) (b : cx_Ex n) : cx_Ex n := cx_dn b k (cx_rw_ ρ b + N - b k)
theorem cx_ser_conv [Mul (cx_S Nat)] [One (cx_S Nat)] [Add (cx_S Nat)] [Zero (cx_S Nat)] [Inhabited (cx_Idx Nat)] [Inhabited (PLift cx_Natl)] {n : Nat} [Zero (cx_Ex n)] [Add (cx_Ex n)] [Mul (cx_S (cx_Ex n))] [One (cx_S (cx_Ex n))] [Add (cx_S (cx_Ex n))] [Zero (cx_S (cx_Ex n))] [Inhabited (cx_Idx (cx_Ex n))] [Inhabited (PLift (cx_Exl n))] [∀ s : cx_Sd n, Add (cx_MM s)] [∀ s : cx_Sd n, Inhabited (PLift (cx_MGl (cx_MM s)))] [∀ s : cx_Sd n, Inhabited (cx_Tord (cx_Ex n) (cx_MM s))] [Inhabited (PLift (cx_MMl n))] (f : cx_S (cx_Ex n)) (l : List (Rat × cx_Ex n)) (b : cx_Ex n) : (f * cx_ser l) b = cx_sm l (fun x => @dite _ (∃ u, u + x.2 = b) (Classical.propDecidable _) (fun h => x.1 * f (Classical.choose h)) (fun _ => 0)) := by
  classical
  induction l with
  | nil => rw [cx_ser_nil, cx_smul_zero, cx_zero_def]; rfl
  | cons x l ih =>
    rw [cx_ser_cons, cx_mulD, cx_add_def, ih, cx_sm_cons]
    congr 1
    rw [cx_mul_D]
    by_cases h : ∃ u, u + x.2 = b
    · rw [dif_pos h]
      have hu := Classical.choose_spec h
      generalize Classical.choose h = u at hu
      subst hu
      have e : cx_D (u + x.2) (fun w v => f w * cx_cm x.1 x.2 v) = cx_D (u + x.2) (fun w v => if v = x.2 then x.1 * f u else 0) := by
        refine cx_D_congr (fun w v hwv => ?_)
        unfold cx_cm
        by_cases hv : v = x.2
        · have : w = u := by
            rw [hv] at hwv
            rw [cx_addC w, cx_addC u] at hwv
            exact cx_canc _ _ _ hwv
          rw [if_pos hv.symm, if_pos hv, this]; grind
        · rw [if_neg (fun e => hv e.symm), if_neg hv]; grind
      rw [e]
      have e2 : cx_D (u + x.2) (fun w v => if v = x.2 then x.1 * f u else 0) = cx_D (u + x.2) (fun w v => x.1 * f u * (cx_mon u w * cx_mon x.2 v)) := by
        refine cx_D_congr (fun w v hwv => ?_)
        unfold cx_mon
        by_cases hv : v = x.2
        · have : w = u := by
            rw [hv] at hwv
            rw [cx_addC w, cx_addC u] at hwv
            exact cx_canc _ _ _ hwv
          rw [if_pos hv, if_pos this, if_pos hv]; grind
        · rw [if_neg hv, if_neg hv]; grind
      rw [e2, cx_D_mulL, ← cx_mul_D, cx_mon_mul]
      unfold cx_mon
      rw [if_pos rfl]; grind
    · rw [dif_neg h]
      refine cx_D_zero (fun w v hwv => ?_)
      unfold cx_cm
      rw [if_neg (fun e => h ⟨w, by rw [e]; exact hwv⟩)]; grind
theorem cx_conv_some [Mul (cx_S Nat)] [One (cx_S Nat)] [Add (cx_S Nat)] [Zero (cx_S Nat)] [Inhabited (cx_Idx Nat)] [Inhabited (PLift cx_Natl)] {n : Nat} [Zero (cx_Ex n)] [Add (cx_Ex n)] [Mul (cx_S (cx_Ex n))] [One (cx_S (cx_Ex n))] [Add (cx_S (cx_Ex n))] [Zero (cx_S (cx_Ex n))] [Inhabited (cx_Idx (cx_Ex n))] [Inhabited (PLift (cx_Exl n))] [∀ s : cx_Sd n, Add (cx_MM s)] [∀ s : cx_Sd n, Inhabited (PLift (cx_MGl (cx_MM s)))] [∀ s : cx_Sd n, Inhabited (cx_Tord (cx_Ex n) (cx_MM s))] [Inhabited (PLift (cx_MMl n))] {f : cx_S (cx_Ex n)} {x : Rat × cx_Ex n} {b u : cx_Ex n} (h : u + x.2 = b) : (@dite _ (∃ u, u + x.2 = b) (Classical.propDecidable _) (fun h => x.1 * f (Classical.choose h)) (fun _ => 0)) = x.1 * f u := by
  classical
  have hex : ∃ u, u + x.2 = b := ⟨u, h⟩
  rw [dif_pos hex]
  have hu := Classical.choose_spec hex
  have : Classical.choose hex = u := by
    have e := hu.trans h.symm
    rw [cx_addC _ x.2, cx_addC u] at e
    exact cx_canc _ _ _ e
  rw [this]
theorem cx_ser_at [Mul (cx_S Nat)] [One (cx_S Nat)] [Add (cx_S Nat)] [Zero (cx_S Nat)] [Inhabited (cx_Idx Nat)] [Inhabited (PLift cx_Natl)] {n : Nat} [Zero (cx_Ex n)] [Add (cx_Ex n)] [Mul (cx_S (cx_Ex n))] [One (cx_S (cx_Ex n))] [Add (cx_S (cx_Ex n))] [Zero (cx_S (cx_Ex n))] [Inhabited (cx_Idx (cx_Ex n))] [Inhabited (PLift (cx_Exl n))] [∀ s : cx_Sd n, Add (cx_MM s)] [∀ s : cx_Sd n, Inhabited (PLift (cx_MGl (cx_MM s)))] [∀ s : cx_Sd n, Inhabited (cx_Tord (cx_Ex n) (cx_MM s))] [Inhabited (PLift (cx_MMl n))] (l : List (Rat × cx_Ex n)) (b : cx_Ex n) : cx_ser l b = cx_sm l (fun x => @ite _ (x.2 = b) (Classical.propDecidable _) x.1 0) := by
  induction l with
  | nil => rfl
  | cons x l ih => rw [cx_ser_cons, cx_add_def, ih]; rfl
theorem cx_RR.back [Mul (cx_S Nat)] [One (cx_S Nat)] [Add (cx_S Nat)] [Zero (cx_S Nat)] [Inhabited (cx_Idx Nat)] [Inhabited (PLift cx_Natl)] {n : Nat} {ι : Type} [Zero (cx_Ex n)] [Add (cx_Ex n)] [Mul (cx_S (cx_Ex n))] [One (cx_S (cx_Ex n))] [Add (cx_S (cx_Ex n))] [Zero (cx_S (cx_Ex n))] [Inhabited (cx_Idx (cx_Ex n))] [Inhabited (PLift (cx_Exl n))] [∀ s : cx_Sd n, Add (cx_MM s)] [∀ s : cx_Sd n, Inhabited (PLift (cx_MGl (cx_MM s)))] [∀ s : cx_Sd n, Inhabited (cx_Tord (cx_Ex n) (cx_MM s))] [Inhabited (PLift (cx_MMl n))] {s : cx_Sd n} {k : Fin n} {ρ : Fin n → Nat} (hρ : cx_Rho s k ρ) {F : cx_MM s → cx_S (cx_Ex n)} (sF : cx_Sup (cx_Sv (cx_dl k) (cx_vv ρ k)) F) (uF : ∀ m, F m 0 = 1) (m : cx_MM (cx_turn s k)) {y y' : ι → cx_Ex n → Rat} (hy : cx_Mul1 y)
    (hyy : ∀ i N a, a k ≤ cx_rw_ ρ a + N → y i (cx_tN ρ k N a) = y i (cx_nsm N (cx_ee k)) * y' i a) {v : ι → Rat} (h : cx_RR y' (cx_trS s k ρ F m) v) : cx_RR y (F (cx_mu (cx_turn s k) s k ρ m)) v := by
  classical
  obtain ⟨P, Q, p1, q1, z1, e1, w1⟩ := h.ex
  let f' := cx_trS s k ρ F m
  let f := F (cx_mu (cx_turn s k) s k ρ m)

  obtain ⟨N, hN⟩ : ∃ N, ∀ x ∈ P ++ Q, x.2 k ≤ N := by
    generalize P ++ Q = l
    induction l with
    | nil => exact ⟨0, fun x hx => by simp at hx⟩
    | cons z l ih =>
      obtain ⟨N, hN⟩ := ih
      exact ⟨max N (z.2 k), fun x hx => by
        rcases List.mem_cons.1 hx with rfl | hx
        · exact Nat.le_max_right _ _
        · exact Nat.le_trans (hN x hx) (Nat.le_max_left _ _)⟩
  have lift : ∀ x ∈ P ++ Q, x.2 k ≤ cx_rw_ ρ x.2 + N := fun x hx => by have := hN x hx; omega
  let tl : List (Rat × cx_Ex n) → List (Rat × cx_Ex n) := fun l => l.map fun x => (x.1, cx_tN ρ k N x.2)
  have nn : ∀ {l}, cx_Nn l → cx_Nn (tl l) := fun hl x hx => by
    obtain ⟨z, hz, rfl⟩ := List.mem_map.1 hx
    exact hl z hz
  have nzl : cx_Nz (tl Q) := by
    obtain ⟨x, hx, hp⟩ := z1
    exact ⟨_, List.mem_map.2 ⟨x, hx, rfl⟩, hp⟩
  have cx_vl : ∀ (l : List (Rat × cx_Ex n)), (∀ x ∈ l, x ∈ P ++ Q) → ∀ i, cx_val (y i) (tl l) = y i (cx_nsm N (cx_ee k)) * cx_val (y' i) l := by
    intro l hl i
    unfold cx_val
    show cx_sm (l.map fun x => (x.1, cx_tN ρ k N x.2)) _ = _
    rw [cx_sm_map, ← cx_sm_mulL]
    exact cx_sm_congr (fun x hx => by rw [hyy i N x.2 (lift x (hl x hx))]; grind)
  refine ⟨tl P, tl Q, nn p1, nn q1, nzl, ?_, fun i => ?_⟩
  · refine cx_S.ext (fun b => ?_)
    rw [cx_ser_conv, cx_ser_at]
    show cx_sm (Q.map fun x => (x.1, cx_tN ρ k N x.2)) _ = cx_sm (P.map fun x => (x.1, cx_tN ρ k N x.2)) _
    rw [cx_sm_map, cx_sm_map]
    by_cases hb : b k ≤ cx_rw_ ρ b + N
    ·
      let b' := cx_tN ρ k N b
      have hb'k : b' k = cx_rw_ ρ b + N - b k := cx_dn_k _ _ _
      have e := congrFun e1 b'
      rw [cx_ser_conv, cx_ser_at] at e
      refine Eq.trans ?_ (Eq.trans e ?_)
      · refine cx_sm_congr (fun x hx => ?_)
        have hx' := lift x (by simp [hx])
        by_cases hu : ∃ u, u + cx_tN ρ k N x.2 = b
        · obtain ⟨u, hu⟩ := hu
          rw [cx_conv_some (x := (x.1, cx_tN ρ k N x.2)) (f := f) hu]
          have huk : u k + (cx_rw_ ρ x.2 + N - x.2 k) = b k := by
            have := congrFun hu k
            rw [cx_ex_add] at this
            unfold cx_tN at this
            rw [cx_dn_k] at this
            exact this
          have hui : ∀ i, i ≠ k → u i + x.2 i = b i := fun i hi => by
            have := congrFun hu i
            rw [cx_ex_add] at this
            unfold cx_tN at this
            rw [cx_dn_ne _ _ hi] at this
            exact this
          have hrw : cx_rw_ ρ u + cx_rw_ ρ x.2 = cx_rw_ ρ b := by
            rw [← cx_rw_add]
            have : cx_rw_ ρ (u + x.2) = cx_rw_ ρ (cx_dn (u + x.2) k (b k)) := (cx_rw_dn hρ.k0 _ _).symm
            rw [this]
            congr 1
            funext i
            by_cases hi : i = k
            · subst hi; exact cx_dn_k _ _ _
            · rw [cx_dn_ne _ _ hi, cx_ex_add]; exact hui i hi
          by_cases huu : u k ≤ cx_rw_ ρ u
          ·
            have hsum : cx_th ρ k u + x.2 = b' := by
              funext i
              rw [cx_ex_add]
              unfold cx_th
              by_cases hi : i = k
              · subst hi; rw [cx_dn_k, hb'k]; omega
              · rw [cx_dn_ne _ _ hi]
                show u i + x.2 i = cx_dn b k _ i
                rw [cx_dn_ne _ _ hi]; exact hui i hi
            rw [cx_conv_some (x := x) (f := f') hsum]
            congr 1
            show F (cx_mu (cx_turn s k) s k ρ m) u = cx_trS s k ρ F m (cx_th ρ k u)
            by_cases hu0 : u = 0
            · rw [hu0, uF, (cx_trn hρ).z0, cx_trS_zero]
            · by_cases hd : 0 < cx_dl k u
              · have hS : cx_Sv (cx_dl k) (cx_vv ρ k) u := (cx_sv_iff ρ k u).2 ⟨hd, huu⟩
                rw [cx_trS_in hρ F m (cx_th_sv hρ.k0 hS), cx_th_th hρ.k0 huu]
              · exfalso
                have hd0 : cx_dl k u = 0 := by have := (cx_kd s k).dl0 u; grind
                obtain ⟨j, rfl⟩ := (cx_kd s k).ray u hd0
                have h1 : cx_rw_ ρ (cx_nsm j (cx_ee k)) = 0 := by
                  unfold cx_rw_
                  refine cx_nsum_zero (fun i => ?_)
                  rw [cx_ray_at]
                  by_cases hi : i = k
                  · subst hi; rw [hρ.k0]; omega
                  · rw [if_neg hi]; omega
                rw [h1, cx_ray_at, if_pos rfl] at huu
                have : j = 0 := by omega
                subst this
                exact hu0 rfl
          ·
            have hz : F (cx_mu (cx_turn s k) s k ρ m) u = 0 := sF _ u (fun e => huu (by rw [e, cx_rw_zero, cx_ex_zero]; omega)) (fun hS => huu ((cx_sv_iff ρ k u).1 hS).2)
            show x.1 * F (cx_mu (cx_turn s k) s k ρ m) u = _
            rw [hz, Rat.mul_zero]
            symm
            by_cases hu' : ∃ u', u' + x.2 = b'
            · exfalso
              obtain ⟨u', hu'⟩ := hu'
              have := congrFun hu' k
              rw [cx_ex_add, hb'k] at this
              omega
            · rw [dif_neg hu']
        · rw [dif_neg hu]
          symm
          by_cases hu' : ∃ u', u' + x.2 = b'
          · obtain ⟨u', hu'⟩ := hu'
            rw [cx_conv_some (x := x) (f := f') hu']
            have huk : u' k + x.2 k = cx_rw_ ρ b + N - b k := by
              have := congrFun hu' k
              rw [cx_ex_add, hb'k] at this
              exact this
            have hui : ∀ i, i ≠ k → u' i + x.2 i = b i := fun i hi => by
              have := congrFun hu' i
              rw [cx_ex_add] at this
              rw [this]; exact cx_dn_ne _ _ hi
            have hrw : cx_rw_ ρ u' + cx_rw_ ρ x.2 = cx_rw_ ρ b := by
              rw [← cx_rw_add]
              have : cx_rw_ ρ (u' + x.2) = cx_rw_ ρ (cx_dn (u' + x.2) k (b k)) := (cx_rw_dn hρ.k0 _ _).symm
              rw [this]
              congr 1
              funext i
              by_cases hi : i = k
              · subst hi; exact cx_dn_k _ _ _
              · rw [cx_dn_ne _ _ hi, cx_ex_add]; exact hui i hi
            have hno : ¬ u' k ≤ cx_rw_ ρ u' := fun hle => hu ⟨cx_th ρ k u', by
              funext i
              rw [cx_ex_add]
              unfold cx_th cx_tN
              by_cases hi : i = k
              · subst hi; rw [cx_dn_k, cx_dn_k]; omega
              · rw [cx_dn_ne _ _ hi, cx_dn_ne _ _ hi]; exact hui i hi⟩
            have hz : cx_trS s k ρ F m u' = 0 := cx_trS_out F m (fun e => hno (by rw [e, cx_rw_zero, cx_ex_zero]; omega)) (fun hS => hno ((cx_sv_iff ρ k u').1 hS).2)
            show x.1 * cx_trS s k ρ F m u' = 0
            rw [hz, Rat.mul_zero]
          · rw [dif_neg hu']
      · refine cx_sm_congr (fun x hx => ?_)
        have hx' := lift x (by simp [hx])
        by_cases he : x.2 = b'
        · rw [if_pos he, if_pos]
          show cx_tN ρ k N x.2 = b
          rw [he]
          unfold b' cx_tN
          rw [cx_dn_dn, cx_rw_dn hρ.k0, cx_dn_k, show cx_rw_ ρ b + N - (cx_rw_ ρ b + N - b k) = b k by omega, cx_dn_self]
        · rw [if_neg he, if_neg]
          intro e
          apply he
          have e : cx_tN ρ k N x.2 = b := e
          unfold b'
          rw [← e]
          unfold cx_tN
          rw [cx_dn_dn, cx_rw_dn hρ.k0, cx_dn_k, show cx_rw_ ρ x.2 + N - (cx_rw_ ρ x.2 + N - x.2 k) = x.2 k by omega, cx_dn_self]
    · rw [cx_sm_zero (fun x hx => ?_), cx_sm_zero (fun x hx => ?_)]
      · rw [if_neg]
        intro e
        have e : cx_tN ρ k N x.2 = b := e
        apply hb
        rw [← e]
        unfold cx_tN
        rw [cx_rw_dn hρ.k0, cx_dn_k]; omega
      · have hx' := lift x (by simp [hx])
        by_cases hu : ∃ u, u + cx_tN ρ k N x.2 = b
        · obtain ⟨u, hu⟩ := hu
          rw [cx_conv_some (x := (x.1, cx_tN ρ k N x.2)) (f := f) hu]
          have huk : u k + (cx_rw_ ρ x.2 + N - x.2 k) = b k := by
            have := congrFun hu k
            rw [cx_ex_add] at this
            unfold cx_tN at this
            rw [cx_dn_k] at this
            exact this
          have hui : ∀ i, i ≠ k → u i + x.2 i = b i := fun i hi => by
            have := congrFun hu i
            rw [cx_ex_add] at this
            unfold cx_tN at this
            rw [cx_dn_ne _ _ hi] at this
            exact this
          have hrw : cx_rw_ ρ u + cx_rw_ ρ x.2 = cx_rw_ ρ b := by
            rw [← cx_rw_add]
            have : cx_rw_ ρ (u + x.2) = cx_rw_ ρ (cx_dn (u + x.2) k (b k)) := (cx_rw_dn hρ.k0 _ _).symm
            rw [this]
            congr 1
            funext i
            by_cases hi : i = k
            · subst hi; exact cx_dn_k _ _ _
            · rw [cx_dn_ne _ _ hi, cx_ex_add]; exact hui i hi
          have hz : F (cx_mu (cx_turn s k) s k ρ m) u = 0 := sF _ u (fun e => by rw [e, cx_rw_zero] at hrw; rw [e, cx_ex_zero] at huk; omega) (fun hS => by have := ((cx_sv_iff ρ k u).1 hS).2; omega)
          show x.1 * F (cx_mu (cx_turn s k) s k ρ m) u = 0
          rw [hz, Rat.mul_zero]
        · rw [dif_neg hu]
  · rw [cx_vl P (fun x hx => by simp [hx]) i, cx_vl Q (fun x hx => by simp [hx]) i, ← w1 i]; grind
