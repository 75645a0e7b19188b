/-! the way from cutting to cutting, as mathematics says it -/
def wkM (n : Int) (bm bf : Int → Int) (m E : Int) : Nat → Int → Prop
  | 0, v_z => v_z = E
  | k_z + 1, v_z => ∃ b_z w_z : Int, (0 ≤ b_z ∧ b_z < m) ∧ mfl n bm bf v_z b_z w_z ∧ wkM n bm bf m E k_z w_z
def dsM (n : Int) (bm bf : Int → Int) (m E v : Int) (k : Nat) : Prop := wkM n bm bf m E k v ∧ ∀ j_z : Nat, wkM n bm bf m E j_z v → k ≤ j_z
theorem dsM_u {n m E v : Int} {bm bf : Int → Int} {k j : Nat} (h : dsM n bm bf m E v k) (g : dsM n bm bf m E v j) : k = j := Nat.le_antisymm (h.2 j g.1) (g.2 k h.1)
/-- the way: at each cutting the first fence that leads nearer -/
def wyM (n : Int) (bm bf : Int → Int) (m E : Int) : List Int → Int → Prop
  | [], v_z => dsM n bm bf m E v_z 0
  | b_z :: l, v_z => dsM n bm bf m E v_z (l.length + 1) ∧ (0 ≤ b_z ∧ b_z < m) ∧ ∃ w_z, mfl n bm bf v_z b_z w_z ∧ dsM n bm bf m E w_z l.length ∧ (∀ b' w' : Int, 0 ≤ b' → b' < b_z → mfl n bm bf v_z b' w' → ¬ dsM n bm bf m E w' l.length) ∧ wyM n bm bf m E l w_z
theorem wyM_d {n m E : Int} {bm bf : Int → Int} : ∀ (l : List Int) (v_z : Int), wyM n bm bf m E l v_z → dsM n bm bf m E v_z l.length
  | [], _, h_z => h_z
  | _ :: _, _, h_z => h_z.1
theorem wyM_u {n m E : Int} {bm bf : Int → Int} (hb : bmS n bm bf m) : ∀ (l l' : List Int) (v_z : Int), wyM n bm bf m E l v_z → wyM n bm bf m E l' v_z → l = l'
  | [], [], _, _, _ => rfl
  | [], b' :: l', v_z, h_z, g_z => by
    have h1 := dsM_u h_z g_z.1
    omega
  | b_z :: l, [], v_z, h_z, g_z => by
    have h1 := dsM_u h_z.1 g_z
    omega
  | b_z :: l, b' :: l', v_z, h_z, g_z => by
    obtain ⟨h1, h2, w_z, h3, h4, h5, h6⟩ := h_z
    obtain ⟨g1, g2, w', g3_z, g4, g5_z, g6⟩ := g_z
    have hl : l.length = l'.length := by
      have := dsM_u h1 g1
      omega
    have eb : b_z = b' := by
      rcases Int.lt_trichotomy b_z b' with q_z | q_z | q_z
      · exact absurd (by rw [← hl]; exact h4) (g5_z b_z w_z h2.1 q_z h3)
      · exact q_z
      · exact absurd (by rw [hl]; exact g4) (h5 b' w' g2.1 q_z g3_z)
    subst eb
    have ew := mfl_det hb h2.1 h2.2 h3 g3_z
    subst ew
    rw [wyM_u hb l l' w_z h6 g6]
/-- the search's state, with any set of flips done at the cutting in hand -/
def bfsX (n : Int) (bm bf : Int → Int) (m : Int) (V fa : Int → Int) (cm c : Int) (P : Int → Prop) : Prop := lsI n bm bf m V fa cm ∧ (c < cm → ∀ e_z : Int, 0 ≤ e_z → e_z < cm → fa e_z ≤ fa c + 1) ∧ ∀ c' b' w_z : Int, 0 ≤ c' → c' < cm → 0 ≤ b' → b' < m → (c' < c ∨ (c' = c ∧ P b')) → mfl n bm bf (V c') b' w_z → ∃ e_z, 0 ≤ e_z ∧ e_z < cm ∧ V e_z = w_z ∧ fa e_z ≤ fa c' + 1
theorem bfsI.x {n m cm c : Int} {bm bf V fa : Int → Int} (h : bfsI n bm bf m V fa cm c 0) : bfsX n bm bf m V fa cm c (fun _ => False) := ⟨h.1, h.2.1, fun c' b' w_z c0_z c1_z b0 b1 ho hm_z => h.2.2 c' b' w_z c0_z c1_z b0 b1 (by rcases ho with q_z | ⟨_, q_z⟩; exact Or.inl q_z; exact q_z.elim) hm_z⟩
theorem lsI.room {n m : Int} {bm bf V fa : Int → Int} {cm v u b : Int} (hb : bmS n bm bf m) (h : lsI n bm bf m V fa cm) (b0 : 0 ≤ b) (b1 : b < m) (hv : mfl n bm bf u b v) (hno : ∀ d_z : Int, 0 ≤ d_z → d_z < cm → ¬ V d_z = v) : cm < 1430 := by
  obtain ⟨⟨l1, l2⟩, _, l4, l5, _⟩ := h
  obtain ⟨G_z, g1, g2⟩ := mfl_cut hb b0 b1 hv
  have hn := g1.1.1
  have := cut_few hn.1 hn.2 (N := fun F_z => bitsV bm F_z 100) (fun F_z G_z e_z => bitsV_congr 100 (fun f_z f0_z f1_z => e_z f_z f0_z (by omega))) (l := v :: rowZ V cm.toNat) (by
    rw [List.nodup_cons]
    refine ⟨fun hx => ?_, rowZ_nd _ (fun c_z d_z c0_z c1_z d1_z => l5 c_z d_z c0_z c1_z (by omega))⟩
    obtain ⟨c_z, c0_z, c1_z, c2_z⟩ := rowZ_mem _ hx
    exact hno c_z c0_z (by omega) c2_z) (fun x_z hx => by
    rw [List.mem_cons] at hx
    rcases hx with hx | hx
    · exact ⟨G_z, g1, by rw [hx, g2]⟩
    · obtain ⟨c_z, c0_z, c1_z, c2_z⟩ := rowZ_mem _ hx
      obtain ⟨F_z, f1_z, f2_z⟩ := l4 c_z c0_z (by omega)
      exact ⟨F_z, f1_z, by rw [← c2_z, f2_z]⟩)
  rw [List.length_cons, rowZ_len] at this
  omega
theorem bfsX.old {n m : Int} {bm bf V fa : Int → Int} {cm c b v e : Int} {P : Int → Prop} (hb : bmS n bm bf m) (h : bfsX n bm bf m V fa cm c P) (hc : c < cm) (b0 : 0 ≤ b) (b1 : b < m) (hv : mfl n bm bf (V c) b v) (e0 : 0 ≤ e) (e1 : e < cm) (e2 : V e = v) : bfsX n bm bf m V fa cm c (fun x_z => P x_z ∨ x_z = b) := by
  obtain ⟨h1, h2, h3⟩ := h
  refine ⟨h1, h2, fun c' b' w_z c0_z c1_z b0' b1' ho hm_z => ?_⟩
  by_cases k_z : c' = c ∧ b' = b
  · obtain ⟨rfl, rfl⟩ := k_z
    exact ⟨e, e0, e1, e2.trans (mfl_det hb b0' b1' hv hm_z), h2 hc e e0 e1⟩
  · refine h3 c' b' w_z c0_z c1_z b0' b1' ?_ hm_z
    rcases ho with q_z | ⟨q_z, q2_z | q2_z⟩
    · exact Or.inl q_z
    · exact Or.inr ⟨q_z, q2_z⟩
    · exact absurd ⟨q_z, q2_z⟩ k_z
theorem bfsX.new {n m : Int} {bm bf V fa V' fa' : Int → Int} {cm c b v : Int} {P : Int → Prop} (hb : bmS n bm bf m) (h : bfsX n bm bf m V fa cm c P) (c0 : 0 ≤ c) (hc : c < cm) (b0 : 0 ≤ b) (b1 : b < m) (hv : mfl n bm bf (V c) b v) (hno : ∀ d_z : Int, 0 ≤ d_z → d_z < cm → ¬ V d_z = v) (hV : ∀ d_z : Int, d_z ≠ cm → V' d_z = V d_z) (hV1 : V' cm = v) (hf : ∀ d_z : Int, d_z ≠ cm → fa' d_z = fa d_z) (hf1 : fa' cm = fa c + 1) : bfsX n bm bf m V' fa' (cm + 1) c (fun x_z => P x_z ∨ x_z = b) := by
  have room_z := lsI.room hb h.1 b0 b1 hv hno
  obtain ⟨⟨⟨l1, l2⟩, l3, l4, l5, l6, l7, l8⟩, h2, h3⟩ := h
  have h2 := h2 hc
  refine ⟨⟨⟨by omega, by omega⟩, by rw [hf 0 (by omega)]; exact l3, fun d_z d0_z d1_z => ?_, fun d_z e_z d0_z d1_z e1 => ?_, fun d_z d0_z d1_z => ?_, fun d_z e_z d0_z d1_z e1 => ?_, fun d_z d0_z d1_z => ?_⟩, fun _ e_z e0_z e1 => ?_, fun c' b' w_z c0' c1' b0' b1' ho hm_z => ?_⟩
  · by_cases k_z : d_z = cm
    · rw [k_z, hV1]; exact mfl_cut hb b0 b1 hv
    · rw [hV d_z k_z]; exact l4 d_z d0_z (by omega)
  · rw [hV d_z (by omega)]
    by_cases k_z : e_z = cm
    · rw [k_z, hV1]; exact hno d_z d0_z (by omega)
    · rw [hV e_z k_z]; exact l5 d_z e_z d0_z d1_z (by omega)
  · by_cases k_z : d_z = cm
    · rw [k_z]
      exact ⟨c, b, c0, hc, b0, b1, by rw [hf1, hf c (by omega)], by rw [hV c (by omega), hV1]; exact hv⟩
    · obtain ⟨p_z, b, p0_z, p1_z, p2_z, p3_z, p4_z, p5_z⟩ := l6 d_z d0_z (by omega)
      exact ⟨p_z, b, p0_z, p1_z, p2_z, p3_z, by rw [hf d_z k_z, hf p_z (by omega)]; exact p4_z, by rw [hV d_z k_z, hV p_z (by omega)]; exact p5_z⟩
  · by_cases k_z : e_z = cm
    · rw [k_z, hf1]
      by_cases k2_z : d_z = cm
      · rw [k2_z, hf1]; omega
      · rw [hf d_z k2_z]; exact h2 d_z d0_z (by omega)
    · rw [hf d_z (by omega), hf e_z k_z]; exact l7 d_z e_z d0_z d1_z (by omega)
  · by_cases k_z : d_z = cm
    · rw [k_z, hf1]; have := l8 c c0 hc; omega
    · rw [hf d_z k_z]; exact l8 d_z d0_z (by omega)
  · rw [hf c (by omega)]
    by_cases k_z : e_z = cm
    · rw [k_z, hf1]; omega
    · rw [hf e_z k_z]; exact h2 e_z e0_z (by omega)
  · have kc_z : c' ≠ cm := by
      rcases ho with q_z | ⟨q_z, _⟩ <;> omega
    rw [hV c' kc_z] at hm_z
    rw [hf c' kc_z]
    by_cases k_z : c' = c ∧ b' = b
    · obtain ⟨rfl, rfl⟩ := k_z
      exact ⟨cm, by omega, by omega, by rw [hV1]; exact mfl_det hb b0' b1' hv hm_z, by rw [hf1]; omega⟩
    · obtain ⟨e_z, e0_z, e1, e2, e3⟩ := h3 c' b' w_z c0' (by omega) b0' b1' (by
        rcases ho with q_z | ⟨q_z, q2_z | q2_z⟩
        · exact Or.inl q_z
        · exact Or.inr ⟨q_z, q2_z⟩
        · exact absurd ⟨q_z, q2_z⟩ k_z) hm_z
      exact ⟨e_z, e0_z, by omega, by rw [hV e_z (by omega)]; exact e2, by rw [hf e_z (by omega)]; exact e3⟩
theorem bfsX.next {n m : Int} {bm bf V fa : Int → Int} {cm c : Int} {P : Int → Prop} (h : bfsX n bm bf m V fa cm c P) (hc : 0 ≤ c) (hP : ∀ b' w_z : Int, 0 ≤ b' → b' < m → mfl n bm bf (V c) b' w_z → P b') : bfsX n bm bf m V fa cm (c + 1) (fun _ => False) := by
  obtain ⟨h1, h2, h3⟩ := h
  have h10 := h1
  obtain ⟨⟨l1, l2⟩, l3, l4, l5, l6, l7, l8⟩ := h1
  refine ⟨h10, fun k_z e_z e0_z e1_z => ?_, fun c' b' w_z c0_z c1_z b0 b1 ho hw => ?_⟩
  · have a_z := h2 (by omega) e_z e0_z e1_z
    have b_z := l7 c (c + 1) hc (by omega) k_z
    omega
  · rcases ho with q_z | ⟨_, q_z⟩
    · by_cases ec : c' = c
      · subst ec
        exact h3 c' b' w_z c0_z c1_z b0 b1 (Or.inr ⟨rfl, hP b' w_z b0 b1 hw⟩) hw
      · exact h3 c' b' w_z c0_z c1_z b0 b1 (Or.inl (by omega)) hw
    · exact q_z.elim
theorem ls_wk {n m E : Int} {bm bf V fa : Int → Int} {cm : Int} (hb : bmS n bm bf m) (h : lsI n bm bf m V fa cm) (h0 : V 0 = E) : ∀ (N_z : Nat) (c_z : Int), 0 ≤ c_z → c_z < N_z → c_z < cm → wkM n bm bf m E (fa c_z).toNat (V c_z)
  | 0, c_z, c0_z, c1_z, _ => by omega
  | N_z + 1, c_z, c0_z, c1_z, c2_z => by
    by_cases e_z : c_z = 0
    · rw [e_z, h.2.1]
      exact h0
    · obtain ⟨p_z, b_z, p0_z, p1_z, b0, b1, p2_z, p3_z⟩ := h.2.2.2.2.1 c_z (by omega) c2_z
      have h1 := ls_wk hb h h0 N_z p_z p0_z (by omega) (by omega)
      have h2 := h.2.2.2.2.2.2 p_z p0_z (by omega)
      obtain ⟨b', y0, y1, y2⟩ := mfl_sym hb b0 b1 p3_z
      rw [show (fa c_z).toNat = (fa p_z).toNat + 1 by omega]
      exact ⟨b', V p_z, ⟨y0, y1⟩, y2, h1⟩
theorem ls_min {n m E K : Int} {bm bf V fa : Int → Int} {cm c : Int} (hb : bmS n bm bf m) (h : bfsX n bm bf m V fa cm c (fun _ => False)) (h0 : V 0 = E) (hP : ∀ e_z : Int, 0 ≤ e_z → e_z < cm → fa e_z + 1 < K → e_z < c) : ∀ (k_z : Nat) (v_z : Int), (k_z : Int) < K → wkM n bm bf m E k_z v_z → ∃ e_z, 0 ≤ e_z ∧ e_z < cm ∧ V e_z = v_z ∧ fa e_z ≤ (k_z : Int)
  | 0, v_z, _, hv => ⟨0, by omega, by have := h.1.1; omega, by rw [h0]; exact hv.symm, by rw [h.1.2.1]; omega⟩
  | k_z + 1, v_z, hk, hv => by
    obtain ⟨b_z, w_z, ⟨b0, b1⟩, h1, h2⟩ := hv
    obtain ⟨e_z, e0_z, e1_z, e2_z, e3⟩ := ls_min hb h h0 hP k_z w_z (by omega) h2
    obtain ⟨b', y0, y1, y2⟩ := mfl_sym hb b0 b1 h1
    rw [← e2_z] at y2
    obtain ⟨u_z, u0_z, u1_z, u2_z, u3_z⟩ := h.2.2 e_z b' v_z e0_z e1_z y0 y1 (Or.inl (hP e_z e0_z e1_z (by omega))) y2
    exact ⟨u_z, u0_z, u1_z, u2_z, by omega⟩
theorem ls_ds {n m E K : Int} {bm bf V fa : Int → Int} {cm c e : Int} (hb : bmS n bm bf m) (h : bfsX n bm bf m V fa cm c (fun _ => False)) (h0 : V 0 = E) (hP : ∀ e_z : Int, 0 ≤ e_z → e_z < cm → fa e_z + 1 < K → e_z < c) (e0 : 0 ≤ e) (e1 : e < cm) (he : fa e ≤ K) : dsM n bm bf m E (V e) (fa e).toNat := by
  have h8 := h.1.2.2.2.2.2.2 e e0 e1
  refine ⟨ls_wk hb h.1 h0 (e.toNat + 1) e e0 (by omega) e1, fun j_z hj => ?_⟩
  by_cases hjk : (fa e).toNat ≤ j_z
  · exact hjk
  · exfalso
    obtain ⟨u_z, u0_z, u1_z, u2_z, u3_z⟩ := ls_min hb h h0 hP j_z (V e) (by omega) hj
    have e_z := lsI.at h.1 u0_z u1_z e0 e1 u2_z
    rw [e_z] at u3_z
    omega
theorem ls_of {n m E K v : Int} {bm bf V fa : Int → Int} {cm c : Int} {k : Nat} (hb : bmS n bm bf m) (h : bfsX n bm bf m V fa cm c (fun _ => False)) (h0 : V 0 = E) (hP : ∀ e_z : Int, 0 ≤ e_z → e_z < cm → fa e_z + 1 < K → e_z < c) (hk : (k : Int) < K) (hd : dsM n bm bf m E v k) : ∃ e_z, (0 ≤ e_z ∧ e_z < cm) ∧ V e_z = v ∧ fa e_z = (k : Int) := by
  obtain ⟨e_z, e0_z, e1_z, e2_z, e3⟩ := ls_min hb h h0 hP k v hk hd.1
  have h8 := h.1.2.2.2.2.2.2 e_z e0_z e1_z
  have h1 := ls_wk hb h.1 h0 (e_z.toNat + 1) e_z e0_z (by omega) e1_z
  rw [e2_z] at h1
  have h2 := hd.2 _ h1
  exact ⟨e_z, ⟨e0_z, e1_z⟩, e2_z, by omega⟩
/-- a flip keeps the distance within one -/
theorem ds_nb {n m E v w b : Int} {bm bf : Int → Int} {k j : Nat} (hb : bmS n bm bf m) (b0 : 0 ≤ b) (b1 : b < m) (h : mfl n bm bf v b w) (hv : dsM n bm bf m E v k) (hw : dsM n bm bf m E w j) : k ≤ j + 1 := hv.2 (j + 1) ⟨b, w, ⟨b0, b1⟩, h, hw.1⟩
theorem ds_down {n m E v : Int} {bm bf : Int → Int} {k : Nat} (hb : bmS n bm bf m) (hv : dsM n bm bf m E v (k + 1)) : ∃ b_z w_z : Int, (0 ≤ b_z ∧ b_z < m) ∧ mfl n bm bf v b_z w_z ∧ dsM n bm bf m E w_z k := by
  obtain ⟨b_z, w_z, hb_z, h1, h2⟩ := hv.1
  refine ⟨b_z, w_z, hb_z, h1, h2, fun j_z hj => ?_⟩
  have := hv.2 (j_z + 1) ⟨b_z, w_z, hb_z, h1, hj⟩
  omega
