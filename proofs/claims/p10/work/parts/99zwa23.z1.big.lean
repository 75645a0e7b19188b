/-! too many terms, or too great a number: by the numbers of the terms -/
def BigC (f : cr_Xp 12 → Int) : Prop := (∃ c_z, 1000000000000 < f c_z) ∨ ∃ l : List (cr_Xp 12), l.Nodup ∧ 200 < l.length ∧ ∀ a_z ∈ l, 1 ≤ f a_z
theorem BigC.mono {f g : cr_Xp 12 → Int} (h : BigC f) (hl : ∀ a_z, f a_z ≤ g a_z) : BigC g := by
  rcases h with ⟨c_z, hc_z⟩ | ⟨l, h1, h2, h3⟩
  · exact Or.inl ⟨c_z, Int.lt_of_lt_of_le hc_z (hl c_z)⟩
  · exact Or.inr ⟨l, h1, h2, fun a_z ha_z => Int.le_trans (h3 a_z ha_z) (hl a_z)⟩
theorem nodup_in {α : Type} : ∀ (l m_z : List α), l.Nodup → (∀ a_z ∈ l, a_z ∈ m_z) → l.length ≤ m_z.length
  | [], m_z, _, _ => Nat.zero_le _
  | a_z :: t_z, m_z, hn, hs => by
    obtain ⟨s_z, u_z, rfl⟩ := List.append_of_mem (hs a_z (List.Mem.head _))
    have hn2 := List.nodup_cons.1 hn
    have := nodup_in t_z (s_z ++ u_z) hn2.2 (fun b_z hb_z => by
      have h1 := hs b_z (List.Mem.tail _ hb_z)
      rcases List.mem_append.1 h1 with h_z | h_z
      · exact List.mem_append.2 (Or.inl h_z)
      · rcases List.mem_cons.1 h_z with h_z | h_z
        · exact absurd (h_z ▸ hb_z) hn2.1
        · exact List.mem_append.2 (Or.inr h_z))
    rw [List.length_append] at this ⊢
    rw [List.length_cons, List.length_cons]
    omega
theorem not_big {l : cr_Pl_ 12} (h : cr_Shr l) (h1 : ∀ y_z ∈ l, y_z.1 ≤ 1000000000000) (h2 : l.length ≤ 200) : ¬ BigC (cr_co l) := by
  rintro (⟨c_z, hc_z⟩ | ⟨m_z, m1_z, m2_z, m3_z⟩)
  · obtain ⟨y_z, hy, e_z⟩ := cr_co_mem (l := l) (a := c_z) (by omega)
    rw [← e_z, cr_Shr.at h hy] at hc_z
    have := h1 y_z hy
    omega
  · have := nodup_in m_z (l.map (fun y_z => y_z.2)) m1_z (fun a_z ha_z => by
      have h3 := m3_z a_z ha_z
      obtain ⟨y_z, hy, e_z⟩ := cr_co_mem (l := l) (a := a_z) (by omega)
      exact List.mem_map.2 ⟨y_z, hy, e_z⟩)
    rw [List.length_map] at this
    omega
theorem shr_nd {l : cr_Pl_ 12} (h : cr_Shr l) : (l.map (fun y_z => y_z.2)).Nodup :=
  List.Pairwise.map (fun y_z : Int × cr_Xp 12 => y_z.2) (fun a_z b_z hab e_z => by rw [e_z] at hab; exact cr_Gt.irrefl _ hab) h.1
theorem si_nn {c : Int} (hc : 0 ≤ c) (b a : cr_Xp 12) : 0 ≤ si (c, b) a := by
  unfold si
  by_cases e_z : b = a
  · rw [if_pos e_z]; exact hc
  · rw [if_neg e_z]; exact Int.le_refl 0
theorem si_at (c : Int) (b : cr_Xp 12) : si (c, b) b = c := by
  unfold si
  rw [if_pos rfl]
theorem big_add {l : cr_Pl_ 12} (h : cr_Shr l) (hl : 200 ≤ l.length) {c : Int} (hc : 1 ≤ c) {b : cr_Xp 12} (hb : ∀ y_z ∈ l, y_z.2 ≠ b) : BigC (fun a_z => cr_co l a_z + si (c, b) a_z) := by
  refine Or.inr ⟨b :: l.map (fun y_z => y_z.2), List.nodup_cons.2 ⟨fun hm_z => ?_, shr_nd h⟩, ?_, fun a_z ha_z => ?_⟩
  · obtain ⟨y_z, hy, e_z⟩ := List.mem_map.1 hm_z
    exact hb y_z hy e_z
  · rw [List.length_cons, List.length_map]; omega
  · show 1 ≤ cr_co l a_z + si (c, b) a_z
    rcases List.mem_cons.1 ha_z with e_z | e_z
    · have := cr_Shr.nonneg h.2 a_z
      rw [e_z, si_at]
      rw [e_z] at this
      omega
    · obtain ⟨y_z, hy, e_z⟩ := List.mem_map.1 e_z
      have h1 := cr_co_pos h.2 hy
      rw [e_z] at h1
      have h2 := si_nn (show 0 ≤ c by omega) b a_z
      omega
theorem co_ge_aux {L : cr_Pl_ 12} (hL : ∀ y_z ∈ L, 0 < y_z.1) {y0 : Int × cr_Xp 12} (hy : y0 ∈ L) (a b : cr_Xp 12) (hb : ∀ i_z, b i_z = a i_z + y0.2 i_z) : ∀ l : cr_Pl_ 12, (∀ y_z ∈ l, 0 < y_z.1) → cr_co l a ≤ (l.map fun y_z => y_z.1 * cr_co L (fun i_z => b i_z - y_z.2 i_z)).sum
  | [], _ => Int.le_refl 0
  | y_z :: l, hl => by
    have ih_z := co_ge_aux hL hy a b hb l (fun z_z hz => hl z_z (List.Mem.tail _ hz))
    rw [cr_co_cons, List.map_cons, List.sum_cons]
    have hp := hl y_z (List.Mem.head _)
    have hn := cr_Shr.nonneg hL (fun i_z => b i_z - y_z.2 i_z)
    by_cases e_z : y_z.2 = a
    · rw [if_pos e_z]
      have e2 : (fun i_z => b i_z - y_z.2 i_z) = y0.2 := funext fun i_z => by rw [e_z, hb i_z]; omega
      have h1 := cr_co_pos hL hy
      rw [e2]
      have := Int.mul_le_mul_of_nonneg_left (show 1 ≤ cr_co L y0.2 by omega) (show 0 ≤ y_z.1 by omega)
      omega
    · rw [if_neg e_z]
      have := Int.mul_nonneg (show 0 ≤ y_z.1 by omega) hn
      omega
theorem co_pmz_ge {l L : cr_Pl_ 12} (hl : ∀ y_z ∈ l, 0 < y_z.1) (hL : ∀ y_z ∈ L, 0 < y_z.1) {y0 : Int × cr_Xp 12} (hy : y0 ∈ L) (a b : cr_Xp 12) (hb : ∀ i_z, b i_z = a i_z + y0.2 i_z) : cr_co l a ≤ cr_co (cr_pmz l L) b := by
  rw [cr_co_pmz]
  exact co_ge_aux hL hy a b hb l hl
theorem pmz_pos {l L : cr_Pl_ 12} (hl : ∀ y_z ∈ l, 0 < y_z.1) (hL : ∀ y_z ∈ L, 0 < y_z.1) : ∀ y_z ∈ cr_pmz l L, 0 < y_z.1 := fun y_z hy => by
  obtain ⟨a_z, ha_z, h_z⟩ := List.mem_flatMap.1 hy
  obtain ⟨b_z, hb_z, e_z⟩ := List.mem_map.1 h_z
  rw [← e_z]
  exact Int.mul_pos (hl a_z ha_z) (hL b_z hb_z)
theorem BigC.pmz {l L : cr_Pl_ 12} (hl : ∀ y_z ∈ l, 0 < y_z.1) (hL : ∀ y_z ∈ L, 0 < y_z.1) (hne : L ≠ []) (h : BigC (cr_co l)) : BigC (cr_co (cr_pmz l L)) := by
  obtain ⟨y0, hy⟩ := List.exists_mem_of_ne_nil L hne
  rcases h with ⟨c_z, hc_z⟩ | ⟨m_z, m1_z, m2_z, m3_z⟩
  · exact Or.inl ⟨fun i_z => c_z i_z + y0.2 i_z, Int.lt_of_lt_of_le hc_z (co_pmz_ge hl hL hy c_z _ (fun i_z => rfl))⟩
  · refine Or.inr ⟨m_z.map (fun a_z => fun i_z => a_z i_z + y0.2 i_z), List.Pairwise.map _ (fun a_z b_z hab e_z => hab (funext fun i_z => by
      have h5 : a_z i_z + y0.2 i_z = b_z i_z + y0.2 i_z := congrFun e_z i_z
      omega)) m1_z, by rw [List.length_map]; exact m2_z, fun a_z ha_z => ?_⟩
    obtain ⟨b_z, hb_z, e_z⟩ := List.mem_map.1 ha_z
    have h1 := co_pmz_ge hl hL hy b_z a_z (fun i_z => by rw [← e_z])
    have h2 := m3_z b_z hb_z
    omega
theorem pmz_in {l L : cr_Pl_ 12} {y z : Int × cr_Xp 12} (hy : y ∈ l) (hz : z ∈ L) : (y.1 * z.1, fun i_z => y.2 i_z + z.2 i_z) ∈ cr_pmz l L :=
  List.mem_flatMap.2 ⟨y, hy, List.mem_map.2 ⟨z, hz, rfl⟩⟩
theorem gt_addl {a b : cr_Xp 12} (h : cr_Gt a b) (c : cr_Xp 12) : cr_Gt (fun i_z => c i_z + a i_z) (fun i_z => c i_z + b i_z) := by
  have := cr_Gt.add h c
  have e1 : (fun i_z => a i_z + c i_z) = (fun i_z => c i_z + a i_z) := funext fun i_z => Int.add_comm _ _
  have e2 : (fun i_z => b i_z + c i_z) = (fun i_z => c i_z + b i_z) := funext fun i_z => Int.add_comm _ _
  rw [e1, e2] at this
  exact this
theorem BigC.len {l L : cr_Pl_ 12} (h : cr_Shr l) (H : cr_Shr L) (hlen : 201 < l.length + L.length) (h1 : l ≠ []) (h2 : L ≠ []) : BigC (cr_co (cr_pmz l L)) := by
  match l, h1, h with
  | y0 :: t_z, _, h =>
    have hz := List.getLast_mem h2
    have hlast : ∀ z_z ∈ L, z_z = L.getLast h2 ∨ cr_Gt z_z.2 (L.getLast h2).2 := fun z_z hz1 => by
      have e_z := List.dropLast_concat_getLast h2
      rw [← e_z] at hz1
      rcases List.mem_append.1 hz1 with q_z | q_z
      · have hp := H.1
        rw [← e_z] at hp
        exact Or.inr ((List.pairwise_append.1 hp).2.2 z_z q_z _ (List.Mem.head _))
      · rcases List.mem_cons.1 q_z with q_z | q_z
        · exact Or.inl q_z
        · cases q_z
    generalize L.getLast h2 = zl at hz hlast
    have hc_z := List.pairwise_cons.1 h.1
    refine Or.inr ⟨L.map (fun z_z => fun i_z => y0.2 i_z + z_z.2 i_z) ++ t_z.map (fun y_z => fun i_z => y_z.2 i_z + zl.2 i_z), List.nodup_append.2 ⟨?_, ?_, ?_⟩, ?_, fun a_z ha_z => ?_⟩
    · exact List.Pairwise.map _ (fun a_z b_z hab e_z => by
        have h3 := gt_addl hab y0.2
        rw [e_z] at h3
        exact cr_Gt.irrefl _ h3) H.1
    · exact List.Pairwise.map _ (fun a_z b_z hab e_z => by
        have h3 := cr_Gt.add hab zl.2
        rw [e_z] at h3
        exact cr_Gt.irrefl _ h3) hc_z.2
    · intro a_z ha_z b_z hb_z e_z
      obtain ⟨z_z, hz1, e1⟩ := List.mem_map.1 ha_z
      obtain ⟨y_z, hy1, e2⟩ := List.mem_map.1 hb_z
      have g1 : cr_Gt (fun i_z => y0.2 i_z + zl.2 i_z) (fun i_z => y_z.2 i_z + zl.2 i_z) := cr_Gt.add (hc_z.1 y_z hy1) zl.2
      have g2 : cr_Gt (fun i_z => y0.2 i_z + z_z.2 i_z) (fun i_z => y_z.2 i_z + zl.2 i_z) := by
        rcases hlast z_z hz1 with q_z | q_z
        · rw [q_z]; exact g1
        · exact cr_Gt.trans (gt_addl q_z y0.2) g1
      rw [e1, e2, e_z] at g2
      exact cr_Gt.irrefl _ g2
    · rw [List.length_append, List.length_map, List.length_map]
      rw [List.length_cons] at hlen
      omega
    · have hpos := pmz_pos h.2 H.2
      rcases List.mem_append.1 ha_z with q_z | q_z
      · obtain ⟨z_z, hz1, e1⟩ := List.mem_map.1 q_z
        have := cr_co_pos hpos (pmz_in (List.Mem.head t_z) hz1)
        rw [← e1]
        exact this
      · obtain ⟨y_z, hy1, e1⟩ := List.mem_map.1 q_z
        have := cr_co_pos hpos (pmz_in (List.Mem.tail y0 hy1) hz)
        rw [← e1]
        exact this
