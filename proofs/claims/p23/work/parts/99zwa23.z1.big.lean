/-! too many terms, or too great a number: by the numbers of the terms -/
def BigC (f : cr_Xp 12 → Int) : Prop := (∃ c, 1000000000000 < f c) ∨ ∃ l : List (cr_Xp 12), l.Nodup ∧ 200 < l.length ∧ ∀ a ∈ l, 1 ≤ f a
theorem BigC.mono {f g : cr_Xp 12 → Int} (h : BigC f) (hl : ∀ a, f a ≤ g a) : BigC g := by
  rcases h with ⟨c, hc⟩ | ⟨l, h1, h2, h3⟩
  · exact Or.inl ⟨c, Int.lt_of_lt_of_le hc (hl c)⟩
  · exact Or.inr ⟨l, h1, h2, fun a ha => Int.le_trans (h3 a ha) (hl a)⟩
theorem nodup_in {α : Type} : ∀ (l m : List α), l.Nodup → (∀ a ∈ l, a ∈ m) → l.length ≤ m.length
  | [], m, _, _ => Nat.zero_le _
  | a :: t, m, hn, hs => by
    obtain ⟨s, u, rfl⟩ := List.append_of_mem (hs a (List.Mem.head _))
    have hn2 := List.nodup_cons.1 hn
    have := nodup_in t (s ++ u) hn2.2 (fun b hb => by
      have h1 := hs b (List.Mem.tail _ hb)
      rcases List.mem_append.1 h1 with h | h
      · exact List.mem_append.2 (Or.inl h)
      · rcases List.mem_cons.1 h with h | h
        · exact absurd (h ▸ hb) hn2.1
        · exact List.mem_append.2 (Or.inr h))
    rw [List.length_append] at this ⊢
    rw [List.length_cons, List.length_cons]
    omega
theorem not_big {l : cr_Pl_ 12} (h : cr_Shr l) (h1 : ∀ y ∈ l, y.1 ≤ 1000000000000) (h2 : l.length ≤ 200) : ¬ BigC (cr_co l) := by
  rintro (⟨c, hc⟩ | ⟨m, m1, m2, m3⟩)
  · obtain ⟨y, hy, e⟩ := cr_co_mem (l := l) (a := c) (by omega)
    rw [← e, cr_Shr.at h hy] at hc
    have := h1 y hy
    omega
  · have := nodup_in m (l.map (fun y => y.2)) m1 (fun a ha => by
      have h3 := m3 a ha
      obtain ⟨y, hy, e⟩ := cr_co_mem (l := l) (a := a) (by omega)
      exact List.mem_map.2 ⟨y, hy, e⟩)
    rw [List.length_map] at this
    omega
theorem shr_nd {l : cr_Pl_ 12} (h : cr_Shr l) : (l.map (fun y => y.2)).Nodup :=
  List.Pairwise.map (fun y : Int × cr_Xp 12 => y.2) (fun a b hab e => by rw [e] at hab; exact cr_Gt.irrefl _ hab) h.1
theorem si_nn {c : Int} (hc : 0 ≤ c) (b a : cr_Xp 12) : 0 ≤ si (c, b) a := by
  unfold si
  by_cases e : b = a
  · rw [if_pos e]; exact hc
  · rw [if_neg e]; exact Int.le_refl 0
theorem si_at (c : Int) (b : cr_Xp 12) : si (c, b) b = c := by
  unfold si
  rw [if_pos rfl]
theorem big_add {l : cr_Pl_ 12} (h : cr_Shr l) (hl : 200 ≤ l.length) {c : Int} (hc : 1 ≤ c) {b : cr_Xp 12} (hb : ∀ y ∈ l, y.2 ≠ b) : BigC (fun a => cr_co l a + si (c, b) a) := by
  refine Or.inr ⟨b :: l.map (fun y => y.2), List.nodup_cons.2 ⟨fun hm => ?_, shr_nd h⟩, ?_, fun a ha => ?_⟩
  · obtain ⟨y, hy, e⟩ := List.mem_map.1 hm
    exact hb y hy e
  · rw [List.length_cons, List.length_map]; omega
  · show 1 ≤ cr_co l a + si (c, b) a
    rcases List.mem_cons.1 ha with e | e
    · have := cr_Shr.nonneg h.2 a
      rw [e, si_at]
      rw [e] at this
      omega
    · obtain ⟨y, hy, e⟩ := List.mem_map.1 e
      have h1 := cr_co_pos h.2 hy
      rw [e] at h1
      have h2 := si_nn (show 0 ≤ c by omega) b a
      omega
theorem co_ge_aux {L : cr_Pl_ 12} (hL : ∀ y ∈ L, 0 < y.1) {y0 : Int × cr_Xp 12} (hy : y0 ∈ L) (a b : cr_Xp 12) (hb : ∀ i, b i = a i + y0.2 i) : ∀ l : cr_Pl_ 12, (∀ y ∈ l, 0 < y.1) → cr_co l a ≤ (l.map fun y => y.1 * cr_co L (fun i => b i - y.2 i)).sum
  | [], _ => Int.le_refl 0
  | y :: l, hl => by
    have ih := co_ge_aux hL hy a b hb l (fun z hz => hl z (List.Mem.tail _ hz))
    rw [cr_co_cons, List.map_cons, List.sum_cons]
    have hp := hl y (List.Mem.head _)
    have hn := cr_Shr.nonneg hL (fun i => b i - y.2 i)
    by_cases e : y.2 = a
    · rw [if_pos e]
      have e2 : (fun i => b i - y.2 i) = y0.2 := funext fun i => by rw [e, hb i]; omega
      have h1 := cr_co_pos hL hy
      rw [e2]
      have := Int.mul_le_mul_of_nonneg_left (show 1 ≤ cr_co L y0.2 by omega) (show 0 ≤ y.1 by omega)
      omega
    · rw [if_neg e]
      have := Int.mul_nonneg (show 0 ≤ y.1 by omega) hn
      omega
theorem co_pmz_ge {l L : cr_Pl_ 12} (hl : ∀ y ∈ l, 0 < y.1) (hL : ∀ y ∈ L, 0 < y.1) {y0 : Int × cr_Xp 12} (hy : y0 ∈ L) (a b : cr_Xp 12) (hb : ∀ i, b i = a i + y0.2 i) : cr_co l a ≤ cr_co (cr_pmz l L) b := by
  rw [cr_co_pmz]
  exact co_ge_aux hL hy a b hb l hl
theorem pmz_pos {l L : cr_Pl_ 12} (hl : ∀ y ∈ l, 0 < y.1) (hL : ∀ y ∈ L, 0 < y.1) : ∀ y ∈ cr_pmz l L, 0 < y.1 := fun y hy => by
  obtain ⟨a, ha, h⟩ := List.mem_flatMap.1 hy
  obtain ⟨b, hb, e⟩ := List.mem_map.1 h
  rw [← e]
  exact Int.mul_pos (hl a ha) (hL b hb)
theorem BigC.pmz {l L : cr_Pl_ 12} (hl : ∀ y ∈ l, 0 < y.1) (hL : ∀ y ∈ L, 0 < y.1) (hne : L ≠ []) (h : BigC (cr_co l)) : BigC (cr_co (cr_pmz l L)) := by
  obtain ⟨y0, hy⟩ := List.exists_mem_of_ne_nil L hne
  rcases h with ⟨c, hc⟩ | ⟨m, m1, m2, m3⟩
  · exact Or.inl ⟨fun i => c i + y0.2 i, Int.lt_of_lt_of_le hc (co_pmz_ge hl hL hy c _ (fun i => rfl))⟩
  · refine Or.inr ⟨m.map (fun a => fun i => a i + y0.2 i), List.Pairwise.map _ (fun a b hab e => hab (funext fun i => ?_)) m1, by rw [List.length_map]; exact m2, fun a ha => ?_⟩
    · have := congrFun e i
      simp only at this
      omega
    · obtain ⟨b, hb, e⟩ := List.mem_map.1 ha
      have h1 := co_pmz_ge hl hL hy b a (fun i => by rw [← e])
      have := m3 b hb
      omega
theorem pmz_in {l L : cr_Pl_ 12} {y z : Int × cr_Xp 12} (hy : y ∈ l) (hz : z ∈ L) : (y.1 * z.1, fun i => y.2 i + z.2 i) ∈ cr_pmz l L :=
  List.mem_flatMap.2 ⟨y, hy, List.mem_map.2 ⟨z, hz, rfl⟩⟩
theorem gt_addl {a b : cr_Xp 12} (h : cr_Gt a b) (c : cr_Xp 12) : cr_Gt (fun i => c i + a i) (fun i => c i + b i) := by
  have := cr_Gt.add h c
  have e1 : (fun i => a i + c i) = (fun i => c i + a i) := funext fun i => Int.add_comm _ _
  have e2 : (fun i => b i + c i) = (fun i => c i + b i) := funext fun i => Int.add_comm _ _
  rw [e1, e2] at this
  exact this
theorem BigC.len {l L : cr_Pl_ 12} (h : cr_Shr l) (H : cr_Shr L) (hlen : 201 < l.length + L.length) (h1 : l ≠ []) (h2 : L ≠ []) : BigC (cr_co (cr_pmz l L)) := by
  match l, h1, h with
  | y0 :: t, _, h =>
    have hz := List.getLast_mem h2
    have hlast : ∀ z ∈ L, z = L.getLast h2 ∨ cr_Gt z.2 (L.getLast h2).2 := fun z hz1 => by
      have e := List.dropLast_concat_getLast h2
      rw [← e] at hz1
      rcases List.mem_append.1 hz1 with q | q
      · have hp := H.1
        rw [← e] at hp
        exact Or.inr ((List.pairwise_append.1 hp).2.2 z q _ (List.Mem.head _))
      · rcases List.mem_cons.1 q with q | q
        · exact Or.inl q
        · cases q
    generalize L.getLast h2 = zl at hz hlast
    have hc := List.pairwise_cons.1 h.1
    refine Or.inr ⟨L.map (fun z => fun i => y0.2 i + z.2 i) ++ t.map (fun y => fun i => y.2 i + zl.2 i), List.nodup_append.2 ⟨?_, ?_, ?_⟩, ?_, fun a ha => ?_⟩
    · exact List.Pairwise.map _ (fun a b hab e => by
        have h3 := gt_addl hab y0.2
        rw [e] at h3
        exact cr_Gt.irrefl _ h3) H.1
    · exact List.Pairwise.map _ (fun a b hab e => by
        have h3 := cr_Gt.add hab zl.2
        rw [e] at h3
        exact cr_Gt.irrefl _ h3) hc.2
    · intro a ha b hb e
      obtain ⟨z, hz1, e1⟩ := List.mem_map.1 ha
      obtain ⟨y, hy1, e2⟩ := List.mem_map.1 hb
      have g1 : cr_Gt (fun i => y0.2 i + zl.2 i) (fun i => y.2 i + zl.2 i) := cr_Gt.add (hc.1 y hy1) zl.2
      have g2 : cr_Gt (fun i => y0.2 i + z.2 i) (fun i => y.2 i + zl.2 i) := by
        rcases hlast z hz1 with q | q
        · rw [q]; exact g1
        · exact cr_Gt.trans (gt_addl q y0.2) g1
      rw [e1, e2, e] at g2
      exact cr_Gt.irrefl _ g2
    · rw [List.length_append, List.length_map, List.length_map]
      rw [List.length_cons] at hlen
      omega
    · have hpos := pmz_pos h.2 H.2
      rcases List.mem_append.1 ha with q | q
      · obtain ⟨z, hz1, e1⟩ := List.mem_map.1 q
        have := cr_co_pos hpos (pmz_in (List.Mem.head t) hz1)
        rw [← e1]
        exact this
      · obtain ⟨y, hy1, e1⟩ := List.mem_map.1 q
        have := cr_co_pos hpos (pmz_in (List.Mem.tail y0 hy1) hz)
        rw [← e1]
        exact this
