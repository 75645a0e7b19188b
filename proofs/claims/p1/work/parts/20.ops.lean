theorem yok0 {σ : Nat → Int32} : rx_YOk ([], []) σ := ⟨fun n q h => by simp at h, fun q h => absurd h List.not_mem_nil⟩
theorem yok1 {σ : Nat → Int32} {q0 : Int × Int} (h0 : q0.1 ≤ (σ 0).toInt ∧ (σ 0).toInt ≤ q0.2) : rx_YOk ([q0], []) σ := ⟨fun n q h => by
  match n, h with
  | 0, h => cases h; exact h0
  | k + 1, h => simp at h, fun q h => absurd h List.not_mem_nil⟩
theorem yok2 {σ : Nat → Int32} {q0 q1 : Int × Int} (h0 : q0.1 ≤ (σ 0).toInt ∧ (σ 0).toInt ≤ q0.2) (h1 : q1.1 ≤ (σ 1).toInt ∧ (σ 1).toInt ≤ q1.2) : rx_YOk ([q0, q1], []) σ := ⟨fun n q h => by
  match n, h with
  | 0, h => cases h; exact h0
  | 1, h => cases h; exact h1
  | k + 2, h => simp at h, fun q h => absurd h List.not_mem_nil⟩
theorem yok3 {σ : Nat → Int32} {q0 q1 q2 : Int × Int} (h0 : q0.1 ≤ (σ 0).toInt ∧ (σ 0).toInt ≤ q0.2) (h1 : q1.1 ≤ (σ 1).toInt ∧ (σ 1).toInt ≤ q1.2) (h2 : q2.1 ≤ (σ 2).toInt ∧ (σ 2).toInt ≤ q2.2) : rx_YOk ([q0, q1, q2], []) σ := ⟨fun n q h => by
  match n, h with
  | 0, h => cases h; exact h0
  | 1, h => cases h; exact h1
  | 2, h => cases h; exact h2
  | k + 3, h => simp at h, fun q h => absurd h List.not_mem_nil⟩
theorem yok3r {σ : Nat → Int32} {q0 q1 q2 : Int × Int} {t : Nat × Nat × Bool} (h0 : q0.1 ≤ (σ 0).toInt ∧ (σ 0).toInt ≤ q0.2) (h1 : q1.1 ≤ (σ 1).toInt ∧ (σ 1).toInt ≤ q1.2) (h2 : q2.1 ≤ (σ 2).toInt ∧ (σ 2).toInt ≤ q2.2) (ht : σ t.1 < σ t.2.1 ↔ t.2.2 = true) : rx_YOk ([q0, q1, q2], [t]) σ := ⟨(yok3 h0 h1 h2).1, fun q h => by
  cases List.mem_singleton.mp h
  exact ht⟩
theorem hm_86 (Y : rx_Y) : ((mt Y 86).1, (mt Y 86).2.1, (mt Y 86).2.2.1, (mt Y 86).2.2.2.1, (mt Y 86).2.2.2.2.1) = (yX9_table, cX9_table, 3, (some .boolean), ({ frames := 2, cells := 0, slots := 0, locals := 45 } : Room)) := by
  rw [show mt Y 86 = m_X9_table Y from rfl]
  rfl
theorem hm_144 (Y : rx_Y) : ((mt Y 144).1, (mt Y 144).2.1, (mt Y 144).2.2.1, (mt Y 144).2.2.2.1, (mt Y 144).2.2.2.2.1) = (yX10_table, cX10_table, 4, (some .boolean), ({ frames := 0, cells := 0, slots := 0, locals := 0 } : Room)) := by
  rw [show mt Y 144 = m_X10_table Y from rfl]
  rfl
theorem hm_60 (Y : rx_Y) : ((mt Y 60).1, (mt Y 60).2.1, (mt Y 60).2.2.1, (mt Y 60).2.2.2.1, (mt Y 60).2.2.2.2.1) = (yX9_arrows, cX9_arrows, 4, (some .boolean), ({ frames := 1, cells := 0, slots := 0, locals := 23 } : Room)) := by
  rw [show mt Y 60 = m_X9_arrows Y from rfl]
  rfl
theorem hm_99 (Y : rx_Y) : ((mt Y 99).1, (mt Y 99).2.1, (mt Y 99).2.2.1, (mt Y 99).2.2.2.1, (mt Y 99).2.2.2.2.1) = (yX10_arrows, cX10_arrows, 4, (some .boolean), ({ frames := 0, cells := 0, slots := 0, locals := 0 } : Room)) := by
  rw [show mt Y 99 = m_X10_arrows Y from rfl]
  rfl
theorem hm_63 (Y : rx_Y) : ((mt Y 63).1, (mt Y 63).2.1, (mt Y 63).2.2.1, (mt Y 63).2.2.2.1, (mt Y 63).2.2.2.2.1) = (yX9_begin, cX9_begin, 2, (some .int), ({ frames := 0, cells := 0, slots := 0, locals := 0 } : Room)) := by
  rw [show mt Y 63 = m_X9_begin Y from rfl]
  rfl
theorem hm_102 (Y : rx_Y) : ((mt Y 102).1, (mt Y 102).2.1, (mt Y 102).2.2.1, (mt Y 102).2.2.2.1, (mt Y 102).2.2.2.2.1) = (yX10_begin, cX10_begin, 5, (some .int), ({ frames := 0, cells := 0, slots := 0, locals := 0 } : Room)) := by
  rw [show mt Y 102 = m_X10_begin Y from rfl]
  rfl
theorem hm_84 (Y : rx_Y) : ((mt Y 84).1, (mt Y 84).2.1, (mt Y 84).2.2.1, (mt Y 84).2.2.2.1, (mt Y 84).2.2.2.2.1) = (yX9_size, cX9_size, 2, (some .int), ({ frames := 1, cells := 0, slots := 0, locals := 21 } : Room)) := by
  rw [show mt Y 84 = m_X9_size Y from rfl]
  rfl
theorem hm_141 (Y : rx_Y) : ((mt Y 141).1, (mt Y 141).2.1, (mt Y 141).2.2.1, (mt Y 141).2.2.2.1, (mt Y 141).2.2.2.2.1) = (yX10_size, cX10_size, 2, (some .int), ({ frames := 0, cells := 0, slots := 0, locals := 0 } : Room)) := by
  rw [show mt Y 141 = m_X10_size Y from rfl]
  rfl
theorem hm_90 (Y : rx_Y) : ((mt Y 90).1, (mt Y 90).2.1, (mt Y 90).2.2.1, (mt Y 90).2.2.2.1, (mt Y 90).2.2.2.2.1) = (yX9_turn, cX9_turn, 2, (some .int), ({ frames := 5, cells := 0, slots := 0, locals := 140 } : Room)) := by
  rw [show mt Y 90 = m_X9_turn Y from rfl]
  rfl
theorem hm_152 (Y : rx_Y) : ((mt Y 152).1, (mt Y 152).2.1, (mt Y 152).2.2.1, (mt Y 152).2.2.2.1, (mt Y 152).2.2.2.2.1) = (yX10_turn, cX10_turn, 2, (some .int), ({ frames := 4, cells := 0, slots := 0, locals := 101 } : Room)) := by
  rw [show mt Y 152 = m_X10_turn Y from rfl]
  rfl
theorem hm_62 (Y : rx_Y) : ((mt Y 62).1, (mt Y 62).2.1, (mt Y 62).2.2.1, (mt Y 62).2.2.2.1, (mt Y 62).2.2.2.2.1) = (yX9_back, cX9_back, 2, (some .boolean), ({ frames := 0, cells := 0, slots := 0, locals := 0 } : Room)) := by
  rw [show mt Y 62 = m_X9_back Y from rfl]
  rfl
theorem hm_101 (Y : rx_Y) : ((mt Y 101).1, (mt Y 101).2.1, (mt Y 101).2.2.1, (mt Y 101).2.2.2.1, (mt Y 101).2.2.2.2.1) = (yX10_back, cX10_back, 1, (some .boolean), ({ frames := 0, cells := 0, slots := 0, locals := 0 } : Room)) := by
  rw [show mt Y 101 = m_X10_back Y from rfl]
  rfl
theorem hm_61 (Y : rx_Y) : ((mt Y 61).1, (mt Y 61).2.1, (mt Y 61).2.2.1, (mt Y 61).2.2.2.1, (mt Y 61).2.2.2.2.1) = (yX9_b, cX9_b, 3, (some .int), ({ frames := 1, cells := 0, slots := 0, locals := 23 } : Room)) := by
  rw [show mt Y 61 = m_X9_b Y from rfl]
  rfl
theorem hm_100 (Y : rx_Y) : ((mt Y 100).1, (mt Y 100).2.1, (mt Y 100).2.2.1, (mt Y 100).2.2.2.1, (mt Y 100).2.2.2.2.1) = (yX10_b, cX10_b, 3, (some .int), ({ frames := 0, cells := 0, slots := 0, locals := 0 } : Room)) := by
  rw [show mt Y 100 = m_X10_b Y from rfl]
  rfl
theorem hm_89 (Y : rx_Y) : ((mt Y 89).1, (mt Y 89).2.1, (mt Y 89).2.2.1, (mt Y 89).2.2.2.1, (mt Y 89).2.2.2.2.1) = (yX9_terms, cX9_terms, 2, (some .int), ({ frames := 1, cells := 0, slots := 0, locals := 21 } : Room)) := by
  rw [show mt Y 89 = m_X9_terms Y from rfl]
  rfl
theorem hm_150 (Y : rx_Y) : ((mt Y 150).1, (mt Y 150).2.1, (mt Y 150).2.2.1, (mt Y 150).2.2.2.1, (mt Y 150).2.2.2.2.1) = (yX10_terms, cX10_terms, 2, (some .int), ({ frames := 0, cells := 0, slots := 0, locals := 0 } : Room)) := by
  rw [show mt Y 150 = m_X10_terms Y from rfl]
  rfl
theorem hm_88 (Y : rx_Y) : ((mt Y 88).1, (mt Y 88).2.1, (mt Y 88).2.2.1, (mt Y 88).2.2.2.1, (mt Y 88).2.2.2.2.1) = (yX9_term, cX9_term, 5, (some .long), ({ frames := 1, cells := 0, slots := 0, locals := 21 } : Room)) := by
  rw [show mt Y 88 = m_X9_term Y from rfl]
  rfl
theorem hm_149 (Y : rx_Y) : ((mt Y 149).1, (mt Y 149).2.1, (mt Y 149).2.2.1, (mt Y 149).2.2.2.1, (mt Y 149).2.2.2.2.1) = (yX10_term, cX10_term, 4, (some .long), ({ frames := 0, cells := 0, slots := 0, locals := 0 } : Room)) := by
  rw [show mt Y 149 = m_X10_term Y from rfl]
  rfl
theorem hm_76 (Y : rx_Y) : ((mt Y 76).1, (mt Y 76).2.1, (mt Y 76).2.2.1, (mt Y 76).2.2.2.1, (mt Y 76).2.2.2.2.1) = (yX9_least, cX9_least, 3, (some .int), ({ frames := 1, cells := 0, slots := 0, locals := 23 } : Room)) := by
  rw [show mt Y 76 = m_X9_least Y from rfl]
  rfl
theorem hm_122 (Y : rx_Y) : ((mt Y 122).1, (mt Y 122).2.1, (mt Y 122).2.2.1, (mt Y 122).2.2.2.1, (mt Y 122).2.2.2.2.1) = (yX10_least, cX10_least, 3, (some .int), ({ frames := 1, cells := 0, slots := 0, locals := 24 } : Room)) := by
  rw [show mt Y 122 = m_X10_least Y from rfl]
  rfl
theorem hm_77 (Y : rx_Y) : ((mt Y 77).1, (mt Y 77).2.1, (mt Y 77).2.2.1, (mt Y 77).2.2.2.1, (mt Y 77).2.2.2.2.1) = (yX9_ones, cX9_ones, 2, (some .long), ({ frames := 1, cells := 0, slots := 0, locals := 23 } : Room)) := by
  rw [show mt Y 77 = m_X9_ones Y from rfl]
  rfl
theorem hm_128 (Y : rx_Y) : ((mt Y 128).1, (mt Y 128).2.1, (mt Y 128).2.2.1, (mt Y 128).2.2.2.1, (mt Y 128).2.2.2.2.1) = (yX10_ones, cX10_ones, 2, (some .long), ({ frames := 1, cells := 0, slots := 0, locals := 24 } : Room)) := by
  rw [show mt Y 128 = m_X10_ones Y from rfl]
  rfl
theorem hm_75 (Y : rx_Y) : ((mt Y 75).1, (mt Y 75).2.1, (mt Y 75).2.2.1, (mt Y 75).2.2.2.1, (mt Y 75).2.2.2.2.1) = (yX9_keep, cX9_keep, 2, (some .boolean), ({ frames := 3, cells := 0, slots := 0, locals := 64 } : Room)) := by
  rw [show mt Y 75 = m_X9_keep Y from rfl]
  rfl
theorem hm_121 (Y : rx_Y) : ((mt Y 121).1, (mt Y 121).2.1, (mt Y 121).2.2.1, (mt Y 121).2.2.2.1, (mt Y 121).2.2.2.2.1) = (yX10_keep, cX10_keep, 3, (some .boolean), ({ frames := 1, cells := 0, slots := 0, locals := 24 } : Room)) := by
  rw [show mt Y 121 = m_X10_keep Y from rfl]
  rfl
theorem hm_82 (Y : rx_Y) : ((mt Y 82).1, (mt Y 82).2.1, (mt Y 82).2.2.1, (mt Y 82).2.2.2.1, (mt Y 82).2.2.2.2.1) = (yX9_same, cX9_same, 2, (some .int), ({ frames := 0, cells := 0, slots := 0, locals := 0 } : Room)) := by
  rw [show mt Y 82 = m_X9_same Y from rfl]
  rfl
theorem hm_137 (Y : rx_Y) : ((mt Y 137).1, (mt Y 137).2.1, (mt Y 137).2.2.1, (mt Y 137).2.2.2.1, (mt Y 137).2.2.2.2.1) = (yX10_same, cX10_same, 5, (some .int), ({ frames := 0, cells := 0, slots := 0, locals := 0 } : Room)) := by
  rw [show mt Y 137 = m_X10_same Y from rfl]
  rfl
theorem hm_59 (Y : rx_Y) : ((mt Y 59).1, (mt Y 59).2.1, (mt Y 59).2.2.1, (mt Y 59).2.2.2.1, (mt Y 59).2.2.2.2.1) = (yX9_all, cX9_all, 2, (some .int), ({ frames := 6, cells := 0, slots := 0, locals := 164 } : Room)) := by
  rw [show mt Y 59 = m_X9_all Y from rfl]
  rfl
theorem hm_96 (Y : rx_Y) : ((mt Y 96).1, (mt Y 96).2.1, (mt Y 96).2.2.1, (mt Y 96).2.2.2.1, (mt Y 96).2.2.2.2.1) = (yX10_all, cX10_all, 4, (some .int), ({ frames := 5, cells := 0, slots := 0, locals := 125 } : Room)) := by
  rw [show mt Y 96 = m_X10_all Y from rfl]
  rfl
theorem hm_93 (Y : rx_Y) : ((mt Y 93).1, (mt Y 93).2.1, (mt Y 93).2.2.1, (mt Y 93).2.2.2.1, (mt Y 93).2.2.2.2.1) = (yX9_what, cX9_what, 3, (some .long), ({ frames := 1, cells := 0, slots := 0, locals := 22 } : Room)) := by
  rw [show mt Y 93 = m_X9_what Y from rfl]
  rfl
theorem hm_157 (Y : rx_Y) : ((mt Y 157).1, (mt Y 157).2.1, (mt Y 157).2.2.1, (mt Y 157).2.2.2.1, (mt Y 157).2.2.2.2.1) = (yX10_what, cX10_what, 3, (some .long), ({ frames := 0, cells := 0, slots := 0, locals := 0 } : Room)) := by
  rw [show mt Y 157 = m_X10_what Y from rfl]
  rfl
theorem hm_66 (Y : rx_Y) : ((mt Y 66).1, (mt Y 66).2.1, (mt Y 66).2.2.1, (mt Y 66).2.2.2.1, (mt Y 66).2.2.2.2.1) = (yX9_finite, cX9_finite, 1, (some .int), ({ frames := 3, cells := 0, slots := 0, locals := 80 } : Room)) := by
  rw [show mt Y 66 = m_X9_finite Y from rfl]
  rfl
theorem hm_108 (Y : rx_Y) : ((mt Y 108).1, (mt Y 108).2.1, (mt Y 108).2.2.1, (mt Y 108).2.2.2.1, (mt Y 108).2.2.2.2.1) = (yX10_finite, cX10_finite, 2, (some .int), ({ frames := 3, cells := 0, slots := 0, locals := 73 } : Room)) := by
  rw [show mt Y 108 = m_X10_finite Y from rfl]
  rfl
theorem hm_85 (Y : rx_Y) : ((mt Y 85).1, (mt Y 85).2.1, (mt Y 85).2.2.1, (mt Y 85).2.2.2.1, (mt Y 85).2.2.2.2.1) = (yX9_step, cX9_step, 2, (some .int), ({ frames := 0, cells := 0, slots := 0, locals := 0 } : Room)) := by
  rw [show mt Y 85 = m_X9_step Y from rfl]
  rfl
theorem hm_142 (Y : rx_Y) : ((mt Y 142).1, (mt Y 142).2.1, (mt Y 142).2.2.1, (mt Y 142).2.2.2.1, (mt Y 142).2.2.2.2.1) = (yX10_step, cX10_step, 2, (some .int), ({ frames := 0, cells := 0, slots := 0, locals := 0 } : Room)) := by
  rw [show mt Y 142 = m_X10_step Y from rfl]
  rfl
theorem hm_87 (Y : rx_Y) : ((mt Y 87).1, (mt Y 87).2.1, (mt Y 87).2.2.1, (mt Y 87).2.2.2.1, (mt Y 87).2.2.2.2.1) = (yX9_tables, cX9_tables, 1, (some .int), ({ frames := 0, cells := 0, slots := 0, locals := 0 } : Room)) := by
  rw [show mt Y 87 = m_X9_tables Y from rfl]
  rfl
theorem hm_146 (Y : rx_Y) : ((mt Y 146).1, (mt Y 146).2.1, (mt Y 146).2.2.1, (mt Y 146).2.2.2.1, (mt Y 146).2.2.2.2.1) = (yX10_tables, cX10_tables, 1, (some .int), ({ frames := 0, cells := 0, slots := 0, locals := 0 } : Room)) := by
  rw [show mt Y 146 = m_X10_tables Y from rfl]
  rfl
theorem hm_81 (Y : rx_Y) : ((mt Y 81).1, (mt Y 81).2.1, (mt Y 81).2.2.1, (mt Y 81).2.2.2.1, (mt Y 81).2.2.2.2.1) = (yX9_row, cX9_row, 4, (some .boolean), ({ frames := 1, cells := 0, slots := 0, locals := 23 } : Room)) := by
  rw [show mt Y 81 = m_X9_row Y from rfl]
  rfl
theorem hm_136 (Y : rx_Y) : ((mt Y 136).1, (mt Y 136).2.1, (mt Y 136).2.2.1, (mt Y 136).2.2.2.1, (mt Y 136).2.2.2.2.1) = (yX10_row, cX10_row, 5, (some .boolean), ({ frames := 0, cells := 0, slots := 0, locals := 0 } : Room)) := by
  rw [show mt Y 136 = m_X10_row Y from rfl]
  rfl
theorem hm_78 (Y : rx_Y) : ((mt Y 78).1, (mt Y 78).2.1, (mt Y 78).2.2.1, (mt Y 78).2.2.2.1, (mt Y 78).2.2.2.2.1) = (yX9_order, cX9_order, 2, (some .int), ({ frames := 0, cells := 0, slots := 0, locals := 0 } : Room)) := by
  rw [show mt Y 78 = m_X9_order Y from rfl]
  rfl
theorem hm_129 (Y : rx_Y) : ((mt Y 129).1, (mt Y 129).2.1, (mt Y 129).2.2.1, (mt Y 129).2.2.2.1, (mt Y 129).2.2.2.2.1) = (yX10_order, cX10_order, 5, (some .int), ({ frames := 0, cells := 0, slots := 0, locals := 0 } : Room)) := by
  rw [show mt Y 129 = m_X10_order Y from rfl]
  rfl
theorem hm_79 (Y : rx_Y) : ((mt Y 79).1, (mt Y 79).2.1, (mt Y 79).2.2.1, (mt Y 79).2.2.2.1, (mt Y 79).2.2.2.2.1) = (yX9_ring, cX9_ring, 3, (some .boolean), ({ frames := 1, cells := 0, slots := 0, locals := 20 } : Room)) := by
  rw [show mt Y 79 = m_X9_ring Y from rfl]
  rfl
theorem hm_134 (Y : rx_Y) : ((mt Y 134).1, (mt Y 134).2.1, (mt Y 134).2.2.1, (mt Y 134).2.2.2.1, (mt Y 134).2.2.2.2.1) = (yX10_ring, cX10_ring, 4, (some .boolean), ({ frames := 1, cells := 0, slots := 0, locals := 21 } : Room)) := by
  rw [show mt Y 134 = m_X10_ring Y from rfl]
  rfl
theorem hm_65 (Y : rx_Y) : ((mt Y 65).1, (mt Y 65).2.1, (mt Y 65).2.2.1, (mt Y 65).2.2.2.1, (mt Y 65).2.2.2.2.1) = (yX9_fence, cX9_fence, 5, (some .int), ({ frames := 3, cells := 0, slots := 0, locals := 69 } : Room)) := by
  rw [show mt Y 65 = m_X9_fence Y from rfl]
  rfl
theorem hm_106 (Y : rx_Y) : ((mt Y 106).1, (mt Y 106).2.1, (mt Y 106).2.2.1, (mt Y 106).2.2.2.1, (mt Y 106).2.2.2.2.1) = (yX10_fence, cX10_fence, 7, (some .int), ({ frames := 1, cells := 0, slots := 0, locals := 23 } : Room)) := by
  rw [show mt Y 106 = m_X10_fence Y from rfl]
  rfl
theorem hm_67 (Y : rx_Y) : ((mt Y 67).1, (mt Y 67).2.1, (mt Y 67).2.2.1, (mt Y 67).2.2.2.1, (mt Y 67).2.2.2.2.1) = (yX9_flip, cX9_flip, 6, (some .int), ({ frames := 3, cells := 0, slots := 0, locals := 61 } : Room)) := by
  rw [show mt Y 67 = m_X9_flip Y from rfl]
  rfl
theorem hm_110 (Y : rx_Y) : ((mt Y 110).1, (mt Y 110).2.1, (mt Y 110).2.2.1, (mt Y 110).2.2.2.1, (mt Y 110).2.2.2.2.1) = (yX10_flip, cX10_flip, 5, (some .int), ({ frames := 2, cells := 0, slots := 0, locals := 44 } : Room)) := by
  rw [show mt Y 110 = m_X10_flip Y from rfl]
  rfl
theorem hm_80 (Y : rx_Y) : ((mt Y 80).1, (mt Y 80).2.1, (mt Y 80).2.2.1, (mt Y 80).2.2.2.1, (mt Y 80).2.2.2.2.1) = (yX9_ringOf, cX9_ringOf, 3, (some .int), ({ frames := 4, cells := 0, slots := 0, locals := 90 } : Room)) := by
  rw [show mt Y 80 = m_X9_ringOf Y from rfl]
  rfl
theorem hm_135 (Y : rx_Y) : ((mt Y 135).1, (mt Y 135).2.1, (mt Y 135).2.2.1, (mt Y 135).2.2.2.1, (mt Y 135).2.2.2.2.1) = (yX10_ringOf, cX10_ringOf, 3, (some .int), ({ frames := 2, cells := 0, slots := 0, locals := 44 } : Room)) := by
  rw [show mt Y 135 = m_X10_ringOf Y from rfl]
  rfl
theorem hm_68 (Y : rx_Y) : ((mt Y 68).1, (mt Y 68).2.1, (mt Y 68).2.2.1, (mt Y 68).2.2.2.1, (mt Y 68).2.2.2.2.1) = (yX9_frieze, cX9_frieze, 4, (some .long), ({ frames := 3, cells := 0, slots := 0, locals := 61 } : Room)) := by
  rw [show mt Y 68 = m_X9_frieze Y from rfl]
  rfl
theorem hm_111 (Y : rx_Y) : ((mt Y 111).1, (mt Y 111).2.1, (mt Y 111).2.2.1, (mt Y 111).2.2.2.1, (mt Y 111).2.2.2.2.1) = (yX10_frieze, cX10_frieze, 11, (some .long), ({ frames := 2, cells := 0, slots := 0, locals := 44 } : Room)) := by
  rw [show mt Y 111 = m_X10_frieze Y from rfl]
  rfl
theorem hm_92 (Y : rx_Y) : ((mt Y 92).1, (mt Y 92).2.1, (mt Y 92).2.2.1, (mt Y 92).2.2.2.1, (mt Y 92).2.2.2.2.1) = (yX9_way, cX9_way, 1, (some .int), ({ frames := 3, cells := 0, slots := 0, locals := 61 } : Room)) := by
  rw [show mt Y 92 = m_X9_way Y from rfl]
  rfl
theorem hm_156 (Y : rx_Y) : ((mt Y 156).1, (mt Y 156).2.1, (mt Y 156).2.2.1, (mt Y 156).2.2.2.1, (mt Y 156).2.2.2.2.1) = (yX10_way, cX10_way, 10, (some .int), ({ frames := 2, cells := 0, slots := 0, locals := 44 } : Room)) := by
  rw [show mt Y 156 = m_X10_way Y from rfl]
  rfl
theorem hm_69 (Y : rx_Y) : ((mt Y 69).1, (mt Y 69).2.1, (mt Y 69).2.2.1, (mt Y 69).2.2.2.1, (mt Y 69).2.2.2.2.1) = (yX9_goes, cX9_goes, 2, (some .int), ({ frames := 0, cells := 0, slots := 0, locals := 0 } : Room)) := by
  rw [show mt Y 69 = m_X9_goes Y from rfl]
  rfl
theorem hm_112 (Y : rx_Y) : ((mt Y 112).1, (mt Y 112).2.1, (mt Y 112).2.2.1, (mt Y 112).2.2.2.1, (mt Y 112).2.2.2.2.1) = (yX10_goes, cX10_goes, 2, (some .int), ({ frames := 0, cells := 0, slots := 0, locals := 0 } : Room)) := by
  rw [show mt Y 112 = m_X10_goes Y from rfl]
  rfl
theorem hm_83 (Y : rx_Y) : ((mt Y 83).1, (mt Y 83).2.1, (mt Y 83).2.2.1, (mt Y 83).2.2.2.1, (mt Y 83).2.2.2.2.1) = (yX9_seed, cX9_seed, 2, (some .boolean), ({ frames := 3, cells := 0, slots := 0, locals := 61 } : Room)) := by
  rw [show mt Y 83 = m_X9_seed Y from rfl]
  rfl
theorem hm_140 (Y : rx_Y) : ((mt Y 140).1, (mt Y 140).2.1, (mt Y 140).2.2.1, (mt Y 140).2.2.2.1, (mt Y 140).2.2.2.2.1) = (yX10_seed, cX10_seed, 10, (some .boolean), ({ frames := 2, cells := 0, slots := 0, locals := 44 } : Room)) := by
  rw [show mt Y 140 = m_X10_seed Y from rfl]
  rfl
theorem hm_64 (Y : rx_Y) : ((mt Y 64).1, (mt Y 64).2.1, (mt Y 64).2.2.1, (mt Y 64).2.2.2.1, (mt Y 64).2.2.2.2.1) = (yX9_count, cX9_count, 2, (some .int), ({ frames := 1, cells := 0, slots := 0, locals := 22 } : Room)) := by
  rw [show mt Y 64 = m_X9_count Y from rfl]
  rfl
theorem hm_105 (Y : rx_Y) : ((mt Y 105).1, (mt Y 105).2.1, (mt Y 105).2.2.1, (mt Y 105).2.2.2.1, (mt Y 105).2.2.2.2.1) = (yX10_count, cX10_count, 4, (some .int), ({ frames := 0, cells := 0, slots := 0, locals := 0 } : Room)) := by
  rw [show mt Y 105 = m_X10_count Y from rfl]
  rfl
set_option maxHeartbeats 4000000 in
set_option maxRecDepth 100000 in
theorem op_table {l : Launch} {D : va_G} {cy : Nat → ClassId} {σ : Nat → Int32} : ∃ r : Int32, lwMt l D cy σ WX 86 [.int (σ 0), .int (σ 1)] (some (.int r)) ∧ lwMt l D cy σ WM 144 [.int (σ 0), .int (σ 1)] (some (.int r)) := by
  have l0 := lw_lo (σ 0)
  have u0 := lw_hi (σ 0)
  have l1 := lw_lo (σ 1)
  have u1 := lw_hi (σ 1)
  have hs : (σ 0).toInt ≤ 0 ∨ (1 ≤ (σ 0).toInt ∧ (σ 0).toInt ≤ 6) ∨ 7 ≤ (σ 0).toInt := by omega
  rcases hs with h0 | h0 | h0
  · have hy : rx_YOk ([((-2147483648), 0), ((-2147483648), 2147483647)], []) σ := yok2 ⟨by show ((-2147483648) : Int) ≤ _; omega, by show _ ≤ (0 : Int); omega⟩ ⟨by show ((-2147483648) : Int) ≤ _; omega, by show _ ≤ (2147483647 : Int); omega⟩
    exact ⟨0, lw_leaf hy ev_0_x ((hm_86 _).trans (hm_86 _).symm) (fun ρ b hb => ⟨⟨b, hb, rfl⟩, rfl, rfl, trivial⟩), lw_leaf hy ev_0_m ((hm_144 _).trans (hm_144 _).symm) (fun ρ b hb => ⟨⟨b, hb, rfl⟩, rfl, rfl, trivial⟩)⟩
  · have hs : (σ 1).toInt ≤ (-1) ∨ (0 ≤ (σ 1).toInt ∧ (σ 1).toInt ≤ 6) ∨ 7 ≤ (σ 1).toInt := by omega
    rcases hs with h1 | h1 | h1
    · have hy : rx_YOk ([(1, 6), ((-2147483648), (-1))], []) σ := yok2 ⟨by show (1 : Int) ≤ _; omega, by show _ ≤ (6 : Int); omega⟩ ⟨by show ((-2147483648) : Int) ≤ _; omega, by show _ ≤ ((-1) : Int); omega⟩
      exact ⟨0, lw_leaf hy ev_1_x ((hm_86 _).trans (hm_86 _).symm) (fun ρ b hb => ⟨⟨b, hb, rfl⟩, rfl, rfl, trivial⟩), lw_leaf hy ev_1_m ((hm_144 _).trans (hm_144 _).symm) (fun ρ b hb => ⟨⟨b, hb, rfl⟩, rfl, rfl, trivial⟩)⟩
    · have hy : rx_YOk ([(1, 6), (0, 6)], []) σ := yok2 ⟨by show (1 : Int) ≤ _; omega, by show _ ≤ (6 : Int); omega⟩ ⟨by show (0 : Int) ≤ _; omega, by show _ ≤ (6 : Int); omega⟩
      exact ⟨1, lw_leaf hy ev_2_x ((hm_86 _).trans (hm_86 _).symm) (fun ρ b hb => ⟨⟨b, hb, rfl⟩, rfl, rfl, trivial⟩), lw_leaf hy ev_2_m ((hm_144 _).trans (hm_144 _).symm) (fun ρ b hb => ⟨⟨b, hb, rfl⟩, rfl, rfl, trivial⟩)⟩
    · have hy : rx_YOk ([(1, 6), (7, 2147483647)], []) σ := yok2 ⟨by show (1 : Int) ≤ _; omega, by show _ ≤ (6 : Int); omega⟩ ⟨by show (7 : Int) ≤ _; omega, by show _ ≤ (2147483647 : Int); omega⟩
      exact ⟨0, lw_leaf hy ev_3_x ((hm_86 _).trans (hm_86 _).symm) (fun ρ b hb => ⟨⟨b, hb, rfl⟩, rfl, rfl, trivial⟩), lw_leaf hy ev_3_m ((hm_144 _).trans (hm_144 _).symm) (fun ρ b hb => ⟨⟨b, hb, rfl⟩, rfl, rfl, trivial⟩)⟩
  · have hy : rx_YOk ([(7, 2147483647), ((-2147483648), 2147483647)], []) σ := yok2 ⟨by show (7 : Int) ≤ _; omega, by show _ ≤ (2147483647 : Int); omega⟩ ⟨by show ((-2147483648) : Int) ≤ _; omega, by show _ ≤ (2147483647 : Int); omega⟩
    exact ⟨0, lw_leaf hy ev_4_x ((hm_86 _).trans (hm_86 _).symm) (fun ρ b hb => ⟨⟨b, hb, rfl⟩, rfl, rfl, trivial⟩), lw_leaf hy ev_4_m ((hm_144 _).trans (hm_144 _).symm) (fun ρ b hb => ⟨⟨b, hb, rfl⟩, rfl, rfl, trivial⟩)⟩
set_option maxHeartbeats 4000000 in
set_option maxRecDepth 100000 in
theorem op_arrows {l : Launch} {D : va_G} {cy : Nat → ClassId} {σ : Nat → Int32} : ∃ r : Int32, lwMt l D cy σ WX 60 [.int (σ 0), .int (σ 1), .int (σ 2)] (some (.int r)) ∧ lwMt l D cy σ WM 99 [.int (σ 0), .int (σ 1), .int (σ 2)] (some (.int r)) := by
  have l0 := lw_lo (σ 0)
  have u0 := lw_hi (σ 0)
  have l1 := lw_lo (σ 1)
  have u1 := lw_hi (σ 1)
  have l2 := lw_lo (σ 2)
  have u2 := lw_hi (σ 2)
  have hs : (σ 0).toInt ≤ (-1) ∨ 0 ≤ (σ 0).toInt := by omega
  rcases hs with h0 | h0
  · have hy : rx_YOk ([((-2147483648), (-1)), ((-2147483648), 2147483647), ((-2147483648), 2147483647)], []) σ := yok3 ⟨by show ((-2147483648) : Int) ≤ _; omega, by show _ ≤ ((-1) : Int); omega⟩ ⟨by show ((-2147483648) : Int) ≤ _; omega, by show _ ≤ (2147483647 : Int); omega⟩ ⟨by show ((-2147483648) : Int) ≤ _; omega, by show _ ≤ (2147483647 : Int); omega⟩
    exact ⟨0, lw_leaf hy ev_5_x ((hm_60 _).trans (hm_60 _).symm) (fun ρ b hb => ⟨⟨b, hb, rfl⟩, rfl, rfl, rfl, trivial⟩), lw_leaf hy ev_5_m ((hm_99 _).trans (hm_99 _).symm) (fun ρ b hb => ⟨⟨b, hb, rfl⟩, rfl, rfl, rfl, trivial⟩)⟩
  · have hy : rx_YOk ([(0, 2147483647), ((-2147483648), 2147483647), ((-2147483648), 2147483647)], []) σ := yok3 ⟨by show (0 : Int) ≤ _; omega, by show _ ≤ (2147483647 : Int); omega⟩ ⟨by show ((-2147483648) : Int) ≤ _; omega, by show _ ≤ (2147483647 : Int); omega⟩ ⟨by show ((-2147483648) : Int) ≤ _; omega, by show _ ≤ (2147483647 : Int); omega⟩
    exact ⟨0, lw_leaf hy ev_6_x ((hm_60 _).trans (hm_60 _).symm) (fun ρ b hb => ⟨⟨b, hb, rfl⟩, rfl, rfl, rfl, trivial⟩), lw_leaf hy ev_6_m ((hm_99 _).trans (hm_99 _).symm) (fun ρ b hb => ⟨⟨b, hb, rfl⟩, rfl, rfl, rfl, trivial⟩)⟩
set_option maxHeartbeats 4000000 in
set_option maxRecDepth 100000 in
theorem op_begin {l : Launch} {D : va_G} {cy : Nat → ClassId} {σ : Nat → Int32} : ∃ r : Int32, lwMt l D cy σ WX 63 [] (some (.int r)) ∧ lwMt l D cy σ WM 102 [] (some (.int r)) := by
  have hy : rx_YOk ([], []) σ := yok0 
  exact ⟨(-1), lw_leaf hy ev_7_x ((hm_63 _).trans (hm_63 _).symm) (fun ρ b hb => ⟨⟨b, hb, rfl⟩, trivial⟩), lw_leaf hy ev_7_m ((hm_102 _).trans (hm_102 _).symm) (fun ρ b hb => ⟨⟨b, hb, rfl⟩, trivial⟩)⟩
set_option maxHeartbeats 4000000 in
set_option maxRecDepth 100000 in
theorem op_size {l : Launch} {D : va_G} {cy : Nat → ClassId} {σ : Nat → Int32} : ∃ r : Int32, lwMt l D cy σ WX 84 [.int (σ 0)] (some (.int r)) ∧ lwMt l D cy σ WM 141 [.int (σ 0)] (some (.int r)) := by
  have l0 := lw_lo (σ 0)
  have u0 := lw_hi (σ 0)
  have hs : (σ 0).toInt ≤ (-1) ∨ (σ 0).toInt = 0 ∨ 1 ≤ (σ 0).toInt := by omega
  rcases hs with h0 | h0 | h0
  · have hy : rx_YOk ([((-2147483648), (-1))], []) σ := yok1 ⟨by show ((-2147483648) : Int) ≤ _; omega, by show _ ≤ ((-1) : Int); omega⟩
    exact ⟨0, lw_leaf hy ev_8_x ((hm_84 _).trans (hm_84 _).symm) (fun ρ b hb => ⟨⟨b, hb, rfl⟩, rfl, trivial⟩), lw_leaf hy ev_8_m ((hm_141 _).trans (hm_141 _).symm) (fun ρ b hb => ⟨⟨b, hb, rfl⟩, rfl, trivial⟩)⟩
  · have e0 : σ 0 = 0 := lw_cst (h0.trans (by decide))
    have hy : rx_YOk ([(0, 0)], []) σ := yok1 ⟨by show (0 : Int) ≤ _; omega, by show _ ≤ (0 : Int); omega⟩
    exact ⟨1, lw_leaf hy ev_9_x ((hm_84 _).trans (hm_84 _).symm) (fun ρ b hb => ⟨⟨b, hb, rfl⟩, (by show Value.int (σ 0) = Value.int 0; rw [e0]), trivial⟩), lw_leaf hy ev_9_m ((hm_141 _).trans (hm_141 _).symm) (fun ρ b hb => ⟨⟨b, hb, rfl⟩, (by show Value.int (σ 0) = Value.int 0; rw [e0]), trivial⟩)⟩
  · have hy : rx_YOk ([(1, 2147483647)], []) σ := yok1 ⟨by show (1 : Int) ≤ _; omega, by show _ ≤ (2147483647 : Int); omega⟩
    exact ⟨0, lw_leaf hy ev_10_x ((hm_84 _).trans (hm_84 _).symm) (fun ρ b hb => ⟨⟨b, hb, rfl⟩, rfl, trivial⟩), lw_leaf hy ev_10_m ((hm_141 _).trans (hm_141 _).symm) (fun ρ b hb => ⟨⟨b, hb, rfl⟩, rfl, trivial⟩)⟩
