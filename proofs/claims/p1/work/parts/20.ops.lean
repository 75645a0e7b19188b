theorem yok0 {σ : Nat → Int32} : rx_YOk ([], []) σ := ⟨fun n q h => by simp at h, fun q h => absurd h List.not_mem_nil⟩
theorem yok1 {σ : Nat → Int32} {q0 : Int × Int} (h0 : q0.1 ≤ (σ 0).toInt ∧ (σ 0).toInt ≤ q0.2) : rx_YOk ([q0], []) σ := ⟨fun n q h => by
  match n, h with
  | 0, h => cases h; exact h0
  | k + 1, h => simp at h, fun q h => absurd h List.not_mem_nil⟩
theorem yok2 {σ : Nat → Int32} {q0 q1 : Int × Int} (h0 : q0.1 ≤ (σ 0).toInt ∧ (σ 0).toInt ≤ q0.2) (h1 : q1.1 ≤ (σ 1).toInt ∧ (σ 1).toInt ≤ q1.2) : rx_YOk ([q0, q1], []) σ := ⟨fun n q h => by
  match n, h with
  | 0, h => cases h; exact h0
  | 1, h => cases h; exact h1
  | k + 2, h => simp at h, fun q h => absurd h List.not_mem_nil⟩
theorem yok3 {σ : Nat → Int32} {q0 q1 q2 : Int × Int} (h0 : q0.1 ≤ (σ 0).toInt ∧ (σ 0).toInt ≤ q0.2) (h1 : q1.1 ≤ (σ 1).toInt ∧ (σ 1).toInt ≤ q1.2) (h2 : q2.1 ≤ (σ 2).toInt ∧ (σ 2).toInt ≤ q2.2) : rx_YOk ([q0, q1, q2], []) σ := ⟨fun n q h => by
  match n, h with
  | 0, h => cases h; exact h0
  | 1, h => cases h; exact h1
  | 2, h => cases h; exact h2
  | k + 3, h => simp at h, fun q h => absurd h List.not_mem_nil⟩
theorem yok3r {σ : Nat → Int32} {q0 q1 q2 : Int × Int} {t : Nat × Nat × Bool} (h0 : q0.1 ≤ (σ 0).toInt ∧ (σ 0).toInt ≤ q0.2) (h1 : q1.1 ≤ (σ 1).toInt ∧ (σ 1).toInt ≤ q1.2) (h2 : q2.1 ≤ (σ 2).toInt ∧ (σ 2).toInt ≤ q2.2) (ht : σ t.1 < σ t.2.1 ↔ t.2.2 = true) : rx_YOk ([q0, q1, q2], [t]) σ := ⟨(yok3 h0 h1 h2).1, fun q h => by
  cases List.mem_singleton.mp h
  exact ht⟩
theorem hm_86 (Y : rx_Y) : ((mt Y 86).1, (mt Y 86).2.1, (mt Y 86).2.2.1, (mt Y 86).2.2.2.1, (mt Y 86).2.2.2.2.1) = (yX9_table, cX9_table, 3, (some .boolean), ({ frames := 2, cells := 0, slots := 0, locals := 45 } : Room)) := by
  rw [show mt Y 86 = m_X9_table Y from rfl]
  rfl
theorem hm_144 (Y : rx_Y) : ((mt Y 144).1, (mt Y 144).2.1, (mt Y 144).2.2.1, (mt Y 144).2.2.2.1, (mt Y 144).2.2.2.2.1) = (yX10_table, cX10_table, 4, (some .boolean), ({ frames := 0, cells := 0, slots := 0, locals := 0 } : Room)) := by
  rw [show mt Y 144 = m_X10_table Y from rfl]
  rfl
theorem hm_60 (Y : rx_Y) : ((mt Y 60).1, (mt Y 60).2.1, (mt Y 60).2.2.1, (mt Y 60).2.2.2.1, (mt Y 60).2.2.2.2.1) = (yX9_arrows, cX9_arrows, 4, (some .boolean), ({ frames := 1, cells := 0, slots := 0, locals := 23 } : Room)) := by
  rw [show mt Y 60 = m_X9_arrows Y from rfl]
  rfl
theorem hm_99 (Y : rx_Y) : ((mt Y 99).1, (mt Y 99).2.1, (mt Y 99).2.2.1, (mt Y 99).2.2.2.1, (mt Y 99).2.2.2.2.1) = (yX10_arrows, cX10_arrows, 4, (some .boolean), ({ frames := 0, cells := 0, slots := 0, locals := 0 } : Room)) := by
  rw [show mt Y 99 = m_X10_arrows Y from rfl]
  rfl
theorem hm_63 (Y : rx_Y) : ((mt Y 63).1, (mt Y 63).2.1, (mt Y 63).2.2.1, (mt Y 63).2.2.2.1, (mt Y 63).2.2.2.2.1) = (yX9_begin, cX9_begin, 2, (some .int), ({ frames := 0, cells := 0, slots := 0, locals := 0 } : Room)) := by
  rw [show mt Y 63 = m_X9_begin Y from rfl]
  rfl
theorem hm_102 (Y : rx_Y) : ((mt Y 102).1, (mt Y 102).2.1, (mt Y 102).2.2.1, (mt Y 102).2.2.2.1, (mt Y 102).2.2.2.2.1) = (yX10_begin, cX10_begin, 5, (some .int), ({ frames := 0, cells := 0, slots := 0, locals := 0 } : Room)) := by
  rw [show mt Y 102 = m_X10_begin Y from rfl]
  rfl
theorem hm_84 (Y : rx_Y) : ((mt Y 84).1, (mt Y 84).2.1, (mt Y 84).2.2.1, (mt Y 84).2.2.2.1, (mt Y 84).2.2.2.2.1) = (yX9_size, cX9_size, 2, (some .int), ({ frames := 1, cells := 0, slots := 0, locals := 21 } : Room)) := by
  rw [show mt Y 84 = m_X9_size Y from rfl]
  rfl
theorem hm_141 (Y : rx_Y) : ((mt Y 141).1, (mt Y 141).2.1, (mt Y 141).2.2.1, (mt Y 141).2.2.2.1, (mt Y 141).2.2.2.2.1) = (yX10_size, cX10_size, 2, (some .int), ({ frames := 0, cells := 0, slots := 0, locals := 0 } : Room)) := by
  rw [show mt Y 141 = m_X10_size Y from rfl]
  rfl
theorem hm_90 (Y : rx_Y) : ((mt Y 90).1, (mt Y 90).2.1, (mt Y 90).2.2.1, (mt Y 90).2.2.2.1, (mt Y 90).2.2.2.2.1) = (yX9_turn, cX9_turn, 2, (some .int), ({ frames := 5, cells := 0, slots := 0, locals := 140 } : Room)) := by
  rw [show mt Y 90 = m_X9_turn Y from rfl]
  rfl
theorem hm_152 (Y : rx_Y) : ((mt Y 152).1, (mt Y 152).2.1, (mt Y 152).2.2.1, (mt Y 152).2.2.2.1, (mt Y 152).2.2.2.2.1) = (yX10_turn, cX10_turn, 2, (some .int), ({ frames := 4, cells := 0, slots := 0, locals := 101 } : Room)) := by
  rw [show mt Y 152 = m_X10_turn Y from rfl]
  rfl
theorem hm_62 (Y : rx_Y) : ((mt Y 62).1, (mt Y 62).2.1, (mt Y 62).2.2.1, (mt Y 62).2.2.2.1, (mt Y 62).2.2.2.2.1) = (yX9_back, cX9_back, 2, (some .boolean), ({ frames := 0, cells := 0, slots := 0, locals := 0 } : Room)) := by
  rw [show mt Y 62 = m_X9_back Y from rfl]
  rfl
theorem hm_101 (Y : rx_Y) : ((mt Y 101).1, (mt Y 101).2.1, (mt Y 101).2.2.1, (mt Y 101).2.2.2.1, (mt Y 101).2.2.2.2.1) = (yX10_back, cX10_back, 1, (some .boolean), ({ frames := 0, cells := 0, slots := 0, locals := 0 } : Room)) := by
  rw [show mt Y 101 = m_X10_back Y from rfl]
  rfl
theorem hm_61 (Y : rx_Y) : ((mt Y 61).1, (mt Y 61).2.1, (mt Y 61).2.2.1, (mt Y 61).2.2.2.1, (mt Y 61).2.2.2.2.1) = (yX9_b, cX9_b, 3, (some .int), ({ frames := 1, cells := 0, slots := 0, locals := 23 } : Room)) := by
  rw [show mt Y 61 = m_X9_b Y from rfl]
  rfl
theorem hm_100 (Y : rx_Y) : ((mt Y 100).1, (mt Y 100).2.1, (mt Y 100).2.2.1, (mt Y 100).2.2.2.1, (mt Y 100).2.2.2.2.1) = (yX10_b, cX10_b, 3, (some .int), ({ frames := 0, cells := 0, slots := 0, locals := 0 } : Room)) := by
  rw [show mt Y 100 = m_X10_b Y from rfl]
  rfl
theorem hm_89 (Y : rx_Y) : ((mt Y 89).1, (mt Y 89).2.1, (mt Y 89).2.2.1, (mt Y 89).2.2.2.1, (mt Y 89).2.2.2.2.1) = (yX9_terms, cX9_terms, 2, (some .int), ({ frames := 1, cells := 0, slots := 0, locals := 21 } : Room)) := by
  rw [show mt Y 89 = m_X9_terms Y from rfl]
  rfl
theorem hm_150 (Y : rx_Y) : ((mt Y 150).1, (mt Y 150).2.1, (mt Y 150).2.2.1, (mt Y 150).2.2.2.1, (mt Y 150).2.2.2.2.1) = (yX10_terms, cX10_terms, 2, (some .int), ({ frames := 0, cells := 0, slots := 0, locals := 0 } : Room)) := by
  rw [show mt Y 150 = m_X10_terms Y from rfl]
  rfl
theorem hm_88 (Y : rx_Y) : ((mt Y 88).1, (mt Y 88).2.1, (mt Y 88).2.2.1, (mt Y 88).2.2.2.1, (mt Y 88).2.2.2.2.1) = (yX9_term, cX9_term, 5, (some .long), ({ frames := 1, cells := 0, slots := 0, locals := 21 } : Room)) := by
  rw [show mt Y 88 = m_X9_term Y from rfl]
  rfl
theorem hm_149 (Y : rx_Y) : ((mt Y 149).1, (mt Y 149).2.1, (mt Y 149).2.2.1, (mt Y 149).2.2.2.1, (mt Y 149).2.2.2.2.1) = (yX10_term, cX10_term, 4, (some .long), ({ frames := 0, cells := 0, slots := 0, locals := 0 } : Room)) := by
  rw [show mt Y 149 = m_X10_term Y from rfl]
  rfl
theorem hm_76 (Y : rx_Y) : ((mt Y 76).1, (mt Y 76).2.1, (mt Y 76).2.2.1, (mt Y 76).2.2.2.1, (mt Y 76).2.2.2.2.1) = (yX9_least, cX9_least, 3, (some .int), ({ frames := 1, cells := 0, slots := 0, locals := 23 } : Room)) := by
  rw [show mt Y 76 = m_X9_least Y from rfl]
  rfl
theorem hm_122 (Y : rx_Y) : ((mt Y 122).1, (mt Y 122).2.1, (mt Y 122).2.2.1, (mt Y 122).2.2.2.1, (mt Y 122).2.2.2.2.1) = (yX10_least, cX10_least, 3, (some .int), ({ frames := 1, cells := 0, slots := 0, locals := 24 } : Room)) := by
  rw [show mt Y 122 = m_X10_least Y from rfl]
  rfl
theorem hm_77 (Y : rx_Y) : ((mt Y 77).1, (mt Y 77).2.1, (mt Y 77).2.2.1, (mt Y 77).2.2.2.1, (mt Y 77).2.2.2.2.1) = (yX9_ones, cX9_ones, 2, (some .long), ({ frames := 1, cells := 0, slots := 0, locals := 23 } : Room)) := by
  rw [show mt Y 77 = m_X9_ones Y from rfl]
  rfl
theorem hm_128 (Y : rx_Y) : ((mt Y 128).1, (mt Y 128).2.1, (mt Y 128).2.2.1, (mt Y 128).2.2.2.1, (mt Y 128).2.2.2.2.1) = (yX10_ones, cX10_ones, 2, (some .long), ({ frames := 1, cells := 0, slots := 0, locals := 24 } : Room)) := by
  rw [show mt Y 128 = m_X10_ones Y from rfl]
  rfl
theorem hm_75 (Y : rx_Y) : ((mt Y 75).1, (mt Y 75).2.1, (mt Y 75).2.2.1, (mt Y 75).2.2.2.1, (mt Y 75).2.2.2.2.1) = (yX9_keep, cX9_keep, 2, (some .boolean), ({ frames := 3, cells := 0, slots := 0, locals := 64 } : Room)) := by
  rw [show mt Y 75 = m_X9_keep Y from rfl]
  rfl
theorem hm_121 (Y : rx_Y) : ((mt Y 121).1, (mt Y 121).2.1, (mt Y 121).2.2.1, (mt Y 121).2.2.2.1, (mt Y 121).2.2.2.2.1) = (yX10_keep, cX10_keep, 3, (some .boolean), ({ frames := 1, cells := 0, slots := 0, locals := 24 } : Room)) := by
  rw [show mt Y 121 = m_X10_keep Y from rfl]
  rfl
theorem hm_82 (Y : rx_Y) : ((mt Y 82).1, (mt Y 82).2.1, (mt Y 82).2.2.1, (mt Y 82).2.2.2.1, (mt Y 82).2.2.2.2.1) = (yX9_same, cX9_same, 2, (some .int), ({ frames := 0, cells := 0, slots := 0, locals := 0 } : Room)) := by
  rw [show mt Y 82 = m_X9_same Y from rfl]
  rfl
theorem hm_137 (Y : rx_Y) : ((mt Y 137).1, (mt Y 137).2.1, (mt Y 137).2.2.1, (mt Y 137).2.2.2.1, (mt Y 137).2.2.2.2.1) = (yX10_same, cX10_same, 5, (some .int), ({ frames := 0, cells := 0, slots := 0, locals := 0 } : Room)) := by
  rw [show mt Y 137 = m_X10_same Y from rfl]
  rfl
theorem hm_59 (Y : rx_Y) : ((mt Y 59).1, (mt Y 59).2.1, (mt Y 59).2.2.1, (mt Y 59).2.2.2.1, (mt Y 59).2.2.2.2.1) = (yX9_all, cX9_all, 2, (some .int), ({ frames := 6, cells := 0, slots := 0, locals := 164 } : Room)) := by
  rw [show mt Y 59 = m_X9_all Y from rfl]
  rfl
theorem hm_96 (Y : rx_Y) : ((mt Y 96).1, (mt Y 96).2.1, (mt Y 96).2.2.1, (mt Y 96).2.2.2.1, (mt Y 96).2.2.2.2.1) = (yX10_all, cX10_all, 4, (some .int), ({ frames := 5, cells := 0, slots := 0, locals := 125 } : Room)) := by
  rw [show mt Y 96 = m_X10_all Y from rfl]
  rfl
theorem hm_93 (Y : rx_Y) : ((mt Y 93).1, (mt Y 93).2.1, (mt Y 93).2.2.1, (mt Y 93).2.2.2.1, (mt Y 93).2.2.2.2.1) = (yX9_what, cX9_what, 3, (some .long), ({ frames := 1, cells := 0, slots := 0, locals := 22 } : Room)) := by
  rw [show mt Y 93 = m_X9_what Y from rfl]
  rfl
theorem hm_157 (Y : rx_Y) : ((mt Y 157).1, (mt Y 157).2.1, (mt Y 157).2.2.1, (mt Y 157).2.2.2.1, (mt Y 157).2.2.2.2.1) = (yX10_what, cX10_what, 3, (some .long), ({ frames := 0, cells := 0, slots := 0, locals := 0 } : Room)) := by
  rw [show mt Y 157 = m_X10_what Y from rfl]
  rfl
theorem hm_66 (Y : rx_Y) : ((mt Y 66).1, (mt Y 66).2.1, (mt Y 66).2.2.1, (mt Y 66).2.2.2.1, (mt Y 66).2.2.2.2.1) = (yX9_finite, cX9_finite, 1, (some .int), ({ frames := 3, cells := 0, slots := 0, locals := 80 } : Room)) := by
  rw [show mt Y 66 = m_X9_finite Y from rfl]
  rfl
theorem hm_108 (Y : rx_Y) : ((mt Y 108).1, (mt Y 108).2.1, (mt Y 108).2.2.1, (mt Y 108).2.2.2.1, (mt Y 108).2.2.2.2.1) = (yX10_finite, cX10_finite, 2, (some .int), ({ frames := 3, cells := 0, slots := 0, locals := 73 } : Room)) := by
  rw [show mt Y 108 = m_X10_finite Y from rfl]
  rfl
theorem hm_85 (Y : rx_Y) : ((mt Y 85).1, (mt Y 85).2.1, (mt Y 85).2.2.1, (mt Y 85).2.2.2.1, (mt Y 85).2.2.2.2.1) = (yX9_step, cX9_step, 2, (some .int), ({ frames := 0, cells := 0, slots := 0, locals := 0 } : Room)) := by
  rw [show mt Y 85 = m_X9_step Y from rfl]
  rfl
theorem hm_142 (Y : rx_Y) : ((mt Y 142).1, (mt Y 142).2.1, (mt Y 142).2.2.1, (mt Y 142).2.2.2.1, (mt Y 142).2.2.2.2.1) = (yX10_step, cX10_step, 2, (some .int), ({ frames := 0, cells := 0, slots := 0, locals := 0 } : Room)) := by
  rw [show mt Y 142 = m_X10_step Y from rfl]
  rfl
theorem hm_87 (Y : rx_Y) : ((mt Y 87).1, (mt Y 87).2.1, (mt Y 87).2.2.1, (mt Y 87).2.2.2.1, (mt Y 87).2.2.2.2.1) = (yX9_tables, cX9_tables, 1, (some .int), ({ frames := 0, cells := 0, slots := 0, locals := 0 } : Room)) := by
  rw [show mt Y 87 = m_X9_tables Y from rfl]
  rfl
theorem hm_146 (Y : rx_Y) : ((mt Y 146).1, (mt Y 146).2.1, (mt Y 146).2.2.1, (mt Y 146).2.2.2.1, (mt Y 146).2.2.2.2.1) = (yX10_tables, cX10_tables, 1, (some .int), ({ frames := 0, cells := 0, slots := 0, locals := 0 } : Room)) := by
  rw [show mt Y 146 = m_X10_tables Y from rfl]
  rfl
theorem hm_81 (Y : rx_Y) : ((mt Y 81).1, (mt Y 81).2.1, (mt Y 81).2.2.1, (mt Y 81).2.2.2.1, (mt Y 81).2.2.2.2.1) = (yX9_row, cX9_row, 4, (some .boolean), ({ frames := 1, cells := 0, slots := 0, locals := 23 } : Room)) := by
  rw [show mt Y 81 = m_X9_row Y from rfl]
  rfl
theorem hm_136 (Y : rx_Y) : ((mt Y 136).1, (mt Y 136).2.1, (mt Y 136).2.2.1, (mt Y 136).2.2.2.1, (mt Y 136).2.2.2.2.1) = (yX10_row, cX10_row, 5, (some .boolean), ({ frames := 0, cells := 0, slots := 0, locals := 0 } : Room)) := by
  rw [show mt Y 136 = m_X10_row Y from rfl]
  rfl
theorem hm_78 (Y : rx_Y) : ((mt Y 78).1, (mt Y 78).2.1, (mt Y 78).2.2.1, (mt Y 78).2.2.2.1, (mt Y 78).2.2.2.2.1) = (yX9_order, cX9_order, 2, (some .int), ({ frames := 0, cells := 0, slots := 0, locals := 0 } : Room)) := by
  rw [show mt Y 78 = m_X9_order Y from rfl]
  rfl
theorem hm_129 (Y : rx_Y) : ((mt Y 129).1, (mt Y 129).2.1, (mt Y 129).2.2.1, (mt Y 129).2.2.2.1, (mt Y 129).2.2.2.2.1) = (yX10_order, cX10_order, 5, (some .int), ({ frames := 0, cells := 0, slots := 0, locals := 0 } : Room)) := by
  rw [show mt Y 129 = m_X10_order Y from rfl]
  rfl
theorem hm_79 (Y : rx_Y) : ((mt Y 79).1, (mt Y 79).2.1, (mt Y 79).2.2.1, (mt Y 79).2.2.2.1, (mt Y 79).2.2.2.2.1) = (yX9_ring, cX9_ring, 3, (some .boolean), ({ frames := 1, cells := 0, slots := 0, locals := 20 } : Room)) := by
  rw [show mt Y 79 = m_X9_ring Y from rfl]
  rfl
theorem hm_134 (Y : rx_Y) : ((mt Y 134).1, (mt Y 134).2.1, (mt Y 134).2.2.1, (mt Y 134).2.2.2.1, (mt Y 134).2.2.2.2.1) = (yX10_ring, cX10_ring, 4, (some .boolean), ({ frames := 1, cells := 0, slots := 0, locals := 21 } : Room)) := by
  rw [show mt Y 134 = m_X10_ring Y from rfl]
  rfl
theorem hm_65 (Y : rx_Y) : ((mt Y 65).1, (mt Y 65).2.1, (mt Y 65).2.2.1, (mt Y 65).2.2.2.1, (mt Y 65).2.2.2.2.1) = (yX9_fence, cX9_fence, 5, (some .int), ({ frames := 3, cells := 0, slots := 0, locals := 69 } : Room)) := by
  rw [show mt Y 65 = m_X9_fence Y from rfl]
  rfl
theorem hm_106 (Y : rx_Y) : ((mt Y 106).1, (mt Y 106).2.1, (mt Y 106).2.2.1, (mt Y 106).2.2.2.1, (mt Y 106).2.2.2.2.1) = (yX10_fence, cX10_fence, 7, (some .int), ({ frames := 1, cells := 0, slots := 0, locals := 23 } : Room)) := by
  rw [show mt Y 106 = m_X10_fence Y from rfl]
  rfl
theorem hm_67 (Y : rx_Y) : ((mt Y 67).1, (mt Y 67).2.1, (mt Y 67).2.2.1, (mt Y 67).2.2.2.1, (mt Y 67).2.2.2.2.1) = (yX9_flip, cX9_flip, 6, (some .int), ({ frames := 3, cells := 0, slots := 0, locals := 61 } : Room)) := by
  rw [show mt Y 67 = m_X9_flip Y from rfl]
  rfl
theorem hm_110 (Y : rx_Y) : ((mt Y 110).1, (mt Y 110).2.1, (mt Y 110).2.2.1, (mt Y 110).2.2.2.1, (mt Y 110).2.2.2.2.1) = (yX10_flip, cX10_flip, 5, (some .int), ({ frames := 2, cells := 0, slots := 0, locals := 44 } : Room)) := by
  rw [show mt Y 110 = m_X10_flip Y from rfl]
  rfl
theorem hm_80 (Y : rx_Y) : ((mt Y 80).1, (mt Y 80).2.1, (mt Y 80).2.2.1, (mt Y 80).2.2.2.1, (mt Y 80).2.2.2.2.1) = (yX9_ringOf, cX9_ringOf, 3, (some .int), ({ frames := 4, cells := 0, slots := 0, locals := 90 } : Room)) := by
  rw [show mt Y 80 = m_X9_ringOf Y from rfl]
  rfl
theorem hm_135 (Y : rx_Y) : ((mt Y 135).1, (mt Y 135).2.1, (mt Y 135).2.2.1, (mt Y 135).2.2.2.1, (mt Y 135).2.2.2.2.1) = (yX10_ringOf, cX10_ringOf, 3, (some .int), ({ frames := 2, cells := 0, slots := 0, locals := 44 } : Room)) := by
  rw [show mt Y 135 = m_X10_ringOf Y from rfl]
  rfl
theorem hm_68 (Y : rx_Y) : ((mt Y 68).1, (mt Y 68).2.1, (mt Y 68).2.2.1, (mt Y 68).2.2.2.1, (mt Y 68).2.2.2.2.1) = (yX9_frieze, cX9_frieze, 4, (some .long), ({ frames := 3, cells := 0, slots := 0, locals := 61 } : Room)) := by
  rw [show mt Y 68 = m_X9_frieze Y from rfl]
  rfl
theorem hm_111 (Y : rx_Y) : ((mt Y 111).1, (mt Y 111).2.1, (mt Y 111).2.2.1, (mt Y 111).2.2.2.1, (mt Y 111).2.2.2.2.1) = (yX10_frieze, cX10_frieze, 11, (some .long), ({ frames := 2, cells := 0, slots := 0, locals := 44 } : Room)) := by
  rw [show mt Y 111 = m_X10_frieze Y from rfl]
  rfl
theorem hm_92 (Y : rx_Y) : ((mt Y 92).1, (mt Y 92).2.1, (mt Y 92).2.2.1, (mt Y 92).2.2.2.1, (mt Y 92).2.2.2.2.1) = (yX9_way, cX9_way, 1, (some .int), ({ frames := 3, cells := 0, slots := 0, locals := 61 } : Room)) := by
  rw [show mt Y 92 = m_X9_way Y from rfl]
  rfl
theorem hm_156 (Y : rx_Y) : ((mt Y 156).1, (mt Y 156).2.1, (mt Y 156).2.2.1, (mt Y 156).2.2.2.1, (mt Y 156).2.2.2.2.1) = (yX10_way, cX10_way, 10, (some .int), ({ frames := 2, cells := 0, slots := 0, locals := 44 } : Room)) := by
  rw [show mt Y 156 = m_X10_way Y from rfl]
  rfl
theorem hm_69 (Y : rx_Y) : ((mt Y 69).1, (mt Y 69).2.1, (mt Y 69).2.2.1, (mt Y 69).2.2.2.1, (mt Y 69).2.2.2.2.1) = (yX9_goes, cX9_goes, 2, (some .int), ({ frames := 0, cells := 0, slots := 0, locals := 0 } : Room)) := by
  rw [show mt Y 69 = m_X9_goes Y from rfl]
  rfl
theorem hm_112 (Y : rx_Y) : ((mt Y 112).1, (mt Y 112).2.1, (mt Y 112).2.2.1, (mt Y 112).2.2.2.1, (mt Y 112).2.2.2.2.1) = (yX10_goes, cX10_goes, 2, (some .int), ({ frames := 0, cells := 0, slots := 0, locals := 0 } : Room)) := by
  rw [show mt Y 112 = m_X10_goes Y from rfl]
  rfl
theorem hm_83 (Y : rx_Y) : ((mt Y 83).1, (mt Y 83).2.1, (mt Y 83).2.2.1, (mt Y 83).2.2.2.1, (mt Y 83).2.2.2.2.1) = (yX9_seed, cX9_seed, 2, (some .boolean), ({ frames := 3, cells := 0, slots := 0, locals := 61 } : Room)) := by
  rw [show mt Y 83 = m_X9_seed Y from rfl]
  rfl
theorem hm_140 (Y : rx_Y) : ((mt Y 140).1, (mt Y 140).2.1, (mt Y 140).2.2.1, (mt Y 140).2.2.2.1, (mt Y 140).2.2.2.2.1) = (yX10_seed, cX10_seed, 10, (some .boolean), ({ frames := 2, cells := 0, slots := 0, locals := 44 } : Room)) := by
  rw [show mt Y 140 = m_X10_seed Y from rfl]
  rfl
theorem hm_64 (Y : rx_Y) : ((mt Y 64).1, (mt Y 64).2.1, (mt Y 64).2.2.1, (mt Y 64).2.2.2.1, (mt Y 64).2.2.2.2.1) = (yX9_count, cX9_count, 2, (some .int), ({ frames := 1, cells := 0, slots := 0, locals := 22 } : Room)) := by
  rw [show mt Y 64 = m_X9_count Y from rfl]
  rfl
theorem hm_105 (Y : rx_Y) : ((mt Y 105).1, (mt Y 105).2.1, (mt Y 105).2.2.1, (mt Y 105).2.2.2.1, (mt Y 105).2.2.2.2.1) = (yX10_count, cX10_count, 4, (some .int), ({ frames := 0, cells := 0, slots := 0, locals := 0 } : Room)) := by
  rw [show mt Y 105 = m_X10_count Y from rfl]
  rfl
set_option maxHeartbeats 4000000 in
set_option maxRecDepth 100000 in
theorem op_table {l : Launch} {D : va_G} {cy : Nat → ClassId} {σ : Nat → Int32} : ∃ r : Int32, lwMt l D cy σ WX 86 [.int (σ 0), .int (σ 1)] (some (.int r)) ∧ lwMt l D cy σ WM 144 [.int (σ 0), .int (σ 1)] (some (.int r)) := by
  have l0 := lw_lo (σ 0)
  have u0 := lw_hi (σ 0)
  have l1 := lw_lo (σ 1)
  have u1 := lw_hi (σ 1)
  have hs : (σ 0).toInt ≤ 0 ∨ (1 ≤ (σ 0).toInt ∧ (σ 0).toInt ≤ 6) ∨ 7 ≤ (σ 0).toInt := by omega
  rcases hs with h0 | h0 | h0
  · have hy : rx_YOk ([((-2147483648), 0), ((-2147483648), 2147483647)], []) σ := yok2 ⟨by show ((-2147483648) : Int) ≤ _; omega, by show _ ≤ (0 : Int); omega⟩ ⟨by show ((-2147483648) : Int) ≤ _; omega, by show _ ≤ (2147483647 : Int); omega⟩
    exact ⟨0, lw_leaf hy ev_0_x ((hm_86 _).trans (hm_86 _).symm) (fun ρ b hb => ⟨⟨b, hb, rfl⟩, rfl, rfl, trivial⟩), lw_leaf hy ev_0_m ((hm_144 _).trans (hm_144 _).symm) (fun ρ b hb => ⟨⟨b, hb, rfl⟩, rfl, rfl, trivial⟩)⟩
  · have hs : (σ 1).toInt ≤ (-1) ∨ (0 ≤ (σ 1).toInt ∧ (σ 1).toInt ≤ 6) ∨ 7 ≤ (σ 1).toInt := by omega
    rcases hs with h1 | h1 | h1
    · have hy : rx_YOk ([(1, 6), ((-2147483648), (-1))], []) σ := yok2 ⟨by show (1 : Int) ≤ _; omega, by show _ ≤ (6 : Int); omega⟩ ⟨by show ((-2147483648) : Int) ≤ _; omega, by show _ ≤ ((-1) : Int); omega⟩
      exact ⟨0, lw_leaf hy ev_1_x ((hm_86 _).trans (hm_86 _).symm) (fun ρ b hb => ⟨⟨b, hb, rfl⟩, rfl, rfl, trivial⟩), lw_leaf hy ev_1_m ((hm_144 _).trans (hm_144 _).symm) (fun ρ b hb => ⟨⟨b, hb, rfl⟩, rfl, rfl, trivial⟩)⟩
    · have hy : rx_YOk ([(1, 6), (0, 6)], []) σ := yok2 ⟨by show (1 : Int) ≤ _; omega, by show _ ≤ (6 : Int); omega⟩ ⟨by show (0 : Int) ≤ _; omega, by show _ ≤ (6 : Int); omega⟩
      exact ⟨1, lw_leaf hy ev_2_x ((hm_86 _).trans (hm_86 _).symm) (fun ρ b hb => ⟨⟨b, hb, rfl⟩, rfl, rfl, trivial⟩), lw_leaf hy ev_2_m ((hm_144 _).trans (hm_144 _).symm) (fun ρ b hb => ⟨⟨b, hb, rfl⟩, rfl, rfl, trivial⟩)⟩
    · have hy : rx_YOk ([(1, 6), (7, 2147483647)], []) σ := yok2 ⟨by show (1 : Int) ≤ _; omega, by show _ ≤ (6 : Int); omega⟩ ⟨by show (7 : Int) ≤ _; omega, by show _ ≤ (2147483647 : Int); omega⟩
      exact ⟨0, lw_leaf hy ev_3_x ((hm_86 _).trans (hm_86 _).symm) (fun ρ b hb => ⟨⟨b, hb, rfl⟩, rfl, rfl, trivial⟩), lw_leaf hy ev_3_m ((hm_144 _).trans (hm_144 _).symm) (fun ρ b hb => ⟨⟨b, hb, rfl⟩, rfl, rfl, trivial⟩)⟩
  · have hy : rx_YOk ([(7, 2147483647), ((-2147483648), 2147483647)], []) σ := yok2 ⟨by show (7 : Int) ≤ _; omega, by show _ ≤ (2147483647 : Int); omega⟩ ⟨by show ((-2147483648) : Int) ≤ _; omega, by show _ ≤ (2147483647 : Int); omega⟩
    exact ⟨0, lw_leaf hy ev_4_x ((hm_86 _).trans (hm_86 _).symm) (fun ρ b hb => ⟨⟨b, hb, rfl⟩, rfl, rfl, trivial⟩), lw_leaf hy ev_4_m ((hm_144 _).trans (hm_144 _).symm) (fun ρ b hb => ⟨⟨b, hb, rfl⟩, rfl, rfl, trivial⟩)⟩
set_option maxHeartbeats 4000000 in
set_option maxRecDepth 100000 in
theorem op_arrows {l : Launch} {D : va_G} {cy : Nat → ClassId} {σ : Nat → Int32} : ∃ r : Int32, lwMt l D cy σ WX 60 [.int (σ 0), .int (σ 1), .int (σ 2)] (some (.int r)) ∧ lwMt l D cy σ WM 99 [.int (σ 0), .int (σ 1), .int (σ 2)] (some (.int r)) := by
  have l0 := lw_lo (σ 0)
  have u0 := lw_hi (σ 0)
  have l1 := lw_lo (σ 1)
  have u1 := lw_hi (σ 1)
  have l2 := lw_lo (σ 2)
  have u2 := lw_hi (σ 2)
  have hs : (σ 0).toInt ≤ (-1) ∨ 0 ≤ (σ 0).toInt := by omega
  rcases hs with h0 | h0
  · have hy : rx_YOk ([((-2147483648), (-1)), ((-2147483648), 2147483647), ((-2147483648), 2147483647)], []) σ := yok3 ⟨by show ((-2147483648) : Int) ≤ _; omega, by show _ ≤ ((-1) : Int); omega⟩ ⟨by show ((-2147483648) : Int) ≤ _; omega, by show _ ≤ (2147483647 : Int); omega⟩ ⟨by show ((-2147483648) : Int) ≤ _; omega, by show _ ≤ (2147483647 : Int); omega⟩
    exact ⟨0, lw_leaf hy ev_5_x ((hm_60 _).trans (hm_60 _).symm) (fun ρ b hb => ⟨⟨b, hb, rfl⟩, rfl, rfl, rfl, trivial⟩), lw_leaf hy ev_5_m ((hm_99 _).trans (hm_99 _).symm) (fun ρ b hb => ⟨⟨b, hb, rfl⟩, rfl, rfl, rfl, trivial⟩)⟩
  · have hy : rx_YOk ([(0, 2147483647), ((-2147483648), 2147483647), ((-2147483648), 2147483647)], []) σ := yok3 ⟨by show (0 : Int) ≤ _; omega, by show _ ≤ (2147483647 : Int); omega⟩ ⟨by show ((-2147483648) : Int) ≤ _; omega, by show _ ≤ (2147483647 : Int); omega⟩ ⟨by show ((-2147483648) : Int) ≤ _; omega, by show _ ≤ (2147483647 : Int); omega⟩
    exact ⟨0, lw_leaf hy ev_6_x ((hm_60 _).trans (hm_60 _).symm) (fun ρ b hb => ⟨⟨b, hb, rfl⟩, rfl, rfl, rfl, trivial⟩), lw_leaf hy ev_6_m ((hm_99 _).trans (hm_99 _).symm) (fun ρ b hb => ⟨⟨b, hb, rfl⟩, rfl, rfl, rfl, trivial⟩)⟩
set_option maxHeartbeats 4000000 in
set_option maxRecDepth 100000 in
theorem op_begin {l : Launch} {D : va_G} {cy : Nat → ClassId} {σ : Nat → Int32} : ∃ r : Int32, lwMt l D cy σ WX 63 [] (some (.int r)) ∧ lwMt l D cy σ WM 102 [] (some (.int r)) := by
  have hy : rx_YOk ([], []) σ := yok0 
  exact ⟨(-1), lw_leaf hy ev_7_x ((hm_63 _).trans (hm_63 _).symm) (fun ρ b hb => ⟨⟨b, hb, rfl⟩, trivial⟩), lw_leaf hy ev_7_m ((hm_102 _).trans (hm_102 _).symm) (fun ρ b hb => ⟨⟨b, hb, rfl⟩, trivial⟩)⟩
set_option maxHeartbeats 4000000 in
set_option maxRecDepth 100000 in
theorem op_size {l : Launch} {D : va_G} {cy : Nat → ClassId} {σ : Nat → Int32} : ∃ r : Int32, lwMt l D cy σ WX 84 [.int (σ 0)] (some (.int r)) ∧ lwMt l D cy σ WM 141 [.int (σ 0)] (some (.int r)) := by
  have l0 := lw_lo (σ 0)
  have u0 := lw_hi (σ 0)
  have hs : (σ 0).toInt ≤ (-1) ∨ (σ 0).toInt = 0 ∨ 1 ≤ (σ 0).toInt := by omega
  rcases hs with h0 | h0 | h0
  · have hy : rx_YOk ([((-2147483648), (-1))], []) σ := yok1 ⟨by show ((-2147483648) : Int) ≤ _; omega, by show _ ≤ ((-1) : Int); omega⟩
    exact ⟨0, lw_leaf hy ev_8_x ((hm_84 _).trans (hm_84 _).symm) (fun ρ b hb => ⟨⟨b, hb, rfl⟩, rfl, trivial⟩), lw_leaf hy ev_8_m ((hm_141 _).trans (hm_141 _).symm) (fun ρ b hb => ⟨⟨b, hb, rfl⟩, rfl, trivial⟩)⟩
  · have e0 : σ 0 = 0 := lw_cst (h0.trans (by decide))
    have hy : rx_YOk ([(0, 0)], []) σ := yok1 ⟨by show (0 : Int) ≤ _; omega, by show _ ≤ (0 : Int); omega⟩
    exact ⟨1, lw_leaf hy ev_9_x ((hm_84 _).trans (hm_84 _).symm) (fun ρ b hb => ⟨⟨b, hb, rfl⟩, (by show Value.int (σ 0) = Value.int 0; rw [e0]), trivial⟩), lw_leaf hy ev_9_m ((hm_141 _).trans (hm_141 _).symm) (fun ρ b hb => ⟨⟨b, hb, rfl⟩, (by show Value.int (σ 0) = Value.int 0; rw [e0]), trivial⟩)⟩
  · have hy : rx_YOk ([(1, 2147483647)], []) σ := yok1 ⟨by show (1 : Int) ≤ _; omega, by show _ ≤ (2147483647 : Int); omega⟩
    exact ⟨0, lw_leaf hy ev_10_x ((hm_84 _).trans (hm_84 _).symm) (fun ρ b hb => ⟨⟨b, hb, rfl⟩, rfl, trivial⟩), lw_leaf hy ev_10_m ((hm_141 _).trans (hm_141 _).symm) (fun ρ b hb => ⟨⟨b, hb, rfl⟩, rfl, trivial⟩)⟩
set_option maxHeartbeats 4000000 in
set_option maxRecDepth 100000 in
theorem op_turn {l : Launch} {D : va_G} {cy : Nat → ClassId} {σ : Nat → Int32} : ∃ r : Int32, lwMt l D cy σ WX 90 [.int (σ 0)] (some (.int r)) ∧ lwMt l D cy σ WM 152 [.int (σ 0)] (some (.int r)) := by
  have l0 := lw_lo (σ 0)
  have u0 := lw_hi (σ 0)
  have hs : (σ 0).toInt ≤ (-1) ∨ (σ 0).toInt = 0 ∨ 1 ≤ (σ 0).toInt := by omega
  rcases hs with h0 | h0 | h0
  · have hy : rx_YOk ([((-2147483648), (-1))], []) σ := yok1 ⟨by show ((-2147483648) : Int) ≤ _; omega, by show _ ≤ ((-1) : Int); omega⟩
    exact ⟨(-1), lw_leaf hy ev_11_x ((hm_90 _).trans (hm_90 _).symm) (fun ρ b hb => ⟨⟨b, hb, rfl⟩, rfl, trivial⟩), lw_leaf hy ev_11_m ((hm_152 _).trans (hm_152 _).symm) (fun ρ b hb => ⟨⟨b, hb, rfl⟩, rfl, trivial⟩)⟩
  · have e0 : σ 0 = 0 := lw_cst (h0.trans (by decide))
    have hy : rx_YOk ([(0, 0)], []) σ := yok1 ⟨by show (0 : Int) ≤ _; omega, by show _ ≤ (0 : Int); omega⟩
    exact ⟨1, lw_leaf hy ev_12_x ((hm_90 _).trans (hm_90 _).symm) (fun ρ b hb => ⟨⟨b, hb, rfl⟩, (by show Value.int (σ 0) = Value.int 0; rw [e0]), trivial⟩), lw_leaf hy ev_12_m ((hm_152 _).trans (hm_152 _).symm) (fun ρ b hb => ⟨⟨b, hb, rfl⟩, (by show Value.int (σ 0) = Value.int 0; rw [e0]), trivial⟩)⟩
  · have hy : rx_YOk ([(1, 2147483647)], []) σ := yok1 ⟨by show (1 : Int) ≤ _; omega, by show _ ≤ (2147483647 : Int); omega⟩
    exact ⟨(-1), lw_leaf hy ev_13_x ((hm_90 _).trans (hm_90 _).symm) (fun ρ b hb => ⟨⟨b, hb, rfl⟩, rfl, trivial⟩), lw_leaf hy ev_13_m ((hm_152 _).trans (hm_152 _).symm) (fun ρ b hb => ⟨⟨b, hb, rfl⟩, rfl, trivial⟩)⟩
set_option maxHeartbeats 4000000 in
set_option maxRecDepth 100000 in
theorem op_back {l : Launch} {D : va_G} {cy : Nat → ClassId} {σ : Nat → Int32} : ∃ r : Int32, lwMt l D cy σ WX 62 [] (some (.int r)) ∧ lwMt l D cy σ WM 101 [] (some (.int r)) := by
  have hy : rx_YOk ([], []) σ := yok0 
  exact ⟨0, lw_leaf hy ev_14_x ((hm_62 _).trans (hm_62 _).symm) (fun ρ b hb => ⟨⟨b, hb, rfl⟩, trivial⟩), lw_leaf hy ev_14_m ((hm_101 _).trans (hm_101 _).symm) (fun ρ b hb => ⟨⟨b, hb, rfl⟩, trivial⟩)⟩
set_option maxHeartbeats 4000000 in
set_option maxRecDepth 100000 in
theorem op_b {l : Launch} {D : va_G} {cy : Nat → ClassId} {σ : Nat → Int32} : ∃ r : Int32, lwMt l D cy σ WX 61 [.int (σ 0), .int (σ 1)] (some (.int r)) ∧ lwMt l D cy σ WM 100 [.int (σ 0), .int (σ 1)] (some (.int r)) := by
  have l0 := lw_lo (σ 0)
  have u0 := lw_hi (σ 0)
  have l1 := lw_lo (σ 1)
  have u1 := lw_hi (σ 1)
  have hs : (σ 0).toInt ≤ (-1) ∨ (σ 0).toInt = 0 ∨ 1 ≤ (σ 0).toInt := by omega
  rcases hs with h0 | h0 | h0
  · have hy : rx_YOk ([((-2147483648), (-1)), ((-2147483648), 2147483647)], []) σ := yok2 ⟨by show ((-2147483648) : Int) ≤ _; omega, by show _ ≤ ((-1) : Int); omega⟩ ⟨by show ((-2147483648) : Int) ≤ _; omega, by show _ ≤ (2147483647 : Int); omega⟩
    exact ⟨0, lw_leaf hy ev_15_x ((hm_61 _).trans (hm_61 _).symm) (fun ρ b hb => ⟨⟨b, hb, rfl⟩, rfl, rfl, trivial⟩), lw_leaf hy ev_15_m ((hm_100 _).trans (hm_100 _).symm) (fun ρ b hb => ⟨⟨b, hb, rfl⟩, rfl, rfl, trivial⟩)⟩
  · have hs : (σ 1).toInt ≤ (-1) ∨ (σ 1).toInt = 0 ∨ 1 ≤ (σ 1).toInt := by omega
    rcases hs with h1 | h1 | h1
    · have e0 : σ 0 = 0 := lw_cst (h0.trans (by decide))
      have hy : rx_YOk ([(0, 0), ((-2147483648), (-1))], []) σ := yok2 ⟨by show (0 : Int) ≤ _; omega, by show _ ≤ (0 : Int); omega⟩ ⟨by show ((-2147483648) : Int) ≤ _; omega, by show _ ≤ ((-1) : Int); omega⟩
      exact ⟨0, lw_leaf hy ev_16_x ((hm_61 _).trans (hm_61 _).symm) (fun ρ b hb => ⟨⟨b, hb, rfl⟩, (by show Value.int (σ 0) = Value.int 0; rw [e0]), rfl, trivial⟩), lw_leaf hy ev_16_m ((hm_100 _).trans (hm_100 _).symm) (fun ρ b hb => ⟨⟨b, hb, rfl⟩, (by show Value.int (σ 0) = Value.int 0; rw [e0]), rfl, trivial⟩)⟩
    · have e0 : σ 0 = 0 := lw_cst (h0.trans (by decide))
      have e1 : σ 1 = 0 := lw_cst (h1.trans (by decide))
      have hy : rx_YOk ([(0, 0), (0, 0)], []) σ := yok2 ⟨by show (0 : Int) ≤ _; omega, by show _ ≤ (0 : Int); omega⟩ ⟨by show (0 : Int) ≤ _; omega, by show _ ≤ (0 : Int); omega⟩
      exact ⟨0, lw_leaf hy ev_17_x ((hm_61 _).trans (hm_61 _).symm) (fun ρ b hb => ⟨⟨b, hb, rfl⟩, (by show Value.int (σ 0) = Value.int 0; rw [e0]), (by show Value.int (σ 1) = Value.int 0; rw [e1]), trivial⟩), lw_leaf hy ev_17_m ((hm_100 _).trans (hm_100 _).symm) (fun ρ b hb => ⟨⟨b, hb, rfl⟩, (by show Value.int (σ 0) = Value.int 0; rw [e0]), (by show Value.int (σ 1) = Value.int 0; rw [e1]), trivial⟩)⟩
    · have e0 : σ 0 = 0 := lw_cst (h0.trans (by decide))
      have hy : rx_YOk ([(0, 0), (1, 2147483647)], []) σ := yok2 ⟨by show (0 : Int) ≤ _; omega, by show _ ≤ (0 : Int); omega⟩ ⟨by show (1 : Int) ≤ _; omega, by show _ ≤ (2147483647 : Int); omega⟩
      exact ⟨0, lw_leaf hy ev_18_x ((hm_61 _).trans (hm_61 _).symm) (fun ρ b hb => ⟨⟨b, hb, rfl⟩, (by show Value.int (σ 0) = Value.int 0; rw [e0]), rfl, trivial⟩), lw_leaf hy ev_18_m ((hm_100 _).trans (hm_100 _).symm) (fun ρ b hb => ⟨⟨b, hb, rfl⟩, (by show Value.int (σ 0) = Value.int 0; rw [e0]), rfl, trivial⟩)⟩
  · have hy : rx_YOk ([(1, 2147483647), ((-2147483648), 2147483647)], []) σ := yok2 ⟨by show (1 : Int) ≤ _; omega, by show _ ≤ (2147483647 : Int); omega⟩ ⟨by show ((-2147483648) : Int) ≤ _; omega, by show _ ≤ (2147483647 : Int); omega⟩
    exact ⟨0, lw_leaf hy ev_19_x ((hm_61 _).trans (hm_61 _).symm) (fun ρ b hb => ⟨⟨b, hb, rfl⟩, rfl, rfl, trivial⟩), lw_leaf hy ev_19_m ((hm_100 _).trans (hm_100 _).symm) (fun ρ b hb => ⟨⟨b, hb, rfl⟩, rfl, rfl, trivial⟩)⟩
set_option maxHeartbeats 4000000 in
set_option maxRecDepth 100000 in
theorem op_terms {l : Launch} {D : va_G} {cy : Nat → ClassId} {σ : Nat → Int32} : ∃ r : Int32, lwMt l D cy σ WX 89 [.int (σ 0)] (some (.int r)) ∧ lwMt l D cy σ WM 150 [.int (σ 0)] (some (.int r)) := by
  have l0 := lw_lo (σ 0)
  have u0 := lw_hi (σ 0)
  have hs : (σ 0).toInt ≤ (-1) ∨ (σ 0).toInt = 0 ∨ 1 ≤ (σ 0).toInt := by omega
  rcases hs with h0 | h0 | h0
  · have hy : rx_YOk ([((-2147483648), (-1))], []) σ := yok1 ⟨by show ((-2147483648) : Int) ≤ _; omega, by show _ ≤ ((-1) : Int); omega⟩
    exact ⟨0, lw_leaf hy ev_20_x ((hm_89 _).trans (hm_89 _).symm) (fun ρ b hb => ⟨⟨b, hb, rfl⟩, rfl, trivial⟩), lw_leaf hy ev_20_m ((hm_150 _).trans (hm_150 _).symm) (fun ρ b hb => ⟨⟨b, hb, rfl⟩, rfl, trivial⟩)⟩
  · have e0 : σ 0 = 0 := lw_cst (h0.trans (by decide))
    have hy : rx_YOk ([(0, 0)], []) σ := yok1 ⟨by show (0 : Int) ≤ _; omega, by show _ ≤ (0 : Int); omega⟩
    exact ⟨1, lw_leaf hy ev_21_x ((hm_89 _).trans (hm_89 _).symm) (fun ρ b hb => ⟨⟨b, hb, rfl⟩, (by show Value.int (σ 0) = Value.int 0; rw [e0]), trivial⟩), lw_leaf hy ev_21_m ((hm_150 _).trans (hm_150 _).symm) (fun ρ b hb => ⟨⟨b, hb, rfl⟩, (by show Value.int (σ 0) = Value.int 0; rw [e0]), trivial⟩)⟩
  · have hy : rx_YOk ([(1, 2147483647)], []) σ := yok1 ⟨by show (1 : Int) ≤ _; omega, by show _ ≤ (2147483647 : Int); omega⟩
    exact ⟨0, lw_leaf hy ev_22_x ((hm_89 _).trans (hm_89 _).symm) (fun ρ b hb => ⟨⟨b, hb, rfl⟩, rfl, trivial⟩), lw_leaf hy ev_22_m ((hm_150 _).trans (hm_150 _).symm) (fun ρ b hb => ⟨⟨b, hb, rfl⟩, rfl, trivial⟩)⟩
set_option maxHeartbeats 4000000 in
set_option maxRecDepth 100000 in
theorem op_term {l : Launch} {D : va_G} {cy : Nat → ClassId} {σ : Nat → Int32} : ∃ r : Int64, lwMt l D cy σ WX 88 [.int (σ 0), .int (σ 1), .int (σ 2)] (some (.long r)) ∧ lwMt l D cy σ WM 149 [.int (σ 0), .int (σ 1), .int (σ 2)] (some (.long r)) := by
  have l0 := lw_lo (σ 0)
  have u0 := lw_hi (σ 0)
  have l1 := lw_lo (σ 1)
  have u1 := lw_hi (σ 1)
  have l2 := lw_lo (σ 2)
  have u2 := lw_hi (σ 2)
  have hs : (σ 0).toInt ≤ (-1) ∨ (σ 0).toInt = 0 ∨ 1 ≤ (σ 0).toInt := by omega
  rcases hs with h0 | h0 | h0
  · have hy : rx_YOk ([((-2147483648), (-1)), ((-2147483648), 2147483647), ((-2147483648), 2147483647)], []) σ := yok3 ⟨by show ((-2147483648) : Int) ≤ _; omega, by show _ ≤ ((-1) : Int); omega⟩ ⟨by show ((-2147483648) : Int) ≤ _; omega, by show _ ≤ (2147483647 : Int); omega⟩ ⟨by show ((-2147483648) : Int) ≤ _; omega, by show _ ≤ (2147483647 : Int); omega⟩
    exact ⟨0, lw_leaf hy ev_23_x ((hm_88 _).trans (hm_88 _).symm) (fun ρ b hb => ⟨⟨b, hb, rfl⟩, rfl, rfl, rfl, trivial⟩), lw_leaf hy ev_23_m ((hm_149 _).trans (hm_149 _).symm) (fun ρ b hb => ⟨⟨b, hb, rfl⟩, rfl, rfl, rfl, trivial⟩)⟩
  · have hs : (σ 1).toInt ≤ (-1) ∨ (σ 1).toInt = 0 ∨ 1 ≤ (σ 1).toInt := by omega
    rcases hs with h1 | h1 | h1
    · have e0 : σ 0 = 0 := lw_cst (h0.trans (by decide))
      have hy : rx_YOk ([(0, 0), ((-2147483648), (-1)), ((-2147483648), 2147483647)], []) σ := yok3 ⟨by show (0 : Int) ≤ _; omega, by show _ ≤ (0 : Int); omega⟩ ⟨by show ((-2147483648) : Int) ≤ _; omega, by show _ ≤ ((-1) : Int); omega⟩ ⟨by show ((-2147483648) : Int) ≤ _; omega, by show _ ≤ (2147483647 : Int); omega⟩
      exact ⟨0, lw_leaf hy ev_24_x ((hm_88 _).trans (hm_88 _).symm) (fun ρ b hb => ⟨⟨b, hb, rfl⟩, (by show Value.int (σ 0) = Value.int 0; rw [e0]), rfl, rfl, trivial⟩), lw_leaf hy ev_24_m ((hm_149 _).trans (hm_149 _).symm) (fun ρ b hb => ⟨⟨b, hb, rfl⟩, (by show Value.int (σ 0) = Value.int 0; rw [e0]), rfl, rfl, trivial⟩)⟩
    · have hs : (σ 2).toInt ≤ (-2) ∨ (σ 2).toInt = (-1) ∨ (σ 2).toInt = 0 ∨ 1 ≤ (σ 2).toInt := by omega
      rcases hs with h2 | h2 | h2 | h2
      · have e0 : σ 0 = 0 := lw_cst (h0.trans (by decide))
        have e1 : σ 1 = 0 := lw_cst (h1.trans (by decide))
        have hy : rx_YOk ([(0, 0), (0, 0), ((-2147483648), (-2))], []) σ := yok3 ⟨by show (0 : Int) ≤ _; omega, by show _ ≤ (0 : Int); omega⟩ ⟨by show (0 : Int) ≤ _; omega, by show _ ≤ (0 : Int); omega⟩ ⟨by show ((-2147483648) : Int) ≤ _; omega, by show _ ≤ ((-2) : Int); omega⟩
        exact ⟨0, lw_leaf hy ev_25_x ((hm_88 _).trans (hm_88 _).symm) (fun ρ b hb => ⟨⟨b, hb, rfl⟩, (by show Value.int (σ 0) = Value.int 0; rw [e0]), (by show Value.int (σ 1) = Value.int 0; rw [e1]), rfl, trivial⟩), lw_leaf hy ev_25_m ((hm_149 _).trans (hm_149 _).symm) (fun ρ b hb => ⟨⟨b, hb, rfl⟩, (by show Value.int (σ 0) = Value.int 0; rw [e0]), (by show Value.int (σ 1) = Value.int 0; rw [e1]), rfl, trivial⟩)⟩
      · have e0 : σ 0 = 0 := lw_cst (h0.trans (by decide))
        have e1 : σ 1 = 0 := lw_cst (h1.trans (by decide))
        have e2 : σ 2 = (-1) := lw_cst (h2.trans (by decide))
        have hy : rx_YOk ([(0, 0), (0, 0), ((-1), (-1))], []) σ := yok3 ⟨by show (0 : Int) ≤ _; omega, by show _ ≤ (0 : Int); omega⟩ ⟨by show (0 : Int) ≤ _; omega, by show _ ≤ (0 : Int); omega⟩ ⟨by show ((-1) : Int) ≤ _; omega, by show _ ≤ ((-1) : Int); omega⟩
        exact ⟨1, lw_leaf hy ev_26_x ((hm_88 _).trans (hm_88 _).symm) (fun ρ b hb => ⟨⟨b, hb, rfl⟩, (by show Value.int (σ 0) = Value.int 0; rw [e0]), (by show Value.int (σ 1) = Value.int 0; rw [e1]), (by show Value.int (σ 2) = Value.int (-1); rw [e2]), trivial⟩), lw_leaf hy ev_26_m ((hm_149 _).trans (hm_149 _).symm) (fun ρ b hb => ⟨⟨b, hb, rfl⟩, (by show Value.int (σ 0) = Value.int 0; rw [e0]), (by show Value.int (σ 1) = Value.int 0; rw [e1]), (by show Value.int (σ 2) = Value.int (-1); rw [e2]), trivial⟩)⟩
      · have e0 : σ 0 = 0 := lw_cst (h0.trans (by decide))
        have e1 : σ 1 = 0 := lw_cst (h1.trans (by decide))
        have e2 : σ 2 = 0 := lw_cst (h2.trans (by decide))
        have hy : rx_YOk ([(0, 0), (0, 0), (0, 0)], []) σ := yok3 ⟨by show (0 : Int) ≤ _; omega, by show _ ≤ (0 : Int); omega⟩ ⟨by show (0 : Int) ≤ _; omega, by show _ ≤ (0 : Int); omega⟩ ⟨by show (0 : Int) ≤ _; omega, by show _ ≤ (0 : Int); omega⟩
        exact ⟨1, lw_leaf hy ev_27_x ((hm_88 _).trans (hm_88 _).symm) (fun ρ b hb => ⟨⟨b, hb, rfl⟩, (by show Value.int (σ 0) = Value.int 0; rw [e0]), (by show Value.int (σ 1) = Value.int 0; rw [e1]), (by show Value.int (σ 2) = Value.int 0; rw [e2]), trivial⟩), lw_leaf hy ev_27_m ((hm_149 _).trans (hm_149 _).symm) (fun ρ b hb => ⟨⟨b, hb, rfl⟩, (by show Value.int (σ 0) = Value.int 0; rw [e0]), (by show Value.int (σ 1) = Value.int 0; rw [e1]), (by show Value.int (σ 2) = Value.int 0; rw [e2]), trivial⟩)⟩
      · have e0 : σ 0 = 0 := lw_cst (h0.trans (by decide))
        have e1 : σ 1 = 0 := lw_cst (h1.trans (by decide))
        have hy : rx_YOk ([(0, 0), (0, 0), (1, 2147483647)], []) σ := yok3 ⟨by show (0 : Int) ≤ _; omega, by show _ ≤ (0 : Int); omega⟩ ⟨by show (0 : Int) ≤ _; omega, by show _ ≤ (0 : Int); omega⟩ ⟨by show (1 : Int) ≤ _; omega, by show _ ≤ (2147483647 : Int); omega⟩
        exact ⟨0, lw_leaf hy ev_28_x ((hm_88 _).trans (hm_88 _).symm) (fun ρ b hb => ⟨⟨b, hb, rfl⟩, (by show Value.int (σ 0) = Value.int 0; rw [e0]), (by show Value.int (σ 1) = Value.int 0; rw [e1]), rfl, trivial⟩), lw_leaf hy ev_28_m ((hm_149 _).trans (hm_149 _).symm) (fun ρ b hb => ⟨⟨b, hb, rfl⟩, (by show Value.int (σ 0) = Value.int 0; rw [e0]), (by show Value.int (σ 1) = Value.int 0; rw [e1]), rfl, trivial⟩)⟩
    · have e0 : σ 0 = 0 := lw_cst (h0.trans (by decide))
      have hy : rx_YOk ([(0, 0), (1, 2147483647), ((-2147483648), 2147483647)], []) σ := yok3 ⟨by show (0 : Int) ≤ _; omega, by show _ ≤ (0 : Int); omega⟩ ⟨by show (1 : Int) ≤ _; omega, by show _ ≤ (2147483647 : Int); omega⟩ ⟨by show ((-2147483648) : Int) ≤ _; omega, by show _ ≤ (2147483647 : Int); omega⟩
      exact ⟨0, lw_leaf hy ev_29_x ((hm_88 _).trans (hm_88 _).symm) (fun ρ b hb => ⟨⟨b, hb, rfl⟩, (by show Value.int (σ 0) = Value.int 0; rw [e0]), rfl, rfl, trivial⟩), lw_leaf hy ev_29_m ((hm_149 _).trans (hm_149 _).symm) (fun ρ b hb => ⟨⟨b, hb, rfl⟩, (by show Value.int (σ 0) = Value.int 0; rw [e0]), rfl, rfl, trivial⟩)⟩
  · have hy : rx_YOk ([(1, 2147483647), ((-2147483648), 2147483647), ((-2147483648), 2147483647)], []) σ := yok3 ⟨by show (1 : Int) ≤ _; omega, by show _ ≤ (2147483647 : Int); omega⟩ ⟨by show ((-2147483648) : Int) ≤ _; omega, by show _ ≤ (2147483647 : Int); omega⟩ ⟨by show ((-2147483648) : Int) ≤ _; omega, by show _ ≤ (2147483647 : Int); omega⟩
    exact ⟨0, lw_leaf hy ev_30_x ((hm_88 _).trans (hm_88 _).symm) (fun ρ b hb => ⟨⟨b, hb, rfl⟩, rfl, rfl, rfl, trivial⟩), lw_leaf hy ev_30_m ((hm_149 _).trans (hm_149 _).symm) (fun ρ b hb => ⟨⟨b, hb, rfl⟩, rfl, rfl, rfl, trivial⟩)⟩
set_option maxHeartbeats 4000000 in
set_option maxRecDepth 100000 in
theorem op_least {l : Launch} {D : va_G} {cy : Nat → ClassId} {σ : Nat → Int32} : ∃ r : Int32, lwMt l D cy σ WX 76 [.int (σ 0), .int (σ 1)] (some (.int r)) ∧ lwMt l D cy σ WM 122 [.int (σ 0), .int (σ 1)] (some (.int r)) := by
  have l0 := lw_lo (σ 0)
  have u0 := lw_hi (σ 0)
  have l1 := lw_lo (σ 1)
  have u1 := lw_hi (σ 1)
  have hs : (σ 0).toInt ≤ (-1) ∨ (σ 0).toInt = 0 ∨ 1 ≤ (σ 0).toInt := by omega
  rcases hs with h0 | h0 | h0
  · have hy : rx_YOk ([((-2147483648), (-1)), ((-2147483648), 2147483647)], []) σ := yok2 ⟨by show ((-2147483648) : Int) ≤ _; omega, by show _ ≤ ((-1) : Int); omega⟩ ⟨by show ((-2147483648) : Int) ≤ _; omega, by show _ ≤ (2147483647 : Int); omega⟩
    exact ⟨0, lw_leaf hy ev_31_x ((hm_76 _).trans (hm_76 _).symm) (fun ρ b hb => ⟨⟨b, hb, rfl⟩, rfl, rfl, trivial⟩), lw_leaf hy ev_31_m ((hm_122 _).trans (hm_122 _).symm) (fun ρ b hb => ⟨⟨b, hb, rfl⟩, rfl, rfl, trivial⟩)⟩
  · have hs : (σ 1).toInt ≤ (-1) ∨ (σ 1).toInt = 0 ∨ 1 ≤ (σ 1).toInt := by omega
    rcases hs with h1 | h1 | h1
    · have e0 : σ 0 = 0 := lw_cst (h0.trans (by decide))
      have hy : rx_YOk ([(0, 0), ((-2147483648), (-1))], []) σ := yok2 ⟨by show (0 : Int) ≤ _; omega, by show _ ≤ (0 : Int); omega⟩ ⟨by show ((-2147483648) : Int) ≤ _; omega, by show _ ≤ ((-1) : Int); omega⟩
      exact ⟨0, lw_leaf hy ev_32_x ((hm_76 _).trans (hm_76 _).symm) (fun ρ b hb => ⟨⟨b, hb, rfl⟩, (by show Value.int (σ 0) = Value.int 0; rw [e0]), rfl, trivial⟩), lw_leaf hy ev_32_m ((hm_122 _).trans (hm_122 _).symm) (fun ρ b hb => ⟨⟨b, hb, rfl⟩, (by show Value.int (σ 0) = Value.int 0; rw [e0]), rfl, trivial⟩)⟩
    · have e0 : σ 0 = 0 := lw_cst (h0.trans (by decide))
      have e1 : σ 1 = 0 := lw_cst (h1.trans (by decide))
      have hy : rx_YOk ([(0, 0), (0, 0)], []) σ := yok2 ⟨by show (0 : Int) ≤ _; omega, by show _ ≤ (0 : Int); omega⟩ ⟨by show (0 : Int) ≤ _; omega, by show _ ≤ (0 : Int); omega⟩
      exact ⟨1, lw_leaf hy ev_33_x ((hm_76 _).trans (hm_76 _).symm) (fun ρ b hb => ⟨⟨b, hb, rfl⟩, (by show Value.int (σ 0) = Value.int 0; rw [e0]), (by show Value.int (σ 1) = Value.int 0; rw [e1]), trivial⟩), lw_leaf hy ev_33_m ((hm_122 _).trans (hm_122 _).symm) (fun ρ b hb => ⟨⟨b, hb, rfl⟩, (by show Value.int (σ 0) = Value.int 0; rw [e0]), (by show Value.int (σ 1) = Value.int 0; rw [e1]), trivial⟩)⟩
    · have e0 : σ 0 = 0 := lw_cst (h0.trans (by decide))
      have hy : rx_YOk ([(0, 0), (1, 2147483647)], []) σ := yok2 ⟨by show (0 : Int) ≤ _; omega, by show _ ≤ (0 : Int); omega⟩ ⟨by show (1 : Int) ≤ _; omega, by show _ ≤ (2147483647 : Int); omega⟩
      exact ⟨0, lw_leaf hy ev_34_x ((hm_76 _).trans (hm_76 _).symm) (fun ρ b hb => ⟨⟨b, hb, rfl⟩, (by show Value.int (σ 0) = Value.int 0; rw [e0]), rfl, trivial⟩), lw_leaf hy ev_34_m ((hm_122 _).trans (hm_122 _).symm) (fun ρ b hb => ⟨⟨b, hb, rfl⟩, (by show Value.int (σ 0) = Value.int 0; rw [e0]), rfl, trivial⟩)⟩
  · have hy : rx_YOk ([(1, 2147483647), ((-2147483648), 2147483647)], []) σ := yok2 ⟨by show (1 : Int) ≤ _; omega, by show _ ≤ (2147483647 : Int); omega⟩ ⟨by show ((-2147483648) : Int) ≤ _; omega, by show _ ≤ (2147483647 : Int); omega⟩
    exact ⟨0, lw_leaf hy ev_35_x ((hm_76 _).trans (hm_76 _).symm) (fun ρ b hb => ⟨⟨b, hb, rfl⟩, rfl, rfl, trivial⟩), lw_leaf hy ev_35_m ((hm_122 _).trans (hm_122 _).symm) (fun ρ b hb => ⟨⟨b, hb, rfl⟩, rfl, rfl, trivial⟩)⟩
set_option maxHeartbeats 4000000 in
set_option maxRecDepth 100000 in
theorem op_ones {l : Launch} {D : va_G} {cy : Nat → ClassId} {σ : Nat → Int32} : ∃ r : Int64, lwMt l D cy σ WX 77 [.int (σ 0)] (some (.long r)) ∧ lwMt l D cy σ WM 128 [.int (σ 0)] (some (.long r)) := by
  have l0 := lw_lo (σ 0)
  have u0 := lw_hi (σ 0)
  have hs : (σ 0).toInt ≤ (-1) ∨ (σ 0).toInt = 0 ∨ 1 ≤ (σ 0).toInt := by omega
  rcases hs with h0 | h0 | h0
  · have hy : rx_YOk ([((-2147483648), (-1))], []) σ := yok1 ⟨by show ((-2147483648) : Int) ≤ _; omega, by show _ ≤ ((-1) : Int); omega⟩
    exact ⟨0, lw_leaf hy ev_36_x ((hm_77 _).trans (hm_77 _).symm) (fun ρ b hb => ⟨⟨b, hb, rfl⟩, rfl, trivial⟩), lw_leaf hy ev_36_m ((hm_128 _).trans (hm_128 _).symm) (fun ρ b hb => ⟨⟨b, hb, rfl⟩, rfl, trivial⟩)⟩
  · have e0 : σ 0 = 0 := lw_cst (h0.trans (by decide))
    have hy : rx_YOk ([(0, 0)], []) σ := yok1 ⟨by show (0 : Int) ≤ _; omega, by show _ ≤ (0 : Int); omega⟩
    exact ⟨1, lw_leaf hy ev_37_x ((hm_77 _).trans (hm_77 _).symm) (fun ρ b hb => ⟨⟨b, hb, rfl⟩, (by show Value.int (σ 0) = Value.int 0; rw [e0]), trivial⟩), lw_leaf hy ev_37_m ((hm_128 _).trans (hm_128 _).symm) (fun ρ b hb => ⟨⟨b, hb, rfl⟩, (by show Value.int (σ 0) = Value.int 0; rw [e0]), trivial⟩)⟩
  · have hy : rx_YOk ([(1, 2147483647)], []) σ := yok1 ⟨by show (1 : Int) ≤ _; omega, by show _ ≤ (2147483647 : Int); omega⟩
    exact ⟨0, lw_leaf hy ev_38_x ((hm_77 _).trans (hm_77 _).symm) (fun ρ b hb => ⟨⟨b, hb, rfl⟩, rfl, trivial⟩), lw_leaf hy ev_38_m ((hm_128 _).trans (hm_128 _).symm) (fun ρ b hb => ⟨⟨b, hb, rfl⟩, rfl, trivial⟩)⟩
set_option maxHeartbeats 4000000 in
set_option maxRecDepth 100000 in
theorem op_keep {l : Launch} {D : va_G} {cy : Nat → ClassId} {σ : Nat → Int32} : ∃ r : Int32, lwMt l D cy σ WX 75 [.int (σ 0)] (some (.int r)) ∧ lwMt l D cy σ WM 121 [.int (σ 0)] (some (.int r)) := by
  have l0 := lw_lo (σ 0)
  have u0 := lw_hi (σ 0)
  have hs : (σ 0).toInt ≤ (-1) ∨ (σ 0).toInt = 0 ∨ (σ 0).toInt = 1 ∨ (σ 0).toInt = 2 ∨ (σ 0).toInt = 3 ∨ 4 ≤ (σ 0).toInt := by omega
  rcases hs with h0 | h0 | h0 | h0 | h0 | h0
  · have hy : rx_YOk ([((-2147483648), (-1))], []) σ := yok1 ⟨by show ((-2147483648) : Int) ≤ _; omega, by show _ ≤ ((-1) : Int); omega⟩
    exact ⟨0, lw_leaf hy ev_39_x ((hm_75 _).trans (hm_75 _).symm) (fun ρ b hb => ⟨⟨b, hb, rfl⟩, rfl, trivial⟩), lw_leaf hy ev_39_m ((hm_121 _).trans (hm_121 _).symm) (fun ρ b hb => ⟨⟨b, hb, rfl⟩, rfl, trivial⟩)⟩
  · have e0 : σ 0 = 0 := lw_cst (h0.trans (by decide))
    have hy : rx_YOk ([(0, 0)], []) σ := yok1 ⟨by show (0 : Int) ≤ _; omega, by show _ ≤ (0 : Int); omega⟩
    exact ⟨1, lw_leaf hy ev_40_x ((hm_75 _).trans (hm_75 _).symm) (fun ρ b hb => ⟨⟨b, hb, rfl⟩, (by show Value.int (σ 0) = Value.int 0; rw [e0]), trivial⟩), lw_leaf hy ev_40_m ((hm_121 _).trans (hm_121 _).symm) (fun ρ b hb => ⟨⟨b, hb, rfl⟩, (by show Value.int (σ 0) = Value.int 0; rw [e0]), trivial⟩)⟩
  · have e0 : σ 0 = 1 := lw_cst (h0.trans (by decide))
    have hy : rx_YOk ([(1, 1)], []) σ := yok1 ⟨by show (1 : Int) ≤ _; omega, by show _ ≤ (1 : Int); omega⟩
    exact ⟨1, lw_leaf hy ev_41_x ((hm_75 _).trans (hm_75 _).symm) (fun ρ b hb => ⟨⟨b, hb, rfl⟩, (by show Value.int (σ 0) = Value.int 1; rw [e0]), trivial⟩), lw_leaf hy ev_41_m ((hm_121 _).trans (hm_121 _).symm) (fun ρ b hb => ⟨⟨b, hb, rfl⟩, (by show Value.int (σ 0) = Value.int 1; rw [e0]), trivial⟩)⟩
  · have e0 : σ 0 = 2 := lw_cst (h0.trans (by decide))
    have hy : rx_YOk ([(2, 2)], []) σ := yok1 ⟨by show (2 : Int) ≤ _; omega, by show _ ≤ (2 : Int); omega⟩
    exact ⟨1, lw_leaf hy ev_42_x ((hm_75 _).trans (hm_75 _).symm) (fun ρ b hb => ⟨⟨b, hb, rfl⟩, (by show Value.int (σ 0) = Value.int 2; rw [e0]), trivial⟩), lw_leaf hy ev_42_m ((hm_121 _).trans (hm_121 _).symm) (fun ρ b hb => ⟨⟨b, hb, rfl⟩, (by show Value.int (σ 0) = Value.int 2; rw [e0]), trivial⟩)⟩
  · have e0 : σ 0 = 3 := lw_cst (h0.trans (by decide))
    have hy : rx_YOk ([(3, 3)], []) σ := yok1 ⟨by show (3 : Int) ≤ _; omega, by show _ ≤ (3 : Int); omega⟩
    exact ⟨1, lw_leaf hy ev_43_x ((hm_75 _).trans (hm_75 _).symm) (fun ρ b hb => ⟨⟨b, hb, rfl⟩, (by show Value.int (σ 0) = Value.int 3; rw [e0]), trivial⟩), lw_leaf hy ev_43_m ((hm_121 _).trans (hm_121 _).symm) (fun ρ b hb => ⟨⟨b, hb, rfl⟩, (by show Value.int (σ 0) = Value.int 3; rw [e0]), trivial⟩)⟩
  · have hy : rx_YOk ([(4, 2147483647)], []) σ := yok1 ⟨by show (4 : Int) ≤ _; omega, by show _ ≤ (2147483647 : Int); omega⟩
    exact ⟨0, lw_leaf hy ev_44_x ((hm_75 _).trans (hm_75 _).symm) (fun ρ b hb => ⟨⟨b, hb, rfl⟩, rfl, trivial⟩), lw_leaf hy ev_44_m ((hm_121 _).trans (hm_121 _).symm) (fun ρ b hb => ⟨⟨b, hb, rfl⟩, rfl, trivial⟩)⟩
set_option maxHeartbeats 4000000 in
set_option maxRecDepth 100000 in
theorem op_same {l : Launch} {D : va_G} {cy : Nat → ClassId} {σ : Nat → Int32} : ∃ r : Int32, lwMt l D cy σ WX 82 [.int (σ 0)] (some (.int r)) ∧ lwMt l D cy σ WM 137 [.int (σ 0)] (some (.int r)) := by
  have l0 := lw_lo (σ 0)
  have u0 := lw_hi (σ 0)
  have hs : (σ 0).toInt ≤ (-1) ∨ (σ 0).toInt = 0 ∨ (σ 0).toInt = 1 ∨ (σ 0).toInt = 2 ∨ (σ 0).toInt = 3 ∨ 4 ≤ (σ 0).toInt := by omega
  rcases hs with h0 | h0 | h0 | h0 | h0 | h0
  · have hy : rx_YOk ([((-2147483648), (-1))], []) σ := yok1 ⟨by show ((-2147483648) : Int) ≤ _; omega, by show _ ≤ ((-1) : Int); omega⟩
    exact ⟨(-1), lw_leaf hy ev_45_x ((hm_82 _).trans (hm_82 _).symm) (fun ρ b hb => ⟨⟨b, hb, rfl⟩, rfl, trivial⟩), lw_leaf hy ev_45_m ((hm_137 _).trans (hm_137 _).symm) (fun ρ b hb => ⟨⟨b, hb, rfl⟩, rfl, trivial⟩)⟩
  · have e0 : σ 0 = 0 := lw_cst (h0.trans (by decide))
    have hy : rx_YOk ([(0, 0)], []) σ := yok1 ⟨by show (0 : Int) ≤ _; omega, by show _ ≤ (0 : Int); omega⟩
    exact ⟨(-1), lw_leaf hy ev_46_x ((hm_82 _).trans (hm_82 _).symm) (fun ρ b hb => ⟨⟨b, hb, rfl⟩, (by show Value.int (σ 0) = Value.int 0; rw [e0]), trivial⟩), lw_leaf hy ev_46_m ((hm_137 _).trans (hm_137 _).symm) (fun ρ b hb => ⟨⟨b, hb, rfl⟩, (by show Value.int (σ 0) = Value.int 0; rw [e0]), trivial⟩)⟩
  · have e0 : σ 0 = 1 := lw_cst (h0.trans (by decide))
    have hy : rx_YOk ([(1, 1)], []) σ := yok1 ⟨by show (1 : Int) ≤ _; omega, by show _ ≤ (1 : Int); omega⟩
    exact ⟨(-1), lw_leaf hy ev_47_x ((hm_82 _).trans (hm_82 _).symm) (fun ρ b hb => ⟨⟨b, hb, rfl⟩, (by show Value.int (σ 0) = Value.int 1; rw [e0]), trivial⟩), lw_leaf hy ev_47_m ((hm_137 _).trans (hm_137 _).symm) (fun ρ b hb => ⟨⟨b, hb, rfl⟩, (by show Value.int (σ 0) = Value.int 1; rw [e0]), trivial⟩)⟩
  · have e0 : σ 0 = 2 := lw_cst (h0.trans (by decide))
    have hy : rx_YOk ([(2, 2)], []) σ := yok1 ⟨by show (2 : Int) ≤ _; omega, by show _ ≤ (2 : Int); omega⟩
    exact ⟨(-1), lw_leaf hy ev_48_x ((hm_82 _).trans (hm_82 _).symm) (fun ρ b hb => ⟨⟨b, hb, rfl⟩, (by show Value.int (σ 0) = Value.int 2; rw [e0]), trivial⟩), lw_leaf hy ev_48_m ((hm_137 _).trans (hm_137 _).symm) (fun ρ b hb => ⟨⟨b, hb, rfl⟩, (by show Value.int (σ 0) = Value.int 2; rw [e0]), trivial⟩)⟩
  · have e0 : σ 0 = 3 := lw_cst (h0.trans (by decide))
    have hy : rx_YOk ([(3, 3)], []) σ := yok1 ⟨by show (3 : Int) ≤ _; omega, by show _ ≤ (3 : Int); omega⟩
    exact ⟨(-1), lw_leaf hy ev_49_x ((hm_82 _).trans (hm_82 _).symm) (fun ρ b hb => ⟨⟨b, hb, rfl⟩, (by show Value.int (σ 0) = Value.int 3; rw [e0]), trivial⟩), lw_leaf hy ev_49_m ((hm_137 _).trans (hm_137 _).symm) (fun ρ b hb => ⟨⟨b, hb, rfl⟩, (by show Value.int (σ 0) = Value.int 3; rw [e0]), trivial⟩)⟩
  · have hy : rx_YOk ([(4, 2147483647)], []) σ := yok1 ⟨by show (4 : Int) ≤ _; omega, by show _ ≤ (2147483647 : Int); omega⟩
    exact ⟨(-1), lw_leaf hy ev_50_x ((hm_82 _).trans (hm_82 _).symm) (fun ρ b hb => ⟨⟨b, hb, rfl⟩, rfl, trivial⟩), lw_leaf hy ev_50_m ((hm_137 _).trans (hm_137 _).symm) (fun ρ b hb => ⟨⟨b, hb, rfl⟩, rfl, trivial⟩)⟩
set_option maxHeartbeats 4000000 in
set_option maxRecDepth 100000 in
theorem op_all {l : Launch} {D : va_G} {cy : Nat → ClassId} {σ : Nat → Int32} : ∃ r : Int32, lwMt l D cy σ WX 59 [] (some (.int r)) ∧ lwMt l D cy σ WM 96 [] (some (.int r)) := by
  have hy : rx_YOk ([], []) σ := yok0 
  exact ⟨2, lw_leaf hy ev_51_x ((hm_59 _).trans (hm_59 _).symm) (fun ρ b hb => ⟨⟨b, hb, rfl⟩, trivial⟩), lw_leaf hy ev_51_m ((hm_96 _).trans (hm_96 _).symm) (fun ρ b hb => ⟨⟨b, hb, rfl⟩, trivial⟩)⟩
set_option maxHeartbeats 4000000 in
set_option maxRecDepth 100000 in
theorem op_what {l : Launch} {D : va_G} {cy : Nat → ClassId} {σ : Nat → Int32} : ∃ r : Int64, lwMt l D cy σ WX 93 [.int (σ 0), .int (σ 1)] (some (.long r)) ∧ lwMt l D cy σ WM 157 [.int (σ 0), .int (σ 1)] (some (.long r)) := by
  have l0 := lw_lo (σ 0)
  have u0 := lw_hi (σ 0)
  have l1 := lw_lo (σ 1)
  have u1 := lw_hi (σ 1)
  have hs : (σ 0).toInt ≤ (-1) ∨ 0 ≤ (σ 0).toInt := by omega
  rcases hs with h0 | h0
  · have hs : (σ 1).toInt ≤ (-1) ∨ (σ 1).toInt = 0 ∨ 1 ≤ (σ 1).toInt := by omega
    rcases hs with h1 | h1 | h1
    · have hy : rx_YOk ([((-2147483648), (-1)), ((-2147483648), (-1))], []) σ := yok2 ⟨by show ((-2147483648) : Int) ≤ _; omega, by show _ ≤ ((-1) : Int); omega⟩ ⟨by show ((-2147483648) : Int) ≤ _; omega, by show _ ≤ ((-1) : Int); omega⟩
      exact ⟨(-1), lw_leaf hy ev_52_x ((hm_93 _).trans (hm_93 _).symm) (fun ρ b hb => ⟨⟨b, hb, rfl⟩, rfl, rfl, trivial⟩), lw_leaf hy ev_52_m ((hm_157 _).trans (hm_157 _).symm) (fun ρ b hb => ⟨⟨b, hb, rfl⟩, rfl, rfl, trivial⟩)⟩
    · have e1 : σ 1 = 0 := lw_cst (h1.trans (by decide))
      have hy : rx_YOk ([((-2147483648), (-1)), (0, 0)], []) σ := yok2 ⟨by show ((-2147483648) : Int) ≤ _; omega, by show _ ≤ ((-1) : Int); omega⟩ ⟨by show (0 : Int) ≤ _; omega, by show _ ≤ (0 : Int); omega⟩
      exact ⟨(-1), lw_leaf hy ev_53_x ((hm_93 _).trans (hm_93 _).symm) (fun ρ b hb => ⟨⟨b, hb, rfl⟩, rfl, (by show Value.int (σ 1) = Value.int 0; rw [e1]), trivial⟩), lw_leaf hy ev_53_m ((hm_157 _).trans (hm_157 _).symm) (fun ρ b hb => ⟨⟨b, hb, rfl⟩, rfl, (by show Value.int (σ 1) = Value.int 0; rw [e1]), trivial⟩)⟩
    · have hy : rx_YOk ([((-2147483648), (-1)), (1, 2147483647)], []) σ := yok2 ⟨by show ((-2147483648) : Int) ≤ _; omega, by show _ ≤ ((-1) : Int); omega⟩ ⟨by show (1 : Int) ≤ _; omega, by show _ ≤ (2147483647 : Int); omega⟩
      exact ⟨(-1), lw_leaf hy ev_54_x ((hm_93 _).trans (hm_93 _).symm) (fun ρ b hb => ⟨⟨b, hb, rfl⟩, rfl, rfl, trivial⟩), lw_leaf hy ev_54_m ((hm_157 _).trans (hm_157 _).symm) (fun ρ b hb => ⟨⟨b, hb, rfl⟩, rfl, rfl, trivial⟩)⟩
  · have hs : (σ 1).toInt ≤ (-1) ∨ (σ 1).toInt = 0 ∨ 1 ≤ (σ 1).toInt := by omega
    rcases hs with h1 | h1 | h1
    · have hy : rx_YOk ([(0, 2147483647), ((-2147483648), (-1))], []) σ := yok2 ⟨by show (0 : Int) ≤ _; omega, by show _ ≤ (2147483647 : Int); omega⟩ ⟨by show ((-2147483648) : Int) ≤ _; omega, by show _ ≤ ((-1) : Int); omega⟩
      exact ⟨(-1), lw_leaf hy ev_55_x ((hm_93 _).trans (hm_93 _).symm) (fun ρ b hb => ⟨⟨b, hb, rfl⟩, rfl, rfl, trivial⟩), lw_leaf hy ev_55_m ((hm_157 _).trans (hm_157 _).symm) (fun ρ b hb => ⟨⟨b, hb, rfl⟩, rfl, rfl, trivial⟩)⟩
    · have e1 : σ 1 = 0 := lw_cst (h1.trans (by decide))
      have hy : rx_YOk ([(0, 2147483647), (0, 0)], []) σ := yok2 ⟨by show (0 : Int) ≤ _; omega, by show _ ≤ (2147483647 : Int); omega⟩ ⟨by show (0 : Int) ≤ _; omega, by show _ ≤ (0 : Int); omega⟩
      exact ⟨(-1), lw_leaf hy ev_56_x ((hm_93 _).trans (hm_93 _).symm) (fun ρ b hb => ⟨⟨b, hb, rfl⟩, rfl, (by show Value.int (σ 1) = Value.int 0; rw [e1]), trivial⟩), lw_leaf hy ev_56_m ((hm_157 _).trans (hm_157 _).symm) (fun ρ b hb => ⟨⟨b, hb, rfl⟩, rfl, (by show Value.int (σ 1) = Value.int 0; rw [e1]), trivial⟩)⟩
    · have hy : rx_YOk ([(0, 2147483647), (1, 2147483647)], []) σ := yok2 ⟨by show (0 : Int) ≤ _; omega, by show _ ≤ (2147483647 : Int); omega⟩ ⟨by show (1 : Int) ≤ _; omega, by show _ ≤ (2147483647 : Int); omega⟩
      exact ⟨(-1), lw_leaf hy ev_57_x ((hm_93 _).trans (hm_93 _).symm) (fun ρ b hb => ⟨⟨b, hb, rfl⟩, rfl, rfl, trivial⟩), lw_leaf hy ev_57_m ((hm_157 _).trans (hm_157 _).symm) (fun ρ b hb => ⟨⟨b, hb, rfl⟩, rfl, rfl, trivial⟩)⟩
set_option maxHeartbeats 4000000 in
set_option maxRecDepth 100000 in
theorem op_finite {l : Launch} {D : va_G} {cy : Nat → ClassId} {σ : Nat → Int32} : ∃ r : Int32, lwMt l D cy σ WX 66 [] (some (.int r)) ∧ lwMt l D cy σ WM 108 [] (some (.int r)) := by
  have hy : rx_YOk ([], []) σ := yok0 
  exact ⟨1, lw_leaf hy ev_58_x ((hm_66 _).trans (hm_66 _).symm) (fun ρ b hb => ⟨⟨b, hb, rfl⟩, trivial⟩), lw_leaf hy ev_58_m ((hm_108 _).trans (hm_108 _).symm) (fun ρ b hb => ⟨⟨b, hb, rfl⟩, trivial⟩)⟩
set_option maxHeartbeats 4000000 in
set_option maxRecDepth 100000 in
theorem op_step {l : Launch} {D : va_G} {cy : Nat → ClassId} {σ : Nat → Int32} : ∃ r : Int32, lwMt l D cy σ WX 85 [.int (σ 0)] (some (.int r)) ∧ lwMt l D cy σ WM 142 [.int (σ 0)] (some (.int r)) := by
  have l0 := lw_lo (σ 0)
  have u0 := lw_hi (σ 0)
  have hs : (σ 0).toInt ≤ (-1) ∨ 0 ≤ (σ 0).toInt := by omega
  rcases hs with h0 | h0
  · have hy : rx_YOk ([((-2147483648), (-1))], []) σ := yok1 ⟨by show ((-2147483648) : Int) ≤ _; omega, by show _ ≤ ((-1) : Int); omega⟩
    exact ⟨(-1), lw_leaf hy ev_59_x ((hm_85 _).trans (hm_85 _).symm) (fun ρ b hb => ⟨⟨b, hb, rfl⟩, rfl, trivial⟩), lw_leaf hy ev_59_m ((hm_142 _).trans (hm_142 _).symm) (fun ρ b hb => ⟨⟨b, hb, rfl⟩, rfl, trivial⟩)⟩
  · have hy : rx_YOk ([(0, 2147483647)], []) σ := yok1 ⟨by show (0 : Int) ≤ _; omega, by show _ ≤ (2147483647 : Int); omega⟩
    exact ⟨(-1), lw_leaf hy ev_60_x ((hm_85 _).trans (hm_85 _).symm) (fun ρ b hb => ⟨⟨b, hb, rfl⟩, rfl, trivial⟩), lw_leaf hy ev_60_m ((hm_142 _).trans (hm_142 _).symm) (fun ρ b hb => ⟨⟨b, hb, rfl⟩, rfl, trivial⟩)⟩
set_option maxHeartbeats 4000000 in
set_option maxRecDepth 100000 in
theorem op_tables {l : Launch} {D : va_G} {cy : Nat → ClassId} {σ : Nat → Int32} : ∃ r : Int32, lwMt l D cy σ WX 87 [] (some (.int r)) ∧ lwMt l D cy σ WM 146 [] (some (.int r)) := by
  have hy : rx_YOk ([], []) σ := yok0 
  exact ⟨0, lw_leaf hy ev_61_x ((hm_87 _).trans (hm_87 _).symm) (fun ρ b hb => ⟨⟨b, hb, rfl⟩, trivial⟩), lw_leaf hy ev_61_m ((hm_146 _).trans (hm_146 _).symm) (fun ρ b hb => ⟨⟨b, hb, rfl⟩, trivial⟩)⟩
set_option maxHeartbeats 4000000 in
set_option maxRecDepth 100000 in
theorem op_row {l : Launch} {D : va_G} {cy : Nat → ClassId} {σ : Nat → Int32} : ∃ r : Int32, lwMt l D cy σ WX 81 [.int (σ 0), .int (σ 1), .int (σ 2)] (some (.int r)) ∧ lwMt l D cy σ WM 136 [.int (σ 0), .int (σ 1), .int (σ 2)] (some (.int r)) := by
  have l0 := lw_lo (σ 0)
  have u0 := lw_hi (σ 0)
  have l1 := lw_lo (σ 1)
  have u1 := lw_hi (σ 1)
  have l2 := lw_lo (σ 2)
  have u2 := lw_hi (σ 2)
  have hs : (σ 0).toInt ≤ 0 ∨ (1 ≤ (σ 0).toInt ∧ (σ 0).toInt ≤ 12) ∨ 13 ≤ (σ 0).toInt := by omega
  rcases hs with h0 | h0 | h0
  · have hy : rx_YOk ([((-2147483648), 0), ((-2147483648), 2147483647), ((-2147483648), 2147483647)], []) σ := yok3 ⟨by show ((-2147483648) : Int) ≤ _; omega, by show _ ≤ (0 : Int); omega⟩ ⟨by show ((-2147483648) : Int) ≤ _; omega, by show _ ≤ (2147483647 : Int); omega⟩ ⟨by show ((-2147483648) : Int) ≤ _; omega, by show _ ≤ (2147483647 : Int); omega⟩
    exact ⟨0, lw_leaf hy ev_62_x ((hm_81 _).trans (hm_81 _).symm) (fun ρ b hb => ⟨⟨b, hb, rfl⟩, rfl, rfl, rfl, trivial⟩), lw_leaf hy ev_62_m ((hm_136 _).trans (hm_136 _).symm) (fun ρ b hb => ⟨⟨b, hb, rfl⟩, rfl, rfl, rfl, trivial⟩)⟩
  · have hs : (σ 1).toInt ≤ -1 ∨ 0 ≤ (σ 1).toInt := by omega
    rcases hs with h1 | h1
    · have hy : rx_YOk ([(1, 12), ((-2147483648), (-1)), ((-2147483648), 2147483647)], []) σ := yok3 ⟨by show (1 : Int) ≤ _; omega, by show _ ≤ (12 : Int); omega⟩ ⟨by show ((-2147483648) : Int) ≤ _; omega, by show _ ≤ ((-1) : Int); omega⟩ ⟨by show ((-2147483648) : Int) ≤ _; omega, by show _ ≤ (2147483647 : Int); omega⟩
      exact ⟨0, lw_leaf hy ev_63_x ((hm_81 _).trans (hm_81 _).symm) (fun ρ b hb => ⟨⟨b, hb, rfl⟩, rfl, rfl, rfl, trivial⟩), lw_leaf hy ev_63_m ((hm_136 _).trans (hm_136 _).symm) (fun ρ b hb => ⟨⟨b, hb, rfl⟩, rfl, rfl, rfl, trivial⟩)⟩
    · by_cases hlt : σ 1 < σ 0
      · have hi := Int32.lt_iff_toInt_lt.mp hlt
        have hrel : σ 1 < σ 0 ↔ true = true := ⟨fun _ => rfl, fun _ => hlt⟩
        have hs : (σ 2).toInt ≤ -1 ∨ (0 ≤ (σ 2).toInt ∧ (σ 2).toInt ≤ 5) ∨ 6 ≤ (σ 2).toInt := by omega
        rcases hs with h2 | h2 | h2
        · have hy : rx_YOk ([(1, 12), (0, 11), ((-2147483648), (-1))], [(1, 0, true)]) σ := yok3r ⟨by show (1 : Int) ≤ _; omega, by show _ ≤ (12 : Int); omega⟩ ⟨by show (0 : Int) ≤ _; omega, by show _ ≤ (11 : Int); omega⟩ ⟨by show ((-2147483648) : Int) ≤ _; omega, by show _ ≤ ((-1) : Int); omega⟩ hrel
          exact ⟨0, lw_leaf hy ev_65_x ((hm_81 _).trans (hm_81 _).symm) (fun ρ b hb => ⟨⟨b, hb, rfl⟩, rfl, rfl, rfl, trivial⟩), lw_leaf hy ev_65_m ((hm_136 _).trans (hm_136 _).symm) (fun ρ b hb => ⟨⟨b, hb, rfl⟩, rfl, rfl, rfl, trivial⟩)⟩
        · have hy : rx_YOk ([(1, 12), (0, 11), (0, 5)], [(1, 0, true)]) σ := yok3r ⟨by show (1 : Int) ≤ _; omega, by show _ ≤ (12 : Int); omega⟩ ⟨by show (0 : Int) ≤ _; omega, by show _ ≤ (11 : Int); omega⟩ ⟨by show (0 : Int) ≤ _; omega, by show _ ≤ (5 : Int); omega⟩ hrel
          exact ⟨1, lw_leaf hy ev_66_x ((hm_81 _).trans (hm_81 _).symm) (fun ρ b hb => ⟨⟨b, hb, rfl⟩, rfl, rfl, rfl, trivial⟩), lw_leaf hy ev_66_m ((hm_136 _).trans (hm_136 _).symm) (fun ρ b hb => ⟨⟨b, hb, rfl⟩, rfl, rfl, rfl, trivial⟩)⟩
        · have hy : rx_YOk ([(1, 12), (0, 11), (6, 2147483647)], [(1, 0, true)]) σ := yok3r ⟨by show (1 : Int) ≤ _; omega, by show _ ≤ (12 : Int); omega⟩ ⟨by show (0 : Int) ≤ _; omega, by show _ ≤ (11 : Int); omega⟩ ⟨by show (6 : Int) ≤ _; omega, by show _ ≤ (2147483647 : Int); omega⟩ hrel
          exact ⟨0, lw_leaf hy ev_67_x ((hm_81 _).trans (hm_81 _).symm) (fun ρ b hb => ⟨⟨b, hb, rfl⟩, rfl, rfl, rfl, trivial⟩), lw_leaf hy ev_67_m ((hm_136 _).trans (hm_136 _).symm) (fun ρ b hb => ⟨⟨b, hb, rfl⟩, rfl, rfl, rfl, trivial⟩)⟩
      · have hrel : σ 1 < σ 0 ↔ false = true := ⟨fun h => absurd h hlt, fun h => by cases h⟩
        have hy : rx_YOk ([(1, 12), (0, 2147483647), ((-2147483648), 2147483647)], [(1, 0, false)]) σ := yok3r ⟨by show (1 : Int) ≤ _; omega, by show _ ≤ (12 : Int); omega⟩ ⟨by show (0 : Int) ≤ _; omega, by show _ ≤ (2147483647 : Int); omega⟩ ⟨by show ((-2147483648) : Int) ≤ _; omega, by show _ ≤ (2147483647 : Int); omega⟩ hrel
        exact ⟨0, lw_leaf hy ev_64_x ((hm_81 _).trans (hm_81 _).symm) (fun ρ b hb => ⟨⟨b, hb, rfl⟩, rfl, rfl, rfl, trivial⟩), lw_leaf hy ev_64_m ((hm_136 _).trans (hm_136 _).symm) (fun ρ b hb => ⟨⟨b, hb, rfl⟩, rfl, rfl, rfl, trivial⟩)⟩
  · have hy : rx_YOk ([(13, 2147483647), ((-2147483648), 2147483647), ((-2147483648), 2147483647)], []) σ := yok3 ⟨by show (13 : Int) ≤ _; omega, by show _ ≤ (2147483647 : Int); omega⟩ ⟨by show ((-2147483648) : Int) ≤ _; omega, by show _ ≤ (2147483647 : Int); omega⟩ ⟨by show ((-2147483648) : Int) ≤ _; omega, by show _ ≤ (2147483647 : Int); omega⟩
    exact ⟨0, lw_leaf hy ev_68_x ((hm_81 _).trans (hm_81 _).symm) (fun ρ b hb => ⟨⟨b, hb, rfl⟩, rfl, rfl, rfl, trivial⟩), lw_leaf hy ev_68_m ((hm_136 _).trans (hm_136 _).symm) (fun ρ b hb => ⟨⟨b, hb, rfl⟩, rfl, rfl, rfl, trivial⟩)⟩
set_option maxHeartbeats 4000000 in
set_option maxRecDepth 100000 in
theorem op_order {l : Launch} {D : va_G} {cy : Nat → ClassId} {σ : Nat → Int32} : ∃ r : Int32, lwMt l D cy σ WX 78 [] (some (.int r)) ∧ lwMt l D cy σ WM 129 [] (some (.int r)) := by
  have hy : rx_YOk ([], []) σ := yok0 
  exact ⟨(-1), lw_leaf hy ev_69_x ((hm_78 _).trans (hm_78 _).symm) (fun ρ b hb => ⟨⟨b, hb, rfl⟩, trivial⟩), lw_leaf hy ev_69_m ((hm_129 _).trans (hm_129 _).symm) (fun ρ b hb => ⟨⟨b, hb, rfl⟩, trivial⟩)⟩
set_option maxHeartbeats 4000000 in
set_option maxRecDepth 100000 in
theorem op_ring {l : Launch} {D : va_G} {cy : Nat → ClassId} {σ : Nat → Int32} : ∃ r : Int32, lwMt l D cy σ WX 79 [.int (σ 0), .int (σ 1)] (some (.int r)) ∧ lwMt l D cy σ WM 134 [.int (σ 0), .int (σ 1)] (some (.int r)) := by
  have l0 := lw_lo (σ 0)
  have u0 := lw_hi (σ 0)
  have l1 := lw_lo (σ 1)
  have u1 := lw_hi (σ 1)
  have hs : (σ 0).toInt ≤ (-1) ∨ (σ 0).toInt = 0 ∨ (σ 0).toInt = 1 ∨ 2 ≤ (σ 0).toInt := by omega
  rcases hs with h0 | h0 | h0 | h0
  · have hy : rx_YOk ([((-2147483648), (-1)), ((-2147483648), 2147483647)], []) σ := yok2 ⟨by show ((-2147483648) : Int) ≤ _; omega, by show _ ≤ ((-1) : Int); omega⟩ ⟨by show ((-2147483648) : Int) ≤ _; omega, by show _ ≤ (2147483647 : Int); omega⟩
    exact ⟨0, lw_leaf hy ev_70_x ((hm_79 _).trans (hm_79 _).symm) (fun ρ b hb => ⟨⟨b, hb, rfl⟩, rfl, rfl, trivial⟩), lw_leaf hy ev_70_m ((hm_134 _).trans (hm_134 _).symm) (fun ρ b hb => ⟨⟨b, hb, rfl⟩, rfl, rfl, trivial⟩)⟩
  · have hs : (σ 1).toInt ≤ 3 ∨ (4 ≤ (σ 1).toInt ∧ (σ 1).toInt ≤ 10) ∨ 11 ≤ (σ 1).toInt := by omega
    rcases hs with h1 | h1 | h1
    · have e0 : σ 0 = 0 := lw_cst (h0.trans (by decide))
      have hy : rx_YOk ([(0, 0), ((-2147483648), 3)], []) σ := yok2 ⟨by show (0 : Int) ≤ _; omega, by show _ ≤ (0 : Int); omega⟩ ⟨by show ((-2147483648) : Int) ≤ _; omega, by show _ ≤ (3 : Int); omega⟩
      exact ⟨0, lw_leaf hy ev_71_x ((hm_79 _).trans (hm_79 _).symm) (fun ρ b hb => ⟨⟨b, hb, rfl⟩, (by show Value.int (σ 0) = Value.int 0; rw [e0]), rfl, trivial⟩), lw_leaf hy ev_71_m ((hm_134 _).trans (hm_134 _).symm) (fun ρ b hb => ⟨⟨b, hb, rfl⟩, (by show Value.int (σ 0) = Value.int 0; rw [e0]), rfl, trivial⟩)⟩
    · have e0 : σ 0 = 0 := lw_cst (h0.trans (by decide))
      have hy : rx_YOk ([(0, 0), (4, 10)], []) σ := yok2 ⟨by show (0 : Int) ≤ _; omega, by show _ ≤ (0 : Int); omega⟩ ⟨by show (4 : Int) ≤ _; omega, by show _ ≤ (10 : Int); omega⟩
      exact ⟨1, lw_leaf hy ev_72_x ((hm_79 _).trans (hm_79 _).symm) (fun ρ b hb => ⟨⟨b, hb, rfl⟩, (by show Value.int (σ 0) = Value.int 0; rw [e0]), rfl, trivial⟩), lw_leaf hy ev_72_m ((hm_134 _).trans (hm_134 _).symm) (fun ρ b hb => ⟨⟨b, hb, rfl⟩, (by show Value.int (σ 0) = Value.int 0; rw [e0]), rfl, trivial⟩)⟩
    · have e0 : σ 0 = 0 := lw_cst (h0.trans (by decide))
      have hy : rx_YOk ([(0, 0), (11, 2147483647)], []) σ := yok2 ⟨by show (0 : Int) ≤ _; omega, by show _ ≤ (0 : Int); omega⟩ ⟨by show (11 : Int) ≤ _; omega, by show _ ≤ (2147483647 : Int); omega⟩
      exact ⟨0, lw_leaf hy ev_73_x ((hm_79 _).trans (hm_79 _).symm) (fun ρ b hb => ⟨⟨b, hb, rfl⟩, (by show Value.int (σ 0) = Value.int 0; rw [e0]), rfl, trivial⟩), lw_leaf hy ev_73_m ((hm_134 _).trans (hm_134 _).symm) (fun ρ b hb => ⟨⟨b, hb, rfl⟩, (by show Value.int (σ 0) = Value.int 0; rw [e0]), rfl, trivial⟩)⟩
  · have hs : (σ 1).toInt ≤ 3 ∨ (4 ≤ (σ 1).toInt ∧ (σ 1).toInt ≤ 10) ∨ 11 ≤ (σ 1).toInt := by omega
    rcases hs with h1 | h1 | h1
    · have e0 : σ 0 = 1 := lw_cst (h0.trans (by decide))
      have hy : rx_YOk ([(1, 1), ((-2147483648), 3)], []) σ := yok2 ⟨by show (1 : Int) ≤ _; omega, by show _ ≤ (1 : Int); omega⟩ ⟨by show ((-2147483648) : Int) ≤ _; omega, by show _ ≤ (3 : Int); omega⟩
      exact ⟨0, lw_leaf hy ev_74_x ((hm_79 _).trans (hm_79 _).symm) (fun ρ b hb => ⟨⟨b, hb, rfl⟩, (by show Value.int (σ 0) = Value.int 1; rw [e0]), rfl, trivial⟩), lw_leaf hy ev_74_m ((hm_134 _).trans (hm_134 _).symm) (fun ρ b hb => ⟨⟨b, hb, rfl⟩, (by show Value.int (σ 0) = Value.int 1; rw [e0]), rfl, trivial⟩)⟩
    · have e0 : σ 0 = 1 := lw_cst (h0.trans (by decide))
      have hy : rx_YOk ([(1, 1), (4, 10)], []) σ := yok2 ⟨by show (1 : Int) ≤ _; omega, by show _ ≤ (1 : Int); omega⟩ ⟨by show (4 : Int) ≤ _; omega, by show _ ≤ (10 : Int); omega⟩
      exact ⟨1, lw_leaf hy ev_75_x ((hm_79 _).trans (hm_79 _).symm) (fun ρ b hb => ⟨⟨b, hb, rfl⟩, (by show Value.int (σ 0) = Value.int 1; rw [e0]), rfl, trivial⟩), lw_leaf hy ev_75_m ((hm_134 _).trans (hm_134 _).symm) (fun ρ b hb => ⟨⟨b, hb, rfl⟩, (by show Value.int (σ 0) = Value.int 1; rw [e0]), rfl, trivial⟩)⟩
    · have e0 : σ 0 = 1 := lw_cst (h0.trans (by decide))
      have hy : rx_YOk ([(1, 1), (11, 2147483647)], []) σ := yok2 ⟨by show (1 : Int) ≤ _; omega, by show _ ≤ (1 : Int); omega⟩ ⟨by show (11 : Int) ≤ _; omega, by show _ ≤ (2147483647 : Int); omega⟩
      exact ⟨0, lw_leaf hy ev_76_x ((hm_79 _).trans (hm_79 _).symm) (fun ρ b hb => ⟨⟨b, hb, rfl⟩, (by show Value.int (σ 0) = Value.int 1; rw [e0]), rfl, trivial⟩), lw_leaf hy ev_76_m ((hm_134 _).trans (hm_134 _).symm) (fun ρ b hb => ⟨⟨b, hb, rfl⟩, (by show Value.int (σ 0) = Value.int 1; rw [e0]), rfl, trivial⟩)⟩
  · have hy : rx_YOk ([(2, 2147483647), ((-2147483648), 2147483647)], []) σ := yok2 ⟨by show (2 : Int) ≤ _; omega, by show _ ≤ (2147483647 : Int); omega⟩ ⟨by show ((-2147483648) : Int) ≤ _; omega, by show _ ≤ (2147483647 : Int); omega⟩
    exact ⟨0, lw_leaf hy ev_77_x ((hm_79 _).trans (hm_79 _).symm) (fun ρ b hb => ⟨⟨b, hb, rfl⟩, rfl, rfl, trivial⟩), lw_leaf hy ev_77_m ((hm_134 _).trans (hm_134 _).symm) (fun ρ b hb => ⟨⟨b, hb, rfl⟩, rfl, rfl, trivial⟩)⟩
set_option maxHeartbeats 4000000 in
set_option maxRecDepth 100000 in
theorem op_fence {l : Launch} {D : va_G} {cy : Nat → ClassId} {σ : Nat → Int32} : ∃ r : Int32, lwMt l D cy σ WX 65 [.int (σ 0), .int (σ 1), .int (σ 2)] (some (.int r)) ∧ lwMt l D cy σ WM 106 [.int (σ 0), .int (σ 1), .int (σ 2)] (some (.int r)) := by
  have l0 := lw_lo (σ 0)
  have u0 := lw_hi (σ 0)
  have l1 := lw_lo (σ 1)
  have u1 := lw_hi (σ 1)
  have l2 := lw_lo (σ 2)
  have u2 := lw_hi (σ 2)
  have hs : (σ 0).toInt ≤ (-1) ∨ (σ 0).toInt = 0 ∨ (σ 0).toInt = 1 ∨ 2 ≤ (σ 0).toInt := by omega
  rcases hs with h0 | h0 | h0 | h0
  · have hy : rx_YOk ([((-2147483648), (-1)), ((-2147483648), 2147483647), ((-2147483648), 2147483647)], []) σ := yok3 ⟨by show ((-2147483648) : Int) ≤ _; omega, by show _ ≤ ((-1) : Int); omega⟩ ⟨by show ((-2147483648) : Int) ≤ _; omega, by show _ ≤ (2147483647 : Int); omega⟩ ⟨by show ((-2147483648) : Int) ≤ _; omega, by show _ ≤ (2147483647 : Int); omega⟩
    exact ⟨(-1), lw_leaf hy ev_78_x ((hm_65 _).trans (hm_65 _).symm) (fun ρ b hb => ⟨⟨b, hb, rfl⟩, rfl, rfl, rfl, trivial⟩), lw_leaf hy ev_78_m ((hm_106 _).trans (hm_106 _).symm) (fun ρ b hb => ⟨⟨b, hb, rfl⟩, rfl, rfl, rfl, trivial⟩)⟩
  · have hs : (σ 1).toInt ≤ (-1) ∨ (σ 1).toInt = 0 ∨ (σ 1).toInt = 1 ∨ (σ 1).toInt = 2 ∨ (σ 1).toInt = 3 ∨ 4 ≤ (σ 1).toInt := by omega
    rcases hs with h1 | h1 | h1 | h1 | h1 | h1
    · have e0 : σ 0 = 0 := lw_cst (h0.trans (by decide))
      have hy : rx_YOk ([(0, 0), ((-2147483648), (-1)), ((-2147483648), 2147483647)], []) σ := yok3 ⟨by show (0 : Int) ≤ _; omega, by show _ ≤ (0 : Int); omega⟩ ⟨by show ((-2147483648) : Int) ≤ _; omega, by show _ ≤ ((-1) : Int); omega⟩ ⟨by show ((-2147483648) : Int) ≤ _; omega, by show _ ≤ (2147483647 : Int); omega⟩
      exact ⟨(-1), lw_leaf hy ev_79_x ((hm_65 _).trans (hm_65 _).symm) (fun ρ b hb => ⟨⟨b, hb, rfl⟩, (by show Value.int (σ 0) = Value.int 0; rw [e0]), rfl, rfl, trivial⟩), lw_leaf hy ev_79_m ((hm_106 _).trans (hm_106 _).symm) (fun ρ b hb => ⟨⟨b, hb, rfl⟩, (by show Value.int (σ 0) = Value.int 0; rw [e0]), rfl, rfl, trivial⟩)⟩
    · have hs : (σ 2).toInt ≤ (-1) ∨ (σ 2).toInt = 0 ∨ (σ 2).toInt = 1 ∨ (σ 2).toInt = 2 ∨ (σ 2).toInt = 3 ∨ 4 ≤ (σ 2).toInt := by omega
      rcases hs with h2 | h2 | h2 | h2 | h2 | h2
      · have e0 : σ 0 = 0 := lw_cst (h0.trans (by decide))
        have e1 : σ 1 = 0 := lw_cst (h1.trans (by decide))
        have hy : rx_YOk ([(0, 0), (0, 0), ((-2147483648), (-1))], []) σ := yok3 ⟨by show (0 : Int) ≤ _; omega, by show _ ≤ (0 : Int); omega⟩ ⟨by show (0 : Int) ≤ _; omega, by show _ ≤ (0 : Int); omega⟩ ⟨by show ((-2147483648) : Int) ≤ _; omega, by show _ ≤ ((-1) : Int); omega⟩
        exact ⟨(-1), lw_leaf hy ev_80_x ((hm_65 _).trans (hm_65 _).symm) (fun ρ b hb => ⟨⟨b, hb, rfl⟩, (by show Value.int (σ 0) = Value.int 0; rw [e0]), (by show Value.int (σ 1) = Value.int 0; rw [e1]), rfl, trivial⟩), lw_leaf hy ev_80_m ((hm_106 _).trans (hm_106 _).symm) (fun ρ b hb => ⟨⟨b, hb, rfl⟩, (by show Value.int (σ 0) = Value.int 0; rw [e0]), (by show Value.int (σ 1) = Value.int 0; rw [e1]), rfl, trivial⟩)⟩
      · have e0 : σ 0 = 0 := lw_cst (h0.trans (by decide))
        have e1 : σ 1 = 0 := lw_cst (h1.trans (by decide))
        have e2 : σ 2 = 0 := lw_cst (h2.trans (by decide))
        have hy : rx_YOk ([(0, 0), (0, 0), (0, 0)], []) σ := yok3 ⟨by show (0 : Int) ≤ _; omega, by show _ ≤ (0 : Int); omega⟩ ⟨by show (0 : Int) ≤ _; omega, by show _ ≤ (0 : Int); omega⟩ ⟨by show (0 : Int) ≤ _; omega, by show _ ≤ (0 : Int); omega⟩
        exact ⟨(-1), lw_leaf hy ev_81_x ((hm_65 _).trans (hm_65 _).symm) (fun ρ b hb => ⟨⟨b, hb, rfl⟩, (by show Value.int (σ 0) = Value.int 0; rw [e0]), (by show Value.int (σ 1) = Value.int 0; rw [e1]), (by show Value.int (σ 2) = Value.int 0; rw [e2]), trivial⟩), lw_leaf hy ev_81_m ((hm_106 _).trans (hm_106 _).symm) (fun ρ b hb => ⟨⟨b, hb, rfl⟩, (by show Value.int (σ 0) = Value.int 0; rw [e0]), (by show Value.int (σ 1) = Value.int 0; rw [e1]), (by show Value.int (σ 2) = Value.int 0; rw [e2]), trivial⟩)⟩
      · have e0 : σ 0 = 0 := lw_cst (h0.trans (by decide))
        have e1 : σ 1 = 0 := lw_cst (h1.trans (by decide))
        have e2 : σ 2 = 1 := lw_cst (h2.trans (by decide))
        have hy : rx_YOk ([(0, 0), (0, 0), (1, 1)], []) σ := yok3 ⟨by show (0 : Int) ≤ _; omega, by show _ ≤ (0 : Int); omega⟩ ⟨by show (0 : Int) ≤ _; omega, by show _ ≤ (0 : Int); omega⟩ ⟨by show (1 : Int) ≤ _; omega, by show _ ≤ (1 : Int); omega⟩
        exact ⟨(-1), lw_leaf hy ev_82_x ((hm_65 _).trans (hm_65 _).symm) (fun ρ b hb => ⟨⟨b, hb, rfl⟩, (by show Value.int (σ 0) = Value.int 0; rw [e0]), (by show Value.int (σ 1) = Value.int 0; rw [e1]), (by show Value.int (σ 2) = Value.int 1; rw [e2]), trivial⟩), lw_leaf hy ev_82_m ((hm_106 _).trans (hm_106 _).symm) (fun ρ b hb => ⟨⟨b, hb, rfl⟩, (by show Value.int (σ 0) = Value.int 0; rw [e0]), (by show Value.int (σ 1) = Value.int 0; rw [e1]), (by show Value.int (σ 2) = Value.int 1; rw [e2]), trivial⟩)⟩
      · have e0 : σ 0 = 0 := lw_cst (h0.trans (by decide))
        have e1 : σ 1 = 0 := lw_cst (h1.trans (by decide))
        have e2 : σ 2 = 2 := lw_cst (h2.trans (by decide))
        have hy : rx_YOk ([(0, 0), (0, 0), (2, 2)], []) σ := yok3 ⟨by show (0 : Int) ≤ _; omega, by show _ ≤ (0 : Int); omega⟩ ⟨by show (0 : Int) ≤ _; omega, by show _ ≤ (0 : Int); omega⟩ ⟨by show (2 : Int) ≤ _; omega, by show _ ≤ (2 : Int); omega⟩
        exact ⟨1, lw_leaf hy ev_83_x ((hm_65 _).trans (hm_65 _).symm) (fun ρ b hb => ⟨⟨b, hb, rfl⟩, (by show Value.int (σ 0) = Value.int 0; rw [e0]), (by show Value.int (σ 1) = Value.int 0; rw [e1]), (by show Value.int (σ 2) = Value.int 2; rw [e2]), trivial⟩), lw_leaf hy ev_83_m ((hm_106 _).trans (hm_106 _).symm) (fun ρ b hb => ⟨⟨b, hb, rfl⟩, (by show Value.int (σ 0) = Value.int 0; rw [e0]), (by show Value.int (σ 1) = Value.int 0; rw [e1]), (by show Value.int (σ 2) = Value.int 2; rw [e2]), trivial⟩)⟩
      · have e0 : σ 0 = 0 := lw_cst (h0.trans (by decide))
        have e1 : σ 1 = 0 := lw_cst (h1.trans (by decide))
        have e2 : σ 2 = 3 := lw_cst (h2.trans (by decide))
        have hy : rx_YOk ([(0, 0), (0, 0), (3, 3)], []) σ := yok3 ⟨by show (0 : Int) ≤ _; omega, by show _ ≤ (0 : Int); omega⟩ ⟨by show (0 : Int) ≤ _; omega, by show _ ≤ (0 : Int); omega⟩ ⟨by show (3 : Int) ≤ _; omega, by show _ ≤ (3 : Int); omega⟩
        exact ⟨(-1), lw_leaf hy ev_84_x ((hm_65 _).trans (hm_65 _).symm) (fun ρ b hb => ⟨⟨b, hb, rfl⟩, (by show Value.int (σ 0) = Value.int 0; rw [e0]), (by show Value.int (σ 1) = Value.int 0; rw [e1]), (by show Value.int (σ 2) = Value.int 3; rw [e2]), trivial⟩), lw_leaf hy ev_84_m ((hm_106 _).trans (hm_106 _).symm) (fun ρ b hb => ⟨⟨b, hb, rfl⟩, (by show Value.int (σ 0) = Value.int 0; rw [e0]), (by show Value.int (σ 1) = Value.int 0; rw [e1]), (by show Value.int (σ 2) = Value.int 3; rw [e2]), trivial⟩)⟩
      · have e0 : σ 0 = 0 := lw_cst (h0.trans (by decide))
        have e1 : σ 1 = 0 := lw_cst (h1.trans (by decide))
        have hy : rx_YOk ([(0, 0), (0, 0), (4, 2147483647)], []) σ := yok3 ⟨by show (0 : Int) ≤ _; omega, by show _ ≤ (0 : Int); omega⟩ ⟨by show (0 : Int) ≤ _; omega, by show _ ≤ (0 : Int); omega⟩ ⟨by show (4 : Int) ≤ _; omega, by show _ ≤ (2147483647 : Int); omega⟩
        exact ⟨(-1), lw_leaf hy ev_85_x ((hm_65 _).trans (hm_65 _).symm) (fun ρ b hb => ⟨⟨b, hb, rfl⟩, (by show Value.int (σ 0) = Value.int 0; rw [e0]), (by show Value.int (σ 1) = Value.int 0; rw [e1]), rfl, trivial⟩), lw_leaf hy ev_85_m ((hm_106 _).trans (hm_106 _).symm) (fun ρ b hb => ⟨⟨b, hb, rfl⟩, (by show Value.int (σ 0) = Value.int 0; rw [e0]), (by show Value.int (σ 1) = Value.int 0; rw [e1]), rfl, trivial⟩)⟩
    · have hs : (σ 2).toInt ≤ (-1) ∨ (σ 2).toInt = 0 ∨ (σ 2).toInt = 1 ∨ (σ 2).toInt = 2 ∨ (σ 2).toInt = 3 ∨ 4 ≤ (σ 2).toInt := by omega
      rcases hs with h2 | h2 | h2 | h2 | h2 | h2
      · have e0 : σ 0 = 0 := lw_cst (h0.trans (by decide))
        have e1 : σ 1 = 1 := lw_cst (h1.trans (by decide))
        have hy : rx_YOk ([(0, 0), (1, 1), ((-2147483648), (-1))], []) σ := yok3 ⟨by show (0 : Int) ≤ _; omega, by show _ ≤ (0 : Int); omega⟩ ⟨by show (1 : Int) ≤ _; omega, by show _ ≤ (1 : Int); omega⟩ ⟨by show ((-2147483648) : Int) ≤ _; omega, by show _ ≤ ((-1) : Int); omega⟩
        exact ⟨(-1), lw_leaf hy ev_86_x ((hm_65 _).trans (hm_65 _).symm) (fun ρ b hb => ⟨⟨b, hb, rfl⟩, (by show Value.int (σ 0) = Value.int 0; rw [e0]), (by show Value.int (σ 1) = Value.int 1; rw [e1]), rfl, trivial⟩), lw_leaf hy ev_86_m ((hm_106 _).trans (hm_106 _).symm) (fun ρ b hb => ⟨⟨b, hb, rfl⟩, (by show Value.int (σ 0) = Value.int 0; rw [e0]), (by show Value.int (σ 1) = Value.int 1; rw [e1]), rfl, trivial⟩)⟩
      · have e0 : σ 0 = 0 := lw_cst (h0.trans (by decide))
        have e1 : σ 1 = 1 := lw_cst (h1.trans (by decide))
        have e2 : σ 2 = 0 := lw_cst (h2.trans (by decide))
        have hy : rx_YOk ([(0, 0), (1, 1), (0, 0)], []) σ := yok3 ⟨by show (0 : Int) ≤ _; omega, by show _ ≤ (0 : Int); omega⟩ ⟨by show (1 : Int) ≤ _; omega, by show _ ≤ (1 : Int); omega⟩ ⟨by show (0 : Int) ≤ _; omega, by show _ ≤ (0 : Int); omega⟩
        exact ⟨(-1), lw_leaf hy ev_87_x ((hm_65 _).trans (hm_65 _).symm) (fun ρ b hb => ⟨⟨b, hb, rfl⟩, (by show Value.int (σ 0) = Value.int 0; rw [e0]), (by show Value.int (σ 1) = Value.int 1; rw [e1]), (by show Value.int (σ 2) = Value.int 0; rw [e2]), trivial⟩), lw_leaf hy ev_87_m ((hm_106 _).trans (hm_106 _).symm) (fun ρ b hb => ⟨⟨b, hb, rfl⟩, (by show Value.int (σ 0) = Value.int 0; rw [e0]), (by show Value.int (σ 1) = Value.int 1; rw [e1]), (by show Value.int (σ 2) = Value.int 0; rw [e2]), trivial⟩)⟩
      · have e0 : σ 0 = 0 := lw_cst (h0.trans (by decide))
        have e1 : σ 1 = 1 := lw_cst (h1.trans (by decide))
        have e2 : σ 2 = 1 := lw_cst (h2.trans (by decide))
        have hy : rx_YOk ([(0, 0), (1, 1), (1, 1)], []) σ := yok3 ⟨by show (0 : Int) ≤ _; omega, by show _ ≤ (0 : Int); omega⟩ ⟨by show (1 : Int) ≤ _; omega, by show _ ≤ (1 : Int); omega⟩ ⟨by show (1 : Int) ≤ _; omega, by show _ ≤ (1 : Int); omega⟩
        exact ⟨(-1), lw_leaf hy ev_88_x ((hm_65 _).trans (hm_65 _).symm) (fun ρ b hb => ⟨⟨b, hb, rfl⟩, (by show Value.int (σ 0) = Value.int 0; rw [e0]), (by show Value.int (σ 1) = Value.int 1; rw [e1]), (by show Value.int (σ 2) = Value.int 1; rw [e2]), trivial⟩), lw_leaf hy ev_88_m ((hm_106 _).trans (hm_106 _).symm) (fun ρ b hb => ⟨⟨b, hb, rfl⟩, (by show Value.int (σ 0) = Value.int 0; rw [e0]), (by show Value.int (σ 1) = Value.int 1; rw [e1]), (by show Value.int (σ 2) = Value.int 1; rw [e2]), trivial⟩)⟩
      · have e0 : σ 0 = 0 := lw_cst (h0.trans (by decide))
        have e1 : σ 1 = 1 := lw_cst (h1.trans (by decide))
        have e2 : σ 2 = 2 := lw_cst (h2.trans (by decide))
        have hy : rx_YOk ([(0, 0), (1, 1), (2, 2)], []) σ := yok3 ⟨by show (0 : Int) ≤ _; omega, by show _ ≤ (0 : Int); omega⟩ ⟨by show (1 : Int) ≤ _; omega, by show _ ≤ (1 : Int); omega⟩ ⟨by show (2 : Int) ≤ _; omega, by show _ ≤ (2 : Int); omega⟩
        exact ⟨(-1), lw_leaf hy ev_89_x ((hm_65 _).trans (hm_65 _).symm) (fun ρ b hb => ⟨⟨b, hb, rfl⟩, (by show Value.int (σ 0) = Value.int 0; rw [e0]), (by show Value.int (σ 1) = Value.int 1; rw [e1]), (by show Value.int (σ 2) = Value.int 2; rw [e2]), trivial⟩), lw_leaf hy ev_89_m ((hm_106 _).trans (hm_106 _).symm) (fun ρ b hb => ⟨⟨b, hb, rfl⟩, (by show Value.int (σ 0) = Value.int 0; rw [e0]), (by show Value.int (σ 1) = Value.int 1; rw [e1]), (by show Value.int (σ 2) = Value.int 2; rw [e2]), trivial⟩)⟩
      · have e0 : σ 0 = 0 := lw_cst (h0.trans (by decide))
        have e1 : σ 1 = 1 := lw_cst (h1.trans (by decide))
        have e2 : σ 2 = 3 := lw_cst (h2.trans (by decide))
        have hy : rx_YOk ([(0, 0), (1, 1), (3, 3)], []) σ := yok3 ⟨by show (0 : Int) ≤ _; omega, by show _ ≤ (0 : Int); omega⟩ ⟨by show (1 : Int) ≤ _; omega, by show _ ≤ (1 : Int); omega⟩ ⟨by show (3 : Int) ≤ _; omega, by show _ ≤ (3 : Int); omega⟩
        exact ⟨1, lw_leaf hy ev_90_x ((hm_65 _).trans (hm_65 _).symm) (fun ρ b hb => ⟨⟨b, hb, rfl⟩, (by show Value.int (σ 0) = Value.int 0; rw [e0]), (by show Value.int (σ 1) = Value.int 1; rw [e1]), (by show Value.int (σ 2) = Value.int 3; rw [e2]), trivial⟩), lw_leaf hy ev_90_m ((hm_106 _).trans (hm_106 _).symm) (fun ρ b hb => ⟨⟨b, hb, rfl⟩, (by show Value.int (σ 0) = Value.int 0; rw [e0]), (by show Value.int (σ 1) = Value.int 1; rw [e1]), (by show Value.int (σ 2) = Value.int 3; rw [e2]), trivial⟩)⟩
      · have e0 : σ 0 = 0 := lw_cst (h0.trans (by decide))
        have e1 : σ 1 = 1 := lw_cst (h1.trans (by decide))
        have hy : rx_YOk ([(0, 0), (1, 1), (4, 2147483647)], []) σ := yok3 ⟨by show (0 : Int) ≤ _; omega, by show _ ≤ (0 : Int); omega⟩ ⟨by show (1 : Int) ≤ _; omega, by show _ ≤ (1 : Int); omega⟩ ⟨by show (4 : Int) ≤ _; omega, by show _ ≤ (2147483647 : Int); omega⟩
        exact ⟨(-1), lw_leaf hy ev_91_x ((hm_65 _).trans (hm_65 _).symm) (fun ρ b hb => ⟨⟨b, hb, rfl⟩, (by show Value.int (σ 0) = Value.int 0; rw [e0]), (by show Value.int (σ 1) = Value.int 1; rw [e1]), rfl, trivial⟩), lw_leaf hy ev_91_m ((hm_106 _).trans (hm_106 _).symm) (fun ρ b hb => ⟨⟨b, hb, rfl⟩, (by show Value.int (σ 0) = Value.int 0; rw [e0]), (by show Value.int (σ 1) = Value.int 1; rw [e1]), rfl, trivial⟩)⟩
    · have hs : (σ 2).toInt ≤ (-1) ∨ (σ 2).toInt = 0 ∨ (σ 2).toInt = 1 ∨ (σ 2).toInt = 2 ∨ (σ 2).toInt = 3 ∨ 4 ≤ (σ 2).toInt := by omega
      rcases hs with h2 | h2 | h2 | h2 | h2 | h2
      · have e0 : σ 0 = 0 := lw_cst (h0.trans (by decide))
        have e1 : σ 1 = 2 := lw_cst (h1.trans (by decide))
        have hy : rx_YOk ([(0, 0), (2, 2), ((-2147483648), (-1))], []) σ := yok3 ⟨by show (0 : Int) ≤ _; omega, by show _ ≤ (0 : Int); omega⟩ ⟨by show (2 : Int) ≤ _; omega, by show _ ≤ (2 : Int); omega⟩ ⟨by show ((-2147483648) : Int) ≤ _; omega, by show _ ≤ ((-1) : Int); omega⟩
        exact ⟨(-1), lw_leaf hy ev_92_x ((hm_65 _).trans (hm_65 _).symm) (fun ρ b hb => ⟨⟨b, hb, rfl⟩, (by show Value.int (σ 0) = Value.int 0; rw [e0]), (by show Value.int (σ 1) = Value.int 2; rw [e1]), rfl, trivial⟩), lw_leaf hy ev_92_m ((hm_106 _).trans (hm_106 _).symm) (fun ρ b hb => ⟨⟨b, hb, rfl⟩, (by show Value.int (σ 0) = Value.int 0; rw [e0]), (by show Value.int (σ 1) = Value.int 2; rw [e1]), rfl, trivial⟩)⟩
      · have e0 : σ 0 = 0 := lw_cst (h0.trans (by decide))
        have e1 : σ 1 = 2 := lw_cst (h1.trans (by decide))
        have e2 : σ 2 = 0 := lw_cst (h2.trans (by decide))
        have hy : rx_YOk ([(0, 0), (2, 2), (0, 0)], []) σ := yok3 ⟨by show (0 : Int) ≤ _; omega, by show _ ≤ (0 : Int); omega⟩ ⟨by show (2 : Int) ≤ _; omega, by show _ ≤ (2 : Int); omega⟩ ⟨by show (0 : Int) ≤ _; omega, by show _ ≤ (0 : Int); omega⟩
        exact ⟨1, lw_leaf hy ev_93_x ((hm_65 _).trans (hm_65 _).symm) (fun ρ b hb => ⟨⟨b, hb, rfl⟩, (by show Value.int (σ 0) = Value.int 0; rw [e0]), (by show Value.int (σ 1) = Value.int 2; rw [e1]), (by show Value.int (σ 2) = Value.int 0; rw [e2]), trivial⟩), lw_leaf hy ev_93_m ((hm_106 _).trans (hm_106 _).symm) (fun ρ b hb => ⟨⟨b, hb, rfl⟩, (by show Value.int (σ 0) = Value.int 0; rw [e0]), (by show Value.int (σ 1) = Value.int 2; rw [e1]), (by show Value.int (σ 2) = Value.int 0; rw [e2]), trivial⟩)⟩
      · have e0 : σ 0 = 0 := lw_cst (h0.trans (by decide))
        have e1 : σ 1 = 2 := lw_cst (h1.trans (by decide))
        have e2 : σ 2 = 1 := lw_cst (h2.trans (by decide))
        have hy : rx_YOk ([(0, 0), (2, 2), (1, 1)], []) σ := yok3 ⟨by show (0 : Int) ≤ _; omega, by show _ ≤ (0 : Int); omega⟩ ⟨by show (2 : Int) ≤ _; omega, by show _ ≤ (2 : Int); omega⟩ ⟨by show (1 : Int) ≤ _; omega, by show _ ≤ (1 : Int); omega⟩
        exact ⟨(-1), lw_leaf hy ev_94_x ((hm_65 _).trans (hm_65 _).symm) (fun ρ b hb => ⟨⟨b, hb, rfl⟩, (by show Value.int (σ 0) = Value.int 0; rw [e0]), (by show Value.int (σ 1) = Value.int 2; rw [e1]), (by show Value.int (σ 2) = Value.int 1; rw [e2]), trivial⟩), lw_leaf hy ev_94_m ((hm_106 _).trans (hm_106 _).symm) (fun ρ b hb => ⟨⟨b, hb, rfl⟩, (by show Value.int (σ 0) = Value.int 0; rw [e0]), (by show Value.int (σ 1) = Value.int 2; rw [e1]), (by show Value.int (σ 2) = Value.int 1; rw [e2]), trivial⟩)⟩
      · have e0 : σ 0 = 0 := lw_cst (h0.trans (by decide))
        have e1 : σ 1 = 2 := lw_cst (h1.trans (by decide))
        have e2 : σ 2 = 2 := lw_cst (h2.trans (by decide))
        have hy : rx_YOk ([(0, 0), (2, 2), (2, 2)], []) σ := yok3 ⟨by show (0 : Int) ≤ _; omega, by show _ ≤ (0 : Int); omega⟩ ⟨by show (2 : Int) ≤ _; omega, by show _ ≤ (2 : Int); omega⟩ ⟨by show (2 : Int) ≤ _; omega, by show _ ≤ (2 : Int); omega⟩
        exact ⟨(-1), lw_leaf hy ev_95_x ((hm_65 _).trans (hm_65 _).symm) (fun ρ b hb => ⟨⟨b, hb, rfl⟩, (by show Value.int (σ 0) = Value.int 0; rw [e0]), (by show Value.int (σ 1) = Value.int 2; rw [e1]), (by show Value.int (σ 2) = Value.int 2; rw [e2]), trivial⟩), lw_leaf hy ev_95_m ((hm_106 _).trans (hm_106 _).symm) (fun ρ b hb => ⟨⟨b, hb, rfl⟩, (by show Value.int (σ 0) = Value.int 0; rw [e0]), (by show Value.int (σ 1) = Value.int 2; rw [e1]), (by show Value.int (σ 2) = Value.int 2; rw [e2]), trivial⟩)⟩
      · have e0 : σ 0 = 0 := lw_cst (h0.trans (by decide))
        have e1 : σ 1 = 2 := lw_cst (h1.trans (by decide))
        have e2 : σ 2 = 3 := lw_cst (h2.trans (by decide))
        have hy : rx_YOk ([(0, 0), (2, 2), (3, 3)], []) σ := yok3 ⟨by show (0 : Int) ≤ _; omega, by show _ ≤ (0 : Int); omega⟩ ⟨by show (2 : Int) ≤ _; omega, by show _ ≤ (2 : Int); omega⟩ ⟨by show (3 : Int) ≤ _; omega, by show _ ≤ (3 : Int); omega⟩
        exact ⟨(-1), lw_leaf hy ev_96_x ((hm_65 _).trans (hm_65 _).symm) (fun ρ b hb => ⟨⟨b, hb, rfl⟩, (by show Value.int (σ 0) = Value.int 0; rw [e0]), (by show Value.int (σ 1) = Value.int 2; rw [e1]), (by show Value.int (σ 2) = Value.int 3; rw [e2]), trivial⟩), lw_leaf hy ev_96_m ((hm_106 _).trans (hm_106 _).symm) (fun ρ b hb => ⟨⟨b, hb, rfl⟩, (by show Value.int (σ 0) = Value.int 0; rw [e0]), (by show Value.int (σ 1) = Value.int 2; rw [e1]), (by show Value.int (σ 2) = Value.int 3; rw [e2]), trivial⟩)⟩
      · have e0 : σ 0 = 0 := lw_cst (h0.trans (by decide))
        have e1 : σ 1 = 2 := lw_cst (h1.trans (by decide))
        have hy : rx_YOk ([(0, 0), (2, 2), (4, 2147483647)], []) σ := yok3 ⟨by show (0 : Int) ≤ _; omega, by show _ ≤ (0 : Int); omega⟩ ⟨by show (2 : Int) ≤ _; omega, by show _ ≤ (2 : Int); omega⟩ ⟨by show (4 : Int) ≤ _; omega, by show _ ≤ (2147483647 : Int); omega⟩
        exact ⟨(-1), lw_leaf hy ev_97_x ((hm_65 _).trans (hm_65 _).symm) (fun ρ b hb => ⟨⟨b, hb, rfl⟩, (by show Value.int (σ 0) = Value.int 0; rw [e0]), (by show Value.int (σ 1) = Value.int 2; rw [e1]), rfl, trivial⟩), lw_leaf hy ev_97_m ((hm_106 _).trans (hm_106 _).symm) (fun ρ b hb => ⟨⟨b, hb, rfl⟩, (by show Value.int (σ 0) = Value.int 0; rw [e0]), (by show Value.int (σ 1) = Value.int 2; rw [e1]), rfl, trivial⟩)⟩
    · have hs : (σ 2).toInt ≤ (-1) ∨ (σ 2).toInt = 0 ∨ (σ 2).toInt = 1 ∨ (σ 2).toInt = 2 ∨ (σ 2).toInt = 3 ∨ 4 ≤ (σ 2).toInt := by omega
      rcases hs with h2 | h2 | h2 | h2 | h2 | h2
      · have e0 : σ 0 = 0 := lw_cst (h0.trans (by decide))
        have e1 : σ 1 = 3 := lw_cst (h1.trans (by decide))
        have hy : rx_YOk ([(0, 0), (3, 3), ((-2147483648), (-1))], []) σ := yok3 ⟨by show (0 : Int) ≤ _; omega, by show _ ≤ (0 : Int); omega⟩ ⟨by show (3 : Int) ≤ _; omega, by show _ ≤ (3 : Int); omega⟩ ⟨by show ((-2147483648) : Int) ≤ _; omega, by show _ ≤ ((-1) : Int); omega⟩
        exact ⟨(-1), lw_leaf hy ev_98_x ((hm_65 _).trans (hm_65 _).symm) (fun ρ b hb => ⟨⟨b, hb, rfl⟩, (by show Value.int (σ 0) = Value.int 0; rw [e0]), (by show Value.int (σ 1) = Value.int 3; rw [e1]), rfl, trivial⟩), lw_leaf hy ev_98_m ((hm_106 _).trans (hm_106 _).symm) (fun ρ b hb => ⟨⟨b, hb, rfl⟩, (by show Value.int (σ 0) = Value.int 0; rw [e0]), (by show Value.int (σ 1) = Value.int 3; rw [e1]), rfl, trivial⟩)⟩
      · have e0 : σ 0 = 0 := lw_cst (h0.trans (by decide))
        have e1 : σ 1 = 3 := lw_cst (h1.trans (by decide))
        have e2 : σ 2 = 0 := lw_cst (h2.trans (by decide))
        have hy : rx_YOk ([(0, 0), (3, 3), (0, 0)], []) σ := yok3 ⟨by show (0 : Int) ≤ _; omega, by show _ ≤ (0 : Int); omega⟩ ⟨by show (3 : Int) ≤ _; omega, by show _ ≤ (3 : Int); omega⟩ ⟨by show (0 : Int) ≤ _; omega, by show _ ≤ (0 : Int); omega⟩
        exact ⟨(-1), lw_leaf hy ev_99_x ((hm_65 _).trans (hm_65 _).symm) (fun ρ b hb => ⟨⟨b, hb, rfl⟩, (by show Value.int (σ 0) = Value.int 0; rw [e0]), (by show Value.int (σ 1) = Value.int 3; rw [e1]), (by show Value.int (σ 2) = Value.int 0; rw [e2]), trivial⟩), lw_leaf hy ev_99_m ((hm_106 _).trans (hm_106 _).symm) (fun ρ b hb => ⟨⟨b, hb, rfl⟩, (by show Value.int (σ 0) = Value.int 0; rw [e0]), (by show Value.int (σ 1) = Value.int 3; rw [e1]), (by show Value.int (σ 2) = Value.int 0; rw [e2]), trivial⟩)⟩
      · have e0 : σ 0 = 0 := lw_cst (h0.trans (by decide))
        have e1 : σ 1 = 3 := lw_cst (h1.trans (by decide))
        have e2 : σ 2 = 1 := lw_cst (h2.trans (by decide))
        have hy : rx_YOk ([(0, 0), (3, 3), (1, 1)], []) σ := yok3 ⟨by show (0 : Int) ≤ _; omega, by show _ ≤ (0 : Int); omega⟩ ⟨by show (3 : Int) ≤ _; omega, by show _ ≤ (3 : Int); omega⟩ ⟨by show (1 : Int) ≤ _; omega, by show _ ≤ (1 : Int); omega⟩
        exact ⟨1, lw_leaf hy ev_100_x ((hm_65 _).trans (hm_65 _).symm) (fun ρ b hb => ⟨⟨b, hb, rfl⟩, (by show Value.int (σ 0) = Value.int 0; rw [e0]), (by show Value.int (σ 1) = Value.int 3; rw [e1]), (by show Value.int (σ 2) = Value.int 1; rw [e2]), trivial⟩), lw_leaf hy ev_100_m ((hm_106 _).trans (hm_106 _).symm) (fun ρ b hb => ⟨⟨b, hb, rfl⟩, (by show Value.int (σ 0) = Value.int 0; rw [e0]), (by show Value.int (σ 1) = Value.int 3; rw [e1]), (by show Value.int (σ 2) = Value.int 1; rw [e2]), trivial⟩)⟩
      · have e0 : σ 0 = 0 := lw_cst (h0.trans (by decide))
        have e1 : σ 1 = 3 := lw_cst (h1.trans (by decide))
        have e2 : σ 2 = 2 := lw_cst (h2.trans (by decide))
        have hy : rx_YOk ([(0, 0), (3, 3), (2, 2)], []) σ := yok3 ⟨by show (0 : Int) ≤ _; omega, by show _ ≤ (0 : Int); omega⟩ ⟨by show (3 : Int) ≤ _; omega, by show _ ≤ (3 : Int); omega⟩ ⟨by show (2 : Int) ≤ _; omega, by show _ ≤ (2 : Int); omega⟩
        exact ⟨(-1), lw_leaf hy ev_101_x ((hm_65 _).trans (hm_65 _).symm) (fun ρ b hb => ⟨⟨b, hb, rfl⟩, (by show Value.int (σ 0) = Value.int 0; rw [e0]), (by show Value.int (σ 1) = Value.int 3; rw [e1]), (by show Value.int (σ 2) = Value.int 2; rw [e2]), trivial⟩), lw_leaf hy ev_101_m ((hm_106 _).trans (hm_106 _).symm) (fun ρ b hb => ⟨⟨b, hb, rfl⟩, (by show Value.int (σ 0) = Value.int 0; rw [e0]), (by show Value.int (σ 1) = Value.int 3; rw [e1]), (by show Value.int (σ 2) = Value.int 2; rw [e2]), trivial⟩)⟩
      · have e0 : σ 0 = 0 := lw_cst (h0.trans (by decide))
        have e1 : σ 1 = 3 := lw_cst (h1.trans (by decide))
        have e2 : σ 2 = 3 := lw_cst (h2.trans (by decide))
        have hy : rx_YOk ([(0, 0), (3, 3), (3, 3)], []) σ := yok3 ⟨by show (0 : Int) ≤ _; omega, by show _ ≤ (0 : Int); omega⟩ ⟨by show (3 : Int) ≤ _; omega, by show _ ≤ (3 : Int); omega⟩ ⟨by show (3 : Int) ≤ _; omega, by show _ ≤ (3 : Int); omega⟩
        exact ⟨(-1), lw_leaf hy ev_102_x ((hm_65 _).trans (hm_65 _).symm) (fun ρ b hb => ⟨⟨b, hb, rfl⟩, (by show Value.int (σ 0) = Value.int 0; rw [e0]), (by show Value.int (σ 1) = Value.int 3; rw [e1]), (by show Value.int (σ 2) = Value.int 3; rw [e2]), trivial⟩), lw_leaf hy ev_102_m ((hm_106 _).trans (hm_106 _).symm) (fun ρ b hb => ⟨⟨b, hb, rfl⟩, (by show Value.int (σ 0) = Value.int 0; rw [e0]), (by show Value.int (σ 1) = Value.int 3; rw [e1]), (by show Value.int (σ 2) = Value.int 3; rw [e2]), trivial⟩)⟩
      · have e0 : σ 0 = 0 := lw_cst (h0.trans (by decide))
        have e1 : σ 1 = 3 := lw_cst (h1.trans (by decide))
        have hy : rx_YOk ([(0, 0), (3, 3), (4, 2147483647)], []) σ := yok3 ⟨by show (0 : Int) ≤ _; omega, by show _ ≤ (0 : Int); omega⟩ ⟨by show (3 : Int) ≤ _; omega, by show _ ≤ (3 : Int); omega⟩ ⟨by show (4 : Int) ≤ _; omega, by show _ ≤ (2147483647 : Int); omega⟩
        exact ⟨(-1), lw_leaf hy ev_103_x ((hm_65 _).trans (hm_65 _).symm) (fun ρ b hb => ⟨⟨b, hb, rfl⟩, (by show Value.int (σ 0) = Value.int 0; rw [e0]), (by show Value.int (σ 1) = Value.int 3; rw [e1]), rfl, trivial⟩), lw_leaf hy ev_103_m ((hm_106 _).trans (hm_106 _).symm) (fun ρ b hb => ⟨⟨b, hb, rfl⟩, (by show Value.int (σ 0) = Value.int 0; rw [e0]), (by show Value.int (σ 1) = Value.int 3; rw [e1]), rfl, trivial⟩)⟩
    · have e0 : σ 0 = 0 := lw_cst (h0.trans (by decide))
      have hy : rx_YOk ([(0, 0), (4, 2147483647), ((-2147483648), 2147483647)], []) σ := yok3 ⟨by show (0 : Int) ≤ _; omega, by show _ ≤ (0 : Int); omega⟩ ⟨by show (4 : Int) ≤ _; omega, by show _ ≤ (2147483647 : Int); omega⟩ ⟨by show ((-2147483648) : Int) ≤ _; omega, by show _ ≤ (2147483647 : Int); omega⟩
      exact ⟨(-1), lw_leaf hy ev_104_x ((hm_65 _).trans (hm_65 _).symm) (fun ρ b hb => ⟨⟨b, hb, rfl⟩, (by show Value.int (σ 0) = Value.int 0; rw [e0]), rfl, rfl, trivial⟩), lw_leaf hy ev_104_m ((hm_106 _).trans (hm_106 _).symm) (fun ρ b hb => ⟨⟨b, hb, rfl⟩, (by show Value.int (σ 0) = Value.int 0; rw [e0]), rfl, rfl, trivial⟩)⟩
  · have hs : (σ 1).toInt ≤ (-1) ∨ (σ 1).toInt = 0 ∨ (σ 1).toInt = 1 ∨ (σ 1).toInt = 2 ∨ (σ 1).toInt = 3 ∨ 4 ≤ (σ 1).toInt := by omega
    rcases hs with h1 | h1 | h1 | h1 | h1 | h1
    · have e0 : σ 0 = 1 := lw_cst (h0.trans (by decide))
      have hy : rx_YOk ([(1, 1), ((-2147483648), (-1)), ((-2147483648), 2147483647)], []) σ := yok3 ⟨by show (1 : Int) ≤ _; omega, by show _ ≤ (1 : Int); omega⟩ ⟨by show ((-2147483648) : Int) ≤ _; omega, by show _ ≤ ((-1) : Int); omega⟩ ⟨by show ((-2147483648) : Int) ≤ _; omega, by show _ ≤ (2147483647 : Int); omega⟩
      exact ⟨(-1), lw_leaf hy ev_105_x ((hm_65 _).trans (hm_65 _).symm) (fun ρ b hb => ⟨⟨b, hb, rfl⟩, (by show Value.int (σ 0) = Value.int 1; rw [e0]), rfl, rfl, trivial⟩), lw_leaf hy ev_105_m ((hm_106 _).trans (hm_106 _).symm) (fun ρ b hb => ⟨⟨b, hb, rfl⟩, (by show Value.int (σ 0) = Value.int 1; rw [e0]), rfl, rfl, trivial⟩)⟩
    · have hs : (σ 2).toInt ≤ (-1) ∨ (σ 2).toInt = 0 ∨ (σ 2).toInt = 1 ∨ (σ 2).toInt = 2 ∨ (σ 2).toInt = 3 ∨ 4 ≤ (σ 2).toInt := by omega
      rcases hs with h2 | h2 | h2 | h2 | h2 | h2
      · have e0 : σ 0 = 1 := lw_cst (h0.trans (by decide))
        have e1 : σ 1 = 0 := lw_cst (h1.trans (by decide))
        have hy : rx_YOk ([(1, 1), (0, 0), ((-2147483648), (-1))], []) σ := yok3 ⟨by show (1 : Int) ≤ _; omega, by show _ ≤ (1 : Int); omega⟩ ⟨by show (0 : Int) ≤ _; omega, by show _ ≤ (0 : Int); omega⟩ ⟨by show ((-2147483648) : Int) ≤ _; omega, by show _ ≤ ((-1) : Int); omega⟩
        exact ⟨(-1), lw_leaf hy ev_106_x ((hm_65 _).trans (hm_65 _).symm) (fun ρ b hb => ⟨⟨b, hb, rfl⟩, (by show Value.int (σ 0) = Value.int 1; rw [e0]), (by show Value.int (σ 1) = Value.int 0; rw [e1]), rfl, trivial⟩), lw_leaf hy ev_106_m ((hm_106 _).trans (hm_106 _).symm) (fun ρ b hb => ⟨⟨b, hb, rfl⟩, (by show Value.int (σ 0) = Value.int 1; rw [e0]), (by show Value.int (σ 1) = Value.int 0; rw [e1]), rfl, trivial⟩)⟩
      · have e0 : σ 0 = 1 := lw_cst (h0.trans (by decide))
        have e1 : σ 1 = 0 := lw_cst (h1.trans (by decide))
        have e2 : σ 2 = 0 := lw_cst (h2.trans (by decide))
        have hy : rx_YOk ([(1, 1), (0, 0), (0, 0)], []) σ := yok3 ⟨by show (1 : Int) ≤ _; omega, by show _ ≤ (1 : Int); omega⟩ ⟨by show (0 : Int) ≤ _; omega, by show _ ≤ (0 : Int); omega⟩ ⟨by show (0 : Int) ≤ _; omega, by show _ ≤ (0 : Int); omega⟩
        exact ⟨(-1), lw_leaf hy ev_107_x ((hm_65 _).trans (hm_65 _).symm) (fun ρ b hb => ⟨⟨b, hb, rfl⟩, (by show Value.int (σ 0) = Value.int 1; rw [e0]), (by show Value.int (σ 1) = Value.int 0; rw [e1]), (by show Value.int (σ 2) = Value.int 0; rw [e2]), trivial⟩), lw_leaf hy ev_107_m ((hm_106 _).trans (hm_106 _).symm) (fun ρ b hb => ⟨⟨b, hb, rfl⟩, (by show Value.int (σ 0) = Value.int 1; rw [e0]), (by show Value.int (σ 1) = Value.int 0; rw [e1]), (by show Value.int (σ 2) = Value.int 0; rw [e2]), trivial⟩)⟩
      · have e0 : σ 0 = 1 := lw_cst (h0.trans (by decide))
        have e1 : σ 1 = 0 := lw_cst (h1.trans (by decide))
        have e2 : σ 2 = 1 := lw_cst (h2.trans (by decide))
        have hy : rx_YOk ([(1, 1), (0, 0), (1, 1)], []) σ := yok3 ⟨by show (1 : Int) ≤ _; omega, by show _ ≤ (1 : Int); omega⟩ ⟨by show (0 : Int) ≤ _; omega, by show _ ≤ (0 : Int); omega⟩ ⟨by show (1 : Int) ≤ _; omega, by show _ ≤ (1 : Int); omega⟩
        exact ⟨(-1), lw_leaf hy ev_108_x ((hm_65 _).trans (hm_65 _).symm) (fun ρ b hb => ⟨⟨b, hb, rfl⟩, (by show Value.int (σ 0) = Value.int 1; rw [e0]), (by show Value.int (σ 1) = Value.int 0; rw [e1]), (by show Value.int (σ 2) = Value.int 1; rw [e2]), trivial⟩), lw_leaf hy ev_108_m ((hm_106 _).trans (hm_106 _).symm) (fun ρ b hb => ⟨⟨b, hb, rfl⟩, (by show Value.int (σ 0) = Value.int 1; rw [e0]), (by show Value.int (σ 1) = Value.int 0; rw [e1]), (by show Value.int (σ 2) = Value.int 1; rw [e2]), trivial⟩)⟩
      · have e0 : σ 0 = 1 := lw_cst (h0.trans (by decide))
        have e1 : σ 1 = 0 := lw_cst (h1.trans (by decide))
        have e2 : σ 2 = 2 := lw_cst (h2.trans (by decide))
        have hy : rx_YOk ([(1, 1), (0, 0), (2, 2)], []) σ := yok3 ⟨by show (1 : Int) ≤ _; omega, by show _ ≤ (1 : Int); omega⟩ ⟨by show (0 : Int) ≤ _; omega, by show _ ≤ (0 : Int); omega⟩ ⟨by show (2 : Int) ≤ _; omega, by show _ ≤ (2 : Int); omega⟩
        exact ⟨1, lw_leaf hy ev_109_x ((hm_65 _).trans (hm_65 _).symm) (fun ρ b hb => ⟨⟨b, hb, rfl⟩, (by show Value.int (σ 0) = Value.int 1; rw [e0]), (by show Value.int (σ 1) = Value.int 0; rw [e1]), (by show Value.int (σ 2) = Value.int 2; rw [e2]), trivial⟩), lw_leaf hy ev_109_m ((hm_106 _).trans (hm_106 _).symm) (fun ρ b hb => ⟨⟨b, hb, rfl⟩, (by show Value.int (σ 0) = Value.int 1; rw [e0]), (by show Value.int (σ 1) = Value.int 0; rw [e1]), (by show Value.int (σ 2) = Value.int 2; rw [e2]), trivial⟩)⟩
      · have e0 : σ 0 = 1 := lw_cst (h0.trans (by decide))
        have e1 : σ 1 = 0 := lw_cst (h1.trans (by decide))
        have e2 : σ 2 = 3 := lw_cst (h2.trans (by decide))
        have hy : rx_YOk ([(1, 1), (0, 0), (3, 3)], []) σ := yok3 ⟨by show (1 : Int) ≤ _; omega, by show _ ≤ (1 : Int); omega⟩ ⟨by show (0 : Int) ≤ _; omega, by show _ ≤ (0 : Int); omega⟩ ⟨by show (3 : Int) ≤ _; omega, by show _ ≤ (3 : Int); omega⟩
        exact ⟨(-1), lw_leaf hy ev_110_x ((hm_65 _).trans (hm_65 _).symm) (fun ρ b hb => ⟨⟨b, hb, rfl⟩, (by show Value.int (σ 0) = Value.int 1; rw [e0]), (by show Value.int (σ 1) = Value.int 0; rw [e1]), (by show Value.int (σ 2) = Value.int 3; rw [e2]), trivial⟩), lw_leaf hy ev_110_m ((hm_106 _).trans (hm_106 _).symm) (fun ρ b hb => ⟨⟨b, hb, rfl⟩, (by show Value.int (σ 0) = Value.int 1; rw [e0]), (by show Value.int (σ 1) = Value.int 0; rw [e1]), (by show Value.int (σ 2) = Value.int 3; rw [e2]), trivial⟩)⟩
      · have e0 : σ 0 = 1 := lw_cst (h0.trans (by decide))
        have e1 : σ 1 = 0 := lw_cst (h1.trans (by decide))
        have hy : rx_YOk ([(1, 1), (0, 0), (4, 2147483647)], []) σ := yok3 ⟨by show (1 : Int) ≤ _; omega, by show _ ≤ (1 : Int); omega⟩ ⟨by show (0 : Int) ≤ _; omega, by show _ ≤ (0 : Int); omega⟩ ⟨by show (4 : Int) ≤ _; omega, by show _ ≤ (2147483647 : Int); omega⟩
        exact ⟨(-1), lw_leaf hy ev_111_x ((hm_65 _).trans (hm_65 _).symm) (fun ρ b hb => ⟨⟨b, hb, rfl⟩, (by show Value.int (σ 0) = Value.int 1; rw [e0]), (by show Value.int (σ 1) = Value.int 0; rw [e1]), rfl, trivial⟩), lw_leaf hy ev_111_m ((hm_106 _).trans (hm_106 _).symm) (fun ρ b hb => ⟨⟨b, hb, rfl⟩, (by show Value.int (σ 0) = Value.int 1; rw [e0]), (by show Value.int (σ 1) = Value.int 0; rw [e1]), rfl, trivial⟩)⟩
    · have hs : (σ 2).toInt ≤ (-1) ∨ (σ 2).toInt = 0 ∨ (σ 2).toInt = 1 ∨ (σ 2).toInt = 2 ∨ (σ 2).toInt = 3 ∨ 4 ≤ (σ 2).toInt := by omega
      rcases hs with h2 | h2 | h2 | h2 | h2 | h2
      · have e0 : σ 0 = 1 := lw_cst (h0.trans (by decide))
        have e1 : σ 1 = 1 := lw_cst (h1.trans (by decide))
        have hy : rx_YOk ([(1, 1), (1, 1), ((-2147483648), (-1))], []) σ := yok3 ⟨by show (1 : Int) ≤ _; omega, by show _ ≤ (1 : Int); omega⟩ ⟨by show (1 : Int) ≤ _; omega, by show _ ≤ (1 : Int); omega⟩ ⟨by show ((-2147483648) : Int) ≤ _; omega, by show _ ≤ ((-1) : Int); omega⟩
        exact ⟨(-1), lw_leaf hy ev_112_x ((hm_65 _).trans (hm_65 _).symm) (fun ρ b hb => ⟨⟨b, hb, rfl⟩, (by show Value.int (σ 0) = Value.int 1; rw [e0]), (by show Value.int (σ 1) = Value.int 1; rw [e1]), rfl, trivial⟩), lw_leaf hy ev_112_m ((hm_106 _).trans (hm_106 _).symm) (fun ρ b hb => ⟨⟨b, hb, rfl⟩, (by show Value.int (σ 0) = Value.int 1; rw [e0]), (by show Value.int (σ 1) = Value.int 1; rw [e1]), rfl, trivial⟩)⟩
      · have e0 : σ 0 = 1 := lw_cst (h0.trans (by decide))
        have e1 : σ 1 = 1 := lw_cst (h1.trans (by decide))
        have e2 : σ 2 = 0 := lw_cst (h2.trans (by decide))
        have hy : rx_YOk ([(1, 1), (1, 1), (0, 0)], []) σ := yok3 ⟨by show (1 : Int) ≤ _; omega, by show _ ≤ (1 : Int); omega⟩ ⟨by show (1 : Int) ≤ _; omega, by show _ ≤ (1 : Int); omega⟩ ⟨by show (0 : Int) ≤ _; omega, by show _ ≤ (0 : Int); omega⟩
        exact ⟨(-1), lw_leaf hy ev_113_x ((hm_65 _).trans (hm_65 _).symm) (fun ρ b hb => ⟨⟨b, hb, rfl⟩, (by show Value.int (σ 0) = Value.int 1; rw [e0]), (by show Value.int (σ 1) = Value.int 1; rw [e1]), (by show Value.int (σ 2) = Value.int 0; rw [e2]), trivial⟩), lw_leaf hy ev_113_m ((hm_106 _).trans (hm_106 _).symm) (fun ρ b hb => ⟨⟨b, hb, rfl⟩, (by show Value.int (σ 0) = Value.int 1; rw [e0]), (by show Value.int (σ 1) = Value.int 1; rw [e1]), (by show Value.int (σ 2) = Value.int 0; rw [e2]), trivial⟩)⟩
      · have e0 : σ 0 = 1 := lw_cst (h0.trans (by decide))
        have e1 : σ 1 = 1 := lw_cst (h1.trans (by decide))
        have e2 : σ 2 = 1 := lw_cst (h2.trans (by decide))
        have hy : rx_YOk ([(1, 1), (1, 1), (1, 1)], []) σ := yok3 ⟨by show (1 : Int) ≤ _; omega, by show _ ≤ (1 : Int); omega⟩ ⟨by show (1 : Int) ≤ _; omega, by show _ ≤ (1 : Int); omega⟩ ⟨by show (1 : Int) ≤ _; omega, by show _ ≤ (1 : Int); omega⟩
        exact ⟨(-1), lw_leaf hy ev_114_x ((hm_65 _).trans (hm_65 _).symm) (fun ρ b hb => ⟨⟨b, hb, rfl⟩, (by show Value.int (σ 0) = Value.int 1; rw [e0]), (by show Value.int (σ 1) = Value.int 1; rw [e1]), (by show Value.int (σ 2) = Value.int 1; rw [e2]), trivial⟩), lw_leaf hy ev_114_m ((hm_106 _).trans (hm_106 _).symm) (fun ρ b hb => ⟨⟨b, hb, rfl⟩, (by show Value.int (σ 0) = Value.int 1; rw [e0]), (by show Value.int (σ 1) = Value.int 1; rw [e1]), (by show Value.int (σ 2) = Value.int 1; rw [e2]), trivial⟩)⟩
      · have e0 : σ 0 = 1 := lw_cst (h0.trans (by decide))
        have e1 : σ 1 = 1 := lw_cst (h1.trans (by decide))
        have e2 : σ 2 = 2 := lw_cst (h2.trans (by decide))
        have hy : rx_YOk ([(1, 1), (1, 1), (2, 2)], []) σ := yok3 ⟨by show (1 : Int) ≤ _; omega, by show _ ≤ (1 : Int); omega⟩ ⟨by show (1 : Int) ≤ _; omega, by show _ ≤ (1 : Int); omega⟩ ⟨by show (2 : Int) ≤ _; omega, by show _ ≤ (2 : Int); omega⟩
        exact ⟨(-1), lw_leaf hy ev_115_x ((hm_65 _).trans (hm_65 _).symm) (fun ρ b hb => ⟨⟨b, hb, rfl⟩, (by show Value.int (σ 0) = Value.int 1; rw [e0]), (by show Value.int (σ 1) = Value.int 1; rw [e1]), (by show Value.int (σ 2) = Value.int 2; rw [e2]), trivial⟩), lw_leaf hy ev_115_m ((hm_106 _).trans (hm_106 _).symm) (fun ρ b hb => ⟨⟨b, hb, rfl⟩, (by show Value.int (σ 0) = Value.int 1; rw [e0]), (by show Value.int (σ 1) = Value.int 1; rw [e1]), (by show Value.int (σ 2) = Value.int 2; rw [e2]), trivial⟩)⟩
      · have e0 : σ 0 = 1 := lw_cst (h0.trans (by decide))
        have e1 : σ 1 = 1 := lw_cst (h1.trans (by decide))
        have e2 : σ 2 = 3 := lw_cst (h2.trans (by decide))
        have hy : rx_YOk ([(1, 1), (1, 1), (3, 3)], []) σ := yok3 ⟨by show (1 : Int) ≤ _; omega, by show _ ≤ (1 : Int); omega⟩ ⟨by show (1 : Int) ≤ _; omega, by show _ ≤ (1 : Int); omega⟩ ⟨by show (3 : Int) ≤ _; omega, by show _ ≤ (3 : Int); omega⟩
        exact ⟨1, lw_leaf hy ev_116_x ((hm_65 _).trans (hm_65 _).symm) (fun ρ b hb => ⟨⟨b, hb, rfl⟩, (by show Value.int (σ 0) = Value.int 1; rw [e0]), (by show Value.int (σ 1) = Value.int 1; rw [e1]), (by show Value.int (σ 2) = Value.int 3; rw [e2]), trivial⟩), lw_leaf hy ev_116_m ((hm_106 _).trans (hm_106 _).symm) (fun ρ b hb => ⟨⟨b, hb, rfl⟩, (by show Value.int (σ 0) = Value.int 1; rw [e0]), (by show Value.int (σ 1) = Value.int 1; rw [e1]), (by show Value.int (σ 2) = Value.int 3; rw [e2]), trivial⟩)⟩
      · have e0 : σ 0 = 1 := lw_cst (h0.trans (by decide))
        have e1 : σ 1 = 1 := lw_cst (h1.trans (by decide))
        have hy : rx_YOk ([(1, 1), (1, 1), (4, 2147483647)], []) σ := yok3 ⟨by show (1 : Int) ≤ _; omega, by show _ ≤ (1 : Int); omega⟩ ⟨by show (1 : Int) ≤ _; omega, by show _ ≤ (1 : Int); omega⟩ ⟨by show (4 : Int) ≤ _; omega, by show _ ≤ (2147483647 : Int); omega⟩
        exact ⟨(-1), lw_leaf hy ev_117_x ((hm_65 _).trans (hm_65 _).symm) (fun ρ b hb => ⟨⟨b, hb, rfl⟩, (by show Value.int (σ 0) = Value.int 1; rw [e0]), (by show Value.int (σ 1) = Value.int 1; rw [e1]), rfl, trivial⟩), lw_leaf hy ev_117_m ((hm_106 _).trans (hm_106 _).symm) (fun ρ b hb => ⟨⟨b, hb, rfl⟩, (by show Value.int (σ 0) = Value.int 1; rw [e0]), (by show Value.int (σ 1) = Value.int 1; rw [e1]), rfl, trivial⟩)⟩
    · have hs : (σ 2).toInt ≤ (-1) ∨ (σ 2).toInt = 0 ∨ (σ 2).toInt = 1 ∨ (σ 2).toInt = 2 ∨ (σ 2).toInt = 3 ∨ 4 ≤ (σ 2).toInt := by omega
      rcases hs with h2 | h2 | h2 | h2 | h2 | h2
      · have e0 : σ 0 = 1 := lw_cst (h0.trans (by decide))
        have e1 : σ 1 = 2 := lw_cst (h1.trans (by decide))
        have hy : rx_YOk ([(1, 1), (2, 2), ((-2147483648), (-1))], []) σ := yok3 ⟨by show (1 : Int) ≤ _; omega, by show _ ≤ (1 : Int); omega⟩ ⟨by show (2 : Int) ≤ _; omega, by show _ ≤ (2 : Int); omega⟩ ⟨by show ((-2147483648) : Int) ≤ _; omega, by show _ ≤ ((-1) : Int); omega⟩
        exact ⟨(-1), lw_leaf hy ev_118_x ((hm_65 _).trans (hm_65 _).symm) (fun ρ b hb => ⟨⟨b, hb, rfl⟩, (by show Value.int (σ 0) = Value.int 1; rw [e0]), (by show Value.int (σ 1) = Value.int 2; rw [e1]), rfl, trivial⟩), lw_leaf hy ev_118_m ((hm_106 _).trans (hm_106 _).symm) (fun ρ b hb => ⟨⟨b, hb, rfl⟩, (by show Value.int (σ 0) = Value.int 1; rw [e0]), (by show Value.int (σ 1) = Value.int 2; rw [e1]), rfl, trivial⟩)⟩
      · have e0 : σ 0 = 1 := lw_cst (h0.trans (by decide))
        have e1 : σ 1 = 2 := lw_cst (h1.trans (by decide))
        have e2 : σ 2 = 0 := lw_cst (h2.trans (by decide))
        have hy : rx_YOk ([(1, 1), (2, 2), (0, 0)], []) σ := yok3 ⟨by show (1 : Int) ≤ _; omega, by show _ ≤ (1 : Int); omega⟩ ⟨by show (2 : Int) ≤ _; omega, by show _ ≤ (2 : Int); omega⟩ ⟨by show (0 : Int) ≤ _; omega, by show _ ≤ (0 : Int); omega⟩
        exact ⟨1, lw_leaf hy ev_119_x ((hm_65 _).trans (hm_65 _).symm) (fun ρ b hb => ⟨⟨b, hb, rfl⟩, (by show Value.int (σ 0) = Value.int 1; rw [e0]), (by show Value.int (σ 1) = Value.int 2; rw [e1]), (by show Value.int (σ 2) = Value.int 0; rw [e2]), trivial⟩), lw_leaf hy ev_119_m ((hm_106 _).trans (hm_106 _).symm) (fun ρ b hb => ⟨⟨b, hb, rfl⟩, (by show Value.int (σ 0) = Value.int 1; rw [e0]), (by show Value.int (σ 1) = Value.int 2; rw [e1]), (by show Value.int (σ 2) = Value.int 0; rw [e2]), trivial⟩)⟩
      · have e0 : σ 0 = 1 := lw_cst (h0.trans (by decide))
        have e1 : σ 1 = 2 := lw_cst (h1.trans (by decide))
        have e2 : σ 2 = 1 := lw_cst (h2.trans (by decide))
        have hy : rx_YOk ([(1, 1), (2, 2), (1, 1)], []) σ := yok3 ⟨by show (1 : Int) ≤ _; omega, by show _ ≤ (1 : Int); omega⟩ ⟨by show (2 : Int) ≤ _; omega, by show _ ≤ (2 : Int); omega⟩ ⟨by show (1 : Int) ≤ _; omega, by show _ ≤ (1 : Int); omega⟩
        exact ⟨(-1), lw_leaf hy ev_120_x ((hm_65 _).trans (hm_65 _).symm) (fun ρ b hb => ⟨⟨b, hb, rfl⟩, (by show Value.int (σ 0) = Value.int 1; rw [e0]), (by show Value.int (σ 1) = Value.int 2; rw [e1]), (by show Value.int (σ 2) = Value.int 1; rw [e2]), trivial⟩), lw_leaf hy ev_120_m ((hm_106 _).trans (hm_106 _).symm) (fun ρ b hb => ⟨⟨b, hb, rfl⟩, (by show Value.int (σ 0) = Value.int 1; rw [e0]), (by show Value.int (σ 1) = Value.int 2; rw [e1]), (by show Value.int (σ 2) = Value.int 1; rw [e2]), trivial⟩)⟩
      · have e0 : σ 0 = 1 := lw_cst (h0.trans (by decide))
        have e1 : σ 1 = 2 := lw_cst (h1.trans (by decide))
        have e2 : σ 2 = 2 := lw_cst (h2.trans (by decide))
        have hy : rx_YOk ([(1, 1), (2, 2), (2, 2)], []) σ := yok3 ⟨by show (1 : Int) ≤ _; omega, by show _ ≤ (1 : Int); omega⟩ ⟨by show (2 : Int) ≤ _; omega, by show _ ≤ (2 : Int); omega⟩ ⟨by show (2 : Int) ≤ _; omega, by show _ ≤ (2 : Int); omega⟩
        exact ⟨(-1), lw_leaf hy ev_121_x ((hm_65 _).trans (hm_65 _).symm) (fun ρ b hb => ⟨⟨b, hb, rfl⟩, (by show Value.int (σ 0) = Value.int 1; rw [e0]), (by show Value.int (σ 1) = Value.int 2; rw [e1]), (by show Value.int (σ 2) = Value.int 2; rw [e2]), trivial⟩), lw_leaf hy ev_121_m ((hm_106 _).trans (hm_106 _).symm) (fun ρ b hb => ⟨⟨b, hb, rfl⟩, (by show Value.int (σ 0) = Value.int 1; rw [e0]), (by show Value.int (σ 1) = Value.int 2; rw [e1]), (by show Value.int (σ 2) = Value.int 2; rw [e2]), trivial⟩)⟩
      · have e0 : σ 0 = 1 := lw_cst (h0.trans (by decide))
        have e1 : σ 1 = 2 := lw_cst (h1.trans (by decide))
        have e2 : σ 2 = 3 := lw_cst (h2.trans (by decide))
        have hy : rx_YOk ([(1, 1), (2, 2), (3, 3)], []) σ := yok3 ⟨by show (1 : Int) ≤ _; omega, by show _ ≤ (1 : Int); omega⟩ ⟨by show (2 : Int) ≤ _; omega, by show _ ≤ (2 : Int); omega⟩ ⟨by show (3 : Int) ≤ _; omega, by show _ ≤ (3 : Int); omega⟩
        exact ⟨(-1), lw_leaf hy ev_122_x ((hm_65 _).trans (hm_65 _).symm) (fun ρ b hb => ⟨⟨b, hb, rfl⟩, (by show Value.int (σ 0) = Value.int 1; rw [e0]), (by show Value.int (σ 1) = Value.int 2; rw [e1]), (by show Value.int (σ 2) = Value.int 3; rw [e2]), trivial⟩), lw_leaf hy ev_122_m ((hm_106 _).trans (hm_106 _).symm) (fun ρ b hb => ⟨⟨b, hb, rfl⟩, (by show Value.int (σ 0) = Value.int 1; rw [e0]), (by show Value.int (σ 1) = Value.int 2; rw [e1]), (by show Value.int (σ 2) = Value.int 3; rw [e2]), trivial⟩)⟩
      · have e0 : σ 0 = 1 := lw_cst (h0.trans (by decide))
        have e1 : σ 1 = 2 := lw_cst (h1.trans (by decide))
        have hy : rx_YOk ([(1, 1), (2, 2), (4, 2147483647)], []) σ := yok3 ⟨by show (1 : Int) ≤ _; omega, by show _ ≤ (1 : Int); omega⟩ ⟨by show (2 : Int) ≤ _; omega, by show _ ≤ (2 : Int); omega⟩ ⟨by show (4 : Int) ≤ _; omega, by show _ ≤ (2147483647 : Int); omega⟩
        exact ⟨(-1), lw_leaf hy ev_123_x ((hm_65 _).trans (hm_65 _).symm) (fun ρ b hb => ⟨⟨b, hb, rfl⟩, (by show Value.int (σ 0) = Value.int 1; rw [e0]), (by show Value.int (σ 1) = Value.int 2; rw [e1]), rfl, trivial⟩), lw_leaf hy ev_123_m ((hm_106 _).trans (hm_106 _).symm) (fun ρ b hb => ⟨⟨b, hb, rfl⟩, (by show Value.int (σ 0) = Value.int 1; rw [e0]), (by show Value.int (σ 1) = Value.int 2; rw [e1]), rfl, trivial⟩)⟩
    · have hs : (σ 2).toInt ≤ (-1) ∨ (σ 2).toInt = 0 ∨ (σ 2).toInt = 1 ∨ (σ 2).toInt = 2 ∨ (σ 2).toInt = 3 ∨ 4 ≤ (σ 2).toInt := by omega
      rcases hs with h2 | h2 | h2 | h2 | h2 | h2
      · have e0 : σ 0 = 1 := lw_cst (h0.trans (by decide))
        have e1 : σ 1 = 3 := lw_cst (h1.trans (by decide))
        have hy : rx_YOk ([(1, 1), (3, 3), ((-2147483648), (-1))], []) σ := yok3 ⟨by show (1 : Int) ≤ _; omega, by show _ ≤ (1 : Int); omega⟩ ⟨by show (3 : Int) ≤ _; omega, by show _ ≤ (3 : Int); omega⟩ ⟨by show ((-2147483648) : Int) ≤ _; omega, by show _ ≤ ((-1) : Int); omega⟩
        exact ⟨(-1), lw_leaf hy ev_124_x ((hm_65 _).trans (hm_65 _).symm) (fun ρ b hb => ⟨⟨b, hb, rfl⟩, (by show Value.int (σ 0) = Value.int 1; rw [e0]), (by show Value.int (σ 1) = Value.int 3; rw [e1]), rfl, trivial⟩), lw_leaf hy ev_124_m ((hm_106 _).trans (hm_106 _).symm) (fun ρ b hb => ⟨⟨b, hb, rfl⟩, (by show Value.int (σ 0) = Value.int 1; rw [e0]), (by show Value.int (σ 1) = Value.int 3; rw [e1]), rfl, trivial⟩)⟩
      · have e0 : σ 0 = 1 := lw_cst (h0.trans (by decide))
        have e1 : σ 1 = 3 := lw_cst (h1.trans (by decide))
        have e2 : σ 2 = 0 := lw_cst (h2.trans (by decide))
        have hy : rx_YOk ([(1, 1), (3, 3), (0, 0)], []) σ := yok3 ⟨by show (1 : Int) ≤ _; omega, by show _ ≤ (1 : Int); omega⟩ ⟨by show (3 : Int) ≤ _; omega, by show _ ≤ (3 : Int); omega⟩ ⟨by show (0 : Int) ≤ _; omega, by show _ ≤ (0 : Int); omega⟩
        exact ⟨(-1), lw_leaf hy ev_125_x ((hm_65 _).trans (hm_65 _).symm) (fun ρ b hb => ⟨⟨b, hb, rfl⟩, (by show Value.int (σ 0) = Value.int 1; rw [e0]), (by show Value.int (σ 1) = Value.int 3; rw [e1]), (by show Value.int (σ 2) = Value.int 0; rw [e2]), trivial⟩), lw_leaf hy ev_125_m ((hm_106 _).trans (hm_106 _).symm) (fun ρ b hb => ⟨⟨b, hb, rfl⟩, (by show Value.int (σ 0) = Value.int 1; rw [e0]), (by show Value.int (σ 1) = Value.int 3; rw [e1]), (by show Value.int (σ 2) = Value.int 0; rw [e2]), trivial⟩)⟩
      · have e0 : σ 0 = 1 := lw_cst (h0.trans (by decide))
        have e1 : σ 1 = 3 := lw_cst (h1.trans (by decide))
        have e2 : σ 2 = 1 := lw_cst (h2.trans (by decide))
        have hy : rx_YOk ([(1, 1), (3, 3), (1, 1)], []) σ := yok3 ⟨by show (1 : Int) ≤ _; omega, by show _ ≤ (1 : Int); omega⟩ ⟨by show (3 : Int) ≤ _; omega, by show _ ≤ (3 : Int); omega⟩ ⟨by show (1 : Int) ≤ _; omega, by show _ ≤ (1 : Int); omega⟩
        exact ⟨1, lw_leaf hy ev_126_x ((hm_65 _).trans (hm_65 _).symm) (fun ρ b hb => ⟨⟨b, hb, rfl⟩, (by show Value.int (σ 0) = Value.int 1; rw [e0]), (by show Value.int (σ 1) = Value.int 3; rw [e1]), (by show Value.int (σ 2) = Value.int 1; rw [e2]), trivial⟩), lw_leaf hy ev_126_m ((hm_106 _).trans (hm_106 _).symm) (fun ρ b hb => ⟨⟨b, hb, rfl⟩, (by show Value.int (σ 0) = Value.int 1; rw [e0]), (by show Value.int (σ 1) = Value.int 3; rw [e1]), (by show Value.int (σ 2) = Value.int 1; rw [e2]), trivial⟩)⟩
      · have e0 : σ 0 = 1 := lw_cst (h0.trans (by decide))
        have e1 : σ 1 = 3 := lw_cst (h1.trans (by decide))
        have e2 : σ 2 = 2 := lw_cst (h2.trans (by decide))
        have hy : rx_YOk ([(1, 1), (3, 3), (2, 2)], []) σ := yok3 ⟨by show (1 : Int) ≤ _; omega, by show _ ≤ (1 : Int); omega⟩ ⟨by show (3 : Int) ≤ _; omega, by show _ ≤ (3 : Int); omega⟩ ⟨by show (2 : Int) ≤ _; omega, by show _ ≤ (2 : Int); omega⟩
        exact ⟨(-1), lw_leaf hy ev_127_x ((hm_65 _).trans (hm_65 _).symm) (fun ρ b hb => ⟨⟨b, hb, rfl⟩, (by show Value.int (σ 0) = Value.int 1; rw [e0]), (by show Value.int (σ 1) = Value.int 3; rw [e1]), (by show Value.int (σ 2) = Value.int 2; rw [e2]), trivial⟩), lw_leaf hy ev_127_m ((hm_106 _).trans (hm_106 _).symm) (fun ρ b hb => ⟨⟨b, hb, rfl⟩, (by show Value.int (σ 0) = Value.int 1; rw [e0]), (by show Value.int (σ 1) = Value.int 3; rw [e1]), (by show Value.int (σ 2) = Value.int 2; rw [e2]), trivial⟩)⟩
      · have e0 : σ 0 = 1 := lw_cst (h0.trans (by decide))
        have e1 : σ 1 = 3 := lw_cst (h1.trans (by decide))
        have e2 : σ 2 = 3 := lw_cst (h2.trans (by decide))
        have hy : rx_YOk ([(1, 1), (3, 3), (3, 3)], []) σ := yok3 ⟨by show (1 : Int) ≤ _; omega, by show _ ≤ (1 : Int); omega⟩ ⟨by show (3 : Int) ≤ _; omega, by show _ ≤ (3 : Int); omega⟩ ⟨by show (3 : Int) ≤ _; omega, by show _ ≤ (3 : Int); omega⟩
        exact ⟨(-1), lw_leaf hy ev_128_x ((hm_65 _).trans (hm_65 _).symm) (fun ρ b hb => ⟨⟨b, hb, rfl⟩, (by show Value.int (σ 0) = Value.int 1; rw [e0]), (by show Value.int (σ 1) = Value.int 3; rw [e1]), (by show Value.int (σ 2) = Value.int 3; rw [e2]), trivial⟩), lw_leaf hy ev_128_m ((hm_106 _).trans (hm_106 _).symm) (fun ρ b hb => ⟨⟨b, hb, rfl⟩, (by show Value.int (σ 0) = Value.int 1; rw [e0]), (by show Value.int (σ 1) = Value.int 3; rw [e1]), (by show Value.int (σ 2) = Value.int 3; rw [e2]), trivial⟩)⟩
      · have e0 : σ 0 = 1 := lw_cst (h0.trans (by decide))
        have e1 : σ 1 = 3 := lw_cst (h1.trans (by decide))
        have hy : rx_YOk ([(1, 1), (3, 3), (4, 2147483647)], []) σ := yok3 ⟨by show (1 : Int) ≤ _; omega, by show _ ≤ (1 : Int); omega⟩ ⟨by show (3 : Int) ≤ _; omega, by show _ ≤ (3 : Int); omega⟩ ⟨by show (4 : Int) ≤ _; omega, by show _ ≤ (2147483647 : Int); omega⟩
        exact ⟨(-1), lw_leaf hy ev_129_x ((hm_65 _).trans (hm_65 _).symm) (fun ρ b hb => ⟨⟨b, hb, rfl⟩, (by show Value.int (σ 0) = Value.int 1; rw [e0]), (by show Value.int (σ 1) = Value.int 3; rw [e1]), rfl, trivial⟩), lw_leaf hy ev_129_m ((hm_106 _).trans (hm_106 _).symm) (fun ρ b hb => ⟨⟨b, hb, rfl⟩, (by show Value.int (σ 0) = Value.int 1; rw [e0]), (by show Value.int (σ 1) = Value.int 3; rw [e1]), rfl, trivial⟩)⟩
    · have e0 : σ 0 = 1 := lw_cst (h0.trans (by decide))
      have hy : rx_YOk ([(1, 1), (4, 2147483647), ((-2147483648), 2147483647)], []) σ := yok3 ⟨by show (1 : Int) ≤ _; omega, by show _ ≤ (1 : Int); omega⟩ ⟨by show (4 : Int) ≤ _; omega, by show _ ≤ (2147483647 : Int); omega⟩ ⟨by show ((-2147483648) : Int) ≤ _; omega, by show _ ≤ (2147483647 : Int); omega⟩
      exact ⟨(-1), lw_leaf hy ev_130_x ((hm_65 _).trans (hm_65 _).symm) (fun ρ b hb => ⟨⟨b, hb, rfl⟩, (by show Value.int (σ 0) = Value.int 1; rw [e0]), rfl, rfl, trivial⟩), lw_leaf hy ev_130_m ((hm_106 _).trans (hm_106 _).symm) (fun ρ b hb => ⟨⟨b, hb, rfl⟩, (by show Value.int (σ 0) = Value.int 1; rw [e0]), rfl, rfl, trivial⟩)⟩
  · have hy : rx_YOk ([(2, 2147483647), ((-2147483648), 2147483647), ((-2147483648), 2147483647)], []) σ := yok3 ⟨by show (2 : Int) ≤ _; omega, by show _ ≤ (2147483647 : Int); omega⟩ ⟨by show ((-2147483648) : Int) ≤ _; omega, by show _ ≤ (2147483647 : Int); omega⟩ ⟨by show ((-2147483648) : Int) ≤ _; omega, by show _ ≤ (2147483647 : Int); omega⟩
    exact ⟨(-1), lw_leaf hy ev_131_x ((hm_65 _).trans (hm_65 _).symm) (fun ρ b hb => ⟨⟨b, hb, rfl⟩, rfl, rfl, rfl, trivial⟩), lw_leaf hy ev_131_m ((hm_106 _).trans (hm_106 _).symm) (fun ρ b hb => ⟨⟨b, hb, rfl⟩, rfl, rfl, rfl, trivial⟩)⟩
set_option maxHeartbeats 4000000 in
set_option maxRecDepth 100000 in
theorem op_flip {l : Launch} {D : va_G} {cy : Nat → ClassId} {σ : Nat → Int32} : ∃ r : Int32, lwMt l D cy σ WX 67 [.int (σ 0), .int (σ 1), .int (σ 2)] (some (.int r)) ∧ lwMt l D cy σ WM 110 [.int (σ 0), .int (σ 1), .int (σ 2)] (some (.int r)) := by
  have l0 := lw_lo (σ 0)
  have u0 := lw_hi (σ 0)
  have l1 := lw_lo (σ 1)
  have u1 := lw_hi (σ 1)
  have l2 := lw_lo (σ 2)
  have u2 := lw_hi (σ 2)
  have hs : (σ 0).toInt ≤ (-1) ∨ (σ 0).toInt = 0 ∨ (σ 0).toInt = 1 ∨ 2 ≤ (σ 0).toInt := by omega
  rcases hs with h0 | h0 | h0 | h0
  · have hy : rx_YOk ([((-2147483648), (-1)), ((-2147483648), 2147483647), ((-2147483648), 2147483647)], []) σ := yok3 ⟨by show ((-2147483648) : Int) ≤ _; omega, by show _ ≤ ((-1) : Int); omega⟩ ⟨by show ((-2147483648) : Int) ≤ _; omega, by show _ ≤ (2147483647 : Int); omega⟩ ⟨by show ((-2147483648) : Int) ≤ _; omega, by show _ ≤ (2147483647 : Int); omega⟩
    exact ⟨(-1), lw_leaf hy ev_132_x ((hm_67 _).trans (hm_67 _).symm) (fun ρ b hb => ⟨⟨b, hb, rfl⟩, rfl, rfl, rfl, trivial⟩), lw_leaf hy ev_132_m ((hm_110 _).trans (hm_110 _).symm) (fun ρ b hb => ⟨⟨b, hb, rfl⟩, rfl, rfl, rfl, trivial⟩)⟩
  · have e0 : σ 0 = 0 := lw_cst (h0.trans (by decide))
    have hy : rx_YOk ([(0, 0), ((-2147483648), 2147483647), ((-2147483648), 2147483647)], []) σ := yok3 ⟨by show (0 : Int) ≤ _; omega, by show _ ≤ (0 : Int); omega⟩ ⟨by show ((-2147483648) : Int) ≤ _; omega, by show _ ≤ (2147483647 : Int); omega⟩ ⟨by show ((-2147483648) : Int) ≤ _; omega, by show _ ≤ (2147483647 : Int); omega⟩
    exact ⟨(-1), lw_leaf hy ev_133_x ((hm_67 _).trans (hm_67 _).symm) (fun ρ b hb => ⟨⟨b, hb, rfl⟩, (by show Value.int (σ 0) = Value.int 0; rw [e0]), rfl, rfl, trivial⟩), lw_leaf hy ev_133_m ((hm_110 _).trans (hm_110 _).symm) (fun ρ b hb => ⟨⟨b, hb, rfl⟩, (by show Value.int (σ 0) = Value.int 0; rw [e0]), rfl, rfl, trivial⟩)⟩
  · have e0 : σ 0 = 1 := lw_cst (h0.trans (by decide))
    have hy : rx_YOk ([(1, 1), ((-2147483648), 2147483647), ((-2147483648), 2147483647)], []) σ := yok3 ⟨by show (1 : Int) ≤ _; omega, by show _ ≤ (1 : Int); omega⟩ ⟨by show ((-2147483648) : Int) ≤ _; omega, by show _ ≤ (2147483647 : Int); omega⟩ ⟨by show ((-2147483648) : Int) ≤ _; omega, by show _ ≤ (2147483647 : Int); omega⟩
    exact ⟨(-1), lw_leaf hy ev_134_x ((hm_67 _).trans (hm_67 _).symm) (fun ρ b hb => ⟨⟨b, hb, rfl⟩, (by show Value.int (σ 0) = Value.int 1; rw [e0]), rfl, rfl, trivial⟩), lw_leaf hy ev_134_m ((hm_110 _).trans (hm_110 _).symm) (fun ρ b hb => ⟨⟨b, hb, rfl⟩, (by show Value.int (σ 0) = Value.int 1; rw [e0]), rfl, rfl, trivial⟩)⟩
  · have hy : rx_YOk ([(2, 2147483647), ((-2147483648), 2147483647), ((-2147483648), 2147483647)], []) σ := yok3 ⟨by show (2 : Int) ≤ _; omega, by show _ ≤ (2147483647 : Int); omega⟩ ⟨by show ((-2147483648) : Int) ≤ _; omega, by show _ ≤ (2147483647 : Int); omega⟩ ⟨by show ((-2147483648) : Int) ≤ _; omega, by show _ ≤ (2147483647 : Int); omega⟩
    exact ⟨(-1), lw_leaf hy ev_135_x ((hm_67 _).trans (hm_67 _).symm) (fun ρ b hb => ⟨⟨b, hb, rfl⟩, rfl, rfl, rfl, trivial⟩), lw_leaf hy ev_135_m ((hm_110 _).trans (hm_110 _).symm) (fun ρ b hb => ⟨⟨b, hb, rfl⟩, rfl, rfl, rfl, trivial⟩)⟩
set_option maxHeartbeats 4000000 in
set_option maxRecDepth 100000 in
theorem op_ringOf {l : Launch} {D : va_G} {cy : Nat → ClassId} {σ : Nat → Int32} : ∃ r : Int32, lwMt l D cy σ WX 80 [.int (σ 0), .int (σ 1)] (some (.int r)) ∧ lwMt l D cy σ WM 135 [.int (σ 0), .int (σ 1)] (some (.int r)) := by
  have l0 := lw_lo (σ 0)
  have u0 := lw_hi (σ 0)
  have l1 := lw_lo (σ 1)
  have u1 := lw_hi (σ 1)
  have hs : (σ 0).toInt ≤ (-1) ∨ (σ 0).toInt = 0 ∨ (σ 0).toInt = 1 ∨ 2 ≤ (σ 0).toInt := by omega
  rcases hs with h0 | h0 | h0 | h0
  · have hy : rx_YOk ([((-2147483648), (-1)), ((-2147483648), 2147483647)], []) σ := yok2 ⟨by show ((-2147483648) : Int) ≤ _; omega, by show _ ≤ ((-1) : Int); omega⟩ ⟨by show ((-2147483648) : Int) ≤ _; omega, by show _ ≤ (2147483647 : Int); omega⟩
    exact ⟨(-1), lw_leaf hy ev_136_x ((hm_80 _).trans (hm_80 _).symm) (fun ρ b hb => ⟨⟨b, hb, rfl⟩, rfl, rfl, trivial⟩), lw_leaf hy ev_136_m ((hm_135 _).trans (hm_135 _).symm) (fun ρ b hb => ⟨⟨b, hb, rfl⟩, rfl, rfl, trivial⟩)⟩
  · have hs : (σ 1).toInt ≤ (-1) ∨ (σ 1).toInt = 0 ∨ (σ 1).toInt = 1 ∨ (σ 1).toInt = 2 ∨ (3 ≤ (σ 1).toInt ∧ (σ 1).toInt ≤ 9) ∨ (σ 1).toInt = 10 ∨ (σ 1).toInt = 11 ∨ (σ 1).toInt = 12 ∨ (σ 1).toInt = 13 ∨ (14 ≤ (σ 1).toInt ∧ (σ 1).toInt ≤ 99) ∨ (σ 1).toInt = 100 ∨ (σ 1).toInt = 101 ∨ (σ 1).toInt = 102 ∨ (σ 1).toInt = 103 ∨ 104 ≤ (σ 1).toInt := by omega
    rcases hs with h1 | h1 | h1 | h1 | h1 | h1 | h1 | h1 | h1 | h1 | h1 | h1 | h1 | h1 | h1
    · have e0 : σ 0 = 0 := lw_cst (h0.trans (by decide))
      have hy : rx_YOk ([(0, 0), ((-2147483648), (-1))], []) σ := yok2 ⟨by show (0 : Int) ≤ _; omega, by show _ ≤ (0 : Int); omega⟩ ⟨by show ((-2147483648) : Int) ≤ _; omega, by show _ ≤ ((-1) : Int); omega⟩
      exact ⟨(-1), lw_leaf hy ev_137_x ((hm_80 _).trans (hm_80 _).symm) (fun ρ b hb => ⟨⟨b, hb, rfl⟩, (by show Value.int (σ 0) = Value.int 0; rw [e0]), rfl, trivial⟩), lw_leaf hy ev_137_m ((hm_135 _).trans (hm_135 _).symm) (fun ρ b hb => ⟨⟨b, hb, rfl⟩, (by show Value.int (σ 0) = Value.int 0; rw [e0]), rfl, trivial⟩)⟩
    · have e0 : σ 0 = 0 := lw_cst (h0.trans (by decide))
      have e1 : σ 1 = 0 := lw_cst (h1.trans (by decide))
      have hy : rx_YOk ([(0, 0), (0, 0)], []) σ := yok2 ⟨by show (0 : Int) ≤ _; omega, by show _ ≤ (0 : Int); omega⟩ ⟨by show (0 : Int) ≤ _; omega, by show _ ≤ (0 : Int); omega⟩
      exact ⟨4, lw_leaf hy ev_138_x ((hm_80 _).trans (hm_80 _).symm) (fun ρ b hb => ⟨⟨b, hb, rfl⟩, (by show Value.int (σ 0) = Value.int 0; rw [e0]), (by show Value.int (σ 1) = Value.int 0; rw [e1]), trivial⟩), lw_leaf hy ev_138_m ((hm_135 _).trans (hm_135 _).symm) (fun ρ b hb => ⟨⟨b, hb, rfl⟩, (by show Value.int (σ 0) = Value.int 0; rw [e0]), (by show Value.int (σ 1) = Value.int 0; rw [e1]), trivial⟩)⟩
    · have e0 : σ 0 = 0 := lw_cst (h0.trans (by decide))
      have e1 : σ 1 = 1 := lw_cst (h1.trans (by decide))
      have hy : rx_YOk ([(0, 0), (1, 1)], []) σ := yok2 ⟨by show (0 : Int) ≤ _; omega, by show _ ≤ (0 : Int); omega⟩ ⟨by show (1 : Int) ≤ _; omega, by show _ ≤ (1 : Int); omega⟩
      exact ⟨0, lw_leaf hy ev_139_x ((hm_80 _).trans (hm_80 _).symm) (fun ρ b hb => ⟨⟨b, hb, rfl⟩, (by show Value.int (σ 0) = Value.int 0; rw [e0]), (by show Value.int (σ 1) = Value.int 1; rw [e1]), trivial⟩), lw_leaf hy ev_139_m ((hm_135 _).trans (hm_135 _).symm) (fun ρ b hb => ⟨⟨b, hb, rfl⟩, (by show Value.int (σ 0) = Value.int 0; rw [e0]), (by show Value.int (σ 1) = Value.int 1; rw [e1]), trivial⟩)⟩
    · have e0 : σ 0 = 0 := lw_cst (h0.trans (by decide))
      have e1 : σ 1 = 2 := lw_cst (h1.trans (by decide))
      have hy : rx_YOk ([(0, 0), (2, 2)], []) σ := yok2 ⟨by show (0 : Int) ≤ _; omega, by show _ ≤ (0 : Int); omega⟩ ⟨by show (2 : Int) ≤ _; omega, by show _ ≤ (2 : Int); omega⟩
      exact ⟨0, lw_leaf hy ev_140_x ((hm_80 _).trans (hm_80 _).symm) (fun ρ b hb => ⟨⟨b, hb, rfl⟩, (by show Value.int (σ 0) = Value.int 0; rw [e0]), (by show Value.int (σ 1) = Value.int 2; rw [e1]), trivial⟩), lw_leaf hy ev_140_m ((hm_135 _).trans (hm_135 _).symm) (fun ρ b hb => ⟨⟨b, hb, rfl⟩, (by show Value.int (σ 0) = Value.int 0; rw [e0]), (by show Value.int (σ 1) = Value.int 2; rw [e1]), trivial⟩)⟩
    · have e0 : σ 0 = 0 := lw_cst (h0.trans (by decide))
      have hy : rx_YOk ([(0, 0), (3, 9)], []) σ := yok2 ⟨by show (0 : Int) ≤ _; omega, by show _ ≤ (0 : Int); omega⟩ ⟨by show (3 : Int) ≤ _; omega, by show _ ≤ (9 : Int); omega⟩
      exact ⟨(-1), lw_leaf hy ev_141_x ((hm_80 _).trans (hm_80 _).symm) (fun ρ b hb => ⟨⟨b, hb, rfl⟩, (by show Value.int (σ 0) = Value.int 0; rw [e0]), rfl, trivial⟩), lw_leaf hy ev_141_m ((hm_135 _).trans (hm_135 _).symm) (fun ρ b hb => ⟨⟨b, hb, rfl⟩, (by show Value.int (σ 0) = Value.int 0; rw [e0]), rfl, trivial⟩)⟩
    · have e0 : σ 0 = 0 := lw_cst (h0.trans (by decide))
      have e1 : σ 1 = 10 := lw_cst (h1.trans (by decide))
      have hy : rx_YOk ([(0, 0), (10, 10)], []) σ := yok2 ⟨by show (0 : Int) ≤ _; omega, by show _ ≤ (0 : Int); omega⟩ ⟨by show (10 : Int) ≤ _; omega, by show _ ≤ (10 : Int); omega⟩
      exact ⟨1, lw_leaf hy ev_142_x ((hm_80 _).trans (hm_80 _).symm) (fun ρ b hb => ⟨⟨b, hb, rfl⟩, (by show Value.int (σ 0) = Value.int 0; rw [e0]), (by show Value.int (σ 1) = Value.int 10; rw [e1]), trivial⟩), lw_leaf hy ev_142_m ((hm_135 _).trans (hm_135 _).symm) (fun ρ b hb => ⟨⟨b, hb, rfl⟩, (by show Value.int (σ 0) = Value.int 0; rw [e0]), (by show Value.int (σ 1) = Value.int 10; rw [e1]), trivial⟩)⟩
    · have e0 : σ 0 = 0 := lw_cst (h0.trans (by decide))
      have e1 : σ 1 = 11 := lw_cst (h1.trans (by decide))
      have hy : rx_YOk ([(0, 0), (11, 11)], []) σ := yok2 ⟨by show (0 : Int) ≤ _; omega, by show _ ≤ (0 : Int); omega⟩ ⟨by show (11 : Int) ≤ _; omega, by show _ ≤ (11 : Int); omega⟩
      exact ⟨1, lw_leaf hy ev_143_x ((hm_80 _).trans (hm_80 _).symm) (fun ρ b hb => ⟨⟨b, hb, rfl⟩, (by show Value.int (σ 0) = Value.int 0; rw [e0]), (by show Value.int (σ 1) = Value.int 11; rw [e1]), trivial⟩), lw_leaf hy ev_143_m ((hm_135 _).trans (hm_135 _).symm) (fun ρ b hb => ⟨⟨b, hb, rfl⟩, (by show Value.int (σ 0) = Value.int 0; rw [e0]), (by show Value.int (σ 1) = Value.int 11; rw [e1]), trivial⟩)⟩
    · have e0 : σ 0 = 0 := lw_cst (h0.trans (by decide))
      have e1 : σ 1 = 12 := lw_cst (h1.trans (by decide))
      have hy : rx_YOk ([(0, 0), (12, 12)], []) σ := yok2 ⟨by show (0 : Int) ≤ _; omega, by show _ ≤ (0 : Int); omega⟩ ⟨by show (12 : Int) ≤ _; omega, by show _ ≤ (12 : Int); omega⟩
      exact ⟨1, lw_leaf hy ev_144_x ((hm_80 _).trans (hm_80 _).symm) (fun ρ b hb => ⟨⟨b, hb, rfl⟩, (by show Value.int (σ 0) = Value.int 0; rw [e0]), (by show Value.int (σ 1) = Value.int 12; rw [e1]), trivial⟩), lw_leaf hy ev_144_m ((hm_135 _).trans (hm_135 _).symm) (fun ρ b hb => ⟨⟨b, hb, rfl⟩, (by show Value.int (σ 0) = Value.int 0; rw [e0]), (by show Value.int (σ 1) = Value.int 12; rw [e1]), trivial⟩)⟩
    · have e0 : σ 0 = 0 := lw_cst (h0.trans (by decide))
      have e1 : σ 1 = 13 := lw_cst (h1.trans (by decide))
      have hy : rx_YOk ([(0, 0), (13, 13)], []) σ := yok2 ⟨by show (0 : Int) ≤ _; omega, by show _ ≤ (0 : Int); omega⟩ ⟨by show (13 : Int) ≤ _; omega, by show _ ≤ (13 : Int); omega⟩
      exact ⟨1, lw_leaf hy ev_145_x ((hm_80 _).trans (hm_80 _).symm) (fun ρ b hb => ⟨⟨b, hb, rfl⟩, (by show Value.int (σ 0) = Value.int 0; rw [e0]), (by show Value.int (σ 1) = Value.int 13; rw [e1]), trivial⟩), lw_leaf hy ev_145_m ((hm_135 _).trans (hm_135 _).symm) (fun ρ b hb => ⟨⟨b, hb, rfl⟩, (by show Value.int (σ 0) = Value.int 0; rw [e0]), (by show Value.int (σ 1) = Value.int 13; rw [e1]), trivial⟩)⟩
    · have e0 : σ 0 = 0 := lw_cst (h0.trans (by decide))
      have hy : rx_YOk ([(0, 0), (14, 99)], []) σ := yok2 ⟨by show (0 : Int) ≤ _; omega, by show _ ≤ (0 : Int); omega⟩ ⟨by show (14 : Int) ≤ _; omega, by show _ ≤ (99 : Int); omega⟩
      exact ⟨(-1), lw_leaf hy ev_146_x ((hm_80 _).trans (hm_80 _).symm) (fun ρ b hb => ⟨⟨b, hb, rfl⟩, (by show Value.int (σ 0) = Value.int 0; rw [e0]), rfl, trivial⟩), lw_leaf hy ev_146_m ((hm_135 _).trans (hm_135 _).symm) (fun ρ b hb => ⟨⟨b, hb, rfl⟩, (by show Value.int (σ 0) = Value.int 0; rw [e0]), rfl, trivial⟩)⟩
    · have e0 : σ 0 = 0 := lw_cst (h0.trans (by decide))
      have e1 : σ 1 = 100 := lw_cst (h1.trans (by decide))
      have hy : rx_YOk ([(0, 0), (100, 100)], []) σ := yok2 ⟨by show (0 : Int) ≤ _; omega, by show _ ≤ (0 : Int); omega⟩ ⟨by show (100 : Int) ≤ _; omega, by show _ ≤ (100 : Int); omega⟩
      exact ⟨(-1), lw_leaf hy ev_147_x ((hm_80 _).trans (hm_80 _).symm) (fun ρ b hb => ⟨⟨b, hb, rfl⟩, (by show Value.int (σ 0) = Value.int 0; rw [e0]), (by show Value.int (σ 1) = Value.int 100; rw [e1]), trivial⟩), lw_leaf hy ev_147_m ((hm_135 _).trans (hm_135 _).symm) (fun ρ b hb => ⟨⟨b, hb, rfl⟩, (by show Value.int (σ 0) = Value.int 0; rw [e0]), (by show Value.int (σ 1) = Value.int 100; rw [e1]), trivial⟩)⟩
    · have e0 : σ 0 = 0 := lw_cst (h0.trans (by decide))
      have e1 : σ 1 = 101 := lw_cst (h1.trans (by decide))
      have hy : rx_YOk ([(0, 0), (101, 101)], []) σ := yok2 ⟨by show (0 : Int) ≤ _; omega, by show _ ≤ (0 : Int); omega⟩ ⟨by show (101 : Int) ≤ _; omega, by show _ ≤ (101 : Int); omega⟩
      exact ⟨(-1), lw_leaf hy ev_148_x ((hm_80 _).trans (hm_80 _).symm) (fun ρ b hb => ⟨⟨b, hb, rfl⟩, (by show Value.int (σ 0) = Value.int 0; rw [e0]), (by show Value.int (σ 1) = Value.int 101; rw [e1]), trivial⟩), lw_leaf hy ev_148_m ((hm_135 _).trans (hm_135 _).symm) (fun ρ b hb => ⟨⟨b, hb, rfl⟩, (by show Value.int (σ 0) = Value.int 0; rw [e0]), (by show Value.int (σ 1) = Value.int 101; rw [e1]), trivial⟩)⟩
    · have e0 : σ 0 = 0 := lw_cst (h0.trans (by decide))
      have e1 : σ 1 = 102 := lw_cst (h1.trans (by decide))
      have hy : rx_YOk ([(0, 0), (102, 102)], []) σ := yok2 ⟨by show (0 : Int) ≤ _; omega, by show _ ≤ (0 : Int); omega⟩ ⟨by show (102 : Int) ≤ _; omega, by show _ ≤ (102 : Int); omega⟩
      exact ⟨(-1), lw_leaf hy ev_149_x ((hm_80 _).trans (hm_80 _).symm) (fun ρ b hb => ⟨⟨b, hb, rfl⟩, (by show Value.int (σ 0) = Value.int 0; rw [e0]), (by show Value.int (σ 1) = Value.int 102; rw [e1]), trivial⟩), lw_leaf hy ev_149_m ((hm_135 _).trans (hm_135 _).symm) (fun ρ b hb => ⟨⟨b, hb, rfl⟩, (by show Value.int (σ 0) = Value.int 0; rw [e0]), (by show Value.int (σ 1) = Value.int 102; rw [e1]), trivial⟩)⟩
    · have e0 : σ 0 = 0 := lw_cst (h0.trans (by decide))
      have e1 : σ 1 = 103 := lw_cst (h1.trans (by decide))
      have hy : rx_YOk ([(0, 0), (103, 103)], []) σ := yok2 ⟨by show (0 : Int) ≤ _; omega, by show _ ≤ (0 : Int); omega⟩ ⟨by show (103 : Int) ≤ _; omega, by show _ ≤ (103 : Int); omega⟩
      exact ⟨(-1), lw_leaf hy ev_150_x ((hm_80 _).trans (hm_80 _).symm) (fun ρ b hb => ⟨⟨b, hb, rfl⟩, (by show Value.int (σ 0) = Value.int 0; rw [e0]), (by show Value.int (σ 1) = Value.int 103; rw [e1]), trivial⟩), lw_leaf hy ev_150_m ((hm_135 _).trans (hm_135 _).symm) (fun ρ b hb => ⟨⟨b, hb, rfl⟩, (by show Value.int (σ 0) = Value.int 0; rw [e0]), (by show Value.int (σ 1) = Value.int 103; rw [e1]), trivial⟩)⟩
    · have e0 : σ 0 = 0 := lw_cst (h0.trans (by decide))
      have hy : rx_YOk ([(0, 0), (104, 2147483647)], []) σ := yok2 ⟨by show (0 : Int) ≤ _; omega, by show _ ≤ (0 : Int); omega⟩ ⟨by show (104 : Int) ≤ _; omega, by show _ ≤ (2147483647 : Int); omega⟩
      exact ⟨(-1), lw_leaf hy ev_151_x ((hm_80 _).trans (hm_80 _).symm) (fun ρ b hb => ⟨⟨b, hb, rfl⟩, (by show Value.int (σ 0) = Value.int 0; rw [e0]), rfl, trivial⟩), lw_leaf hy ev_151_m ((hm_135 _).trans (hm_135 _).symm) (fun ρ b hb => ⟨⟨b, hb, rfl⟩, (by show Value.int (σ 0) = Value.int 0; rw [e0]), rfl, trivial⟩)⟩
  · have hs : (σ 1).toInt ≤ (-1) ∨ (σ 1).toInt = 0 ∨ (σ 1).toInt = 1 ∨ (σ 1).toInt = 2 ∨ (3 ≤ (σ 1).toInt ∧ (σ 1).toInt ≤ 9) ∨ (σ 1).toInt = 10 ∨ (σ 1).toInt = 11 ∨ (σ 1).toInt = 12 ∨ (σ 1).toInt = 13 ∨ (14 ≤ (σ 1).toInt ∧ (σ 1).toInt ≤ 99) ∨ (σ 1).toInt = 100 ∨ (σ 1).toInt = 101 ∨ (σ 1).toInt = 102 ∨ (σ 1).toInt = 103 ∨ 104 ≤ (σ 1).toInt := by omega
    rcases hs with h1 | h1 | h1 | h1 | h1 | h1 | h1 | h1 | h1 | h1 | h1 | h1 | h1 | h1 | h1
    · have e0 : σ 0 = 1 := lw_cst (h0.trans (by decide))
      have hy : rx_YOk ([(1, 1), ((-2147483648), (-1))], []) σ := yok2 ⟨by show (1 : Int) ≤ _; omega, by show _ ≤ (1 : Int); omega⟩ ⟨by show ((-2147483648) : Int) ≤ _; omega, by show _ ≤ ((-1) : Int); omega⟩
      exact ⟨(-1), lw_leaf hy ev_152_x ((hm_80 _).trans (hm_80 _).symm) (fun ρ b hb => ⟨⟨b, hb, rfl⟩, (by show Value.int (σ 0) = Value.int 1; rw [e0]), rfl, trivial⟩), lw_leaf hy ev_152_m ((hm_135 _).trans (hm_135 _).symm) (fun ρ b hb => ⟨⟨b, hb, rfl⟩, (by show Value.int (σ 0) = Value.int 1; rw [e0]), rfl, trivial⟩)⟩
    · have e0 : σ 0 = 1 := lw_cst (h0.trans (by decide))
      have e1 : σ 1 = 0 := lw_cst (h1.trans (by decide))
      have hy : rx_YOk ([(1, 1), (0, 0)], []) σ := yok2 ⟨by show (1 : Int) ≤ _; omega, by show _ ≤ (1 : Int); omega⟩ ⟨by show (0 : Int) ≤ _; omega, by show _ ≤ (0 : Int); omega⟩
      exact ⟨4, lw_leaf hy ev_153_x ((hm_80 _).trans (hm_80 _).symm) (fun ρ b hb => ⟨⟨b, hb, rfl⟩, (by show Value.int (σ 0) = Value.int 1; rw [e0]), (by show Value.int (σ 1) = Value.int 0; rw [e1]), trivial⟩), lw_leaf hy ev_153_m ((hm_135 _).trans (hm_135 _).symm) (fun ρ b hb => ⟨⟨b, hb, rfl⟩, (by show Value.int (σ 0) = Value.int 1; rw [e0]), (by show Value.int (σ 1) = Value.int 0; rw [e1]), trivial⟩)⟩
    · have e0 : σ 0 = 1 := lw_cst (h0.trans (by decide))
      have e1 : σ 1 = 1 := lw_cst (h1.trans (by decide))
      have hy : rx_YOk ([(1, 1), (1, 1)], []) σ := yok2 ⟨by show (1 : Int) ≤ _; omega, by show _ ≤ (1 : Int); omega⟩ ⟨by show (1 : Int) ≤ _; omega, by show _ ≤ (1 : Int); omega⟩
      exact ⟨0, lw_leaf hy ev_154_x ((hm_80 _).trans (hm_80 _).symm) (fun ρ b hb => ⟨⟨b, hb, rfl⟩, (by show Value.int (σ 0) = Value.int 1; rw [e0]), (by show Value.int (σ 1) = Value.int 1; rw [e1]), trivial⟩), lw_leaf hy ev_154_m ((hm_135 _).trans (hm_135 _).symm) (fun ρ b hb => ⟨⟨b, hb, rfl⟩, (by show Value.int (σ 0) = Value.int 1; rw [e0]), (by show Value.int (σ 1) = Value.int 1; rw [e1]), trivial⟩)⟩
    · have e0 : σ 0 = 1 := lw_cst (h0.trans (by decide))
      have e1 : σ 1 = 2 := lw_cst (h1.trans (by decide))
      have hy : rx_YOk ([(1, 1), (2, 2)], []) σ := yok2 ⟨by show (1 : Int) ≤ _; omega, by show _ ≤ (1 : Int); omega⟩ ⟨by show (2 : Int) ≤ _; omega, by show _ ≤ (2 : Int); omega⟩
      exact ⟨0, lw_leaf hy ev_155_x ((hm_80 _).trans (hm_80 _).symm) (fun ρ b hb => ⟨⟨b, hb, rfl⟩, (by show Value.int (σ 0) = Value.int 1; rw [e0]), (by show Value.int (σ 1) = Value.int 2; rw [e1]), trivial⟩), lw_leaf hy ev_155_m ((hm_135 _).trans (hm_135 _).symm) (fun ρ b hb => ⟨⟨b, hb, rfl⟩, (by show Value.int (σ 0) = Value.int 1; rw [e0]), (by show Value.int (σ 1) = Value.int 2; rw [e1]), trivial⟩)⟩
    · have e0 : σ 0 = 1 := lw_cst (h0.trans (by decide))
      have hy : rx_YOk ([(1, 1), (3, 9)], []) σ := yok2 ⟨by show (1 : Int) ≤ _; omega, by show _ ≤ (1 : Int); omega⟩ ⟨by show (3 : Int) ≤ _; omega, by show _ ≤ (9 : Int); omega⟩
      exact ⟨(-1), lw_leaf hy ev_156_x ((hm_80 _).trans (hm_80 _).symm) (fun ρ b hb => ⟨⟨b, hb, rfl⟩, (by show Value.int (σ 0) = Value.int 1; rw [e0]), rfl, trivial⟩), lw_leaf hy ev_156_m ((hm_135 _).trans (hm_135 _).symm) (fun ρ b hb => ⟨⟨b, hb, rfl⟩, (by show Value.int (σ 0) = Value.int 1; rw [e0]), rfl, trivial⟩)⟩
    · have e0 : σ 0 = 1 := lw_cst (h0.trans (by decide))
      have e1 : σ 1 = 10 := lw_cst (h1.trans (by decide))
      have hy : rx_YOk ([(1, 1), (10, 10)], []) σ := yok2 ⟨by show (1 : Int) ≤ _; omega, by show _ ≤ (1 : Int); omega⟩ ⟨by show (10 : Int) ≤ _; omega, by show _ ≤ (10 : Int); omega⟩
      exact ⟨1, lw_leaf hy ev_157_x ((hm_80 _).trans (hm_80 _).symm) (fun ρ b hb => ⟨⟨b, hb, rfl⟩, (by show Value.int (σ 0) = Value.int 1; rw [e0]), (by show Value.int (σ 1) = Value.int 10; rw [e1]), trivial⟩), lw_leaf hy ev_157_m ((hm_135 _).trans (hm_135 _).symm) (fun ρ b hb => ⟨⟨b, hb, rfl⟩, (by show Value.int (σ 0) = Value.int 1; rw [e0]), (by show Value.int (σ 1) = Value.int 10; rw [e1]), trivial⟩)⟩
    · have e0 : σ 0 = 1 := lw_cst (h0.trans (by decide))
      have e1 : σ 1 = 11 := lw_cst (h1.trans (by decide))
      have hy : rx_YOk ([(1, 1), (11, 11)], []) σ := yok2 ⟨by show (1 : Int) ≤ _; omega, by show _ ≤ (1 : Int); omega⟩ ⟨by show (11 : Int) ≤ _; omega, by show _ ≤ (11 : Int); omega⟩
      exact ⟨1, lw_leaf hy ev_158_x ((hm_80 _).trans (hm_80 _).symm) (fun ρ b hb => ⟨⟨b, hb, rfl⟩, (by show Value.int (σ 0) = Value.int 1; rw [e0]), (by show Value.int (σ 1) = Value.int 11; rw [e1]), trivial⟩), lw_leaf hy ev_158_m ((hm_135 _).trans (hm_135 _).symm) (fun ρ b hb => ⟨⟨b, hb, rfl⟩, (by show Value.int (σ 0) = Value.int 1; rw [e0]), (by show Value.int (σ 1) = Value.int 11; rw [e1]), trivial⟩)⟩
    · have e0 : σ 0 = 1 := lw_cst (h0.trans (by decide))
      have e1 : σ 1 = 12 := lw_cst (h1.trans (by decide))
      have hy : rx_YOk ([(1, 1), (12, 12)], []) σ := yok2 ⟨by show (1 : Int) ≤ _; omega, by show _ ≤ (1 : Int); omega⟩ ⟨by show (12 : Int) ≤ _; omega, by show _ ≤ (12 : Int); omega⟩
      exact ⟨1, lw_leaf hy ev_159_x ((hm_80 _).trans (hm_80 _).symm) (fun ρ b hb => ⟨⟨b, hb, rfl⟩, (by show Value.int (σ 0) = Value.int 1; rw [e0]), (by show Value.int (σ 1) = Value.int 12; rw [e1]), trivial⟩), lw_leaf hy ev_159_m ((hm_135 _).trans (hm_135 _).symm) (fun ρ b hb => ⟨⟨b, hb, rfl⟩, (by show Value.int (σ 0) = Value.int 1; rw [e0]), (by show Value.int (σ 1) = Value.int 12; rw [e1]), trivial⟩)⟩
    · have e0 : σ 0 = 1 := lw_cst (h0.trans (by decide))
      have e1 : σ 1 = 13 := lw_cst (h1.trans (by decide))
      have hy : rx_YOk ([(1, 1), (13, 13)], []) σ := yok2 ⟨by show (1 : Int) ≤ _; omega, by show _ ≤ (1 : Int); omega⟩ ⟨by show (13 : Int) ≤ _; omega, by show _ ≤ (13 : Int); omega⟩
      exact ⟨1, lw_leaf hy ev_160_x ((hm_80 _).trans (hm_80 _).symm) (fun ρ b hb => ⟨⟨b, hb, rfl⟩, (by show Value.int (σ 0) = Value.int 1; rw [e0]), (by show Value.int (σ 1) = Value.int 13; rw [e1]), trivial⟩), lw_leaf hy ev_160_m ((hm_135 _).trans (hm_135 _).symm) (fun ρ b hb => ⟨⟨b, hb, rfl⟩, (by show Value.int (σ 0) = Value.int 1; rw [e0]), (by show Value.int (σ 1) = Value.int 13; rw [e1]), trivial⟩)⟩
    · have e0 : σ 0 = 1 := lw_cst (h0.trans (by decide))
      have hy : rx_YOk ([(1, 1), (14, 99)], []) σ := yok2 ⟨by show (1 : Int) ≤ _; omega, by show _ ≤ (1 : Int); omega⟩ ⟨by show (14 : Int) ≤ _; omega, by show _ ≤ (99 : Int); omega⟩
      exact ⟨(-1), lw_leaf hy ev_161_x ((hm_80 _).trans (hm_80 _).symm) (fun ρ b hb => ⟨⟨b, hb, rfl⟩, (by show Value.int (σ 0) = Value.int 1; rw [e0]), rfl, trivial⟩), lw_leaf hy ev_161_m ((hm_135 _).trans (hm_135 _).symm) (fun ρ b hb => ⟨⟨b, hb, rfl⟩, (by show Value.int (σ 0) = Value.int 1; rw [e0]), rfl, trivial⟩)⟩
    · have e0 : σ 0 = 1 := lw_cst (h0.trans (by decide))
      have e1 : σ 1 = 100 := lw_cst (h1.trans (by decide))
      have hy : rx_YOk ([(1, 1), (100, 100)], []) σ := yok2 ⟨by show (1 : Int) ≤ _; omega, by show _ ≤ (1 : Int); omega⟩ ⟨by show (100 : Int) ≤ _; omega, by show _ ≤ (100 : Int); omega⟩
      exact ⟨(-1), lw_leaf hy ev_162_x ((hm_80 _).trans (hm_80 _).symm) (fun ρ b hb => ⟨⟨b, hb, rfl⟩, (by show Value.int (σ 0) = Value.int 1; rw [e0]), (by show Value.int (σ 1) = Value.int 100; rw [e1]), trivial⟩), lw_leaf hy ev_162_m ((hm_135 _).trans (hm_135 _).symm) (fun ρ b hb => ⟨⟨b, hb, rfl⟩, (by show Value.int (σ 0) = Value.int 1; rw [e0]), (by show Value.int (σ 1) = Value.int 100; rw [e1]), trivial⟩)⟩
    · have e0 : σ 0 = 1 := lw_cst (h0.trans (by decide))
      have e1 : σ 1 = 101 := lw_cst (h1.trans (by decide))
      have hy : rx_YOk ([(1, 1), (101, 101)], []) σ := yok2 ⟨by show (1 : Int) ≤ _; omega, by show _ ≤ (1 : Int); omega⟩ ⟨by show (101 : Int) ≤ _; omega, by show _ ≤ (101 : Int); omega⟩
      exact ⟨(-1), lw_leaf hy ev_163_x ((hm_80 _).trans (hm_80 _).symm) (fun ρ b hb => ⟨⟨b, hb, rfl⟩, (by show Value.int (σ 0) = Value.int 1; rw [e0]), (by show Value.int (σ 1) = Value.int 101; rw [e1]), trivial⟩), lw_leaf hy ev_163_m ((hm_135 _).trans (hm_135 _).symm) (fun ρ b hb => ⟨⟨b, hb, rfl⟩, (by show Value.int (σ 0) = Value.int 1; rw [e0]), (by show Value.int (σ 1) = Value.int 101; rw [e1]), trivial⟩)⟩
    · have e0 : σ 0 = 1 := lw_cst (h0.trans (by decide))
      have e1 : σ 1 = 102 := lw_cst (h1.trans (by decide))
      have hy : rx_YOk ([(1, 1), (102, 102)], []) σ := yok2 ⟨by show (1 : Int) ≤ _; omega, by show _ ≤ (1 : Int); omega⟩ ⟨by show (102 : Int) ≤ _; omega, by show _ ≤ (102 : Int); omega⟩
      exact ⟨(-1), lw_leaf hy ev_164_x ((hm_80 _).trans (hm_80 _).symm) (fun ρ b hb => ⟨⟨b, hb, rfl⟩, (by show Value.int (σ 0) = Value.int 1; rw [e0]), (by show Value.int (σ 1) = Value.int 102; rw [e1]), trivial⟩), lw_leaf hy ev_164_m ((hm_135 _).trans (hm_135 _).symm) (fun ρ b hb => ⟨⟨b, hb, rfl⟩, (by show Value.int (σ 0) = Value.int 1; rw [e0]), (by show Value.int (σ 1) = Value.int 102; rw [e1]), trivial⟩)⟩
    · have e0 : σ 0 = 1 := lw_cst (h0.trans (by decide))
      have e1 : σ 1 = 103 := lw_cst (h1.trans (by decide))
      have hy : rx_YOk ([(1, 1), (103, 103)], []) σ := yok2 ⟨by show (1 : Int) ≤ _; omega, by show _ ≤ (1 : Int); omega⟩ ⟨by show (103 : Int) ≤ _; omega, by show _ ≤ (103 : Int); omega⟩
      exact ⟨(-1), lw_leaf hy ev_165_x ((hm_80 _).trans (hm_80 _).symm) (fun ρ b hb => ⟨⟨b, hb, rfl⟩, (by show Value.int (σ 0) = Value.int 1; rw [e0]), (by show Value.int (σ 1) = Value.int 103; rw [e1]), trivial⟩), lw_leaf hy ev_165_m ((hm_135 _).trans (hm_135 _).symm) (fun ρ b hb => ⟨⟨b, hb, rfl⟩, (by show Value.int (σ 0) = Value.int 1; rw [e0]), (by show Value.int (σ 1) = Value.int 103; rw [e1]), trivial⟩)⟩
    · have e0 : σ 0 = 1 := lw_cst (h0.trans (by decide))
      have hy : rx_YOk ([(1, 1), (104, 2147483647)], []) σ := yok2 ⟨by show (1 : Int) ≤ _; omega, by show _ ≤ (1 : Int); omega⟩ ⟨by show (104 : Int) ≤ _; omega, by show _ ≤ (2147483647 : Int); omega⟩
      exact ⟨(-1), lw_leaf hy ev_166_x ((hm_80 _).trans (hm_80 _).symm) (fun ρ b hb => ⟨⟨b, hb, rfl⟩, (by show Value.int (σ 0) = Value.int 1; rw [e0]), rfl, trivial⟩), lw_leaf hy ev_166_m ((hm_135 _).trans (hm_135 _).symm) (fun ρ b hb => ⟨⟨b, hb, rfl⟩, (by show Value.int (σ 0) = Value.int 1; rw [e0]), rfl, trivial⟩)⟩
  · have hy : rx_YOk ([(2, 2147483647), ((-2147483648), 2147483647)], []) σ := yok2 ⟨by show (2 : Int) ≤ _; omega, by show _ ≤ (2147483647 : Int); omega⟩ ⟨by show ((-2147483648) : Int) ≤ _; omega, by show _ ≤ (2147483647 : Int); omega⟩
    exact ⟨(-1), lw_leaf hy ev_167_x ((hm_80 _).trans (hm_80 _).symm) (fun ρ b hb => ⟨⟨b, hb, rfl⟩, rfl, rfl, trivial⟩), lw_leaf hy ev_167_m ((hm_135 _).trans (hm_135 _).symm) (fun ρ b hb => ⟨⟨b, hb, rfl⟩, rfl, rfl, trivial⟩)⟩
set_option maxHeartbeats 4000000 in
set_option maxRecDepth 100000 in
theorem op_frieze {l : Launch} {D : va_G} {cy : Nat → ClassId} {σ : Nat → Int32} : ∃ r : Int64, lwMt l D cy σ WX 68 [.int (σ 0), .int (σ 1), .int (σ 2)] (some (.long r)) ∧ lwMt l D cy σ WM 111 [.int (σ 0), .int (σ 1), .int (σ 2)] (some (.long r)) := by
  have l0 := lw_lo (σ 0)
  have u0 := lw_hi (σ 0)
  have l1 := lw_lo (σ 1)
  have u1 := lw_hi (σ 1)
  have l2 := lw_lo (σ 2)
  have u2 := lw_hi (σ 2)
  have hs : (σ 0).toInt ≤ (-1) ∨ (σ 0).toInt = 0 ∨ (σ 0).toInt = 1 ∨ 2 ≤ (σ 0).toInt := by omega
  rcases hs with h0 | h0 | h0 | h0
  · have hy : rx_YOk ([((-2147483648), (-1)), ((-2147483648), 2147483647), ((-2147483648), 2147483647)], []) σ := yok3 ⟨by show ((-2147483648) : Int) ≤ _; omega, by show _ ≤ ((-1) : Int); omega⟩ ⟨by show ((-2147483648) : Int) ≤ _; omega, by show _ ≤ (2147483647 : Int); omega⟩ ⟨by show ((-2147483648) : Int) ≤ _; omega, by show _ ≤ (2147483647 : Int); omega⟩
    exact ⟨0, lw_leaf hy ev_168_x ((hm_68 _).trans (hm_68 _).symm) (fun ρ b hb => ⟨⟨b, hb, rfl⟩, rfl, rfl, rfl, trivial⟩), lw_leaf hy ev_168_m ((hm_111 _).trans (hm_111 _).symm) (fun ρ b hb => ⟨⟨b, hb, rfl⟩, rfl, rfl, rfl, trivial⟩)⟩
  · have e0 : σ 0 = 0 := lw_cst (h0.trans (by decide))
    have hy : rx_YOk ([(0, 0), ((-2147483648), 2147483647), ((-2147483648), 2147483647)], []) σ := yok3 ⟨by show (0 : Int) ≤ _; omega, by show _ ≤ (0 : Int); omega⟩ ⟨by show ((-2147483648) : Int) ≤ _; omega, by show _ ≤ (2147483647 : Int); omega⟩ ⟨by show ((-2147483648) : Int) ≤ _; omega, by show _ ≤ (2147483647 : Int); omega⟩
    exact ⟨0, lw_leaf hy ev_169_x ((hm_68 _).trans (hm_68 _).symm) (fun ρ b hb => ⟨⟨b, hb, rfl⟩, (by show Value.int (σ 0) = Value.int 0; rw [e0]), rfl, rfl, trivial⟩), lw_leaf hy ev_169_m ((hm_111 _).trans (hm_111 _).symm) (fun ρ b hb => ⟨⟨b, hb, rfl⟩, (by show Value.int (σ 0) = Value.int 0; rw [e0]), rfl, rfl, trivial⟩)⟩
  · have e0 : σ 0 = 1 := lw_cst (h0.trans (by decide))
    have hy : rx_YOk ([(1, 1), ((-2147483648), 2147483647), ((-2147483648), 2147483647)], []) σ := yok3 ⟨by show (1 : Int) ≤ _; omega, by show _ ≤ (1 : Int); omega⟩ ⟨by show ((-2147483648) : Int) ≤ _; omega, by show _ ≤ (2147483647 : Int); omega⟩ ⟨by show ((-2147483648) : Int) ≤ _; omega, by show _ ≤ (2147483647 : Int); omega⟩
    exact ⟨0, lw_leaf hy ev_170_x ((hm_68 _).trans (hm_68 _).symm) (fun ρ b hb => ⟨⟨b, hb, rfl⟩, (by show Value.int (σ 0) = Value.int 1; rw [e0]), rfl, rfl, trivial⟩), lw_leaf hy ev_170_m ((hm_111 _).trans (hm_111 _).symm) (fun ρ b hb => ⟨⟨b, hb, rfl⟩, (by show Value.int (σ 0) = Value.int 1; rw [e0]), rfl, rfl, trivial⟩)⟩
  · have hy : rx_YOk ([(2, 2147483647), ((-2147483648), 2147483647), ((-2147483648), 2147483647)], []) σ := yok3 ⟨by show (2 : Int) ≤ _; omega, by show _ ≤ (2147483647 : Int); omega⟩ ⟨by show ((-2147483648) : Int) ≤ _; omega, by show _ ≤ (2147483647 : Int); omega⟩ ⟨by show ((-2147483648) : Int) ≤ _; omega, by show _ ≤ (2147483647 : Int); omega⟩
    exact ⟨0, lw_leaf hy ev_171_x ((hm_68 _).trans (hm_68 _).symm) (fun ρ b hb => ⟨⟨b, hb, rfl⟩, rfl, rfl, rfl, trivial⟩), lw_leaf hy ev_171_m ((hm_111 _).trans (hm_111 _).symm) (fun ρ b hb => ⟨⟨b, hb, rfl⟩, rfl, rfl, rfl, trivial⟩)⟩
set_option maxHeartbeats 4000000 in
set_option maxRecDepth 100000 in
theorem op_way {l : Launch} {D : va_G} {cy : Nat → ClassId} {σ : Nat → Int32} : ∃ r : Int32, lwMt l D cy σ WX 92 [] (some (.int r)) ∧ lwMt l D cy σ WM 156 [] (some (.int r)) := by
  have hy : rx_YOk ([], []) σ := yok0 
  exact ⟨(-1), lw_leaf hy ev_172_x ((hm_92 _).trans (hm_92 _).symm) (fun ρ b hb => ⟨⟨b, hb, rfl⟩, trivial⟩), lw_leaf hy ev_172_m ((hm_156 _).trans (hm_156 _).symm) (fun ρ b hb => ⟨⟨b, hb, rfl⟩, trivial⟩)⟩
set_option maxHeartbeats 4000000 in
set_option maxRecDepth 100000 in
theorem op_goes {l : Launch} {D : va_G} {cy : Nat → ClassId} {σ : Nat → Int32} : ∃ r : Int32, lwMt l D cy σ WX 69 [.int (σ 0)] (some (.int r)) ∧ lwMt l D cy σ WM 112 [.int (σ 0)] (some (.int r)) := by
  have l0 := lw_lo (σ 0)
  have u0 := lw_hi (σ 0)
  have hs : (σ 0).toInt ≤ (-1) ∨ 0 ≤ (σ 0).toInt := by omega
  rcases hs with h0 | h0
  · have hy : rx_YOk ([((-2147483648), (-1))], []) σ := yok1 ⟨by show ((-2147483648) : Int) ≤ _; omega, by show _ ≤ ((-1) : Int); omega⟩
    exact ⟨(-1), lw_leaf hy ev_173_x ((hm_69 _).trans (hm_69 _).symm) (fun ρ b hb => ⟨⟨b, hb, rfl⟩, rfl, trivial⟩), lw_leaf hy ev_173_m ((hm_112 _).trans (hm_112 _).symm) (fun ρ b hb => ⟨⟨b, hb, rfl⟩, rfl, trivial⟩)⟩
  · have hy : rx_YOk ([(0, 2147483647)], []) σ := yok1 ⟨by show (0 : Int) ≤ _; omega, by show _ ≤ (2147483647 : Int); omega⟩
    exact ⟨(-1), lw_leaf hy ev_174_x ((hm_69 _).trans (hm_69 _).symm) (fun ρ b hb => ⟨⟨b, hb, rfl⟩, rfl, trivial⟩), lw_leaf hy ev_174_m ((hm_112 _).trans (hm_112 _).symm) (fun ρ b hb => ⟨⟨b, hb, rfl⟩, rfl, trivial⟩)⟩
set_option maxHeartbeats 4000000 in
set_option maxRecDepth 100000 in
theorem op_seed {l : Launch} {D : va_G} {cy : Nat → ClassId} {σ : Nat → Int32} : ∃ r : Int32, lwMt l D cy σ WX 83 [.int (σ 0)] (some (.int r)) ∧ lwMt l D cy σ WM 140 [.int (σ 0)] (some (.int r)) := by
  have l0 := lw_lo (σ 0)
  have u0 := lw_hi (σ 0)
  have hs : (σ 0).toInt ≤ (-1) ∨ (σ 0).toInt = 0 ∨ (σ 0).toInt = 1 ∨ 2 ≤ (σ 0).toInt := by omega
  rcases hs with h0 | h0 | h0 | h0
  · have hy : rx_YOk ([((-2147483648), (-1))], []) σ := yok1 ⟨by show ((-2147483648) : Int) ≤ _; omega, by show _ ≤ ((-1) : Int); omega⟩
    exact ⟨0, lw_leaf hy ev_175_x ((hm_83 _).trans (hm_83 _).symm) (fun ρ b hb => ⟨⟨b, hb, rfl⟩, rfl, trivial⟩), lw_leaf hy ev_175_m ((hm_140 _).trans (hm_140 _).symm) (fun ρ b hb => ⟨⟨b, hb, rfl⟩, rfl, trivial⟩)⟩
  · have e0 : σ 0 = 0 := lw_cst (h0.trans (by decide))
    have hy : rx_YOk ([(0, 0)], []) σ := yok1 ⟨by show (0 : Int) ≤ _; omega, by show _ ≤ (0 : Int); omega⟩
    exact ⟨0, lw_leaf hy ev_176_x ((hm_83 _).trans (hm_83 _).symm) (fun ρ b hb => ⟨⟨b, hb, rfl⟩, (by show Value.int (σ 0) = Value.int 0; rw [e0]), trivial⟩), lw_leaf hy ev_176_m ((hm_140 _).trans (hm_140 _).symm) (fun ρ b hb => ⟨⟨b, hb, rfl⟩, (by show Value.int (σ 0) = Value.int 0; rw [e0]), trivial⟩)⟩
  · have e0 : σ 0 = 1 := lw_cst (h0.trans (by decide))
    have hy : rx_YOk ([(1, 1)], []) σ := yok1 ⟨by show (1 : Int) ≤ _; omega, by show _ ≤ (1 : Int); omega⟩
    exact ⟨0, lw_leaf hy ev_177_x ((hm_83 _).trans (hm_83 _).symm) (fun ρ b hb => ⟨⟨b, hb, rfl⟩, (by show Value.int (σ 0) = Value.int 1; rw [e0]), trivial⟩), lw_leaf hy ev_177_m ((hm_140 _).trans (hm_140 _).symm) (fun ρ b hb => ⟨⟨b, hb, rfl⟩, (by show Value.int (σ 0) = Value.int 1; rw [e0]), trivial⟩)⟩
  · have hy : rx_YOk ([(2, 2147483647)], []) σ := yok1 ⟨by show (2 : Int) ≤ _; omega, by show _ ≤ (2147483647 : Int); omega⟩
    exact ⟨0, lw_leaf hy ev_178_x ((hm_83 _).trans (hm_83 _).symm) (fun ρ b hb => ⟨⟨b, hb, rfl⟩, rfl, trivial⟩), lw_leaf hy ev_178_m ((hm_140 _).trans (hm_140 _).symm) (fun ρ b hb => ⟨⟨b, hb, rfl⟩, rfl, trivial⟩)⟩
set_option maxHeartbeats 4000000 in
set_option maxRecDepth 100000 in
theorem op_count {l : Launch} {D : va_G} {cy : Nat → ClassId} {σ : Nat → Int32} : ∃ r : Int32, lwMt l D cy σ WX 64 [.int (σ 0)] (some (.int r)) ∧ lwMt l D cy σ WM 105 [.int (σ 0)] (some (.int r)) := by
  have l0 := lw_lo (σ 0)
  have u0 := lw_hi (σ 0)
  have hs : (σ 0).toInt ≤ (-1) ∨ (σ 0).toInt = 0 ∨ (σ 0).toInt = 1 ∨ (σ 0).toInt = 2 ∨ (σ 0).toInt = 3 ∨ (σ 0).toInt = 4 ∨ 5 ≤ (σ 0).toInt := by omega
  rcases hs with h0 | h0 | h0 | h0 | h0 | h0 | h0
  · have hy : rx_YOk ([((-2147483648), (-1))], []) σ := yok1 ⟨by show ((-2147483648) : Int) ≤ _; omega, by show _ ≤ ((-1) : Int); omega⟩
    exact ⟨(-1), lw_leaf hy ev_179_x ((hm_64 _).trans (hm_64 _).symm) (fun ρ b hb => ⟨⟨b, hb, rfl⟩, rfl, trivial⟩), lw_leaf hy ev_179_m ((hm_105 _).trans (hm_105 _).symm) (fun ρ b hb => ⟨⟨b, hb, rfl⟩, rfl, trivial⟩)⟩
  · have e0 : σ 0 = 0 := lw_cst (h0.trans (by decide))
    have hy : rx_YOk ([(0, 0)], []) σ := yok1 ⟨by show (0 : Int) ≤ _; omega, by show _ ≤ (0 : Int); omega⟩
    exact ⟨1, lw_leaf hy ev_180_x ((hm_64 _).trans (hm_64 _).symm) (fun ρ b hb => ⟨⟨b, hb, rfl⟩, (by show Value.int (σ 0) = Value.int 0; rw [e0]), trivial⟩), lw_leaf hy ev_180_m ((hm_105 _).trans (hm_105 _).symm) (fun ρ b hb => ⟨⟨b, hb, rfl⟩, (by show Value.int (σ 0) = Value.int 0; rw [e0]), trivial⟩)⟩
  · have e0 : σ 0 = 1 := lw_cst (h0.trans (by decide))
    have hy : rx_YOk ([(1, 1)], []) σ := yok1 ⟨by show (1 : Int) ≤ _; omega, by show _ ≤ (1 : Int); omega⟩
    exact ⟨0, lw_leaf hy ev_181_x ((hm_64 _).trans (hm_64 _).symm) (fun ρ b hb => ⟨⟨b, hb, rfl⟩, (by show Value.int (σ 0) = Value.int 1; rw [e0]), trivial⟩), lw_leaf hy ev_181_m ((hm_105 _).trans (hm_105 _).symm) (fun ρ b hb => ⟨⟨b, hb, rfl⟩, (by show Value.int (σ 0) = Value.int 1; rw [e0]), trivial⟩)⟩
  · have e0 : σ 0 = 2 := lw_cst (h0.trans (by decide))
    have hy : rx_YOk ([(2, 2)], []) σ := yok1 ⟨by show (2 : Int) ≤ _; omega, by show _ ≤ (2 : Int); omega⟩
    exact ⟨0, lw_leaf hy ev_182_x ((hm_64 _).trans (hm_64 _).symm) (fun ρ b hb => ⟨⟨b, hb, rfl⟩, (by show Value.int (σ 0) = Value.int 2; rw [e0]), trivial⟩), lw_leaf hy ev_182_m ((hm_105 _).trans (hm_105 _).symm) (fun ρ b hb => ⟨⟨b, hb, rfl⟩, (by show Value.int (σ 0) = Value.int 2; rw [e0]), trivial⟩)⟩
  · have e0 : σ 0 = 3 := lw_cst (h0.trans (by decide))
    have hy : rx_YOk ([(3, 3)], []) σ := yok1 ⟨by show (3 : Int) ≤ _; omega, by show _ ≤ (3 : Int); omega⟩
    exact ⟨1, lw_leaf hy ev_183_x ((hm_64 _).trans (hm_64 _).symm) (fun ρ b hb => ⟨⟨b, hb, rfl⟩, (by show Value.int (σ 0) = Value.int 3; rw [e0]), trivial⟩), lw_leaf hy ev_183_m ((hm_105 _).trans (hm_105 _).symm) (fun ρ b hb => ⟨⟨b, hb, rfl⟩, (by show Value.int (σ 0) = Value.int 3; rw [e0]), trivial⟩)⟩
  · have e0 : σ 0 = 4 := lw_cst (h0.trans (by decide))
    have hy : rx_YOk ([(4, 4)], []) σ := yok1 ⟨by show (4 : Int) ≤ _; omega, by show _ ≤ (4 : Int); omega⟩
    exact ⟨0, lw_leaf hy ev_184_x ((hm_64 _).trans (hm_64 _).symm) (fun ρ b hb => ⟨⟨b, hb, rfl⟩, (by show Value.int (σ 0) = Value.int 4; rw [e0]), trivial⟩), lw_leaf hy ev_184_m ((hm_105 _).trans (hm_105 _).symm) (fun ρ b hb => ⟨⟨b, hb, rfl⟩, (by show Value.int (σ 0) = Value.int 4; rw [e0]), trivial⟩)⟩
  · have hy : rx_YOk ([(5, 2147483647)], []) σ := yok1 ⟨by show (5 : Int) ≤ _; omega, by show _ ≤ (2147483647 : Int); omega⟩
    exact ⟨(-1), lw_leaf hy ev_185_x ((hm_64 _).trans (hm_64 _).symm) (fun ρ b hb => ⟨⟨b, hb, rfl⟩, rfl, trivial⟩), lw_leaf hy ev_185_m ((hm_105 _).trans (hm_105 _).symm) (fun ρ b hb => ⟨⟨b, hb, rfl⟩, rfl, trivial⟩)⟩
