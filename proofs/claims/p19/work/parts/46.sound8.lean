section
set_option maxRecDepth 100000 in
set_option maxHeartbeats 4000000 in
theorem s_X10_what {l : Launch} {D : va_G} {cy : Nat → ClassId} {σ : Nat → Int32} : ∀ q ∈ p_X10_what, rx_Sd (gG l D cy σ) mt m_X10_what q.1 q.2 :=
  ck_all (H := h_X10_what) (P := o_X10_what) rfl rfl rfl rfl rfl rfl (by decide +kernel) <|
  o_an
set_option maxRecDepth 100000 in
set_option maxHeartbeats 4000000 in
theorem s_X10_without {l : Launch} {D : va_G} {cy : Nat → ClassId} {σ : Nat → Int32} : ∀ q ∈ p_X10_without, rx_Sd (gG l D cy σ) mt m_X10_without q.1 q.2 :=
  ck_all (H := h_X10_without) (P := o_X10_without) rfl rfl rfl rfl rfl rfl (by decide +kernel) <|
  o_an
end

section
theorem rx_mc {P : rx_M → Prop} {M : rx_M} {l : List rx_M} (h : P M) (t : ∀ x ∈ l, P x) : ∀ x ∈ M :: l, P x := List.forall_mem_cons.mpr ⟨h, t⟩
set_option maxRecDepth 100000 in
set_option maxHeartbeats 4000000 in
theorem mtl_all {l : Launch} {D : va_G} {cy : Nat → ClassId} {σ : Nat → Int32} : ∀ M ∈ mtl, plainName M.1.cls = true ∧ ∀ q ∈ M.2.2.2.2.2, rx_Sd (gG l D cy σ) mt M q.1 q.2 := by
  unfold mtl
  refine rx_mc ⟨pn_J6_signum_0f7a4, s_J6_signum_0f7a4⟩ ?_
  refine rx_mc ⟨pn_J7_fill_53178, s_J7_fill_53178⟩ ?_
  refine rx_mc ⟨pn_J7_fill_d0a16, s_J7_fill_d0a16⟩ ?_
  refine rx_mc ⟨pn_J13_bitCount_95d88, s_J13_bitCount_95d88⟩ ?_
  refine rx_mc ⟨pn_X0_arrive, s_X0_arrive⟩ ?_
  refine rx_mc ⟨pn_X0_enter, s_X0_enter⟩ ?_
  refine rx_mc ⟨pn_X0_enterFirst, s_X0_enterFirst⟩ ?_
  refine rx_mc ⟨pn_X0_explore, s_X0_explore⟩ ?_
  refine rx_mc ⟨pn_X0_gatherLetters, s_X0_gatherLetters⟩ ?_
  refine rx_mc ⟨pn_X0_init, s_X0_init⟩ ?_
  refine rx_mc ⟨pn_X0_load, s_X0_load⟩ ?_
  refine rx_mc ⟨pn_X0_numberOf, s_X0_numberOf⟩ ?_
  refine rx_mc ⟨pn_X0_remember, s_X0_remember⟩ ?_
  refine rx_mc ⟨pn_X0_rowOf, s_X0_rowOf⟩ ?_
  refine rx_mc ⟨pn_X0_seatsMap, s_X0_seatsMap⟩ ?_
  refine rx_mc ⟨pn_X0_tell, s_X0_tell⟩ ?_
  refine rx_mc ⟨pn_X1_clear, s_X1_clear⟩ ?_
  refine rx_mc ⟨pn_X1_enter, s_X1_enter⟩ ?_
  refine rx_mc ⟨pn_X1_find, s_X1_find⟩ ?_
  refine rx_mc ⟨pn_X1_init, s_X1_init⟩ ?_
  refine rx_mc ⟨pn_X1_slotOf, s_X1_slotOf⟩ ?_
  refine rx_mc ⟨pn_X2_fault, s_X2_fault⟩ ?_
  refine rx_mc ⟨pn_X2_findSizes, s_X2_findSizes⟩ ?_
  refine rx_mc ⟨pn_X2_greatestDivisor, s_X2_greatestDivisor⟩ ?_
  refine rx_mc ⟨pn_X2_init, s_X2_init⟩ ?_
  refine rx_mc ⟨pn_X2_restart, s_X2_restart⟩ ?_
  refine rx_mc ⟨pn_X2_sizeAlong, s_X2_sizeAlong⟩ ?_
  refine rx_mc ⟨pn_X2_sizeGroup, s_X2_sizeGroup⟩ ?_
  refine rx_mc ⟨pn_X3_flipped, s_X3_flipped⟩ ?_
  refine rx_mc ⟨pn_X3_goNearer, s_X3_goNearer⟩ ?_
  refine rx_mc ⟨pn_X3_init, s_X3_init⟩ ?_
  refine rx_mc ⟨pn_X3_lead, s_X3_lead⟩ ?_
  refine rx_mc ⟨pn_X3_measure, s_X3_measure⟩ ?_
  refine rx_mc ⟨pn_X4_init, s_X4_init⟩ ?_
  refine rx_mc ⟨pn_X4_isWild, s_X4_isWild⟩ ?_
  refine rx_mc ⟨pn_X4_judge, s_X4_judge⟩ ?_
  refine rx_mc ⟨pn_X4_pack, s_X4_pack⟩ ?_
  refine rx_mc ⟨pn_X4_tracePath, s_X4_tracePath⟩ ?_
  refine rx_mc ⟨pn_X4_unpack, s_X4_unpack⟩ ?_
  refine rx_mc ⟨pn_X5_addAll, s_X5_addAll⟩ ?_
  refine rx_mc ⟨pn_X5_beginProduct, s_X5_beginProduct⟩ ?_
  refine rx_mc ⟨pn_X5_divide, s_X5_divide⟩ ?_
  refine rx_mc ⟨pn_X5_exchange, s_X5_exchange⟩ ?_
  refine rx_mc ⟨pn_X5_init, s_X5_init⟩ ?_
  refine rx_mc ⟨pn_X5_multiplied, s_X5_multiplied⟩ ?_
  refine rx_mc ⟨pn_X5_multiply, s_X5_multiply⟩ ?_
  refine rx_mc ⟨pn_X5_product, s_X5_product⟩ ?_
  refine rx_mc ⟨pn_X5_settle, s_X5_settle⟩ ?_
  refine rx_mc ⟨pn_X5_takeAway, s_X5_takeAway⟩ ?_
  refine rx_mc ⟨pn_X6_areLinked, s_X6_areLinked⟩ ?_
  refine rx_mc ⟨pn_X6_areNeighbours, s_X6_areNeighbours⟩ ?_
  refine rx_mc ⟨pn_X6_bit, s_X6_bit⟩ ?_
  refine rx_mc ⟨pn_X6_fenceAt, s_X6_fenceAt⟩ ?_
  refine rx_mc ⟨pn_X6_fenceCount, s_X6_fenceCount⟩ ?_
  refine rx_mc ⟨pn_X6_friezeNumber, s_X6_friezeNumber⟩ ?_
  refine rx_mc ⟨pn_X6_has, s_X6_has⟩ ?_
  refine rx_mc ⟨pn_X6_init, s_X6_init⟩ ?_
  refine rx_mc ⟨pn_X6_isCorner, s_X6_isCorner⟩ ?_
  refine rx_mc ⟨pn_X6_isCrossed, s_X6_isCrossed⟩ ?_
  refine rx_mc ⟨pn_X6_isCut, s_X6_isCut⟩ ?_
  refine rx_mc ⟨pn_X6_otherFence, s_X6_otherFence⟩ ?_
  refine rx_mc ⟨pn_X6_placeOf, s_X6_placeOf⟩ ?_
  refine rx_mc ⟨pn_X6_tell, s_X6_tell⟩ ?_
  refine rx_mc ⟨pn_X6_tellArrow, s_X6_tellArrow⟩ ?_
  refine rx_mc ⟨pn_X6_tellArrows, s_X6_tellArrows⟩ ?_
  refine rx_mc ⟨pn_X6_thirds, s_X6_thirds⟩ ?_
  refine rx_mc ⟨pn_X7_allTerms, s_X7_allTerms⟩ ?_
  refine rx_mc ⟨pn_X7_copyFrom, s_X7_copyFrom⟩ ?_
  refine rx_mc ⟨pn_X7_hasTable, s_X7_hasTable⟩ ?_
  refine rx_mc ⟨pn_X7_init, s_X7_init⟩ ?_
  refine rx_mc ⟨pn_X7_isSameAs, s_X7_isSameAs⟩ ?_
  refine rx_mc ⟨pn_X7_placeOf, s_X7_placeOf⟩ ?_
  refine rx_mc ⟨pn_X7_start, s_X7_start⟩ ?_
  refine rx_mc ⟨pn_X8_add, s_X8_add⟩ ?_
  refine rx_mc ⟨pn_X8_becomeVariable, s_X8_becomeVariable⟩ ?_
  refine rx_mc ⟨pn_X8_clear, s_X8_clear⟩ ?_
  refine rx_mc ⟨pn_X8_copyFrom, s_X8_copyFrom⟩ ?_
  refine rx_mc ⟨pn_X8_find, s_X8_find⟩ ?_
  refine rx_mc ⟨pn_X8_hasVariable, s_X8_hasVariable⟩ ?_
  refine rx_mc ⟨pn_X8_init, s_X8_init⟩ ?_
  refine rx_mc ⟨pn_X8_isLike, s_X8_isLike⟩ ?_
  refine rx_mc ⟨pn_X8_leastPower, s_X8_leastPower⟩ ?_
  refine rx_mc ⟨pn_X8_sum, s_X8_sum⟩ ?_
  refine rx_mc ⟨pn_X9_all, s_X9_all⟩ ?_
  refine rx_mc ⟨pn_X9_arrows, s_X9_arrows⟩ ?_
  refine rx_mc ⟨pn_X9_b, s_X9_b⟩ ?_
  refine rx_mc ⟨pn_X9_back, s_X9_back⟩ ?_
  refine rx_mc ⟨pn_X9_begin, s_X9_begin⟩ ?_
  refine rx_mc ⟨pn_X9_count, s_X9_count⟩ ?_
  refine rx_mc ⟨pn_X9_fence, s_X9_fence⟩ ?_
  refine rx_mc ⟨pn_X9_finite, s_X9_finite⟩ ?_
  refine rx_mc ⟨pn_X9_flip, s_X9_flip⟩ ?_
  refine rx_mc ⟨pn_X9_frieze, s_X9_frieze⟩ ?_
  refine rx_mc ⟨pn_X9_goes, s_X9_goes⟩ ?_
  refine rx_mc ⟨pn_X9_init, s_X9_init⟩ ?_
  refine rx_mc ⟨pn_X9_isCell, s_X9_isCell⟩ ?_
  refine rx_mc ⟨pn_X9_isPlace, s_X9_isPlace⟩ ?_
  refine rx_mc ⟨pn_X9_isSlot, s_X9_isSlot⟩ ?_
  refine rx_mc ⟨pn_X9_isTableTurnable, s_X9_isTableTurnable⟩ ?_
  refine rx_mc ⟨pn_X9_keep, s_X9_keep⟩ ?_
  refine rx_mc ⟨pn_X9_least, s_X9_least⟩ ?_
  refine rx_mc ⟨pn_X9_ones, s_X9_ones⟩ ?_
  refine rx_mc ⟨pn_X9_order, s_X9_order⟩ ?_
  refine rx_mc ⟨pn_X9_ring, s_X9_ring⟩ ?_
  refine rx_mc ⟨pn_X9_ringOf, s_X9_ringOf⟩ ?_
  refine rx_mc ⟨pn_X9_row, s_X9_row⟩ ?_
  refine rx_mc ⟨pn_X9_same, s_X9_same⟩ ?_
  refine rx_mc ⟨pn_X9_seed, s_X9_seed⟩ ?_
  refine rx_mc ⟨pn_X9_size, s_X9_size⟩ ?_
  refine rx_mc ⟨pn_X9_startSeed, s_X9_startSeed⟩ ?_
  refine rx_mc ⟨pn_X9_step, s_X9_step⟩ ?_
  refine rx_mc ⟨pn_X9_table, s_X9_table⟩ ?_
  refine rx_mc ⟨pn_X9_tables, s_X9_tables⟩ ?_
  refine rx_mc ⟨pn_X9_term, s_X9_term⟩ ?_
  refine rx_mc ⟨pn_X9_terms, s_X9_terms⟩ ?_
  refine rx_mc ⟨pn_X9_turn, s_X9_turn⟩ ?_
  refine rx_mc ⟨pn_X9_turnTable, s_X9_turnTable⟩ ?_
  refine rx_mc ⟨pn_X9_turnedEntry, s_X9_turnedEntry⟩ ?_
  refine rx_mc ⟨pn_X9_walkRow, s_X9_walkRow⟩ ?_
  refine rx_mc ⟨pn_X9_way, s_X9_way⟩ ?_
  refine rx_mc ⟨pn_X9_what, s_X9_what⟩ ?_
  refine rx_mc ⟨pn_X10_add, s_X10_add⟩ ?_
  refine rx_mc ⟨pn_X10_against, s_X10_against⟩ ?_
  refine rx_mc ⟨pn_X10_all, s_X10_all⟩ ?_
  refine rx_mc ⟨pn_X10_areAlike, s_X10_areAlike⟩ ?_
  refine rx_mc ⟨pn_X10_areNeighbours, s_X10_areNeighbours⟩ ?_
  refine rx_mc ⟨pn_X10_arrows, s_X10_arrows⟩ ?_
  refine rx_mc ⟨pn_X10_b, s_X10_b⟩ ?_
  refine rx_mc ⟨pn_X10_back, s_X10_back⟩ ?_
  refine rx_mc ⟨pn_X10_begin, s_X10_begin⟩ ?_
  refine rx_mc ⟨pn_X10_begins, s_X10_begins⟩ ?_
  refine rx_mc ⟨pn_X10_bits, s_X10_bits⟩ ?_
  refine rx_mc ⟨pn_X10_comes, s_X10_comes⟩ ?_
  refine rx_mc ⟨pn_X10_common, s_X10_common⟩ ?_
  refine rx_mc ⟨pn_X10_copy, s_X10_copy⟩ ?_
  refine rx_mc ⟨pn_X10_count, s_X10_count⟩ ?_
  refine rx_mc ⟨pn_X10_cross, s_X10_cross⟩ ?_
  refine rx_mc ⟨pn_X10_cuttingOf, s_X10_cuttingOf⟩ ?_
  refine rx_mc ⟨pn_X10_fence, s_X10_fence⟩ ?_
  refine rx_mc ⟨pn_X10_fenceAt, s_X10_fenceAt⟩ ?_
  refine rx_mc ⟨pn_X10_fences, s_X10_fences⟩ ?_
  refine rx_mc ⟨pn_X10_finite, s_X10_finite⟩ ?_
  refine rx_mc ⟨pn_X10_firsts, s_X10_firsts⟩ ?_
  refine rx_mc ⟨pn_X10_flip, s_X10_flip⟩ ?_
  refine rx_mc ⟨pn_X10_flips, s_X10_flips⟩ ?_
  refine rx_mc ⟨pn_X10_frieze, s_X10_frieze⟩ ?_
  refine rx_mc ⟨pn_X10_goes, s_X10_goes⟩ ?_
  refine rx_mc ⟨pn_X10_goesThrough, s_X10_goesThrough⟩ ?_
  refine rx_mc ⟨pn_X10_greater, s_X10_greater⟩ ?_
  refine rx_mc ⟨pn_X10_group, s_X10_group⟩ ?_
  refine rx_mc ⟨pn_X10_hasSizes, s_X10_hasSizes⟩ ?_
  refine rx_mc ⟨pn_X10_heldSlot, s_X10_heldSlot⟩ ?_
  refine rx_mc ⟨pn_X10_init, s_X10_init⟩ ?_
  refine rx_mc ⟨pn_X10_isBegun, s_X10_isBegun⟩ ?_
  refine rx_mc ⟨pn_X10_isCutting, s_X10_isCutting⟩ ?_
  refine rx_mc ⟨pn_X10_isSide, s_X10_isSide⟩ ?_
  refine rx_mc ⟨pn_X10_isSlot, s_X10_isSlot⟩ ?_
  refine rx_mc ⟨pn_X10_isTable, s_X10_isTable⟩ ?_
  refine rx_mc ⟨pn_X10_isThere, s_X10_isThere⟩ ?_
  refine rx_mc ⟨pn_X10_isWild, s_X10_isWild⟩ ?_
  refine rx_mc ⟨pn_X10_keep, s_X10_keep⟩ ?_
  refine rx_mc ⟨pn_X10_leads, s_X10_leads⟩ ?_
  refine rx_mc ⟨pn_X10_least, s_X10_least⟩ ?_
  refine rx_mc ⟨pn_X10_leastOf, s_X10_leastOf⟩ ?_
  refine rx_mc ⟨pn_X10_less, s_X10_less⟩ ?_
  refine rx_mc ⟨pn_X10_lesser, s_X10_lesser⟩ ?_
  refine rx_mc ⟨pn_X10_letterOf, s_X10_letterOf⟩ ?_
  refine rx_mc ⟨pn_X10_named, s_X10_named⟩ ?_
  refine rx_mc ⟨pn_X10_one, s_X10_one⟩ ?_
  refine rx_mc ⟨pn_X10_ones, s_X10_ones⟩ ?_
  refine rx_mc ⟨pn_X10_order, s_X10_order⟩ ?_
  refine rx_mc ⟨pn_X10_other, s_X10_other⟩ ?_
  refine rx_mc ⟨pn_X10_parts, s_X10_parts⟩ ?_
  refine rx_mc ⟨pn_X10_placeIn, s_X10_placeIn⟩ ?_
  refine rx_mc ⟨pn_X10_placeOf, s_X10_placeOf⟩ ?_
  refine rx_mc ⟨pn_X10_product, s_X10_product⟩ ?_
  refine rx_mc ⟨pn_X10_restores, s_X10_restores⟩ ?_
  refine rx_mc ⟨pn_X10_ring, s_X10_ring⟩ ?_
  refine rx_mc ⟨pn_X10_ringOf, s_X10_ringOf⟩ ?_
  refine rx_mc ⟨pn_X10_row, s_X10_row⟩ ?_
  refine rx_mc ⟨pn_X10_same, s_X10_same⟩ ?_
  refine rx_mc ⟨pn_X10_saves, s_X10_saves⟩ ?_
  refine rx_mc ⟨pn_X10_searches, s_X10_searches⟩ ?_
  refine rx_mc ⟨pn_X10_seed, s_X10_seed⟩ ?_
  refine rx_mc ⟨pn_X10_size, s_X10_size⟩ ?_
  refine rx_mc ⟨pn_X10_step, s_X10_step⟩ ?_
  refine rx_mc ⟨pn_X10_sumOf, s_X10_sumOf⟩ ?_
  refine rx_mc ⟨pn_X10_table, s_X10_table⟩ ?_
  refine rx_mc ⟨pn_X10_tableHash, s_X10_tableHash⟩ ?_
  refine rx_mc ⟨pn_X10_tables, s_X10_tables⟩ ?_
  refine rx_mc ⟨pn_X10_takes, s_X10_takes⟩ ?_
  refine rx_mc ⟨pn_X10_takesBits, s_X10_takesBits⟩ ?_
  refine rx_mc ⟨pn_X10_tells, s_X10_tells⟩ ?_
  refine rx_mc ⟨pn_X10_term, s_X10_term⟩ ?_
  refine rx_mc ⟨pn_X10_terms, s_X10_terms⟩ ?_
  refine rx_mc ⟨pn_X10_thirds, s_X10_thirds⟩ ?_
  refine rx_mc ⟨pn_X10_times, s_X10_times⟩ ?_
  refine rx_mc ⟨pn_X10_timesOften, s_X10_timesOften⟩ ?_
  refine rx_mc ⟨pn_X10_turn, s_X10_turn⟩ ?_
  refine rx_mc ⟨pn_X10_turnRound, s_X10_turnRound⟩ ?_
  refine rx_mc ⟨pn_X10_turns, s_X10_turns⟩ ?_
  refine rx_mc ⟨pn_X10_turnsArrows, s_X10_turnsArrows⟩ ?_
  refine rx_mc ⟨pn_X10_way, s_X10_way⟩ ?_
  refine rx_mc ⟨pn_X10_what, s_X10_what⟩ ?_
  refine rx_mc ⟨pn_X10_without, s_X10_without⟩ ?_
  exact fun _ h => absurd h List.not_mem_nil
theorem mt_all {l : Launch} {D : va_G} {cy : Nat → ClassId} {σ : Nat → Int32} : rx_All (gG l D cy σ) mt := by
  intro mid hne
  cases h : mtl[mid]? with
  | none =>
    refine absurd ?_ hne
    unfold mt
    rw [List.getD_eq_getElem?_getD, h]
    rfl
  | some M =>
    have e : mt mid = M := by
      unfold mt
      rw [List.getD_eq_getElem?_getD, h]
      rfl
    rw [e]
    exact mtl_all M (List.mem_of_getElem? h)
end

section
/-! equal worlds, worked out -/
def rx_beqE (a b : rx_E) : Bool := match a, b with
  | .inl (c, fs), .inl (c', fs') => Nat.beq c c' && decide (fs = fs')
  | .inr (t, n, u, d), .inr (t', n', u', d') => Nat.beq t t' && (Nat.beq n n' && (decide (u = u') && decide (d = d')))
  | _, _ => false
theorem rx_beqE_ok {a b : rx_E} (h : rx_beqE a b = true) : a = b := by
  match a, b, h with
  | .inl (c, fs), .inl (c', fs'), h =>
    simp only [rx_beqE, Bool.and_eq_true, decide_eq_true_eq] at h
    rw [Nat.eq_of_beq_eq_true h.1, h.2]
  | .inr (t, n, u, d), .inr (t', n', u', d'), h =>
    simp only [rx_beqE, Bool.and_eq_true, decide_eq_true_eq] at h
    rw [Nat.eq_of_beq_eq_true h.1, Nat.eq_of_beq_eq_true h.2.1, h.2.2.1, h.2.2.2]
  | .inl _, .inr _, h => cases h
  | .inr _, .inl _, h => cases h
def rx_beqW : rx_W → rx_W → Bool
  | [], [] => true
  | a :: s, b :: t => rx_beqE a b && rx_beqW s t
  | _, _ => false
theorem rx_beqW_ok : ∀ {a b : rx_W}, rx_beqW a b = true → a = b
  | [], [], _ => rfl
  | a :: s, b :: t, h => by
    simp only [rx_beqW, Bool.and_eq_true] at h
    rw [rx_beqE_ok h.1, rx_beqW_ok h.2]
  | [], _ :: _, h => by cases h
  | _ :: _, [], h => by cases h
def rx_isN (o : Option rx_R) (w : rx_W) : Bool := match o with
  | some (none, w') => rx_beqW w' w
  | _ => false
theorem rx_isN_ok {o : Option rx_R} {w : rx_W} (h : rx_isN o w = true) : o = some (none, w) := by
  unfold rx_isN at h
  split at h
  · rw [rx_beqW_ok h]
  · cases h
def rx_isV (o : Option rx_R) (v : Value) : Bool := match o with
  | some (some v', _) => decide (v' = v)
  | _ => false
theorem rx_isV_ok {o : Option rx_R} {v : Value} (h : rx_isV o v = true) : o.map Prod.fst = some (some v) := by
  unfold rx_isV at h
  split at h
  · rw [← of_decide_eq_true h]; rfl
  · cases h
end

section
def WM : rx_W := [.inl (10, [.int 0, .ref 1, .ref 2, .ref 3, .int 0, .long 0, .ref 4, .int 1, .int 0, .ref 5, .int 0, .ref 6, .int 0, .int 0, .ref 7, .ref 8, .ref 9, .ref 10, .ref 11, .ref 12, .ref 13, .ref 14, .ref 15, .ref 16, .int 0, .int 0, .int 0, .ref 17, .ref 18, .int 0, .int 0, .ref 19, .ref 20, .ref 21, .ref 22, .ref 23, .int 0, .ref 24, .ref 25, .ref 26, .int 0, .int 0, .int 0, .ref 27, .ref 28, .ref 29, .int 0, .ref 30, .ref 31, .ref 32, .ref 33, .ref 34, .ref 35, .ref 36, .int 0, .int 0, .ref 37, .ref 38]), .inr (0, 152, [(0, .int 1)], .int 0), .inr (1, 30400, [(0, .long 1)], .long 0), .inr (0, 364800, [(0, .int 1), (11, .int 0), (10, .int 0), (9, .int 0), (8, .int 0), (7, .int 0), (6, .int 0), (5, .int 0), (4, .int 0), (3, .int 0), (2, .int 0), (1, .int 0), (0, .int 0)], .int 0), .inr (0, 12, [], .int 0), .inr (0, 72, [], .int 0), .inr (0, 101, [], .int 0), .inr (0, 72, [], .int 0), .inr (1, 6, [], .long 0), .inr (1, 6, [], .long 0), .inr (0, 6, [(0, .int 1)], .int 0), .inr (2, 6, [], .int 0), .inr (0, 72, [], .int 0), .inr (0, 4, [], .int 0), .inr (0, 4, [], .int 0), .inr (0, 288, [], .int 0), .inr (0, 6, [], .int 0), .inr (0, 900, [], .int 0), .inr (0, 10800, [], .int 0), .inr (0, 100, [], .int 0), .inr (1, 100, [], .long 0), .inr (0, 1200, [], .int 0), .inr (0, 72, [], .int 0), .inr (0, 6, [], .int 0), .inr (0, 108000, [], .int 0), .inr (0, 3000, [], .int 0), .inr (0, 3000, [], .int 0), .inr (0, 3001, [], .int 0), .inr (0, 4096, [], .int 0), .inr (0, 3000, [], .int 0), .inr (0, 12, [], .int 0), .inr (0, 2, [(1, .int 4), (0, .int 4)], .int 0), .inr (2, 200, [], .int 0), .inr (0, 100, [], .int 0), .inr (0, 35, [], .int 0), .inr (1, 1430, [], .long 0), .inr (0, 1430, [], .int 0), .inr (0, 64, [], .int 0), .inr (2, 200, [], .int 0)]
theorem ev_M : (rx_call mt 1000 152 [.ref 0] [.inl (10, fs_X10)]) = some (none, WM) := rx_isN_ok (by decide +kernel)
end
