theorem rx_mc {P : rx_M → Prop} {M : rx_M} {l : List rx_M} (h : P M) (t : ∀ x ∈ l, P x) : ∀ x ∈ M :: l, P x := List.forall_mem_cons.mpr ⟨h, t⟩
theorem pn_J7_fill_53178 : plainName yJ7_fill_53178.cls = true := by decide +kernel
theorem pn_J13_bitCount_95d88 : plainName yJ13_bitCount_95d88.cls = true := by decide +kernel
theorem pn_X0_arrive : plainName yX0_arrive.cls = true := by decide +kernel
theorem pn_X0_enter : plainName yX0_enter.cls = true := by decide +kernel
theorem pn_X0_enterFirst : plainName yX0_enterFirst.cls = true := by decide +kernel
theorem pn_X0_explore : plainName yX0_explore.cls = true := by decide +kernel
theorem pn_X0_gatherLetters : plainName yX0_gatherLetters.cls = true := by decide +kernel
theorem pn_X0_init : plainName yX0_init.cls = true := by decide +kernel
theorem pn_X0_load : plainName yX0_load.cls = true := by decide +kernel
theorem pn_X0_numberOf : plainName yX0_numberOf.cls = true := by decide +kernel
theorem pn_X0_remember : plainName yX0_remember.cls = true := by decide +kernel
theorem pn_X0_rowOf : plainName yX0_rowOf.cls = true := by decide +kernel
theorem pn_X0_tell : plainName yX0_tell.cls = true := by decide +kernel
theorem pn_X1_clear : plainName yX1_clear.cls = true := by decide +kernel
theorem pn_X1_enter : plainName yX1_enter.cls = true := by decide +kernel
theorem pn_X1_find : plainName yX1_find.cls = true := by decide +kernel
theorem pn_X1_init : plainName yX1_init.cls = true := by decide +kernel
theorem pn_X1_slotOf : plainName yX1_slotOf.cls = true := by decide +kernel
theorem pn_X2_init : plainName yX2_init.cls = true := by decide +kernel
theorem pn_X2_restart : plainName yX2_restart.cls = true := by decide +kernel
theorem pn_X3_init : plainName yX3_init.cls = true := by decide +kernel
theorem pn_X4_init : plainName yX4_init.cls = true := by decide +kernel
theorem pn_X4_isWild : plainName yX4_isWild.cls = true := by decide +kernel
theorem pn_X4_judge : plainName yX4_judge.cls = true := by decide +kernel
theorem pn_X4_pack : plainName yX4_pack.cls = true := by decide +kernel
theorem pn_X4_unpack : plainName yX4_unpack.cls = true := by decide +kernel
theorem pn_X5_addAll : plainName yX5_addAll.cls = true := by decide +kernel
theorem pn_X5_beginProduct : plainName yX5_beginProduct.cls = true := by decide +kernel
theorem pn_X5_divide : plainName yX5_divide.cls = true := by decide +kernel
theorem pn_X5_exchange : plainName yX5_exchange.cls = true := by decide +kernel
theorem pn_X5_init : plainName yX5_init.cls = true := by decide +kernel
theorem pn_X5_product : plainName yX5_product.cls = true := by decide +kernel
theorem pn_X5_settle : plainName yX5_settle.cls = true := by decide +kernel
theorem pn_X5_takeAway : plainName yX5_takeAway.cls = true := by decide +kernel
theorem pn_X6_areNeighbours : plainName yX6_areNeighbours.cls = true := by decide +kernel
theorem pn_X6_bit : plainName yX6_bit.cls = true := by decide +kernel
theorem pn_X6_fenceAt : plainName yX6_fenceAt.cls = true := by decide +kernel
theorem pn_X6_fenceCount : plainName yX6_fenceCount.cls = true := by decide +kernel
theorem pn_X6_has : plainName yX6_has.cls = true := by decide +kernel
theorem pn_X6_init : plainName yX6_init.cls = true := by decide +kernel
theorem pn_X6_isCorner : plainName yX6_isCorner.cls = true := by decide +kernel
theorem pn_X6_isCrossed : plainName yX6_isCrossed.cls = true := by decide +kernel
theorem pn_X6_isCut : plainName yX6_isCut.cls = true := by decide +kernel
theorem pn_X6_tell : plainName yX6_tell.cls = true := by decide +kernel
theorem pn_X6_thirds : plainName yX6_thirds.cls = true := by decide +kernel
theorem pn_X7_allTerms : plainName yX7_allTerms.cls = true := by decide +kernel
theorem pn_X7_copyFrom : plainName yX7_copyFrom.cls = true := by decide +kernel
theorem pn_X7_init : plainName yX7_init.cls = true := by decide +kernel
theorem pn_X7_start : plainName yX7_start.cls = true := by decide +kernel
theorem pn_X8_add : plainName yX8_add.cls = true := by decide +kernel
theorem pn_X8_becomeVariable : plainName yX8_becomeVariable.cls = true := by decide +kernel
theorem pn_X8_clear : plainName yX8_clear.cls = true := by decide +kernel
theorem pn_X8_copyFrom : plainName yX8_copyFrom.cls = true := by decide +kernel
theorem pn_X8_find : plainName yX8_find.cls = true := by decide +kernel
theorem pn_X8_hasVariable : plainName yX8_hasVariable.cls = true := by decide +kernel
theorem pn_X8_init : plainName yX8_init.cls = true := by decide +kernel
theorem pn_X8_isLike : plainName yX8_isLike.cls = true := by decide +kernel
theorem pn_X8_leastPower : plainName yX8_leastPower.cls = true := by decide +kernel
theorem pn_X8_sum : plainName yX8_sum.cls = true := by decide +kernel
theorem pn_X9_all : plainName yX9_all.cls = true := by decide +kernel
theorem pn_X9_arrows : plainName yX9_arrows.cls = true := by decide +kernel
theorem pn_X9_b : plainName yX9_b.cls = true := by decide +kernel
theorem pn_X9_back : plainName yX9_back.cls = true := by decide +kernel
theorem pn_X9_begin : plainName yX9_begin.cls = true := by decide +kernel
theorem pn_X9_count : plainName yX9_count.cls = true := by decide +kernel
theorem pn_X9_fence : plainName yX9_fence.cls = true := by decide +kernel
theorem pn_X9_finite : plainName yX9_finite.cls = true := by decide +kernel
theorem pn_X9_flip : plainName yX9_flip.cls = true := by decide +kernel
theorem pn_X9_frieze : plainName yX9_frieze.cls = true := by decide +kernel
theorem pn_X9_goes : plainName yX9_goes.cls = true := by decide +kernel
theorem pn_X9_init : plainName yX9_init.cls = true := by decide +kernel
theorem pn_X9_isCell : plainName yX9_isCell.cls = true := by decide +kernel
theorem pn_X9_isPlace : plainName yX9_isPlace.cls = true := by decide +kernel
theorem pn_X9_isSlot : plainName yX9_isSlot.cls = true := by decide +kernel
theorem pn_X9_isTableTurnable : plainName yX9_isTableTurnable.cls = true := by decide +kernel
theorem pn_X9_keep : plainName yX9_keep.cls = true := by decide +kernel
theorem pn_X9_least : plainName yX9_least.cls = true := by decide +kernel
theorem pn_X9_ones : plainName yX9_ones.cls = true := by decide +kernel
theorem pn_X9_order : plainName yX9_order.cls = true := by decide +kernel
theorem pn_X9_ring : plainName yX9_ring.cls = true := by decide +kernel
theorem pn_X9_ringOf : plainName yX9_ringOf.cls = true := by decide +kernel
theorem pn_X9_row : plainName yX9_row.cls = true := by decide +kernel
theorem pn_X9_same : plainName yX9_same.cls = true := by decide +kernel
theorem pn_X9_seed : plainName yX9_seed.cls = true := by decide +kernel
theorem pn_X9_size : plainName yX9_size.cls = true := by decide +kernel
theorem pn_X9_step : plainName yX9_step.cls = true := by decide +kernel
theorem pn_X9_table : plainName yX9_table.cls = true := by decide +kernel
theorem pn_X9_tables : plainName yX9_tables.cls = true := by decide +kernel
theorem pn_X9_term : plainName yX9_term.cls = true := by decide +kernel
theorem pn_X9_terms : plainName yX9_terms.cls = true := by decide +kernel
theorem pn_X9_turn : plainName yX9_turn.cls = true := by decide +kernel
theorem pn_X9_turnTable : plainName yX9_turnTable.cls = true := by decide +kernel
theorem pn_X9_way : plainName yX9_way.cls = true := by decide +kernel
theorem pn_X9_what : plainName yX9_what.cls = true := by decide +kernel
theorem pn_X10_add : plainName yX10_add.cls = true := by decide +kernel
theorem pn_X10_against : plainName yX10_against.cls = true := by decide +kernel
theorem pn_X10_all : plainName yX10_all.cls = true := by decide +kernel
theorem pn_X10_areAlike : plainName yX10_areAlike.cls = true := by decide +kernel
theorem pn_X10_areNeighbours : plainName yX10_areNeighbours.cls = true := by decide +kernel
theorem pn_X10_arrows : plainName yX10_arrows.cls = true := by decide +kernel
theorem pn_X10_b : plainName yX10_b.cls = true := by decide +kernel
theorem pn_X10_back : plainName yX10_back.cls = true := by decide +kernel
theorem pn_X10_begin : plainName yX10_begin.cls = true := by decide +kernel
theorem pn_X10_comes : plainName yX10_comes.cls = true := by decide +kernel
theorem pn_X10_copy : plainName yX10_copy.cls = true := by decide +kernel
theorem pn_X10_count : plainName yX10_count.cls = true := by decide +kernel
theorem pn_X10_fence : plainName yX10_fence.cls = true := by decide +kernel
theorem pn_X10_fences : plainName yX10_fences.cls = true := by decide +kernel
theorem pn_X10_finite : plainName yX10_finite.cls = true := by decide +kernel
theorem pn_X10_firsts : plainName yX10_firsts.cls = true := by decide +kernel
theorem pn_X10_flip : plainName yX10_flip.cls = true := by decide +kernel
theorem pn_X10_frieze : plainName yX10_frieze.cls = true := by decide +kernel
theorem pn_X10_goes : plainName yX10_goes.cls = true := by decide +kernel
theorem pn_X10_goesThrough : plainName yX10_goesThrough.cls = true := by decide +kernel
theorem pn_X10_greater : plainName yX10_greater.cls = true := by decide +kernel
theorem pn_X10_init : plainName yX10_init.cls = true := by decide +kernel
theorem pn_X10_isCutting : plainName yX10_isCutting.cls = true := by decide +kernel
theorem pn_X10_isSlot : plainName yX10_isSlot.cls = true := by decide +kernel
theorem pn_X10_isTable : plainName yX10_isTable.cls = true := by decide +kernel
theorem pn_X10_isThere : plainName yX10_isThere.cls = true := by decide +kernel
theorem pn_X10_isWild : plainName yX10_isWild.cls = true := by decide +kernel
theorem pn_X10_keep : plainName yX10_keep.cls = true := by decide +kernel
theorem pn_X10_least : plainName yX10_least.cls = true := by decide +kernel
theorem pn_X10_leastOf : plainName yX10_leastOf.cls = true := by decide +kernel
theorem pn_X10_less : plainName yX10_less.cls = true := by decide +kernel
theorem pn_X10_lesser : plainName yX10_lesser.cls = true := by decide +kernel
theorem pn_X10_letterOf : plainName yX10_letterOf.cls = true := by decide +kernel
theorem pn_X10_one : plainName yX10_one.cls = true := by decide +kernel
theorem pn_X10_ones : plainName yX10_ones.cls = true := by decide +kernel
theorem pn_X10_order : plainName yX10_order.cls = true := by decide +kernel
theorem pn_X10_parts : plainName yX10_parts.cls = true := by decide +kernel
theorem pn_X10_placeIn : plainName yX10_placeIn.cls = true := by decide +kernel
theorem pn_X10_product : plainName yX10_product.cls = true := by decide +kernel
theorem pn_X10_restores : plainName yX10_restores.cls = true := by decide +kernel
theorem pn_X10_ring : plainName yX10_ring.cls = true := by decide +kernel
theorem pn_X10_ringOf : plainName yX10_ringOf.cls = true := by decide +kernel
theorem pn_X10_row : plainName yX10_row.cls = true := by decide +kernel
theorem pn_X10_same : plainName yX10_same.cls = true := by decide +kernel
theorem pn_X10_saves : plainName yX10_saves.cls = true := by decide +kernel
theorem pn_X10_searches : plainName yX10_searches.cls = true := by decide +kernel
theorem pn_X10_seed : plainName yX10_seed.cls = true := by decide +kernel
theorem pn_X10_size : plainName yX10_size.cls = true := by decide +kernel
theorem pn_X10_step : plainName yX10_step.cls = true := by decide +kernel
theorem pn_X10_sumOf : plainName yX10_sumOf.cls = true := by decide +kernel
theorem pn_X10_table : plainName yX10_table.cls = true := by decide +kernel
theorem pn_X10_tableHash : plainName yX10_tableHash.cls = true := by decide +kernel
theorem pn_X10_tables : plainName yX10_tables.cls = true := by decide +kernel
theorem pn_X10_takes : plainName yX10_takes.cls = true := by decide +kernel
theorem pn_X10_tells : plainName yX10_tells.cls = true := by decide +kernel
theorem pn_X10_term : plainName yX10_term.cls = true := by decide +kernel
theorem pn_X10_terms : plainName yX10_terms.cls = true := by decide +kernel
theorem pn_X10_thirds : plainName yX10_thirds.cls = true := by decide +kernel
theorem pn_X10_turn : plainName yX10_turn.cls = true := by decide +kernel
theorem pn_X10_turnRound : plainName yX10_turnRound.cls = true := by decide +kernel
theorem pn_X10_turns : plainName yX10_turns.cls = true := by decide +kernel
theorem pn_X10_turnsArrows : plainName yX10_turnsArrows.cls = true := by decide +kernel
theorem pn_X10_way : plainName yX10_way.cls = true := by decide +kernel
theorem pn_X10_what : plainName yX10_what.cls = true := by decide +kernel
set_option maxRecDepth 100000 in
set_option maxHeartbeats 4000000 in
theorem mtl_all {l : Launch} {D : va_G} {cy : Nat → ClassId} {σ : Nat → Int32} {Y : rx_Y} (hY : rx_YOk Y σ) : ∀ M ∈ mtl Y, plainName M.1.cls = true ∧ ∀ q ∈ M.2.2.2.2.2, rx_Sd (gG l D cy σ) (mt Y) M q.1 q.2 := by
  unfold mtl
  refine rx_mc ⟨pn_J7_fill_53178, s_J7_fill_53178 hY⟩ ?_
  refine rx_mc ⟨pn_J13_bitCount_95d88, s_J13_bitCount_95d88 hY⟩ ?_
  refine rx_mc ⟨pn_X0_arrive, s_X0_arrive hY⟩ ?_
  refine rx_mc ⟨pn_X0_enter, s_X0_enter hY⟩ ?_
  refine rx_mc ⟨pn_X0_enterFirst, s_X0_enterFirst hY⟩ ?_
  refine rx_mc ⟨pn_X0_explore, s_X0_explore hY⟩ ?_
  refine rx_mc ⟨pn_X0_gatherLetters, s_X0_gatherLetters hY⟩ ?_
  refine rx_mc ⟨pn_X0_init, s_X0_init hY⟩ ?_
  refine rx_mc ⟨pn_X0_load, s_X0_load hY⟩ ?_
  refine rx_mc ⟨pn_X0_numberOf, s_X0_numberOf hY⟩ ?_
  refine rx_mc ⟨pn_X0_remember, s_X0_remember hY⟩ ?_
  refine rx_mc ⟨pn_X0_rowOf, s_X0_rowOf hY⟩ ?_
  refine rx_mc ⟨pn_X0_tell, s_X0_tell hY⟩ ?_
  refine rx_mc ⟨pn_X1_clear, s_X1_clear hY⟩ ?_
  refine rx_mc ⟨pn_X1_enter, s_X1_enter hY⟩ ?_
  refine rx_mc ⟨pn_X1_find, s_X1_find hY⟩ ?_
  refine rx_mc ⟨pn_X1_init, s_X1_init hY⟩ ?_
  refine rx_mc ⟨pn_X1_slotOf, s_X1_slotOf hY⟩ ?_
  refine rx_mc ⟨pn_X2_init, s_X2_init hY⟩ ?_
  refine rx_mc ⟨pn_X2_restart, s_X2_restart hY⟩ ?_
  refine rx_mc ⟨pn_X3_init, s_X3_init hY⟩ ?_
  refine rx_mc ⟨pn_X4_init, s_X4_init hY⟩ ?_
  refine rx_mc ⟨pn_X4_isWild, s_X4_isWild hY⟩ ?_
  refine rx_mc ⟨pn_X4_judge, s_X4_judge hY⟩ ?_
  refine rx_mc ⟨pn_X4_pack, s_X4_pack hY⟩ ?_
  refine rx_mc ⟨pn_X4_unpack, s_X4_unpack hY⟩ ?_
  refine rx_mc ⟨pn_X5_addAll, s_X5_addAll hY⟩ ?_
  refine rx_mc ⟨pn_X5_beginProduct, s_X5_beginProduct hY⟩ ?_
  refine rx_mc ⟨pn_X5_divide, s_X5_divide hY⟩ ?_
  refine rx_mc ⟨pn_X5_exchange, s_X5_exchange hY⟩ ?_
  refine rx_mc ⟨pn_X5_init, s_X5_init hY⟩ ?_
  refine rx_mc ⟨pn_X5_product, s_X5_product hY⟩ ?_
  refine rx_mc ⟨pn_X5_settle, s_X5_settle hY⟩ ?_
  refine rx_mc ⟨pn_X5_takeAway, s_X5_takeAway hY⟩ ?_
  refine rx_mc ⟨pn_X6_areNeighbours, s_X6_areNeighbours hY⟩ ?_
  refine rx_mc ⟨pn_X6_bit, s_X6_bit hY⟩ ?_
  refine rx_mc ⟨pn_X6_fenceAt, s_X6_fenceAt hY⟩ ?_
  refine rx_mc ⟨pn_X6_fenceCount, s_X6_fenceCount hY⟩ ?_
  refine rx_mc ⟨pn_X6_has, s_X6_has hY⟩ ?_
  refine rx_mc ⟨pn_X6_init, s_X6_init hY⟩ ?_
  refine rx_mc ⟨pn_X6_isCorner, s_X6_isCorner hY⟩ ?_
  refine rx_mc ⟨pn_X6_isCrossed, s_X6_isCrossed hY⟩ ?_
  refine rx_mc ⟨pn_X6_isCut, s_X6_isCut hY⟩ ?_
  refine rx_mc ⟨pn_X6_tell, s_X6_tell hY⟩ ?_
  refine rx_mc ⟨pn_X6_thirds, s_X6_thirds hY⟩ ?_
  refine rx_mc ⟨pn_X7_allTerms, s_X7_allTerms hY⟩ ?_
  refine rx_mc ⟨pn_X7_copyFrom, s_X7_copyFrom hY⟩ ?_
  refine rx_mc ⟨pn_X7_init, s_X7_init hY⟩ ?_
  refine rx_mc ⟨pn_X7_start, s_X7_start hY⟩ ?_
  refine rx_mc ⟨pn_X8_add, s_X8_add hY⟩ ?_
  refine rx_mc ⟨pn_X8_becomeVariable, s_X8_becomeVariable hY⟩ ?_
  refine rx_mc ⟨pn_X8_clear, s_X8_clear hY⟩ ?_
  refine rx_mc ⟨pn_X8_copyFrom, s_X8_copyFrom hY⟩ ?_
  refine rx_mc ⟨pn_X8_find, s_X8_find hY⟩ ?_
  refine rx_mc ⟨pn_X8_hasVariable, s_X8_hasVariable hY⟩ ?_
  refine rx_mc ⟨pn_X8_init, s_X8_init hY⟩ ?_
  refine rx_mc ⟨pn_X8_isLike, s_X8_isLike hY⟩ ?_
  refine rx_mc ⟨pn_X8_leastPower, s_X8_leastPower hY⟩ ?_
  refine rx_mc ⟨pn_X8_sum, s_X8_sum hY⟩ ?_
  refine rx_mc ⟨pn_X9_all, s_X9_all hY⟩ ?_
  refine rx_mc ⟨pn_X9_arrows, s_X9_arrows hY⟩ ?_
  refine rx_mc ⟨pn_X9_b, s_X9_b hY⟩ ?_
  refine rx_mc ⟨pn_X9_back, s_X9_back hY⟩ ?_
  refine rx_mc ⟨pn_X9_begin, s_X9_begin hY⟩ ?_
  refine rx_mc ⟨pn_X9_count, s_X9_count hY⟩ ?_
  refine rx_mc ⟨pn_X9_fence, s_X9_fence hY⟩ ?_
  refine rx_mc ⟨pn_X9_finite, s_X9_finite hY⟩ ?_
  refine rx_mc ⟨pn_X9_flip, s_X9_flip hY⟩ ?_
  refine rx_mc ⟨pn_X9_frieze, s_X9_frieze hY⟩ ?_
  refine rx_mc ⟨pn_X9_goes, s_X9_goes hY⟩ ?_
  refine rx_mc ⟨pn_X9_init, s_X9_init hY⟩ ?_
  refine rx_mc ⟨pn_X9_isCell, s_X9_isCell hY⟩ ?_
  refine rx_mc ⟨pn_X9_isPlace, s_X9_isPlace hY⟩ ?_
  refine rx_mc ⟨pn_X9_isSlot, s_X9_isSlot hY⟩ ?_
  refine rx_mc ⟨pn_X9_isTableTurnable, s_X9_isTableTurnable hY⟩ ?_
  refine rx_mc ⟨pn_X9_keep, s_X9_keep hY⟩ ?_
  refine rx_mc ⟨pn_X9_least, s_X9_least hY⟩ ?_
  refine rx_mc ⟨pn_X9_ones, s_X9_ones hY⟩ ?_
  refine rx_mc ⟨pn_X9_order, s_X9_order hY⟩ ?_
  refine rx_mc ⟨pn_X9_ring, s_X9_ring hY⟩ ?_
  refine rx_mc ⟨pn_X9_ringOf, s_X9_ringOf hY⟩ ?_
  refine rx_mc ⟨pn_X9_row, s_X9_row hY⟩ ?_
  refine rx_mc ⟨pn_X9_same, s_X9_same hY⟩ ?_
  refine rx_mc ⟨pn_X9_seed, s_X9_seed hY⟩ ?_
  refine rx_mc ⟨pn_X9_size, s_X9_size hY⟩ ?_
  refine rx_mc ⟨pn_X9_step, s_X9_step hY⟩ ?_
  refine rx_mc ⟨pn_X9_table, s_X9_table hY⟩ ?_
  refine rx_mc ⟨pn_X9_tables, s_X9_tables hY⟩ ?_
  refine rx_mc ⟨pn_X9_term, s_X9_term hY⟩ ?_
  refine rx_mc ⟨pn_X9_terms, s_X9_terms hY⟩ ?_
  refine rx_mc ⟨pn_X9_turn, s_X9_turn hY⟩ ?_
  refine rx_mc ⟨pn_X9_turnTable, s_X9_turnTable hY⟩ ?_
  refine rx_mc ⟨pn_X9_way, s_X9_way hY⟩ ?_
  refine rx_mc ⟨pn_X9_what, s_X9_what hY⟩ ?_
  refine rx_mc ⟨pn_X10_add, s_X10_add hY⟩ ?_
  refine rx_mc ⟨pn_X10_against, s_X10_against hY⟩ ?_
  refine rx_mc ⟨pn_X10_all, s_X10_all hY⟩ ?_
  refine rx_mc ⟨pn_X10_areAlike, s_X10_areAlike hY⟩ ?_
  refine rx_mc ⟨pn_X10_areNeighbours, s_X10_areNeighbours hY⟩ ?_
  refine rx_mc ⟨pn_X10_arrows, s_X10_arrows hY⟩ ?_
  refine rx_mc ⟨pn_X10_b, s_X10_b hY⟩ ?_
  refine rx_mc ⟨pn_X10_back, s_X10_back hY⟩ ?_
  refine rx_mc ⟨pn_X10_begin, s_X10_begin hY⟩ ?_
  refine rx_mc ⟨pn_X10_comes, s_X10_comes hY⟩ ?_
  refine rx_mc ⟨pn_X10_copy, s_X10_copy hY⟩ ?_
  refine rx_mc ⟨pn_X10_count, s_X10_count hY⟩ ?_
  refine rx_mc ⟨pn_X10_fence, s_X10_fence hY⟩ ?_
  refine rx_mc ⟨pn_X10_fences, s_X10_fences hY⟩ ?_
  refine rx_mc ⟨pn_X10_finite, s_X10_finite hY⟩ ?_
  refine rx_mc ⟨pn_X10_firsts, s_X10_firsts hY⟩ ?_
  refine rx_mc ⟨pn_X10_flip, s_X10_flip hY⟩ ?_
  refine rx_mc ⟨pn_X10_frieze, s_X10_frieze hY⟩ ?_
  refine rx_mc ⟨pn_X10_goes, s_X10_goes hY⟩ ?_
  refine rx_mc ⟨pn_X10_goesThrough, s_X10_goesThrough hY⟩ ?_
  refine rx_mc ⟨pn_X10_greater, s_X10_greater hY⟩ ?_
  refine rx_mc ⟨pn_X10_init, s_X10_init hY⟩ ?_
  refine rx_mc ⟨pn_X10_isCutting, s_X10_isCutting hY⟩ ?_
  refine rx_mc ⟨pn_X10_isSlot, s_X10_isSlot hY⟩ ?_
  refine rx_mc ⟨pn_X10_isTable, s_X10_isTable hY⟩ ?_
  refine rx_mc ⟨pn_X10_isThere, s_X10_isThere hY⟩ ?_
  refine rx_mc ⟨pn_X10_isWild, s_X10_isWild hY⟩ ?_
  refine rx_mc ⟨pn_X10_keep, s_X10_keep hY⟩ ?_
  refine rx_mc ⟨pn_X10_least, s_X10_least hY⟩ ?_
  refine rx_mc ⟨pn_X10_leastOf, s_X10_leastOf hY⟩ ?_
  refine rx_mc ⟨pn_X10_less, s_X10_less hY⟩ ?_
  refine rx_mc ⟨pn_X10_lesser, s_X10_lesser hY⟩ ?_
  refine rx_mc ⟨pn_X10_letterOf, s_X10_letterOf hY⟩ ?_
  refine rx_mc ⟨pn_X10_one, s_X10_one hY⟩ ?_
  refine rx_mc ⟨pn_X10_ones, s_X10_ones hY⟩ ?_
  refine rx_mc ⟨pn_X10_order, s_X10_order hY⟩ ?_
  refine rx_mc ⟨pn_X10_parts, s_X10_parts hY⟩ ?_
  refine rx_mc ⟨pn_X10_placeIn, s_X10_placeIn hY⟩ ?_
  refine rx_mc ⟨pn_X10_product, s_X10_product hY⟩ ?_
  refine rx_mc ⟨pn_X10_restores, s_X10_restores hY⟩ ?_
  refine rx_mc ⟨pn_X10_ring, s_X10_ring hY⟩ ?_
  refine rx_mc ⟨pn_X10_ringOf, s_X10_ringOf hY⟩ ?_
  refine rx_mc ⟨pn_X10_row, s_X10_row hY⟩ ?_
  refine rx_mc ⟨pn_X10_same, s_X10_same hY⟩ ?_
  refine rx_mc ⟨pn_X10_saves, s_X10_saves hY⟩ ?_
  refine rx_mc ⟨pn_X10_searches, s_X10_searches hY⟩ ?_
  refine rx_mc ⟨pn_X10_seed, s_X10_seed hY⟩ ?_
  refine rx_mc ⟨pn_X10_size, s_X10_size hY⟩ ?_
  refine rx_mc ⟨pn_X10_step, s_X10_step hY⟩ ?_
  refine rx_mc ⟨pn_X10_sumOf, s_X10_sumOf hY⟩ ?_
  refine rx_mc ⟨pn_X10_table, s_X10_table hY⟩ ?_
  refine rx_mc ⟨pn_X10_tableHash, s_X10_tableHash hY⟩ ?_
  refine rx_mc ⟨pn_X10_tables, s_X10_tables hY⟩ ?_
  refine rx_mc ⟨pn_X10_takes, s_X10_takes hY⟩ ?_
  refine rx_mc ⟨pn_X10_tells, s_X10_tells hY⟩ ?_
  refine rx_mc ⟨pn_X10_term, s_X10_term hY⟩ ?_
  refine rx_mc ⟨pn_X10_terms, s_X10_terms hY⟩ ?_
  refine rx_mc ⟨pn_X10_thirds, s_X10_thirds hY⟩ ?_
  refine rx_mc ⟨pn_X10_turn, s_X10_turn hY⟩ ?_
  refine rx_mc ⟨pn_X10_turnRound, s_X10_turnRound hY⟩ ?_
  refine rx_mc ⟨pn_X10_turns, s_X10_turns hY⟩ ?_
  refine rx_mc ⟨pn_X10_turnsArrows, s_X10_turnsArrows hY⟩ ?_
  refine rx_mc ⟨pn_X10_way, s_X10_way hY⟩ ?_
  refine rx_mc ⟨pn_X10_what, s_X10_what hY⟩ ?_
  exact fun _ h => absurd h List.not_mem_nil
theorem mt_all {l : Launch} {D : va_G} {cy : Nat → ClassId} {σ : Nat → Int32} {Y : rx_Y} (hY : rx_YOk Y σ) : rx_All (gG l D cy σ) (mt Y) := by
  intro mid hne
  cases h : (mtl Y)[mid]? with
  | none =>
    refine absurd ?_ hne
    unfold mt
    rw [List.getD_eq_getElem?_getD, h]
    rfl
  | some M =>
    have e : mt Y mid = M := by
      unfold mt
      rw [List.getD_eq_getElem?_getD, h]
      rfl
    rw [e]
    exact mtl_all hY M (List.mem_of_getElem? h)
/-- what a run of known values says of the real machine -/
theorem ev_met {l : Launch} {D : va_G} {cy : Nat → ClassId} {σ : Nat → Int32} {Y : rx_Y} (hY : rx_YOk Y σ) {n mid : Nat} {a : List Value} {W0 : rx_W} {v : Option Value} (h : (rx_call (mt Y) n mid a W0).map Prod.fst = some v) : ∃ ws' : rx_W, ∀ (ρ : List Nat) (cws : va_W) (sz : Nat) (ca : List Value), rx_w ρ σ cy W0 cws → rx_l ρ σ a ca →
    Met l (mt Y mid).1 (rx_ws (gG l D cy σ) (mt Y mid)) (mt Y mid).2.2.2.2.1 (rx_Pc (gG l D cy σ) ca cws sz) (rx_Q (gG l D cy σ) ρ (v, ws') (va_A cws sz)) (mt Y mid).2.2.2.2.1.cells (mt Y mid).2.2.2.2.1.slots (va_A cws sz) := by
  obtain ⟨⟨v', ws'⟩, h1, h2⟩ := Option.map_eq_some_iff.mp h
  cases h2
  exact ⟨ws', fun ρ cws sz ca hw ha => (rx_sound (mt_all hY) n).1 mid a W0 _ h1 ρ cws sz ca hw ha⟩
