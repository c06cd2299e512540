theorem zm_all (is : List Nat) (L : List Cond) (h : is.map (fun i => lw_tbl[i]?) = L.map some) (hg : L.all goodWord = true) : ∀ w ∈ L, w ∈ zm_tb := by
  intro w hw
  have h1 : some w ∈ is.map (fun i => lw_tbl[i]?) := by rw [h]; exact List.mem_map_of_mem hw
  obtain ⟨i, -, hi⟩ := List.mem_map.mp h1
  exact zm_tb_in i hi (List.all_eq_true.mp hg w hw)
theorem hX0 : ∀ w ∈ u_ws RX0 TX0 2, w ∈ zm_tb := zm_all [166, 168] _ (by decide +kernel) (by decide +kernel)
theorem hX1 : ∀ w ∈ u_ws RX1 TX1 3, w ∈ zm_tb := zm_all [63, 65, 67] _ (by decide +kernel) (by decide +kernel)
theorem hX2 : ∀ w ∈ u_ws RX2 TX2 2, w ∈ zm_tb := zm_all [106, 108] _ (by decide +kernel) (by decide +kernel)
theorem hX3 : ∀ w ∈ u_ws RX3 TX3 2, w ∈ zm_tb := zm_all [179, 181] _ (by decide +kernel) (by decide +kernel)
theorem hX4 : ∀ w ∈ u_ws RX4 TX4 3, w ∈ zm_tb := zm_all [120, 122, 124] _ (by decide +kernel) (by decide +kernel)
theorem hX5 : ∀ w ∈ u_ws RX5 TX5 4, w ∈ zm_tb := zm_all [88, 90, 92, 94] _ (by decide +kernel) (by decide +kernel)
theorem hX6 : ∀ w ∈ u_ws RX6 TX6 8, w ∈ zm_tb := zm_all [198, 200, 202, 204, 206, 208, 210, 212] _ (by decide +kernel) (by decide +kernel)
theorem hX7 : ∀ w ∈ u_ws RX7 TX7 7, w ∈ zm_tb := zm_all [142, 144, 146, 148, 150, 152, 154] _ (by decide +kernel) (by decide +kernel)
theorem hX8 : ∀ w ∈ u_ws RX8 TX8 8, w ∈ zm_tb := zm_all [223, 225, 227, 229, 231, 233, 235, 237] _ (by decide +kernel) (by decide +kernel)
theorem hX9 : ∀ w ∈ u_ws RX9 TX9 22, w ∈ zm_tb := zm_all [789, 791, 793, 795, 797, 799, 801, 803, 805, 807, 809, 811, 813, 815, 817, 819, 821, 823, 825, 827, 829, 831] _ (by decide +kernel) (by decide +kernel)
abbrev gX0_power : zm_Sig := (yX0_power, cX0_power, 5, (some .long), 0, 0)
abbrev gX1_numbers : zm_Sig := (yX1_numbers, cX1_numbers, 1, (some .int), 0, 0)
abbrev gX1_turnOf : zm_Sig := (yX1_turnOf, cX1_turnOf, 2, (some .int), 0, 0)
abbrev gX1_hasTurn : zm_Sig := (yX1_hasTurn, cX1_hasTurn, 2, (some .boolean), 0, 0)
abbrev gX1_hasMove : zm_Sig := (yX1_hasMove, cX1_hasMove, 2, (some .boolean), 1, 21)
abbrev gX1_shiftOf : zm_Sig := (yX1_shiftOf, cX1_shiftOf, 2, (some .int), 0, 0)
abbrev gX1_columnOf : zm_Sig := (yX1_columnOf, cX1_columnOf, 2, (some .int), 0, 0)
abbrev gX1_rowOf : zm_Sig := (yX1_rowOf, cX1_rowOf, 2, (some .int), 0, 0)
abbrev gX1_turnedX : zm_Sig := (yX1_turnedX, cX1_turnedX, 3, (some .int), 0, 0)
abbrev gX1_turnedY : zm_Sig := (yX1_turnedY, cX1_turnedY, 3, (some .int), 0, 0)
abbrev gX1_cellAt : zm_Sig := (yX1_cellAt, cX1_cellAt, 5, (some .int), 0, 0)
abbrev gX1_target : zm_Sig := (yX1_target, cX1_target, 7, (some .int), 1, 24)
abbrev gX0_passRound : zm_Sig := (yX0_passRound, cX0_passRound, 5, none, 2, 50)
abbrev gX0_roundsOf : zm_Sig := (yX0_roundsOf, cX0_roundsOf, 4, (some .int), 3, 74)
abbrev gX1_moveCount : zm_Sig := (yX1_moveCount, cX1_moveCount, 1, (some .int), 0, 0)
abbrev gX0_unlike : zm_Sig := (yX0_unlike, cX0_unlike, 5, (some .long), 4, 97)
abbrev gX1_resize : zm_Sig := (yX1_resize, cX1_resize, 3, none, 0, 0)
abbrev gX1_hasCell : zm_Sig := (yX1_hasCell, cX1_hasCell, 2, (some .boolean), 0, 0)
abbrev gX1_joinTurns : zm_Sig := (yX1_joinTurns, cX1_joinTurns, 7, (some .int), 1, 22)
abbrev gX1_join : zm_Sig := (yX1_join, cX1_join, 3, (some .int), 2, 50)
abbrev gX1_undoingTurn : zm_Sig := (yX1_undoingTurn, cX1_undoingTurn, 1, (some .int), 0, 0)
abbrev gX1_undoing : zm_Sig := (yX1_undoing, cX1_undoing, 5, (some .int), 1, 24)
abbrev gX1_isStill : zm_Sig := (yX1_isStill, cX1_isStill, 3, (some .boolean), 2, 50)
abbrev gX1_timesTillStill : zm_Sig := (yX1_timesTillStill, cX1_timesTillStill, 4, (some .int), 3, 72)
abbrev gX2_isMirror : zm_Sig := (yX2_isMirror, cX2_isMirror, 5, (some .boolean), 1, 21)
abbrev gX2_isAlong : zm_Sig := (yX2_isAlong, cX2_isAlong, 3, (some .boolean), 2, 45)
abbrev gX5_isKeptBy : zm_Sig := (yX5_isKeptBy, cX5_isKeptBy, 3, (some .boolean), 2, 50)
abbrev gX2_hasMirror : zm_Sig := (yX2_hasMirror, cX2_hasMirror, 3, (some .boolean), 3, 72)
abbrev gX2_isMirrorBehindShift : zm_Sig := (yX2_isMirrorBehindShift, cX2_isMirrorBehindShift, 7, (some .boolean), 3, 72)
abbrev gX2_allMirrorsBehindShifts : zm_Sig := (yX2_allMirrorsBehindShifts, cX2_allMirrorsBehindShifts, 2, (some .boolean), 4, 98)
abbrev gX5_keepersOf : zm_Sig := (yX5_keepersOf, cX5_keepersOf, 5, (some .int), 3, 72)
abbrev gX2_fitCount : zm_Sig := (yX2_fitCount, cX2_fitCount, 3, (some .int), 4, 96)
abbrev gX2_mirroredCount : zm_Sig := (yX2_mirroredCount, cX2_mirroredCount, 3, (some .int), 4, 94)
abbrev gX2_kindWithHalf : zm_Sig := (yX2_kindWithHalf, cX2_kindWithHalf, 2, (some .int), 0, 0)
abbrev gX2_kindWithoutTurns : zm_Sig := (yX2_kindWithoutTurns, cX2_kindWithoutTurns, 2, (some .int), 0, 0)
abbrev gX2_number : zm_Sig := (yX2_number, cX2_number, 5, (some .int), 5, 119)
abbrev gX5_keepersOfAll : zm_Sig := (yX5_keepersOfAll, cX5_keepersOfAll, 3, (some .int), 4, 96)
abbrev gX3_total : zm_Sig := (yX3_total, cX3_total, 2, (some .int), 5, 118)
abbrev gX3_isAhead : zm_Sig := (yX3_isAhead, cX3_isAhead, 8, (some .boolean), 2, 50)
abbrev gX3_moveToFirst : zm_Sig := (yX3_moveToFirst, cX3_moveToFirst, 3, (some .int), 3, 77)
abbrev gX3_hueInFirst : zm_Sig := (yX3_hueInFirst, cX3_hueInFirst, 2, (some .int), 4, 99)
abbrev gX4_total : zm_Sig := (yX4_total, cX4_total, 3, (some .int), 0, 0)
abbrev gX4_has : zm_Sig := (yX4_has, cX4_has, 2, (some .boolean), 1, 22)
abbrev gX4_given : zm_Sig := (yX4_given, cX4_given, 4, (some .int), 0, 0)
abbrev gX4_isKeptBy : zm_Sig := (yX4_isKeptBy, cX4_isKeptBy, 6, (some .boolean), 2, 50)
abbrev gX4_askFor : zm_Sig := (yX4_askFor, cX4_askFor, 5, (some .boolean), 2, 50)
abbrev gX4_givesWhatIsAsked : zm_Sig := (yX4_givesWhatIsAsked, cX4_givesWhatIsAsked, 3, (some .boolean), 1, 23)
abbrev gX4_leastFor : zm_Sig := (yX4_leastFor, cX4_leastFor, 4, (some .int), 3, 74)
abbrev gX4_movesWithSome : zm_Sig := (yX4_movesWithSome, cX4_movesWithSome, 3, (some .int), 4, 97)
abbrev gX5_clear : zm_Sig := (yX5_clear, cX5_clear, 2, none, 0, 0)
abbrev gX5_isHue : zm_Sig := (yX5_isHue, cX5_isHue, 2, (some .boolean), 0, 0)
abbrev gX5_allows : zm_Sig := (yX5_allows, cX5_allows, 2, (some .boolean), 1, 21)
abbrev gX5_allowHues : zm_Sig := (yX5_allowHues, cX5_allowHues, 3, none, 2, 42)
abbrev gX5_allowsFigures : zm_Sig := (yX5_allowsFigures, cX5_allowsFigures, 5, (some .boolean), 2, 42)
abbrev gX5_dyeFigures : zm_Sig := (yX5_dyeFigures, cX5_dyeFigures, 7, (some .int), 0, 0)
abbrev gX5_hiddenCount : zm_Sig := (yX5_hiddenCount, cX5_hiddenCount, 3, (some .int), 0, 0)
abbrev gJ6_bitCount_0f7a4 : zm_Sig := (yJ6_bitCount_0f7a4, cJ6_bitCount_0f7a4, 1, (some .int), 0, 0)
abbrev gX5_usedHues : zm_Sig := (yX5_usedHues, cX5_usedHues, 3, (some .int), 1, 20)
abbrev gX5_keeperNumber : zm_Sig := (yX5_keeperNumber, cX5_keeperNumber, 4, (some .int), 3, 72)
abbrev gX5_moveBy : zm_Sig := (yX5_moveBy, cX5_moveBy, 4, (some .int), 2, 50)
abbrev gX6_leaveAll : zm_Sig := (yX6_leaveAll, cX6_leaveAll, 2, none, 0, 0)
abbrev gX6_arrive : zm_Sig := (yX6_arrive, cX6_arrive, 4, none, 0, 0)
abbrev gX6_step : zm_Sig := (yX6_step, cX6_step, 5, none, 1, 24)
abbrev gX6_walk : zm_Sig := (yX6_walk, cX6_walk, 4, none, 2, 48)
abbrev gX6_total : zm_Sig := (yX6_total, cX6_total, 4, (some .int), 3, 71)
abbrev gX6_sizeAt : zm_Sig := (yX6_sizeAt, cX6_sizeAt, 2, (some .int), 3, 71)
abbrev gX7_markRing : zm_Sig := (yX7_markRing, cX7_markRing, 6, none, 2, 50)
abbrev gX7_markRings : zm_Sig := (yX7_markRings, cX7_markRings, 2, none, 3, 75)
abbrev gX7_forget : zm_Sig := (yX7_forget, cX7_forget, 1, none, 4, 96)
abbrev gX7_add : zm_Sig := (yX7_add, cX7_add, 2, none, 4, 96)
abbrev gX7_movesMade : zm_Sig := (yX7_movesMade, cX7_movesMade, 5, (some .int), 3, 72)
abbrev gX7_ringCount : zm_Sig := (yX7_ringCount, cX7_ringCount, 3, (some .int), 0, 0)
abbrev gX7_cellsOf : zm_Sig := (yX7_cellsOf, cX7_cellsOf, 5, (some .int), 0, 0)
abbrev gX7_commonHue : zm_Sig := (yX7_commonHue, cX7_commonHue, 6, (some .int), 1, 24)
abbrev gX7_hueCount : zm_Sig := (yX7_hueCount, cX7_hueCount, 4, (some .int), 1, 24)
abbrev gX7_onlyHue : zm_Sig := (yX7_onlyHue, cX7_onlyHue, 2, (some .int), 2, 49)
abbrev gX7_tornCount : zm_Sig := (yX7_tornCount, cX7_tornCount, 3, (some .int), 2, 47)
abbrev gX7_paintRing : zm_Sig := (yX7_paintRing, cX7_paintRing, 6, (some .int), 0, 0)
abbrev gX7_paintRings : zm_Sig := (yX7_paintRings, cX7_paintRings, 4, (some .int), 2, 49)
abbrev gX8_patch : zm_Sig := (yX8_patch, cX8_patch, 3, (some .int), 5, 116)
abbrev gX8_colours : zm_Sig := (yX8_colours, cX8_colours, 3, (some .int), 3, 64)
abbrev gX8_dye : zm_Sig := (yX8_dye, cX8_dye, 4, (some .int), 2, 42)
abbrev gX8_dyes : zm_Sig := (yX8_dyes, cX8_dyes, 4, (some .int), 3, 66)
abbrev gX8_at : zm_Sig := (yX8_at, cX8_at, 2, (some .int), 1, 21)
abbrev gX8_moves : zm_Sig := (yX8_moves, cX8_moves, 1, (some .int), 1, 20)
abbrev gX8_lead : zm_Sig := (yX8_lead, cX8_lead, 3, (some .int), 2, 50)
abbrev gX8_behind : zm_Sig := (yX8_behind, cX8_behind, 3, (some .int), 3, 72)
abbrev gX8_back : zm_Sig := (yX8_back, cX8_back, 2, (some .int), 2, 48)
abbrev gX8_order : zm_Sig := (yX8_order, cX8_order, 2, (some .int), 4, 95)
abbrev gX8_oneIf : zm_Sig := (yX8_oneIf, cX8_oneIf, 1, (some .int), 0, 0)
abbrev gX8_keeps : zm_Sig := (yX8_keeps, cX8_keeps, 2, (some .int), 3, 72)
abbrev gX8_kept : zm_Sig := (yX8_kept, cX8_kept, 2, (some .int), 5, 118)
abbrev gX8_keeper : zm_Sig := (yX8_keeper, cX8_keeper, 2, (some .int), 4, 95)
abbrev gX8_go : zm_Sig := (yX8_go, cX8_go, 2, (some .int), 3, 73)
abbrev gX8_least : zm_Sig := (yX8_least, cX8_least, 2, (some .int), 4, 96)
abbrev gX8_mirrored : zm_Sig := (yX8_mirrored, cX8_mirrored, 2, (some .int), 4, 94)
abbrev gX8_mirror : zm_Sig := (yX8_mirror, cX8_mirror, 2, (some .int), 2, 45)
abbrev gX8_kind : zm_Sig := (yX8_kind, cX8_kind, 1, (some .int), 6, 143)
abbrev gX8_paints : zm_Sig := (yX8_paints, cX8_paints, 1, (some .int), 1, 22)
abbrev gX8_paint : zm_Sig := (yX8_paint, cX8_paint, 3, (some .int), 2, 43)
abbrev gX8_keepsBy : zm_Sig := (yX8_keepsBy, cX8_keepsBy, 3, (some .int), 3, 75)
abbrev gX8_by : zm_Sig := (yX8_by, cX8_by, 2, (some .int), 4, 97)
abbrev gX8_swaps : zm_Sig := (yX8_swaps, cX8_swaps, 1, (some .int), 5, 119)
abbrev gX8_tell : zm_Sig := (yX8_tell, cX8_tell, 2, (some .int), 5, 117)
abbrev gX8_untell : zm_Sig := (yX8_untell, cX8_untell, 2, (some .int), 5, 116)
abbrev gX8_together : zm_Sig := (yX8_together, cX8_together, 1, (some .int), 4, 96)
abbrev gX8_rings : zm_Sig := (yX8_rings, cX8_rings, 1, (some .int), 1, 22)
abbrev gX8_ring : zm_Sig := (yX8_ring, cX8_ring, 2, (some .int), 1, 21)
abbrev gX8_mend : zm_Sig := (yX8_mend, cX8_mend, 2, (some .int), 3, 72)
abbrev gX8_sure : zm_Sig := (yX8_sure, cX8_sure, 2, (some .int), 3, 70)
abbrev gX8_torn : zm_Sig := (yX8_torn, cX8_torn, 1, (some .int), 3, 69)
abbrev gX8_papers : zm_Sig := (yX8_papers, cX8_papers, 1, (some .long), 1, 24)
abbrev gX8_upTo : zm_Sig := (yX8_upTo, cX8_upTo, 1, (some .long), 5, 121)
abbrev gX8_like : zm_Sig := (yX8_like, cX8_like, 1, (some .int), 6, 139)
abbrev gX8_first : zm_Sig := (yX8_first, cX8_first, 2, (some .int), 5, 120)
abbrev gX8_toFirst : zm_Sig := (yX8_toFirst, cX8_toFirst, 1, (some .int), 4, 99)
abbrev gX8_pieces : zm_Sig := (yX8_pieces, cX8_pieces, 2, (some .int), 4, 94)
abbrev gX8_piece : zm_Sig := (yX8_piece, cX8_piece, 2, (some .int), 4, 92)
abbrev gX8_count : zm_Sig := (yX8_count, cX8_count, 2, (some .int), 2, 42)
abbrev gX9_in : zm_Sig := (yX9_in, cX9_in, 6, (some .boolean), 0, 0)
abbrev gX9_cells : zm_Sig := (yX9_cells, cX9_cells, 1, (some .int), 0, 0)
abbrev gX9_noCell : zm_Sig := (yX9_noCell, cX9_noCell, 2, (some .boolean), 1, 25)
abbrev gX9_isTurn : zm_Sig := (yX9_isTurn, cX9_isTurn, 3, (some .boolean), 0, 0)
abbrev gX9_noMove : zm_Sig := (yX9_noMove, cX9_noMove, 2, (some .boolean), 1, 25)
abbrev gX9_rest : zm_Sig := (yX9_rest, cX9_rest, 3, (some .int), 0, 0)
abbrev gX9_turnedX : zm_Sig := (yX9_turnedX, cX9_turnedX, 3, (some .int), 0, 0)
abbrev gX9_turnedY : zm_Sig := (yX9_turnedY, cX9_turnedY, 3, (some .int), 0, 0)
abbrev gX9_ledTo : zm_Sig := (yX9_ledTo, cX9_ledTo, 7, (some .int), 1, 22)
abbrev gX9_patch : zm_Sig := (yX9_patch, cX9_patch, 4, (some .int), 1, 25)
abbrev gX9_colours : zm_Sig := (yX9_colours, cX9_colours, 4, (some .int), 1, 25)
abbrev gX9_isColour : zm_Sig := (yX9_isColour, cX9_isColour, 2, (some .boolean), 1, 25)
abbrev gX9_dye : zm_Sig := (yX9_dye, cX9_dye, 4, (some .int), 2, 46)
abbrev gX9_dyes : zm_Sig := (yX9_dyes, cX9_dyes, 7, (some .int), 2, 46)
abbrev gX9_at : zm_Sig := (yX9_at, cX9_at, 2, (some .int), 2, 46)
abbrev gX9_moves : zm_Sig := (yX9_moves, cX9_moves, 1, (some .int), 1, 20)
abbrev gX9_lead : zm_Sig := (yX9_lead, cX9_lead, 3, (some .int), 2, 48)
abbrev gX9_turnOf : zm_Sig := (yX9_turnOf, cX9_turnOf, 8, (some .int), 1, 22)
abbrev gX9_two : zm_Sig := (yX9_two, cX9_two, 4, (some .int), 2, 49)
abbrev gX9_behind : zm_Sig := (yX9_behind, cX9_behind, 3, (some .int), 3, 72)
abbrev gX9_back : zm_Sig := (yX9_back, cX9_back, 3, (some .int), 3, 72)
abbrev gX9_order : zm_Sig := (yX9_order, cX9_order, 5, (some .int), 2, 48)
abbrev gX9_keepsIt : zm_Sig := (yX9_keepsIt, cX9_keepsIt, 4, (some .boolean), 2, 48)
abbrev gX9_keeps : zm_Sig := (yX9_keeps, cX9_keeps, 2, (some .int), 3, 71)
abbrev gX9_kept : zm_Sig := (yX9_kept, cX9_kept, 4, (some .int), 3, 71)
abbrev gX9_keeper : zm_Sig := (yX9_keeper, cX9_keeper, 4, (some .int), 3, 71)
abbrev gX9_go : zm_Sig := (yX9_go, cX9_go, 4, (some .int), 2, 48)
abbrev gX9_layShifts : zm_Sig := (yX9_layShifts, cX9_layShifts, 3, (some .int), 3, 71)
abbrev gX9_least : zm_Sig := (yX9_least, cX9_least, 1, (some .int), 4, 93)
abbrev gX9_isMirror : zm_Sig := (yX9_isMirror, cX9_isMirror, 5, (some .boolean), 1, 20)
abbrev gX9_isMirrored : zm_Sig := (yX9_isMirrored, cX9_isMirrored, 5, (some .boolean), 3, 71)
abbrev gX9_mirrored : zm_Sig := (yX9_mirrored, cX9_mirrored, 2, (some .int), 4, 95)
abbrev gX9_mirror : zm_Sig := (yX9_mirror, cX9_mirror, 2, (some .int), 2, 46)
abbrev gX9_fits : zm_Sig := (yX9_fits, cX9_fits, 4, (some .boolean), 3, 71)
abbrev gX9_isBehindShift : zm_Sig := (yX9_isBehindShift, cX9_isBehindShift, 9, (some .boolean), 1, 22)
abbrev gX9_allBehind : zm_Sig := (yX9_allBehind, cX9_allBehind, 5, (some .boolean), 3, 71)
abbrev gX9_kind : zm_Sig := (yX9_kind, cX9_kind, 8, (some .int), 4, 95)
abbrev gX9_paintMany : zm_Sig := (yX9_paintMany, cX9_paintMany, 3, (some .int), 0, 0)
abbrev gX9_paints : zm_Sig := (yX9_paints, cX9_paints, 1, (some .int), 1, 22)
abbrev gX9_lay : zm_Sig := (yX9_lay, cX9_lay, 8, none, 1, 22)
abbrev gX9_noPaint : zm_Sig := (yX9_noPaint, cX9_noPaint, 2, (some .boolean), 1, 25)
abbrev gX9_paint : zm_Sig := (yX9_paint, cX9_paint, 3, (some .int), 2, 49)
abbrev gX9_keepsPainted : zm_Sig := (yX9_keepsPainted, cX9_keepsPainted, 5, (some .boolean), 2, 48)
abbrev gX9_keepsBy : zm_Sig := (yX9_keepsBy, cX9_keepsBy, 3, (some .int), 3, 72)
abbrev gX9_leastPaint : zm_Sig := (yX9_leastPaint, cX9_leastPaint, 3, (some .int), 3, 72)
abbrev gX9_by : zm_Sig := (yX9_by, cX9_by, 2, (some .int), 4, 94)
abbrev gX9_swaps : zm_Sig := (yX9_swaps, cX9_swaps, 3, (some .int), 4, 94)
abbrev gX9_tell : zm_Sig := (yX9_tell, cX9_tell, 2, (some .int), 2, 46)
abbrev gX9_untell : zm_Sig := (yX9_untell, cX9_untell, 2, (some .int), 0, 0)
abbrev gX9_together : zm_Sig := (yX9_together, cX9_together, 5, (some .int), 3, 72)
abbrev gX9_layRings : zm_Sig := (yX9_layRings, cX9_layRings, 7, (some .int), 2, 48)
abbrev gX9_rings : zm_Sig := (yX9_rings, cX9_rings, 1, (some .int), 3, 74)
abbrev gX9_ring : zm_Sig := (yX9_ring, cX9_ring, 2, (some .int), 3, 74)
abbrev gX9_reckon : zm_Sig := (yX9_reckon, cX9_reckon, 4, (some .int), 1, 20)
abbrev gX9_mostOf : zm_Sig := (yX9_mostOf, cX9_mostOf, 4, (some .int), 2, 43)
abbrev gX9_mend : zm_Sig := (yX9_mend, cX9_mend, 4, (some .int), 3, 74)
abbrev gX9_sure : zm_Sig := (yX9_sure, cX9_sure, 2, (some .int), 3, 74)
abbrev gX9_torn : zm_Sig := (yX9_torn, cX9_torn, 3, (some .int), 3, 74)
abbrev gX9_power : zm_Sig := (yX9_power, cX9_power, 5, (some .long), 0, 0)
abbrev gX9_papers : zm_Sig := (yX9_papers, cX9_papers, 1, (some .long), 3, 74)
abbrev gX9_upTo : zm_Sig := (yX9_upTo, cX9_upTo, 6, (some .long), 3, 74)
abbrev gX9_like : zm_Sig := (yX9_like, cX9_like, 7, (some .int), 2, 48)
abbrev gX9_layFirst : zm_Sig := (yX9_layFirst, cX9_layFirst, 5, (some .int), 2, 48)
abbrev gX9_first : zm_Sig := (yX9_first, cX9_first, 2, (some .int), 3, 72)
abbrev gX9_toFirst : zm_Sig := (yX9_toFirst, cX9_toFirst, 1, (some .int), 3, 72)
abbrev gX9_layPieces : zm_Sig := (yX9_layPieces, cX9_layPieces, 10, none, 1, 22)
abbrev gX9_pieces : zm_Sig := (yX9_pieces, cX9_pieces, 4, (some .int), 2, 51)
abbrev gX9_piece : zm_Sig := (yX9_piece, cX9_piece, 4, (some .int), 2, 51)
abbrev gX9_count : zm_Sig := (yX9_count, cX9_count, 5, (some .int), 1, 20)
theorem pdX0_power : yX0_power.cls ≠ "java/lang/invoke/MethodHandle" ∧ yX0_power.cls ≠ "java/lang/invoke/VarHandle" ∧ (parseMethodDescriptor yX0_power.desc).map (fun d => d.parameters.length) = some 2 := by decide +kernel
theorem pdX1_numbers : yX1_numbers.cls ≠ "java/lang/invoke/MethodHandle" ∧ yX1_numbers.cls ≠ "java/lang/invoke/VarHandle" ∧ (parseMethodDescriptor yX1_numbers.desc).map (fun d => d.parameters.length) = some 0 := by decide +kernel
theorem pdX1_turnOf : yX1_turnOf.cls ≠ "java/lang/invoke/MethodHandle" ∧ yX1_turnOf.cls ≠ "java/lang/invoke/VarHandle" ∧ (parseMethodDescriptor yX1_turnOf.desc).map (fun d => d.parameters.length) = some 1 := by decide +kernel
theorem pdX1_hasTurn : yX1_hasTurn.cls ≠ "java/lang/invoke/MethodHandle" ∧ yX1_hasTurn.cls ≠ "java/lang/invoke/VarHandle" ∧ (parseMethodDescriptor yX1_hasTurn.desc).map (fun d => d.parameters.length) = some 1 := by decide +kernel
theorem pdX1_hasMove : yX1_hasMove.cls ≠ "java/lang/invoke/MethodHandle" ∧ yX1_hasMove.cls ≠ "java/lang/invoke/VarHandle" ∧ (parseMethodDescriptor yX1_hasMove.desc).map (fun d => d.parameters.length) = some 1 := by decide +kernel
theorem pdX1_shiftOf : yX1_shiftOf.cls ≠ "java/lang/invoke/MethodHandle" ∧ yX1_shiftOf.cls ≠ "java/lang/invoke/VarHandle" ∧ (parseMethodDescriptor yX1_shiftOf.desc).map (fun d => d.parameters.length) = some 1 := by decide +kernel
theorem pdX1_columnOf : yX1_columnOf.cls ≠ "java/lang/invoke/MethodHandle" ∧ yX1_columnOf.cls ≠ "java/lang/invoke/VarHandle" ∧ (parseMethodDescriptor yX1_columnOf.desc).map (fun d => d.parameters.length) = some 1 := by decide +kernel
theorem pdX1_rowOf : yX1_rowOf.cls ≠ "java/lang/invoke/MethodHandle" ∧ yX1_rowOf.cls ≠ "java/lang/invoke/VarHandle" ∧ (parseMethodDescriptor yX1_rowOf.desc).map (fun d => d.parameters.length) = some 1 := by decide +kernel
theorem pdX1_turnedX : yX1_turnedX.cls ≠ "java/lang/invoke/MethodHandle" ∧ yX1_turnedX.cls ≠ "java/lang/invoke/VarHandle" ∧ (parseMethodDescriptor yX1_turnedX.desc).map (fun d => d.parameters.length) = some 3 := by decide +kernel
theorem pdX1_turnedY : yX1_turnedY.cls ≠ "java/lang/invoke/MethodHandle" ∧ yX1_turnedY.cls ≠ "java/lang/invoke/VarHandle" ∧ (parseMethodDescriptor yX1_turnedY.desc).map (fun d => d.parameters.length) = some 3 := by decide +kernel
theorem pdX1_cellAt : yX1_cellAt.cls ≠ "java/lang/invoke/MethodHandle" ∧ yX1_cellAt.cls ≠ "java/lang/invoke/VarHandle" ∧ (parseMethodDescriptor yX1_cellAt.desc).map (fun d => d.parameters.length) = some 2 := by decide +kernel
theorem pdX1_target : yX1_target.cls ≠ "java/lang/invoke/MethodHandle" ∧ yX1_target.cls ≠ "java/lang/invoke/VarHandle" ∧ (parseMethodDescriptor yX1_target.desc).map (fun d => d.parameters.length) = some 2 := by decide +kernel
theorem pdX0_passRound : yX0_passRound.cls ≠ "java/lang/invoke/MethodHandle" ∧ yX0_passRound.cls ≠ "java/lang/invoke/VarHandle" ∧ (parseMethodDescriptor yX0_passRound.desc).map (fun d => d.parameters.length) = some 2 := by decide +kernel
theorem pdX0_roundsOf : yX0_roundsOf.cls ≠ "java/lang/invoke/MethodHandle" ∧ yX0_roundsOf.cls ≠ "java/lang/invoke/VarHandle" ∧ (parseMethodDescriptor yX0_roundsOf.desc).map (fun d => d.parameters.length) = some 1 := by decide +kernel
theorem pdX1_moveCount : yX1_moveCount.cls ≠ "java/lang/invoke/MethodHandle" ∧ yX1_moveCount.cls ≠ "java/lang/invoke/VarHandle" ∧ (parseMethodDescriptor yX1_moveCount.desc).map (fun d => d.parameters.length) = some 0 := by decide +kernel
theorem pdX0_unlike : yX0_unlike.cls ≠ "java/lang/invoke/MethodHandle" ∧ yX0_unlike.cls ≠ "java/lang/invoke/VarHandle" ∧ (parseMethodDescriptor yX0_unlike.desc).map (fun d => d.parameters.length) = some 1 := by decide +kernel
theorem pdX1_resize : yX1_resize.cls ≠ "java/lang/invoke/MethodHandle" ∧ yX1_resize.cls ≠ "java/lang/invoke/VarHandle" ∧ (parseMethodDescriptor yX1_resize.desc).map (fun d => d.parameters.length) = some 2 := by decide +kernel
theorem pdX1_hasCell : yX1_hasCell.cls ≠ "java/lang/invoke/MethodHandle" ∧ yX1_hasCell.cls ≠ "java/lang/invoke/VarHandle" ∧ (parseMethodDescriptor yX1_hasCell.desc).map (fun d => d.parameters.length) = some 1 := by decide +kernel
theorem pdX1_joinTurns : yX1_joinTurns.cls ≠ "java/lang/invoke/MethodHandle" ∧ yX1_joinTurns.cls ≠ "java/lang/invoke/VarHandle" ∧ (parseMethodDescriptor yX1_joinTurns.desc).map (fun d => d.parameters.length) = some 2 := by decide +kernel
theorem pdX1_join : yX1_join.cls ≠ "java/lang/invoke/MethodHandle" ∧ yX1_join.cls ≠ "java/lang/invoke/VarHandle" ∧ (parseMethodDescriptor yX1_join.desc).map (fun d => d.parameters.length) = some 2 := by decide +kernel
theorem pdX1_undoingTurn : yX1_undoingTurn.cls ≠ "java/lang/invoke/MethodHandle" ∧ yX1_undoingTurn.cls ≠ "java/lang/invoke/VarHandle" ∧ (parseMethodDescriptor yX1_undoingTurn.desc).map (fun d => d.parameters.length) = some 1 := by decide +kernel
theorem pdX1_undoing : yX1_undoing.cls ≠ "java/lang/invoke/MethodHandle" ∧ yX1_undoing.cls ≠ "java/lang/invoke/VarHandle" ∧ (parseMethodDescriptor yX1_undoing.desc).map (fun d => d.parameters.length) = some 1 := by decide +kernel
theorem pdX1_isStill : yX1_isStill.cls ≠ "java/lang/invoke/MethodHandle" ∧ yX1_isStill.cls ≠ "java/lang/invoke/VarHandle" ∧ (parseMethodDescriptor yX1_isStill.desc).map (fun d => d.parameters.length) = some 1 := by decide +kernel
theorem pdX1_timesTillStill : yX1_timesTillStill.cls ≠ "java/lang/invoke/MethodHandle" ∧ yX1_timesTillStill.cls ≠ "java/lang/invoke/VarHandle" ∧ (parseMethodDescriptor yX1_timesTillStill.desc).map (fun d => d.parameters.length) = some 1 := by decide +kernel
theorem pdX2_isMirror : yX2_isMirror.cls ≠ "java/lang/invoke/MethodHandle" ∧ yX2_isMirror.cls ≠ "java/lang/invoke/VarHandle" ∧ (parseMethodDescriptor yX2_isMirror.desc).map (fun d => d.parameters.length) = some 2 := by decide +kernel
theorem pdX2_isAlong : yX2_isAlong.cls ≠ "java/lang/invoke/MethodHandle" ∧ yX2_isAlong.cls ≠ "java/lang/invoke/VarHandle" ∧ (parseMethodDescriptor yX2_isAlong.desc).map (fun d => d.parameters.length) = some 2 := by decide +kernel
theorem pdX5_isKeptBy : yX5_isKeptBy.cls ≠ "java/lang/invoke/MethodHandle" ∧ yX5_isKeptBy.cls ≠ "java/lang/invoke/VarHandle" ∧ (parseMethodDescriptor yX5_isKeptBy.desc).map (fun d => d.parameters.length) = some 1 := by decide +kernel
theorem pdX2_hasMirror : yX2_hasMirror.cls ≠ "java/lang/invoke/MethodHandle" ∧ yX2_hasMirror.cls ≠ "java/lang/invoke/VarHandle" ∧ (parseMethodDescriptor yX2_hasMirror.desc).map (fun d => d.parameters.length) = some 1 := by decide +kernel
theorem pdX2_isMirrorBehindShift : yX2_isMirrorBehindShift.cls ≠ "java/lang/invoke/MethodHandle" ∧ yX2_isMirrorBehindShift.cls ≠ "java/lang/invoke/VarHandle" ∧ (parseMethodDescriptor yX2_isMirrorBehindShift.desc).map (fun d => d.parameters.length) = some 2 := by decide +kernel
theorem pdX2_allMirrorsBehindShifts : yX2_allMirrorsBehindShifts.cls ≠ "java/lang/invoke/MethodHandle" ∧ yX2_allMirrorsBehindShifts.cls ≠ "java/lang/invoke/VarHandle" ∧ (parseMethodDescriptor yX2_allMirrorsBehindShifts.desc).map (fun d => d.parameters.length) = some 0 := by decide +kernel
theorem pdX5_keepersOf : yX5_keepersOf.cls ≠ "java/lang/invoke/MethodHandle" ∧ yX5_keepersOf.cls ≠ "java/lang/invoke/VarHandle" ∧ (parseMethodDescriptor yX5_keepersOf.desc).map (fun d => d.parameters.length) = some 1 := by decide +kernel
theorem pdX2_fitCount : yX2_fitCount.cls ≠ "java/lang/invoke/MethodHandle" ∧ yX2_fitCount.cls ≠ "java/lang/invoke/VarHandle" ∧ (parseMethodDescriptor yX2_fitCount.desc).map (fun d => d.parameters.length) = some 0 := by decide +kernel
theorem pdX2_mirroredCount : yX2_mirroredCount.cls ≠ "java/lang/invoke/MethodHandle" ∧ yX2_mirroredCount.cls ≠ "java/lang/invoke/VarHandle" ∧ (parseMethodDescriptor yX2_mirroredCount.desc).map (fun d => d.parameters.length) = some 0 := by decide +kernel
theorem pdX2_kindWithHalf : yX2_kindWithHalf.cls ≠ "java/lang/invoke/MethodHandle" ∧ yX2_kindWithHalf.cls ≠ "java/lang/invoke/VarHandle" ∧ (parseMethodDescriptor yX2_kindWithHalf.desc).map (fun d => d.parameters.length) = some 2 := by decide +kernel
theorem pdX2_kindWithoutTurns : yX2_kindWithoutTurns.cls ≠ "java/lang/invoke/MethodHandle" ∧ yX2_kindWithoutTurns.cls ≠ "java/lang/invoke/VarHandle" ∧ (parseMethodDescriptor yX2_kindWithoutTurns.desc).map (fun d => d.parameters.length) = some 2 := by decide +kernel
theorem pdX2_number : yX2_number.cls ≠ "java/lang/invoke/MethodHandle" ∧ yX2_number.cls ≠ "java/lang/invoke/VarHandle" ∧ (parseMethodDescriptor yX2_number.desc).map (fun d => d.parameters.length) = some 0 := by decide +kernel
theorem pdX5_keepersOfAll : yX5_keepersOfAll.cls ≠ "java/lang/invoke/MethodHandle" ∧ yX5_keepersOfAll.cls ≠ "java/lang/invoke/VarHandle" ∧ (parseMethodDescriptor yX5_keepersOfAll.desc).map (fun d => d.parameters.length) = some 0 := by decide +kernel
theorem pdX3_total : yX3_total.cls ≠ "java/lang/invoke/MethodHandle" ∧ yX3_total.cls ≠ "java/lang/invoke/VarHandle" ∧ (parseMethodDescriptor yX3_total.desc).map (fun d => d.parameters.length) = some 0 := by decide +kernel
theorem pdX3_isAhead : yX3_isAhead.cls ≠ "java/lang/invoke/MethodHandle" ∧ yX3_isAhead.cls ≠ "java/lang/invoke/VarHandle" ∧ (parseMethodDescriptor yX3_isAhead.desc).map (fun d => d.parameters.length) = some 2 := by decide +kernel
theorem pdX3_moveToFirst : yX3_moveToFirst.cls ≠ "java/lang/invoke/MethodHandle" ∧ yX3_moveToFirst.cls ≠ "java/lang/invoke/VarHandle" ∧ (parseMethodDescriptor yX3_moveToFirst.desc).map (fun d => d.parameters.length) = some 0 := by decide +kernel
theorem pdX3_hueInFirst : yX3_hueInFirst.cls ≠ "java/lang/invoke/MethodHandle" ∧ yX3_hueInFirst.cls ≠ "java/lang/invoke/VarHandle" ∧ (parseMethodDescriptor yX3_hueInFirst.desc).map (fun d => d.parameters.length) = some 1 := by decide +kernel
theorem pdX4_total : yX4_total.cls ≠ "java/lang/invoke/MethodHandle" ∧ yX4_total.cls ≠ "java/lang/invoke/VarHandle" ∧ (parseMethodDescriptor yX4_total.desc).map (fun d => d.parameters.length) = some 0 := by decide +kernel
theorem pdX4_has : yX4_has.cls ≠ "java/lang/invoke/MethodHandle" ∧ yX4_has.cls ≠ "java/lang/invoke/VarHandle" ∧ (parseMethodDescriptor yX4_has.desc).map (fun d => d.parameters.length) = some 1 := by decide +kernel
theorem pdX4_given : yX4_given.cls ≠ "java/lang/invoke/MethodHandle" ∧ yX4_given.cls ≠ "java/lang/invoke/VarHandle" ∧ (parseMethodDescriptor yX4_given.desc).map (fun d => d.parameters.length) = some 2 := by decide +kernel
theorem pdX4_isKeptBy : yX4_isKeptBy.cls ≠ "java/lang/invoke/MethodHandle" ∧ yX4_isKeptBy.cls ≠ "java/lang/invoke/VarHandle" ∧ (parseMethodDescriptor yX4_isKeptBy.desc).map (fun d => d.parameters.length) = some 2 := by decide +kernel
theorem pdX4_askFor : yX4_askFor.cls ≠ "java/lang/invoke/MethodHandle" ∧ yX4_askFor.cls ≠ "java/lang/invoke/VarHandle" ∧ (parseMethodDescriptor yX4_askFor.desc).map (fun d => d.parameters.length) = some 1 := by decide +kernel
theorem pdX4_givesWhatIsAsked : yX4_givesWhatIsAsked.cls ≠ "java/lang/invoke/MethodHandle" ∧ yX4_givesWhatIsAsked.cls ≠ "java/lang/invoke/VarHandle" ∧ (parseMethodDescriptor yX4_givesWhatIsAsked.desc).map (fun d => d.parameters.length) = some 1 := by decide +kernel
theorem pdX4_leastFor : yX4_leastFor.cls ≠ "java/lang/invoke/MethodHandle" ∧ yX4_leastFor.cls ≠ "java/lang/invoke/VarHandle" ∧ (parseMethodDescriptor yX4_leastFor.desc).map (fun d => d.parameters.length) = some 1 := by decide +kernel
theorem pdX4_movesWithSome : yX4_movesWithSome.cls ≠ "java/lang/invoke/MethodHandle" ∧ yX4_movesWithSome.cls ≠ "java/lang/invoke/VarHandle" ∧ (parseMethodDescriptor yX4_movesWithSome.desc).map (fun d => d.parameters.length) = some 0 := by decide +kernel
theorem pdX5_clear : yX5_clear.cls ≠ "java/lang/invoke/MethodHandle" ∧ yX5_clear.cls ≠ "java/lang/invoke/VarHandle" ∧ (parseMethodDescriptor yX5_clear.desc).map (fun d => d.parameters.length) = some 0 := by decide +kernel
theorem pdX5_isHue : yX5_isHue.cls ≠ "java/lang/invoke/MethodHandle" ∧ yX5_isHue.cls ≠ "java/lang/invoke/VarHandle" ∧ (parseMethodDescriptor yX5_isHue.desc).map (fun d => d.parameters.length) = some 1 := by decide +kernel
theorem pdX5_allows : yX5_allows.cls ≠ "java/lang/invoke/MethodHandle" ∧ yX5_allows.cls ≠ "java/lang/invoke/VarHandle" ∧ (parseMethodDescriptor yX5_allows.desc).map (fun d => d.parameters.length) = some 1 := by decide +kernel
theorem pdX5_allowHues : yX5_allowHues.cls ≠ "java/lang/invoke/MethodHandle" ∧ yX5_allowHues.cls ≠ "java/lang/invoke/VarHandle" ∧ (parseMethodDescriptor yX5_allowHues.desc).map (fun d => d.parameters.length) = some 1 := by decide +kernel
theorem pdX5_allowsFigures : yX5_allowsFigures.cls ≠ "java/lang/invoke/MethodHandle" ∧ yX5_allowsFigures.cls ≠ "java/lang/invoke/VarHandle" ∧ (parseMethodDescriptor yX5_allowsFigures.desc).map (fun d => d.parameters.length) = some 2 := by decide +kernel
theorem pdX5_dyeFigures : yX5_dyeFigures.cls ≠ "java/lang/invoke/MethodHandle" ∧ yX5_dyeFigures.cls ≠ "java/lang/invoke/VarHandle" ∧ (parseMethodDescriptor yX5_dyeFigures.desc).map (fun d => d.parameters.length) = some 3 := by decide +kernel
theorem pdX5_hiddenCount : yX5_hiddenCount.cls ≠ "java/lang/invoke/MethodHandle" ∧ yX5_hiddenCount.cls ≠ "java/lang/invoke/VarHandle" ∧ (parseMethodDescriptor yX5_hiddenCount.desc).map (fun d => d.parameters.length) = some 0 := by decide +kernel
theorem pdJ6_bitCount_0f7a4 : yJ6_bitCount_0f7a4.cls ≠ "java/lang/invoke/MethodHandle" ∧ yJ6_bitCount_0f7a4.cls ≠ "java/lang/invoke/VarHandle" ∧ (parseMethodDescriptor yJ6_bitCount_0f7a4.desc).map (fun d => d.parameters.length) = some 1 := by decide +kernel
theorem pdX5_usedHues : yX5_usedHues.cls ≠ "java/lang/invoke/MethodHandle" ∧ yX5_usedHues.cls ≠ "java/lang/invoke/VarHandle" ∧ (parseMethodDescriptor yX5_usedHues.desc).map (fun d => d.parameters.length) = some 0 := by decide +kernel
theorem pdX5_keeperNumber : yX5_keeperNumber.cls ≠ "java/lang/invoke/MethodHandle" ∧ yX5_keeperNumber.cls ≠ "java/lang/invoke/VarHandle" ∧ (parseMethodDescriptor yX5_keeperNumber.desc).map (fun d => d.parameters.length) = some 1 := by decide +kernel
theorem pdX5_moveBy : yX5_moveBy.cls ≠ "java/lang/invoke/MethodHandle" ∧ yX5_moveBy.cls ≠ "java/lang/invoke/VarHandle" ∧ (parseMethodDescriptor yX5_moveBy.desc).map (fun d => d.parameters.length) = some 1 := by decide +kernel
theorem pdX6_leaveAll : yX6_leaveAll.cls ≠ "java/lang/invoke/MethodHandle" ∧ yX6_leaveAll.cls ≠ "java/lang/invoke/VarHandle" ∧ (parseMethodDescriptor yX6_leaveAll.desc).map (fun d => d.parameters.length) = some 0 := by decide +kernel
theorem pdX6_arrive : yX6_arrive.cls ≠ "java/lang/invoke/MethodHandle" ∧ yX6_arrive.cls ≠ "java/lang/invoke/VarHandle" ∧ (parseMethodDescriptor yX6_arrive.desc).map (fun d => d.parameters.length) = some 3 := by decide +kernel
theorem pdX6_step : yX6_step.cls ≠ "java/lang/invoke/MethodHandle" ∧ yX6_step.cls ≠ "java/lang/invoke/VarHandle" ∧ (parseMethodDescriptor yX6_step.desc).map (fun d => d.parameters.length) = some 3 := by decide +kernel
theorem pdX6_walk : yX6_walk.cls ≠ "java/lang/invoke/MethodHandle" ∧ yX6_walk.cls ≠ "java/lang/invoke/VarHandle" ∧ (parseMethodDescriptor yX6_walk.desc).map (fun d => d.parameters.length) = some 1 := by decide +kernel
theorem pdX6_total : yX6_total.cls ≠ "java/lang/invoke/MethodHandle" ∧ yX6_total.cls ≠ "java/lang/invoke/VarHandle" ∧ (parseMethodDescriptor yX6_total.desc).map (fun d => d.parameters.length) = some 1 := by decide +kernel
theorem pdX6_sizeAt : yX6_sizeAt.cls ≠ "java/lang/invoke/MethodHandle" ∧ yX6_sizeAt.cls ≠ "java/lang/invoke/VarHandle" ∧ (parseMethodDescriptor yX6_sizeAt.desc).map (fun d => d.parameters.length) = some 1 := by decide +kernel
theorem pdX7_markRing : yX7_markRing.cls ≠ "java/lang/invoke/MethodHandle" ∧ yX7_markRing.cls ≠ "java/lang/invoke/VarHandle" ∧ (parseMethodDescriptor yX7_markRing.desc).map (fun d => d.parameters.length) = some 1 := by decide +kernel
theorem pdX7_markRings : yX7_markRings.cls ≠ "java/lang/invoke/MethodHandle" ∧ yX7_markRings.cls ≠ "java/lang/invoke/VarHandle" ∧ (parseMethodDescriptor yX7_markRings.desc).map (fun d => d.parameters.length) = some 0 := by decide +kernel
theorem pdX7_forget : yX7_forget.cls ≠ "java/lang/invoke/MethodHandle" ∧ yX7_forget.cls ≠ "java/lang/invoke/VarHandle" ∧ (parseMethodDescriptor yX7_forget.desc).map (fun d => d.parameters.length) = some 0 := by decide +kernel
theorem pdX7_add : yX7_add.cls ≠ "java/lang/invoke/MethodHandle" ∧ yX7_add.cls ≠ "java/lang/invoke/VarHandle" ∧ (parseMethodDescriptor yX7_add.desc).map (fun d => d.parameters.length) = some 1 := by decide +kernel
theorem pdX7_movesMade : yX7_movesMade.cls ≠ "java/lang/invoke/MethodHandle" ∧ yX7_movesMade.cls ≠ "java/lang/invoke/VarHandle" ∧ (parseMethodDescriptor yX7_movesMade.desc).map (fun d => d.parameters.length) = some 0 := by decide +kernel
theorem pdX7_ringCount : yX7_ringCount.cls ≠ "java/lang/invoke/MethodHandle" ∧ yX7_ringCount.cls ≠ "java/lang/invoke/VarHandle" ∧ (parseMethodDescriptor yX7_ringCount.desc).map (fun d => d.parameters.length) = some 0 := by decide +kernel
theorem pdX7_cellsOf : yX7_cellsOf.cls ≠ "java/lang/invoke/MethodHandle" ∧ yX7_cellsOf.cls ≠ "java/lang/invoke/VarHandle" ∧ (parseMethodDescriptor yX7_cellsOf.desc).map (fun d => d.parameters.length) = some 2 := by decide +kernel
theorem pdX7_commonHue : yX7_commonHue.cls ≠ "java/lang/invoke/MethodHandle" ∧ yX7_commonHue.cls ≠ "java/lang/invoke/VarHandle" ∧ (parseMethodDescriptor yX7_commonHue.desc).map (fun d => d.parameters.length) = some 1 := by decide +kernel
theorem pdX7_hueCount : yX7_hueCount.cls ≠ "java/lang/invoke/MethodHandle" ∧ yX7_hueCount.cls ≠ "java/lang/invoke/VarHandle" ∧ (parseMethodDescriptor yX7_hueCount.desc).map (fun d => d.parameters.length) = some 1 := by decide +kernel
theorem pdX7_onlyHue : yX7_onlyHue.cls ≠ "java/lang/invoke/MethodHandle" ∧ yX7_onlyHue.cls ≠ "java/lang/invoke/VarHandle" ∧ (parseMethodDescriptor yX7_onlyHue.desc).map (fun d => d.parameters.length) = some 1 := by decide +kernel
theorem pdX7_tornCount : yX7_tornCount.cls ≠ "java/lang/invoke/MethodHandle" ∧ yX7_tornCount.cls ≠ "java/lang/invoke/VarHandle" ∧ (parseMethodDescriptor yX7_tornCount.desc).map (fun d => d.parameters.length) = some 0 := by decide +kernel
theorem pdX7_paintRing : yX7_paintRing.cls ≠ "java/lang/invoke/MethodHandle" ∧ yX7_paintRing.cls ≠ "java/lang/invoke/VarHandle" ∧ (parseMethodDescriptor yX7_paintRing.desc).map (fun d => d.parameters.length) = some 3 := by decide +kernel
theorem pdX7_paintRings : yX7_paintRings.cls ≠ "java/lang/invoke/MethodHandle" ∧ yX7_paintRings.cls ≠ "java/lang/invoke/VarHandle" ∧ (parseMethodDescriptor yX7_paintRings.desc).map (fun d => d.parameters.length) = some 1 := by decide +kernel
theorem pdX8_oneIf : yX8_oneIf.cls ≠ "java/lang/invoke/MethodHandle" ∧ yX8_oneIf.cls ≠ "java/lang/invoke/VarHandle" ∧ (parseMethodDescriptor yX8_oneIf.desc).map (fun d => d.parameters.length) = some 1 := by decide +kernel
theorem pdX9_in : yX9_in.cls ≠ "java/lang/invoke/MethodHandle" ∧ yX9_in.cls ≠ "java/lang/invoke/VarHandle" ∧ (parseMethodDescriptor yX9_in.desc).map (fun d => d.parameters.length) = some 3 := by decide +kernel
theorem pdX9_cells : yX9_cells.cls ≠ "java/lang/invoke/MethodHandle" ∧ yX9_cells.cls ≠ "java/lang/invoke/VarHandle" ∧ (parseMethodDescriptor yX9_cells.desc).map (fun d => d.parameters.length) = some 0 := by decide +kernel
theorem pdX9_noCell : yX9_noCell.cls ≠ "java/lang/invoke/MethodHandle" ∧ yX9_noCell.cls ≠ "java/lang/invoke/VarHandle" ∧ (parseMethodDescriptor yX9_noCell.desc).map (fun d => d.parameters.length) = some 1 := by decide +kernel
theorem pdX9_isTurn : yX9_isTurn.cls ≠ "java/lang/invoke/MethodHandle" ∧ yX9_isTurn.cls ≠ "java/lang/invoke/VarHandle" ∧ (parseMethodDescriptor yX9_isTurn.desc).map (fun d => d.parameters.length) = some 1 := by decide +kernel
theorem pdX9_noMove : yX9_noMove.cls ≠ "java/lang/invoke/MethodHandle" ∧ yX9_noMove.cls ≠ "java/lang/invoke/VarHandle" ∧ (parseMethodDescriptor yX9_noMove.desc).map (fun d => d.parameters.length) = some 1 := by decide +kernel
theorem pdX9_rest : yX9_rest.cls ≠ "java/lang/invoke/MethodHandle" ∧ yX9_rest.cls ≠ "java/lang/invoke/VarHandle" ∧ (parseMethodDescriptor yX9_rest.desc).map (fun d => d.parameters.length) = some 2 := by decide +kernel
theorem pdX9_turnedX : yX9_turnedX.cls ≠ "java/lang/invoke/MethodHandle" ∧ yX9_turnedX.cls ≠ "java/lang/invoke/VarHandle" ∧ (parseMethodDescriptor yX9_turnedX.desc).map (fun d => d.parameters.length) = some 3 := by decide +kernel
theorem pdX9_turnedY : yX9_turnedY.cls ≠ "java/lang/invoke/MethodHandle" ∧ yX9_turnedY.cls ≠ "java/lang/invoke/VarHandle" ∧ (parseMethodDescriptor yX9_turnedY.desc).map (fun d => d.parameters.length) = some 3 := by decide +kernel
theorem pdX9_ledTo : yX9_ledTo.cls ≠ "java/lang/invoke/MethodHandle" ∧ yX9_ledTo.cls ≠ "java/lang/invoke/VarHandle" ∧ (parseMethodDescriptor yX9_ledTo.desc).map (fun d => d.parameters.length) = some 2 := by decide +kernel
theorem pdX9_isColour : yX9_isColour.cls ≠ "java/lang/invoke/MethodHandle" ∧ yX9_isColour.cls ≠ "java/lang/invoke/VarHandle" ∧ (parseMethodDescriptor yX9_isColour.desc).map (fun d => d.parameters.length) = some 1 := by decide +kernel
theorem pdX9_turnOf : yX9_turnOf.cls ≠ "java/lang/invoke/MethodHandle" ∧ yX9_turnOf.cls ≠ "java/lang/invoke/VarHandle" ∧ (parseMethodDescriptor yX9_turnOf.desc).map (fun d => d.parameters.length) = some 2 := by decide +kernel
theorem pdX9_two : yX9_two.cls ≠ "java/lang/invoke/MethodHandle" ∧ yX9_two.cls ≠ "java/lang/invoke/VarHandle" ∧ (parseMethodDescriptor yX9_two.desc).map (fun d => d.parameters.length) = some 2 := by decide +kernel
theorem pdX9_keepsIt : yX9_keepsIt.cls ≠ "java/lang/invoke/MethodHandle" ∧ yX9_keepsIt.cls ≠ "java/lang/invoke/VarHandle" ∧ (parseMethodDescriptor yX9_keepsIt.desc).map (fun d => d.parameters.length) = some 1 := by decide +kernel
theorem pdX9_layShifts : yX9_layShifts.cls ≠ "java/lang/invoke/MethodHandle" ∧ yX9_layShifts.cls ≠ "java/lang/invoke/VarHandle" ∧ (parseMethodDescriptor yX9_layShifts.desc).map (fun d => d.parameters.length) = some 0 := by decide +kernel
theorem pdX9_isMirror : yX9_isMirror.cls ≠ "java/lang/invoke/MethodHandle" ∧ yX9_isMirror.cls ≠ "java/lang/invoke/VarHandle" ∧ (parseMethodDescriptor yX9_isMirror.desc).map (fun d => d.parameters.length) = some 1 := by decide +kernel
theorem pdX9_isMirrored : yX9_isMirrored.cls ≠ "java/lang/invoke/MethodHandle" ∧ yX9_isMirrored.cls ≠ "java/lang/invoke/VarHandle" ∧ (parseMethodDescriptor yX9_isMirrored.desc).map (fun d => d.parameters.length) = some 1 := by decide +kernel
theorem pdX9_fits : yX9_fits.cls ≠ "java/lang/invoke/MethodHandle" ∧ yX9_fits.cls ≠ "java/lang/invoke/VarHandle" ∧ (parseMethodDescriptor yX9_fits.desc).map (fun d => d.parameters.length) = some 1 := by decide +kernel
theorem pdX9_isBehindShift : yX9_isBehindShift.cls ≠ "java/lang/invoke/MethodHandle" ∧ yX9_isBehindShift.cls ≠ "java/lang/invoke/VarHandle" ∧ (parseMethodDescriptor yX9_isBehindShift.desc).map (fun d => d.parameters.length) = some 1 := by decide +kernel
theorem pdX9_allBehind : yX9_allBehind.cls ≠ "java/lang/invoke/MethodHandle" ∧ yX9_allBehind.cls ≠ "java/lang/invoke/VarHandle" ∧ (parseMethodDescriptor yX9_allBehind.desc).map (fun d => d.parameters.length) = some 1 := by decide +kernel
theorem pdX9_paintMany : yX9_paintMany.cls ≠ "java/lang/invoke/MethodHandle" ∧ yX9_paintMany.cls ≠ "java/lang/invoke/VarHandle" ∧ (parseMethodDescriptor yX9_paintMany.desc).map (fun d => d.parameters.length) = some 0 := by decide +kernel
theorem pdX9_lay : yX9_lay.cls ≠ "java/lang/invoke/MethodHandle" ∧ yX9_lay.cls ≠ "java/lang/invoke/VarHandle" ∧ (parseMethodDescriptor yX9_lay.desc).map (fun d => d.parameters.length) = some 1 := by decide +kernel
theorem pdX9_noPaint : yX9_noPaint.cls ≠ "java/lang/invoke/MethodHandle" ∧ yX9_noPaint.cls ≠ "java/lang/invoke/VarHandle" ∧ (parseMethodDescriptor yX9_noPaint.desc).map (fun d => d.parameters.length) = some 1 := by decide +kernel
theorem pdX9_keepsPainted : yX9_keepsPainted.cls ≠ "java/lang/invoke/MethodHandle" ∧ yX9_keepsPainted.cls ≠ "java/lang/invoke/VarHandle" ∧ (parseMethodDescriptor yX9_keepsPainted.desc).map (fun d => d.parameters.length) = some 1 := by decide +kernel
theorem pdX9_leastPaint : yX9_leastPaint.cls ≠ "java/lang/invoke/MethodHandle" ∧ yX9_leastPaint.cls ≠ "java/lang/invoke/VarHandle" ∧ (parseMethodDescriptor yX9_leastPaint.desc).map (fun d => d.parameters.length) = some 1 := by decide +kernel
theorem pdX9_layRings : yX9_layRings.cls ≠ "java/lang/invoke/MethodHandle" ∧ yX9_layRings.cls ≠ "java/lang/invoke/VarHandle" ∧ (parseMethodDescriptor yX9_layRings.desc).map (fun d => d.parameters.length) = some 1 := by decide +kernel
theorem pdX9_reckon : yX9_reckon.cls ≠ "java/lang/invoke/MethodHandle" ∧ yX9_reckon.cls ≠ "java/lang/invoke/VarHandle" ∧ (parseMethodDescriptor yX9_reckon.desc).map (fun d => d.parameters.length) = some 1 := by decide +kernel
theorem pdX9_mostOf : yX9_mostOf.cls ≠ "java/lang/invoke/MethodHandle" ∧ yX9_mostOf.cls ≠ "java/lang/invoke/VarHandle" ∧ (parseMethodDescriptor yX9_mostOf.desc).map (fun d => d.parameters.length) = some 1 := by decide +kernel
theorem pdX9_power : yX9_power.cls ≠ "java/lang/invoke/MethodHandle" ∧ yX9_power.cls ≠ "java/lang/invoke/VarHandle" ∧ (parseMethodDescriptor yX9_power.desc).map (fun d => d.parameters.length) = some 1 := by decide +kernel
theorem pdX9_layFirst : yX9_layFirst.cls ≠ "java/lang/invoke/MethodHandle" ∧ yX9_layFirst.cls ≠ "java/lang/invoke/VarHandle" ∧ (parseMethodDescriptor yX9_layFirst.desc).map (fun d => d.parameters.length) = some 0 := by decide +kernel
theorem pdX9_layPieces : yX9_layPieces.cls ≠ "java/lang/invoke/MethodHandle" ∧ yX9_layPieces.cls ≠ "java/lang/invoke/VarHandle" ∧ (parseMethodDescriptor yX9_layPieces.desc).map (fun d => d.parameters.length) = some 0 := by decide +kernel
theorem lkX1_21 : ∀ w ∈ wsV RX1 21 RX1 yX1_numbers [Cond.code yX1_numbers cX1_numbers 1 (some .int)], w ∈ zm_tb := zm_all [351, 352, 353, 27, 354] _ (by decide +kernel) (by decide +kernel)
theorem lkX1_25 : ∀ w ∈ wsV RX1 25 RX1 yX1_turnOf [Cond.code yX1_turnOf cX1_turnOf 2 (some .int)], w ∈ zm_tb := zm_all [268, 269, 270, 27, 271] _ (by decide +kernel) (by decide +kernel)
theorem lkX1_29 : ∀ w ∈ wsV RX1 29 RX1 yX1_hasTurn [Cond.code yX1_hasTurn cX1_hasTurn 2 (some .boolean)], w ∈ zm_tb := zm_all [355, 356, 357, 27, 358] _ (by decide +kernel) (by decide +kernel)
theorem lkX1_42 : ∀ w ∈ va_wsS RX1 42 yX1_turnedX [Cond.code yX1_turnedX cX1_turnedX 3 (some .int)], w ∈ zm_tb := zm_all [284, 285, 27, 286] _ (by decide +kernel) (by decide +kernel)
theorem lkX1_46 : ∀ w ∈ va_wsS RX1 46 yX1_turnedY [Cond.code yX1_turnedY cX1_turnedY 3 (some .int)], w ∈ zm_tb := zm_all [287, 288, 27, 289] _ (by decide +kernel) (by decide +kernel)
theorem lkX1_33 : ∀ w ∈ wsV RX1 33 RX1 yX1_shiftOf [Cond.code yX1_shiftOf cX1_shiftOf 2 (some .int)], w ∈ zm_tb := zm_all [272, 273, 274, 27, 275] _ (by decide +kernel) (by decide +kernel)
theorem lkX1_36 : ∀ w ∈ wsV RX1 36 RX1 yX1_columnOf [Cond.code yX1_columnOf cX1_columnOf 2 (some .int)], w ∈ zm_tb := zm_all [276, 277, 278, 27, 279] _ (by decide +kernel) (by decide +kernel)
theorem lkX1_39 : ∀ w ∈ wsV RX1 39 RX1 yX1_rowOf [Cond.code yX1_rowOf cX1_rowOf 2 (some .int)], w ∈ zm_tb := zm_all [280, 281, 282, 27, 283] _ (by decide +kernel) (by decide +kernel)
theorem lkX1_49 : ∀ w ∈ wsV RX1 49 RX1 yX1_cellAt [Cond.code yX1_cellAt cX1_cellAt 5 (some .int)], w ∈ zm_tb := zm_all [290, 291, 292, 27, 293] _ (by decide +kernel) (by decide +kernel)
theorem lkX0_48 : ∀ w ∈ wsV RX0 48 RX1 yX1_target [Cond.code yX1_target cX1_target 7 (some .int)], w ∈ zm_tb := zm_all [670, 265, 266, 27, 267] _ (by decide +kernel) (by decide +kernel)
theorem lkX0_44 : ∀ w ∈ wsV RX0 44 RX0 yX0_passRound [Cond.code yX0_passRound cX0_passRound 5 none], w ∈ zm_tb := zm_all [666, 667, 668, 32, 669] _ (by decide +kernel) (by decide +kernel)
theorem lkX0_33 : ∀ w ∈ va_wsS RX0 33 yX0_power [Cond.code yX0_power cX0_power 5 (some .long)], w ∈ zm_tb := zm_all [671, 650, 32, 651] _ (by decide +kernel) (by decide +kernel)
theorem lkX0_19 : ∀ w ∈ wsV RX0 19 RX1 yX1_numbers [Cond.code yX1_numbers cX1_numbers 1 (some .int)], w ∈ zm_tb := zm_all [660, 352, 353, 27, 354] _ (by decide +kernel) (by decide +kernel)
theorem lkX0_25 : ∀ w ∈ wsV RX0 25 RX1 yX1_hasMove [Cond.code yX1_hasMove cX1_hasMove 2 (some .boolean)], w ∈ zm_tb := zm_all [661, 348, 349, 27, 350] _ (by decide +kernel) (by decide +kernel)
theorem lkX0_29 : ∀ w ∈ wsV RX0 29 RX0 yX0_roundsOf [Cond.code yX0_roundsOf cX0_roundsOf 4 (some .int)], w ∈ zm_tb := zm_all [662, 663, 664, 32, 665] _ (by decide +kernel) (by decide +kernel)
theorem lkX0_37 : ∀ w ∈ wsV RX0 37 RX1 yX1_moveCount [Cond.code yX1_moveCount cX1_moveCount 1 (some .int)], w ∈ zm_tb := zm_all [672, 340, 341, 27, 342] _ (by decide +kernel) (by decide +kernel)
theorem lkX1_53 : ∀ w ∈ va_wsS RX1 53 yX1_joinTurns [Cond.code yX1_joinTurns cX1_joinTurns 7 (some .int)], w ∈ zm_tb := zm_all [368, 369, 27, 370] _ (by decide +kernel) (by decide +kernel)
theorem lkX1_56 : ∀ w ∈ wsV RX1 56 RX1 yX1_target [Cond.code yX1_target cX1_target 7 (some .int)], w ∈ zm_tb := zm_all [371, 265, 266, 27, 267] _ (by decide +kernel) (by decide +kernel)
theorem lkX1_59 : ∀ w ∈ va_wsS RX1 59 yX1_undoingTurn [Cond.code yX1_undoingTurn cX1_undoingTurn 1 (some .int)], w ∈ zm_tb := zm_all [380, 381, 27, 382] _ (by decide +kernel) (by decide +kernel)
theorem lkX1_62 : ∀ w ∈ wsV RX1 62 RX1 yX1_isStill [Cond.code yX1_isStill cX1_isStill 3 (some .boolean)], w ∈ zm_tb := zm_all [391, 392, 393, 27, 394] _ (by decide +kernel) (by decide +kernel)
theorem lkX1_65 : ∀ w ∈ wsV RX1 65 RX1 yX1_join [Cond.code yX1_join cX1_join 3 (some .int)], w ∈ zm_tb := zm_all [395, 365, 366, 27, 367] _ (by decide +kernel) (by decide +kernel)
theorem lkX2_19 : ∀ w ∈ wsV RX2 19 RX1 yX1_columnOf [Cond.code yX1_columnOf cX1_columnOf 2 (some .int)], w ∈ zm_tb := zm_all [459, 277, 278, 27, 279] _ (by decide +kernel) (by decide +kernel)
theorem lkX2_25 : ∀ w ∈ wsV RX2 25 RX1 yX1_rowOf [Cond.code yX1_rowOf cX1_rowOf 2 (some .int)], w ∈ zm_tb := zm_all [460, 281, 282, 27, 283] _ (by decide +kernel) (by decide +kernel)
theorem lkX2_32 : ∀ w ∈ wsV RX2 32 RX2 yX2_isMirror [Cond.code yX2_isMirror cX2_isMirror 5 (some .boolean)], w ∈ zm_tb := zm_all [455, 456, 457, 29, 458] _ (by decide +kernel) (by decide +kernel)
theorem lkX5_44 : ∀ w ∈ wsV RX5 44 RX1 yX1_target [Cond.code yX1_target cX1_target 7 (some .int)], w ∈ zm_tb := zm_all [404, 265, 266, 27, 267] _ (by decide +kernel) (by decide +kernel)
theorem lkX2_36 : ∀ w ∈ wsV RX2 36 RX1 yX1_hasTurn [Cond.code yX1_hasTurn cX1_hasTurn 2 (some .boolean)], w ∈ zm_tb := zm_all [454, 356, 357, 27, 358] _ (by decide +kernel) (by decide +kernel)
theorem lkX2_43 : ∀ w ∈ wsV RX2 43 RX5 yX5_isKeptBy [Cond.code yX5_isKeptBy cX5_isKeptBy 3 (some .boolean)], w ∈ zm_tb := zm_all [461, 401, 402, 28, 403] _ (by decide +kernel) (by decide +kernel)
theorem lkX2_48 : ∀ w ∈ wsV RX2 48 RX1 yX1_cellAt [Cond.code yX1_cellAt cX1_cellAt 5 (some .int)], w ∈ zm_tb := zm_all [499, 291, 292, 27, 293] _ (by decide +kernel) (by decide +kernel)
theorem lkX2_52 : ∀ w ∈ wsV RX2 52 RX2 yX2_isAlong [Cond.code yX2_isAlong cX2_isAlong 3 (some .boolean)], w ∈ zm_tb := zm_all [500, 501, 502, 29, 503] _ (by decide +kernel) (by decide +kernel)
theorem lkX2_55 : ∀ w ∈ wsV RX2 55 RX1 yX1_numbers [Cond.code yX1_numbers cX1_numbers 1 (some .int)], w ∈ zm_tb := zm_all [491, 352, 353, 27, 354] _ (by decide +kernel) (by decide +kernel)
theorem lkX2_59 : ∀ w ∈ wsV RX2 59 RX1 yX1_hasMove [Cond.code yX1_hasMove cX1_hasMove 2 (some .boolean)], w ∈ zm_tb := zm_all [492, 348, 349, 27, 350] _ (by decide +kernel) (by decide +kernel)
theorem lkX2_62 : ∀ w ∈ wsV RX2 62 RX1 yX1_turnOf [Cond.code yX1_turnOf cX1_turnOf 2 (some .int)], w ∈ zm_tb := zm_all [493, 269, 270, 27, 271] _ (by decide +kernel) (by decide +kernel)
theorem lkX2_65 : ∀ w ∈ wsV RX2 65 RX1 yX1_shiftOf [Cond.code yX1_shiftOf cX1_shiftOf 2 (some .int)], w ∈ zm_tb := zm_all [494, 273, 274, 27, 275] _ (by decide +kernel) (by decide +kernel)
theorem lkX2_68 : ∀ w ∈ wsV RX2 68 RX2 yX2_isMirrorBehindShift [Cond.code yX2_isMirrorBehindShift cX2_isMirrorBehindShift 7 (some .boolean)], w ∈ zm_tb := zm_all [495, 496, 497, 29, 498] _ (by decide +kernel) (by decide +kernel)
theorem lkX5_48 : ∀ w ∈ wsV RX5 48 RX1 yX1_hasTurn [Cond.code yX1_hasTurn cX1_hasTurn 2 (some .boolean)], w ∈ zm_tb := zm_all [420, 356, 357, 27, 358] _ (by decide +kernel) (by decide +kernel)
theorem lkX5_51 : ∀ w ∈ wsV RX5 51 RX5 yX5_isKeptBy [Cond.code yX5_isKeptBy cX5_isKeptBy 3 (some .boolean)], w ∈ zm_tb := zm_all [421, 401, 402, 28, 403] _ (by decide +kernel) (by decide +kernel)
theorem lkX2_71 : ∀ w ∈ wsV RX2 71 RX5 yX5_keepersOf [Cond.code yX5_keepersOf cX5_keepersOf 5 (some .int)], w ∈ zm_tb := zm_all [477, 417, 418, 28, 419] _ (by decide +kernel) (by decide +kernel)
theorem lkX2_91 : ∀ w ∈ wsV RX2 91 RX2 yX2_hasMirror [Cond.code yX2_hasMirror cX2_hasMirror 3 (some .boolean)], w ∈ zm_tb := zm_all [486, 451, 452, 29, 453] _ (by decide +kernel) (by decide +kernel)
theorem lkX2_84 : ∀ w ∈ va_wsS RX2 84 yX2_kindWithHalf [Cond.code yX2_kindWithHalf cX2_kindWithHalf 2 (some .int)], w ∈ zm_tb := zm_all [504, 505, 29, 506] _ (by decide +kernel) (by decide +kernel)
theorem lkX2_88 : ∀ w ∈ va_wsS RX2 88 yX2_kindWithoutTurns [Cond.code yX2_kindWithoutTurns cX2_kindWithoutTurns 2 (some .int)], w ∈ zm_tb := zm_all [507, 508, 29, 509] _ (by decide +kernel) (by decide +kernel)
theorem lkX2_74 : ∀ w ∈ wsV RX2 74 RX2 yX2_fitCount [Cond.code yX2_fitCount cX2_fitCount 3 (some .int)], w ∈ zm_tb := zm_all [478, 479, 480, 29, 481] _ (by decide +kernel) (by decide +kernel)
theorem lkX2_77 : ∀ w ∈ wsV RX2 77 RX2 yX2_mirroredCount [Cond.code yX2_mirroredCount cX2_mirroredCount 3 (some .int)], w ∈ zm_tb := zm_all [482, 483, 484, 29, 485] _ (by decide +kernel) (by decide +kernel)
theorem lkX2_80 : ∀ w ∈ wsV RX2 80 RX2 yX2_allMirrorsBehindShifts [Cond.code yX2_allMirrorsBehindShifts cX2_allMirrorsBehindShifts 2 (some .boolean)], w ∈ zm_tb := zm_all [487, 488, 489, 29, 490] _ (by decide +kernel) (by decide +kernel)
theorem lkX5_54 : ∀ w ∈ wsV RX5 54 RX5 yX5_keepersOf [Cond.code yX5_keepersOf cX5_keepersOf 5 (some .int)], w ∈ zm_tb := zm_all [416, 417, 418, 28, 419] _ (by decide +kernel) (by decide +kernel)
theorem lkX3_17 : ∀ w ∈ wsV RX3 17 RX5 yX5_keepersOfAll [Cond.code yX5_keepersOfAll cX5_keepersOfAll 3 (some .int)], w ∈ zm_tb := zm_all [681, 413, 414, 28, 415] _ (by decide +kernel) (by decide +kernel)
theorem lkX3_23 : ∀ w ∈ wsV RX3 23 RX1 yX1_moveCount [Cond.code yX1_moveCount cX1_moveCount 1 (some .int)], w ∈ zm_tb := zm_all [682, 340, 341, 27, 342] _ (by decide +kernel) (by decide +kernel)
theorem lkX3_35 : ∀ w ∈ wsV RX3 35 RX1 yX1_undoing [Cond.code yX1_undoing cX1_undoing 5 (some .int)], w ∈ zm_tb := zm_all [701, 377, 378, 27, 379] _ (by decide +kernel) (by decide +kernel)
theorem lkX3_39 : ∀ w ∈ wsV RX3 39 RX1 yX1_target [Cond.code yX1_target cX1_target 7 (some .int)], w ∈ zm_tb := zm_all [702, 265, 266, 27, 267] _ (by decide +kernel) (by decide +kernel)
theorem lkX3_43 : ∀ w ∈ wsV RX3 43 RX1 yX1_numbers [Cond.code yX1_numbers cX1_numbers 1 (some .int)], w ∈ zm_tb := zm_all [695, 352, 353, 27, 354] _ (by decide +kernel) (by decide +kernel)
theorem lkX3_46 : ∀ w ∈ wsV RX3 46 RX1 yX1_hasMove [Cond.code yX1_hasMove cX1_hasMove 2 (some .boolean)], w ∈ zm_tb := zm_all [696, 348, 349, 27, 350] _ (by decide +kernel) (by decide +kernel)
theorem lkX3_50 : ∀ w ∈ wsV RX3 50 RX3 yX3_isAhead [Cond.code yX3_isAhead cX3_isAhead 8 (some .boolean)], w ∈ zm_tb := zm_all [697, 698, 699, 33, 700] _ (by decide +kernel) (by decide +kernel)
theorem lkX3_32 : ∀ w ∈ wsV RX3 32 RX3 yX3_moveToFirst [Cond.code yX3_moveToFirst cX3_moveToFirst 3 (some .int)], w ∈ zm_tb := zm_all [691, 692, 693, 33, 694] _ (by decide +kernel) (by decide +kernel)
theorem lkX4_29 : ∀ w ∈ wsV RX4 29 RX4 yX4_total [Cond.code yX4_total cX4_total 3 (some .int)], w ∈ zm_tb := zm_all [526, 515, 516, 30, 517] _ (by decide +kernel) (by decide +kernel)
theorem lkX4_44 : ∀ w ∈ wsV RX4 44 RX4 yX4_given [Cond.code yX4_given cX4_given 4 (some .int)], w ∈ zm_tb := zm_all [542, 529, 530, 30, 531] _ (by decide +kernel) (by decide +kernel)
theorem lkX4_48 : ∀ w ∈ wsV RX4 48 RX1 yX1_target [Cond.code yX1_target cX1_target 7 (some .int)], w ∈ zm_tb := zm_all [543, 265, 266, 27, 267] _ (by decide +kernel) (by decide +kernel)
theorem lkX4_51 : ∀ w ∈ wsV RX4 51 RX4 yX4_askFor [Cond.code yX4_askFor cX4_askFor 5 (some .boolean)], w ∈ zm_tb := zm_all [552, 553, 554, 30, 555] _ (by decide +kernel) (by decide +kernel)
theorem lkX4_55 : ∀ w ∈ wsV RX4 55 RX4 yX4_givesWhatIsAsked [Cond.code yX4_givesWhatIsAsked cX4_givesWhatIsAsked 3 (some .boolean)], w ∈ zm_tb := zm_all [556, 557, 558, 30, 559] _ (by decide +kernel) (by decide +kernel)
theorem lkX4_58 : ∀ w ∈ wsV RX4 58 RX1 yX1_numbers [Cond.code yX1_numbers cX1_numbers 1 (some .int)], w ∈ zm_tb := zm_all [568, 352, 353, 27, 354] _ (by decide +kernel) (by decide +kernel)
theorem lkX4_61 : ∀ w ∈ wsV RX4 61 RX1 yX1_hasMove [Cond.code yX1_hasMove cX1_hasMove 2 (some .boolean)], w ∈ zm_tb := zm_all [569, 348, 349, 27, 350] _ (by decide +kernel) (by decide +kernel)
theorem lkX4_64 : ∀ w ∈ wsV RX4 64 RX4 yX4_leastFor [Cond.code yX4_leastFor cX4_leastFor 4 (some .int)], w ∈ zm_tb := zm_all [570, 549, 550, 30, 551] _ (by decide +kernel) (by decide +kernel)
theorem lkX5_26 : ∀ w ∈ wsV RX5 26 RX5 yX5_isHue [Cond.code yX5_isHue cX5_isHue 2 (some .boolean)], w ∈ zm_tb := zm_all [306, 307, 308, 28, 309] _ (by decide +kernel) (by decide +kernel)
theorem lkX5_35 : ∀ w ∈ wsV RX5 35 RX5 yX5_allows [Cond.code yX5_allows cX5_allows 2 (some .boolean)], w ∈ zm_tb := zm_all [302, 303, 304, 28, 305] _ (by decide +kernel) (by decide +kernel)
theorem lkX5_38 : ∀ w ∈ va_wsS RX5 38 yJ6_bitCount_0f7a4 [Cond.code yJ6_bitCount_0f7a4 cJ6_bitCount_0f7a4 1 (some .int)], w ∈ zm_tb := zm_all [755, 756, 36, 757] _ (by decide +kernel) (by decide +kernel)
theorem lkX5_57 : ∀ w ∈ wsV RX5 57 RX1 yX1_moveCount [Cond.code yX1_moveCount cX1_moveCount 1 (some .int)], w ∈ zm_tb := zm_all [431, 340, 341, 27, 342] _ (by decide +kernel) (by decide +kernel)
theorem lkX5_61 : ∀ w ∈ wsV RX5 61 RX1 yX1_numbers [Cond.code yX1_numbers cX1_numbers 1 (some .int)], w ∈ zm_tb := zm_all [432, 352, 353, 27, 354] _ (by decide +kernel) (by decide +kernel)
theorem lkX5_64 : ∀ w ∈ wsV RX5 64 RX1 yX1_hasMove [Cond.code yX1_hasMove cX1_hasMove 2 (some .boolean)], w ∈ zm_tb := zm_all [433, 348, 349, 27, 350] _ (by decide +kernel) (by decide +kernel)
theorem lkX6_65 : ∀ w ∈ wsV RX6 65 RX6 yX6_arrive [Cond.code yX6_arrive cX6_arrive 4 none], w ∈ zm_tb := zm_all [726, 727, 728, 34, 729] _ (by decide +kernel) (by decide +kernel)
theorem lkX6_72 : ∀ w ∈ wsV RX6 72 RX1 yX1_cellAt [Cond.code yX1_cellAt cX1_cellAt 5 (some .int)], w ∈ zm_tb := zm_all [734, 291, 292, 27, 293] _ (by decide +kernel) (by decide +kernel)
theorem lkX6_58 : ∀ w ∈ wsV RX6 58 RX1 yX1_columnOf [Cond.code yX1_columnOf cX1_columnOf 2 (some .int)], w ∈ zm_tb := zm_all [724, 277, 278, 27, 279] _ (by decide +kernel) (by decide +kernel)
theorem lkX6_62 : ∀ w ∈ wsV RX6 62 RX1 yX1_rowOf [Cond.code yX1_rowOf cX1_rowOf 2 (some .int)], w ∈ zm_tb := zm_all [725, 281, 282, 27, 283] _ (by decide +kernel) (by decide +kernel)
theorem lkX6_69 : ∀ w ∈ wsV RX6 69 RX6 yX6_step [Cond.code yX6_step cX6_step 5 none], w ∈ zm_tb := zm_all [730, 731, 732, 34, 733] _ (by decide +kernel) (by decide +kernel)
theorem lkX6_33 : ∀ w ∈ wsV RX6 33 RX6 yX6_leaveAll [Cond.code yX6_leaveAll cX6_leaveAll 2 none], w ∈ zm_tb := zm_all [716, 717, 718, 34, 719] _ (by decide +kernel) (by decide +kernel)
theorem lkX6_47 : ∀ w ∈ wsV RX6 47 RX6 yX6_walk [Cond.code yX6_walk cX6_walk 4 none], w ∈ zm_tb := zm_all [720, 721, 722, 34, 723] _ (by decide +kernel) (by decide +kernel)
theorem lkX7_49 : ∀ w ∈ wsV RX7 49 RX1 yX1_target [Cond.code yX1_target cX1_target 7 (some .int)], w ∈ zm_tb := zm_all [264, 265, 266, 27, 267] _ (by decide +kernel) (by decide +kernel)
theorem lkX7_45 : ∀ w ∈ wsV RX7 45 RX7 yX7_markRing [Cond.code yX7_markRing cX7_markRing 6 none], w ∈ zm_tb := zm_all [260, 261, 262, 31, 263] _ (by decide +kernel) (by decide +kernel)
theorem lkX7_37 : ∀ w ∈ wsV RX7 37 RX7 yX7_markRings [Cond.code yX7_markRings cX7_markRings 2 none], w ∈ zm_tb := zm_all [256, 257, 258, 31, 259] _ (by decide +kernel) (by decide +kernel)
theorem lkX7_53 : ∀ w ∈ wsV RX7 53 RX1 yX1_join [Cond.code yX1_join cX1_join 3 (some .int)], w ∈ zm_tb := zm_all [591, 365, 366, 27, 367] _ (by decide +kernel) (by decide +kernel)
theorem lkX7_64 : ∀ w ∈ wsV RX7 64 RX7 yX7_cellsOf [Cond.code yX7_cellsOf cX7_cellsOf 5 (some .int)], w ∈ zm_tb := zm_all [616, 617, 618, 31, 619] _ (by decide +kernel) (by decide +kernel)
theorem lkX7_67 : ∀ w ∈ wsV RX7 67 RX7 yX7_hueCount [Cond.code yX7_hueCount cX7_hueCount 4 (some .int)], w ∈ zm_tb := zm_all [632, 633, 634, 31, 635] _ (by decide +kernel) (by decide +kernel)
theorem lkX7_71 : ∀ w ∈ wsV RX7 71 RX7 yX7_commonHue [Cond.code yX7_commonHue cX7_commonHue 6 (some .int)], w ∈ zm_tb := zm_all [612, 613, 614, 31, 615] _ (by decide +kernel) (by decide +kernel)
theorem lkX7_74 : ∀ w ∈ wsV RX7 74 RX7 yX7_paintRing [Cond.code yX7_paintRing cX7_paintRing 6 (some .int)], w ∈ zm_tb := zm_all [620, 621, 622, 31, 623] _ (by decide +kernel) (by decide +kernel)
theorem lkX8_69 : ∀ w ∈ wsV RX8 69 RX1 yX1_resize [Cond.code yX1_resize cX1_resize 3 none], w ∈ zm_tb := zm_all [244, 245, 246, 27, 247] _ (by decide +kernel) (by decide +kernel)
theorem lkX8_73 : ∀ w ∈ wsV RX8 73 RX5 yX5_clear [Cond.code yX5_clear cX5_clear 2 none], w ∈ zm_tb := zm_all [248, 249, 250, 28, 251] _ (by decide +kernel) (by decide +kernel)
theorem lkX8_76 : ∀ w ∈ wsV RX8 76 RX7 yX7_forget [Cond.code yX7_forget cX7_forget 1 none], w ∈ zm_tb := zm_all [252, 253, 254, 31, 255] _ (by decide +kernel) (by decide +kernel)
theorem lkX8_86 : ∀ w ∈ wsV RX8 86 RX5 yX5_allowHues [Cond.code yX5_allowHues cX5_allowHues 3 none], w ∈ zm_tb := zm_all [298, 299, 300, 28, 301] _ (by decide +kernel) (by decide +kernel)
theorem lkX8_90 : ∀ w ∈ wsV RX8 90 RX1 yX1_hasCell [Cond.code yX1_hasCell cX1_hasCell 2 (some .boolean)], w ∈ zm_tb := zm_all [314, 315, 316, 27, 317] _ (by decide +kernel) (by decide +kernel)
theorem lkX8_94 : ∀ w ∈ wsV RX8 94 RX5 yX5_allows [Cond.code yX5_allows cX5_allows 2 (some .boolean)], w ∈ zm_tb := zm_all [318, 303, 304, 28, 305] _ (by decide +kernel) (by decide +kernel)
theorem lkX8_101 : ∀ w ∈ wsV RX8 101 RX5 yX5_allowsFigures [Cond.code yX5_allowsFigures cX5_allowsFigures 5 (some .boolean)], w ∈ zm_tb := zm_all [323, 324, 325, 28, 326] _ (by decide +kernel) (by decide +kernel)
theorem lkX8_105 : ∀ w ∈ wsV RX8 105 RX5 yX5_dyeFigures [Cond.code yX5_dyeFigures cX5_dyeFigures 7 (some .int)], w ∈ zm_tb := zm_all [327, 328, 329, 28, 330] _ (by decide +kernel) (by decide +kernel)
theorem lkX8_109 : ∀ w ∈ wsV RX8 109 RX1 yX1_moveCount [Cond.code yX1_moveCount cX1_moveCount 1 (some .int)], w ∈ zm_tb := zm_all [339, 340, 341, 27, 342] _ (by decide +kernel) (by decide +kernel)
theorem lkX8_113 : ∀ w ∈ wsV RX8 113 RX1 yX1_hasMove [Cond.code yX1_hasMove cX1_hasMove 2 (some .boolean)], w ∈ zm_tb := zm_all [347, 348, 349, 27, 350] _ (by decide +kernel) (by decide +kernel)
theorem lkX8_116 : ∀ w ∈ wsV RX8 116 RX1 yX1_target [Cond.code yX1_target cX1_target 7 (some .int)], w ∈ zm_tb := zm_all [359, 265, 266, 27, 267] _ (by decide +kernel) (by decide +kernel)
theorem lkX8_120 : ∀ w ∈ wsV RX8 120 RX1 yX1_join [Cond.code yX1_join cX1_join 3 (some .int)], w ∈ zm_tb := zm_all [364, 365, 366, 27, 367] _ (by decide +kernel) (by decide +kernel)
theorem lkX8_123 : ∀ w ∈ wsV RX8 123 RX1 yX1_undoing [Cond.code yX1_undoing cX1_undoing 5 (some .int)], w ∈ zm_tb := zm_all [376, 377, 378, 27, 379] _ (by decide +kernel) (by decide +kernel)
theorem lkX8_127 : ∀ w ∈ wsV RX8 127 RX1 yX1_timesTillStill [Cond.code yX1_timesTillStill cX1_timesTillStill 4 (some .int)], w ∈ zm_tb := zm_all [387, 388, 389, 27, 390] _ (by decide +kernel) (by decide +kernel)
theorem lkX8_133 : ∀ w ∈ va_wsS RX8 133 yX8_oneIf [Cond.code yX8_oneIf cX8_oneIf 1 (some .int)], w ∈ zm_tb := zm_all [405, 406, 26, 407] _ (by decide +kernel) (by decide +kernel)
theorem lkX8_130 : ∀ w ∈ wsV RX8 130 RX5 yX5_isKeptBy [Cond.code yX5_isKeptBy cX5_isKeptBy 3 (some .boolean)], w ∈ zm_tb := zm_all [400, 401, 402, 28, 403] _ (by decide +kernel) (by decide +kernel)
theorem lkX8_137 : ∀ w ∈ wsV RX8 137 RX5 yX5_keepersOfAll [Cond.code yX5_keepersOfAll cX5_keepersOfAll 3 (some .int)], w ∈ zm_tb := zm_all [412, 413, 414, 28, 415] _ (by decide +kernel) (by decide +kernel)
theorem lkX8_140 : ∀ w ∈ wsV RX8 140 RX5 yX5_keepersOf [Cond.code yX5_keepersOf cX5_keepersOf 5 (some .int)], w ∈ zm_tb := zm_all [422, 417, 418, 28, 419] _ (by decide +kernel) (by decide +kernel)
theorem lkX8_143 : ∀ w ∈ wsV RX8 143 RX5 yX5_keeperNumber [Cond.code yX5_keeperNumber cX5_keeperNumber 4 (some .int)], w ∈ zm_tb := zm_all [427, 428, 429, 28, 430] _ (by decide +kernel) (by decide +kernel)
theorem lkX8_146 : ∀ w ∈ wsV RX8 146 RX5 yX5_moveBy [Cond.code yX5_moveBy cX5_moveBy 4 (some .int)], w ∈ zm_tb := zm_all [438, 439, 440, 28, 441] _ (by decide +kernel) (by decide +kernel)
theorem lkX8_149 : ∀ w ∈ wsV RX8 149 RX2 yX2_hasMirror [Cond.code yX2_hasMirror cX2_hasMirror 3 (some .boolean)], w ∈ zm_tb := zm_all [450, 451, 452, 29, 453] _ (by decide +kernel) (by decide +kernel)
theorem lkX8_152 : ∀ w ∈ wsV RX8 152 RX1 yX1_turnOf [Cond.code yX1_turnOf cX1_turnOf 2 (some .int)], w ∈ zm_tb := zm_all [466, 269, 270, 27, 271] _ (by decide +kernel) (by decide +kernel)
theorem lkX8_155 : ∀ w ∈ wsV RX8 155 RX1 yX1_shiftOf [Cond.code yX1_shiftOf cX1_shiftOf 2 (some .int)], w ∈ zm_tb := zm_all [467, 273, 274, 27, 275] _ (by decide +kernel) (by decide +kernel)
theorem lkX8_158 : ∀ w ∈ wsV RX8 158 RX2 yX2_isMirror [Cond.code yX2_isMirror cX2_isMirror 5 (some .boolean)], w ∈ zm_tb := zm_all [468, 456, 457, 29, 458] _ (by decide +kernel) (by decide +kernel)
theorem lkX8_161 : ∀ w ∈ wsV RX8 161 RX2 yX2_number [Cond.code yX2_number cX2_number 5 (some .int)], w ∈ zm_tb := zm_all [473, 474, 475, 29, 476] _ (by decide +kernel) (by decide +kernel)
theorem lkX8_164 : ∀ w ∈ wsV RX8 164 RX4 yX4_total [Cond.code yX4_total cX4_total 3 (some .int)], w ∈ zm_tb := zm_all [514, 515, 516, 30, 517] _ (by decide +kernel) (by decide +kernel)
theorem lkX8_167 : ∀ w ∈ wsV RX8 167 RX4 yX4_has [Cond.code yX4_has cX4_has 2 (some .boolean)], w ∈ zm_tb := zm_all [522, 523, 524, 30, 525] _ (by decide +kernel) (by decide +kernel)
theorem lkX8_170 : ∀ w ∈ wsV RX8 170 RX5 yX5_isHue [Cond.code yX5_isHue cX5_isHue 2 (some .boolean)], w ∈ zm_tb := zm_all [527, 307, 308, 28, 309] _ (by decide +kernel) (by decide +kernel)
theorem lkX8_173 : ∀ w ∈ wsV RX8 173 RX4 yX4_given [Cond.code yX4_given cX4_given 4 (some .int)], w ∈ zm_tb := zm_all [528, 529, 530, 30, 531] _ (by decide +kernel) (by decide +kernel)
theorem lkX8_176 : ∀ w ∈ wsV RX8 176 RX4 yX4_isKeptBy [Cond.code yX4_isKeptBy cX4_isKeptBy 6 (some .boolean)], w ∈ zm_tb := zm_all [538, 539, 540, 30, 541] _ (by decide +kernel) (by decide +kernel)
theorem lkX8_178 : ∀ w ∈ wsV RX8 178 RX4 yX4_leastFor [Cond.code yX4_leastFor cX4_leastFor 4 (some .int)], w ∈ zm_tb := zm_all [548, 549, 550, 30, 551] _ (by decide +kernel) (by decide +kernel)
theorem lkX8_181 : ∀ w ∈ wsV RX8 181 RX4 yX4_movesWithSome [Cond.code yX4_movesWithSome cX4_movesWithSome 3 (some .int)], w ∈ zm_tb := zm_all [564, 565, 566, 30, 567] _ (by decide +kernel) (by decide +kernel)
theorem lkX8_187 : ∀ w ∈ wsV RX8 187 RX7 yX7_add [Cond.code yX7_add cX7_add 2 none], w ∈ zm_tb := zm_all [575, 576, 577, 31, 578] _ (by decide +kernel) (by decide +kernel)
theorem lkX8_190 : ∀ w ∈ wsV RX8 190 RX7 yX7_movesMade [Cond.code yX7_movesMade cX7_movesMade 5 (some .int)], w ∈ zm_tb := zm_all [587, 588, 589, 31, 590] _ (by decide +kernel) (by decide +kernel)
theorem lkX8_193 : ∀ w ∈ wsV RX8 193 RX7 yX7_ringCount [Cond.code yX7_ringCount cX7_ringCount 3 (some .int)], w ∈ zm_tb := zm_all [596, 597, 598, 31, 599] _ (by decide +kernel) (by decide +kernel)
theorem lkX8_199 : ∀ w ∈ wsV RX8 199 RX7 yX7_paintRings [Cond.code yX7_paintRings cX7_paintRings 4 (some .int)], w ∈ zm_tb := zm_all [608, 609, 610, 31, 611] _ (by decide +kernel) (by decide +kernel)
theorem lkX8_202 : ∀ w ∈ wsV RX8 202 RX7 yX7_onlyHue [Cond.code yX7_onlyHue cX7_onlyHue 2 (some .int)], w ∈ zm_tb := zm_all [628, 629, 630, 31, 631] _ (by decide +kernel) (by decide +kernel)
theorem lkX8_205 : ∀ w ∈ wsV RX8 205 RX7 yX7_tornCount [Cond.code yX7_tornCount cX7_tornCount 3 (some .int)], w ∈ zm_tb := zm_all [640, 641, 642, 31, 643] _ (by decide +kernel) (by decide +kernel)
theorem lkX8_210 : ∀ w ∈ va_wsS RX8 210 yX0_power [Cond.code yX0_power cX0_power 5 (some .long)], w ∈ zm_tb := zm_all [649, 650, 32, 651] _ (by decide +kernel) (by decide +kernel)
theorem lkX8_214 : ∀ w ∈ wsV RX8 214 RX0 yX0_unlike [Cond.code yX0_unlike cX0_unlike 5 (some .long)], w ∈ zm_tb := zm_all [656, 657, 658, 32, 659] _ (by decide +kernel) (by decide +kernel)
theorem lkX8_218 : ∀ w ∈ wsV RX8 218 RX3 yX3_total [Cond.code yX3_total cX3_total 2 (some .int)], w ∈ zm_tb := zm_all [677, 678, 679, 33, 680] _ (by decide +kernel) (by decide +kernel)
theorem lkX8_219 : ∀ w ∈ wsV RX8 219 RX3 yX3_hueInFirst [Cond.code yX3_hueInFirst cX3_hueInFirst 2 (some .int)], w ∈ zm_tb := zm_all [687, 688, 689, 33, 690] _ (by decide +kernel) (by decide +kernel)
theorem lkX8_222 : ∀ w ∈ wsV RX8 222 RX3 yX3_moveToFirst [Cond.code yX3_moveToFirst cX3_moveToFirst 3 (some .int)], w ∈ zm_tb := zm_all [707, 692, 693, 33, 694] _ (by decide +kernel) (by decide +kernel)
theorem lkX8_225 : ∀ w ∈ wsV RX8 225 RX6 yX6_total [Cond.code yX6_total cX6_total 4 (some .int)], w ∈ zm_tb := zm_all [712, 713, 714, 34, 715] _ (by decide +kernel) (by decide +kernel)
theorem lkX8_227 : ∀ w ∈ wsV RX8 227 RX6 yX6_sizeAt [Cond.code yX6_sizeAt cX6_sizeAt 2 (some .int)], w ∈ zm_tb := zm_all [739, 740, 741, 34, 742] _ (by decide +kernel) (by decide +kernel)
theorem lkX8_230 : ∀ w ∈ wsV RX8 230 RX5 yX5_hiddenCount [Cond.code yX5_hiddenCount cX5_hiddenCount 3 (some .int)], w ∈ zm_tb := zm_all [747, 748, 749, 28, 750] _ (by decide +kernel) (by decide +kernel)
theorem lkX8_233 : ∀ w ∈ wsV RX8 233 RX5 yX5_usedHues [Cond.code yX5_usedHues cX5_usedHues 3 (some .int)], w ∈ zm_tb := zm_all [751, 752, 753, 28, 754] _ (by decide +kernel) (by decide +kernel)
theorem lkX9_76 : ∀ w ∈ va_wsS RX9 76 yX9_in [Cond.code yX9_in cX9_in 6 (some .boolean)], w ∈ zm_tb := zm_all [839, 840, 35, 841] _ (by decide +kernel) (by decide +kernel)
theorem lkX9_72 : ∀ w ∈ wsV RX9 72 RX9 yX9_cells [Cond.code yX9_cells cX9_cells 1 (some .int)], w ∈ zm_tb := zm_all [847, 849, 0, 35, 850] _ (by decide +kernel) (by decide +kernel)
theorem lkX9_80 : ∀ w ∈ wsV RX9 80 RX9 yX9_isTurn [Cond.code yX9_isTurn cX9_isTurn 3 (some .boolean)], w ∈ zm_tb := zm_all [884, 886, 4, 35, 887] _ (by decide +kernel) (by decide +kernel)
theorem lkX9_84 : ∀ w ∈ va_wsS RX9 84 yX9_turnedX [Cond.code yX9_turnedX cX9_turnedX 3 (some .int)], w ∈ zm_tb := zm_all [892, 893, 35, 894] _ (by decide +kernel) (by decide +kernel)
theorem lkX9_88 : ∀ w ∈ va_wsS RX9 88 yX9_rest [Cond.code yX9_rest cX9_rest 3 (some .int)], w ∈ zm_tb := zm_all [895, 896, 35, 897] _ (by decide +kernel) (by decide +kernel)
theorem lkX9_92 : ∀ w ∈ va_wsS RX9 92 yX9_turnedY [Cond.code yX9_turnedY cX9_turnedY 3 (some .int)], w ∈ zm_tb := zm_all [898, 899, 35, 900] _ (by decide +kernel) (by decide +kernel)
theorem lkX9_102 : ∀ w ∈ wsV RX9 102 RX9 yX9_noCell [Cond.code yX9_noCell cX9_noCell 2 (some .boolean)], w ∈ zm_tb := zm_all [855, 857, 1, 35, 858] _ (by decide +kernel) (by decide +kernel)
theorem lkX9_105 : ∀ w ∈ wsV RX9 105 RX9 yX9_isColour [Cond.code yX9_isColour cX9_isColour 2 (some .boolean)], w ∈ zm_tb := zm_all [859, 861, 2, 35, 862] _ (by decide +kernel) (by decide +kernel)
theorem lkX9_110 : ∀ w ∈ wsV RX9 110 RX9 yX9_noMove [Cond.code yX9_noMove cX9_noMove 2 (some .boolean)], w ∈ zm_tb := zm_all [880, 882, 3, 35, 883] _ (by decide +kernel) (by decide +kernel)
theorem lkX9_113 : ∀ w ∈ wsV RX9 113 RX9 yX9_ledTo [Cond.code yX9_ledTo cX9_ledTo 7 (some .int)], w ∈ zm_tb := zm_all [888, 890, 5, 35, 891] _ (by decide +kernel) (by decide +kernel)
theorem lkX9_116 : ∀ w ∈ va_wsS RX9 116 yX9_turnOf [Cond.code yX9_turnOf cX9_turnOf 8 (some .int)], w ∈ zm_tb := zm_all [909, 910, 35, 911] _ (by decide +kernel) (by decide +kernel)
theorem lkX9_119 : ∀ w ∈ wsV RX9 119 RX9 yX9_two [Cond.code yX9_two cX9_two 4 (some .int)], w ∈ zm_tb := zm_all [905, 907, 6, 35, 908] _ (by decide +kernel) (by decide +kernel)
theorem lkX9_122 : ∀ w ∈ wsV RX9 122 RX9 yX9_keepsIt [Cond.code yX9_keepsIt cX9_keepsIt 4 (some .boolean)], w ∈ zm_tb := zm_all [924, 926, 7, 35, 927] _ (by decide +kernel) (by decide +kernel)
theorem lkX9_127 : ∀ w ∈ wsV RX9 127 RX9 yX9_layShifts [Cond.code yX9_layShifts cX9_layShifts 3 (some .int)], w ∈ zm_tb := zm_all [945, 947, 8, 35, 948] _ (by decide +kernel) (by decide +kernel)
theorem lkX9_130 : ∀ w ∈ wsV RX9 130 RX9 yX9_isMirror [Cond.code yX9_isMirror cX9_isMirror 5 (some .boolean)], w ∈ zm_tb := zm_all [958, 960, 10, 35, 961] _ (by decide +kernel) (by decide +kernel)
theorem lkX9_135 : ∀ w ∈ wsV RX9 135 RX9 yX9_isMirrored [Cond.code yX9_isMirrored cX9_isMirrored 5 (some .boolean)], w ∈ zm_tb := zm_all [954, 956, 9, 35, 957] _ (by decide +kernel) (by decide +kernel)
theorem lkX9_138 : ∀ w ∈ wsV RX9 138 RX9 yX9_isBehindShift [Cond.code yX9_isBehindShift cX9_isBehindShift 9 (some .boolean)], w ∈ zm_tb := zm_all [978, 980, 13, 35, 981] _ (by decide +kernel) (by decide +kernel)
theorem lkX9_141 : ∀ w ∈ wsV RX9 141 RX9 yX9_fits [Cond.code yX9_fits cX9_fits 4 (some .boolean)], w ∈ zm_tb := zm_all [970, 972, 11, 35, 973] _ (by decide +kernel) (by decide +kernel)
theorem lkX9_144 : ∀ w ∈ wsV RX9 144 RX9 yX9_allBehind [Cond.code yX9_allBehind cX9_allBehind 5 (some .boolean)], w ∈ zm_tb := zm_all [974, 976, 12, 35, 977] _ (by decide +kernel) (by decide +kernel)
theorem lkX9_147 : ∀ w ∈ wsV RX9 147 RX9 yX9_paintMany [Cond.code yX9_paintMany cX9_paintMany 3 (some .int)], w ∈ zm_tb := zm_all [986, 988, 14, 35, 989] _ (by decide +kernel) (by decide +kernel)
theorem lkX9_150 : ∀ w ∈ wsV RX9 150 RX9 yX9_noPaint [Cond.code yX9_noPaint cX9_noPaint 2 (some .boolean)], w ∈ zm_tb := zm_all [994, 996, 15, 35, 997] _ (by decide +kernel) (by decide +kernel)
theorem lkX9_153 : ∀ w ∈ wsV RX9 153 RX9 yX9_lay [Cond.code yX9_lay cX9_lay 8 none], w ∈ zm_tb := zm_all [998, 1000, 16, 35, 1001] _ (by decide +kernel) (by decide +kernel)
theorem lkX9_157 : ∀ w ∈ wsV RX9 157 RX9 yX9_keepsPainted [Cond.code yX9_keepsPainted cX9_keepsPainted 5 (some .boolean)], w ∈ zm_tb := zm_all [1006, 1008, 17, 35, 1009] _ (by decide +kernel) (by decide +kernel)
theorem lkX9_160 : ∀ w ∈ wsV RX9 160 RX9 yX9_leastPaint [Cond.code yX9_leastPaint cX9_leastPaint 3 (some .int)], w ∈ zm_tb := zm_all [1014, 1016, 18, 35, 1017] _ (by decide +kernel) (by decide +kernel)
theorem lkX9_164 : ∀ w ∈ wsV RX9 164 RX9 yX9_layRings [Cond.code yX9_layRings cX9_layRings 7 (some .int)], w ∈ zm_tb := zm_all [1038, 1040, 19, 35, 1041] _ (by decide +kernel) (by decide +kernel)
theorem lkX9_167 : ∀ w ∈ wsV RX9 167 RX9 yX9_reckon [Cond.code yX9_reckon cX9_reckon 4 (some .int)], w ∈ zm_tb := zm_all [1054, 1056, 21, 35, 1057] _ (by decide +kernel) (by decide +kernel)
theorem lkX9_170 : ∀ w ∈ wsV RX9 170 RX9 yX9_mostOf [Cond.code yX9_mostOf cX9_mostOf 4 (some .int)], w ∈ zm_tb := zm_all [1050, 1052, 20, 35, 1053] _ (by decide +kernel) (by decide +kernel)
theorem lkX9_175 : ∀ w ∈ wsV RX9 175 RX9 yX9_power [Cond.code yX9_power cX9_power 5 (some .long)], w ∈ zm_tb := zm_all [1071, 1073, 22, 35, 1074] _ (by decide +kernel) (by decide +kernel)
theorem lkX9_179 : ∀ w ∈ wsV RX9 179 RX9 yX9_layFirst [Cond.code yX9_layFirst cX9_layFirst 5 (some .int)], w ∈ zm_tb := zm_all [1087, 1089, 23, 35, 1090] _ (by decide +kernel) (by decide +kernel)
theorem lkX9_185 : ∀ w ∈ wsV RX9 185 RX9 yX9_layPieces [Cond.code yX9_layPieces cX9_layPieces 10 none], w ∈ zm_tb := zm_all [1099, 1101, 24, 35, 1102] _ (by decide +kernel) (by decide +kernel)
theorem fkX1_18 : Cond.fieldLink RX1 18 (TX1 2).1 (TX1 2).2.1 (TX1 2).2.2.1 ∈ zm_tb := zm_tb_in 54 (by decide +kernel) (by decide +kernel)
theorem fkX1_9 : Cond.fieldLink RX1 9 (TX1 0).1 (TX1 0).2.1 (TX1 0).2.2.1 ∈ zm_tb := zm_tb_in 51 (by decide +kernel) (by decide +kernel)
theorem fkX1_15 : Cond.fieldLink RX1 15 (TX1 1).1 (TX1 1).2.1 (TX1 1).2.2.1 ∈ zm_tb := zm_tb_in 53 (by decide +kernel) (by decide +kernel)
theorem fkX0_15 : Cond.fieldLink RX0 15 (TX0 0).1 (TX0 0).2.1 (TX0 0).2.2.1 ∈ zm_tb := zm_tb_in 164 (by decide +kernel) (by decide +kernel)
theorem fkX0_40 : (RX0, 40, (TX1 2).1, (TX1 2).2.1, (TX1 2).2.2.1, "PaperRepeats") ∈ zm_NW := by decide +kernel
theorem fkX0_9 : Cond.fieldLink RX0 9 (TX0 1).1 (TX0 1).2.1 (TX0 1).2.2.1 ∈ zm_tb := zm_tb_in 165 (by decide +kernel) (by decide +kernel)
theorem fkX2_9 : Cond.fieldLink RX2 9 (TX2 0).1 (TX2 0).2.1 (TX2 0).2.2.1 ∈ zm_tb := zm_tb_in 104 (by decide +kernel) (by decide +kernel)
theorem fkX2_28 : (RX2, 28, (TX1 0).1, (TX1 0).2.1, (TX1 0).2.2.1, "PaperRepeats") ∈ zm_NW := by decide +kernel
theorem fkX5_22 : Cond.fieldLink RX5 22 (TX5 0).1 (TX5 0).2.1 (TX5 0).2.2.1 ∈ zm_tb := zm_tb_in 76 (by decide +kernel) (by decide +kernel)
theorem fkX5_30 : (RX5, 30, (TX1 2).1, (TX1 2).2.1, (TX1 2).2.2.1, "PaperRepeats") ∈ zm_NW := by decide +kernel
theorem fkX5_9 : Cond.fieldLink RX5 9 (TX5 1).1 (TX5 1).2.1 (TX5 1).2.2.1 ∈ zm_tb := zm_tb_in 77 (by decide +kernel) (by decide +kernel)
theorem fkX2_40 : (RX2, 40, (TX1 2).1, (TX1 2).2.1, (TX1 2).2.2.1, "PaperRepeats") ∈ zm_NW := by decide +kernel
theorem fkX2_15 : Cond.fieldLink RX2 15 (TX2 1).1 (TX2 1).2.1 (TX2 1).2.2.1 ∈ zm_tb := zm_tb_in 105 (by decide +kernel) (by decide +kernel)
theorem fkX3_13 : Cond.fieldLink RX3 13 (TX3 1).1 (TX3 1).2.1 (TX3 1).2.2.1 ∈ zm_tb := zm_tb_in 178 (by decide +kernel) (by decide +kernel)
theorem fkX3_7 : Cond.fieldLink RX3 7 (TX3 0).1 (TX3 0).2.1 (TX3 0).2.2.1 ∈ zm_tb := zm_tb_in 177 (by decide +kernel) (by decide +kernel)
theorem fkX3_54 : (RX3, 54, (TX1 2).1, (TX1 2).2.1, (TX1 2).2.2.1, "PaperRepeats") ∈ zm_NW := by decide +kernel
theorem fkX3_28 : (RX3, 28, (TX5 1).1, (TX5 1).2.1, (TX5 1).2.2.1, "PaperRepeats") ∈ zm_NW := by decide +kernel
theorem fkX4_19 : Cond.fieldLink RX4 19 (TX4 1).1 (TX4 1).2.1 (TX4 1).2.2.1 ∈ zm_tb := zm_tb_in 118 (by decide +kernel) (by decide +kernel)
theorem fkX4_23 : (RX4, 23, (TX5 3).1, (TX5 3).2.1, (TX5 3).2.2.1, "PaperRepeats") ∈ zm_NW := by decide +kernel
theorem fkX4_15 : Cond.fieldLink RX4 15 (TX4 0).1 (TX4 0).2.1 (TX4 0).2.2.1 ∈ zm_tb := zm_tb_in 117 (by decide +kernel) (by decide +kernel)
theorem fkX4_36 : (RX4, 36, (TX1 2).1, (TX1 2).2.1, (TX1 2).2.2.1, "PaperRepeats") ∈ zm_NW := by decide +kernel
theorem fkX4_41 : (RX4, 41, (TX5 1).1, (TX5 1).2.1, (TX5 1).2.2.1, "PaperRepeats") ∈ zm_NW := by decide +kernel
theorem fkX4_9 : Cond.fieldLink RX4 9 (TX4 2).1 (TX4 2).2.1 (TX4 2).2.2.1 ∈ zm_tb := zm_tb_in 119 (by decide +kernel) (by decide +kernel)
theorem fkX5_18 : Cond.fieldLink RX5 18 (TX5 3).1 (TX5 3).2.1 (TX5 3).2.2.1 ∈ zm_tb := zm_tb_in 84 (by decide +kernel) (by decide +kernel)
theorem fkJ6_265 : Cond.constant RJ6 265 (1431655765) ∈ zm_tb := zm_tb_in 758 (by decide +kernel) (by decide +kernel)
theorem fkJ6_266 : Cond.constant RJ6 266 (858993459) ∈ zm_tb := zm_tb_in 759 (by decide +kernel) (by decide +kernel)
theorem fkJ6_267 : Cond.constant RJ6 267 (252645135) ∈ zm_tb := zm_tb_in 760 (by decide +kernel) (by decide +kernel)
theorem fkX5_15 : Cond.fieldLink RX5 15 (TX5 2).1 (TX5 2).2.1 (TX5 2).2.2.1 ∈ zm_tb := zm_tb_in 83 (by decide +kernel) (by decide +kernel)
theorem fkX6_25 : Cond.fieldLink RX6 25 (TX6 0).1 (TX6 0).2.1 (TX6 0).2.2.1 ∈ zm_tb := zm_tb_in 190 (by decide +kernel) (by decide +kernel)
theorem fkX6_36 : (RX6, 36, (TX1 2).1, (TX1 2).2.1, (TX1 2).2.2.1, "PaperRepeats") ∈ zm_NW := by decide +kernel
theorem fkX6_15 : Cond.fieldLink RX6 15 (TX6 3).1 (TX6 3).2.1 (TX6 3).2.2.1 ∈ zm_tb := zm_tb_in 193 (by decide +kernel) (by decide +kernel)
theorem fkX6_19 : Cond.fieldLink RX6 19 (TX6 4).1 (TX6 4).2.1 (TX6 4).2.2.1 ∈ zm_tb := zm_tb_in 194 (by decide +kernel) (by decide +kernel)
theorem fkX6_22 : Cond.fieldLink RX6 22 (TX6 5).1 (TX6 5).2.1 (TX6 5).2.2.1 ∈ zm_tb := zm_tb_in 195 (by decide +kernel) (by decide +kernel)
theorem fkX6_9 : Cond.fieldLink RX6 9 (TX6 2).1 (TX6 2).2.1 (TX6 2).2.2.1 ∈ zm_tb := zm_tb_in 192 (by decide +kernel) (by decide +kernel)
theorem fkX6_55 : Cond.fieldLink RX6 55 (TX6 6).1 (TX6 6).2.1 (TX6 6).2.2.1 ∈ zm_tb := zm_tb_in 196 (by decide +kernel) (by decide +kernel)
theorem fkX6_29 : Cond.fieldLink RX6 29 (TX6 1).1 (TX6 1).2.1 (TX6 1).2.2.1 ∈ zm_tb := zm_tb_in 191 (by decide +kernel) (by decide +kernel)
theorem fkX6_42 : (RX6, 42, (TX5 1).1, (TX5 1).2.1, (TX5 1).2.2.1, "PaperRepeats") ∈ zm_NW := by decide +kernel
theorem fkX6_51 : Cond.fieldLink RX6 51 (TX6 7).1 (TX6 7).2.1 (TX6 7).2.2.1 ∈ zm_tb := zm_tb_in 197 (by decide +kernel) (by decide +kernel)
theorem fkX7_15 : Cond.fieldLink RX7 15 (TX7 3).1 (TX7 3).2.1 (TX7 3).2.2.1 ∈ zm_tb := zm_tb_in 136 (by decide +kernel) (by decide +kernel)
theorem fkX7_18 : Cond.fieldLink RX7 18 (TX7 4).1 (TX7 4).2.1 (TX7 4).2.2.1 ∈ zm_tb := zm_tb_in 138 (by decide +kernel) (by decide +kernel)
theorem fkX7_33 : Cond.fieldLink RX7 33 (TX7 6).1 (TX7 6).2.1 (TX7 6).2.2.1 ∈ zm_tb := zm_tb_in 140 (by decide +kernel) (by decide +kernel)
theorem fkX7_25 : Cond.fieldLink RX7 25 (TX7 0).1 (TX7 0).2.1 (TX7 0).2.2.1 ∈ zm_tb := zm_tb_in 133 (by decide +kernel) (by decide +kernel)
theorem fkX7_9 : Cond.fieldLink RX7 9 (TX7 2).1 (TX7 2).2.1 (TX7 2).2.2.1 ∈ zm_tb := zm_tb_in 135 (by decide +kernel) (by decide +kernel)
theorem fkX7_40 : (RX7, 40, (TX1 2).1, (TX1 2).2.1, (TX1 2).2.2.1, "PaperRepeats") ∈ zm_NW := by decide +kernel
theorem fkX7_21 : Cond.fieldLink RX7 21 (TX7 5).1 (TX7 5).2.1 (TX7 5).2.2.1 ∈ zm_tb := zm_tb_in 139 (by decide +kernel) (by decide +kernel)
theorem fkX7_29 : Cond.fieldLink RX7 29 (TX7 1).1 (TX7 1).2.1 (TX7 1).2.2.1 ∈ zm_tb := zm_tb_in 134 (by decide +kernel) (by decide +kernel)
theorem fkX7_56 : (RX7, 56, (TX5 1).1, (TX5 1).2.1, (TX5 1).2.2.1, "PaperRepeats") ∈ zm_NW := by decide +kernel
theorem fkX7_61 : (RX7, 61, (TX5 3).1, (TX5 3).2.1, (TX5 3).2.2.1, "PaperRepeats") ∈ zm_NW := by decide +kernel
theorem fkX8_10 : Cond.fieldLink RX8 10 (TX8 0).1 (TX8 0).2.1 (TX8 0).2.2.1 ∈ zm_tb := zm_tb_in 215 (by decide +kernel) (by decide +kernel)
theorem fkX8_21 : Cond.fieldLink RX8 21 (TX8 1).1 (TX8 1).2.1 (TX8 1).2.2.1 ∈ zm_tb := zm_tb_in 216 (by decide +kernel) (by decide +kernel)
theorem fkX8_44 : Cond.fieldLink RX8 44 (TX8 4).1 (TX8 4).2.1 (TX8 4).2.2.1 ∈ zm_tb := zm_tb_in 219 (by decide +kernel) (by decide +kernel)
theorem fkX8_79 : (RX8, 79, (TX1 2).1, (TX1 2).2.1, (TX1 2).2.2.1, "PaperRepeats") ∈ zm_NW := by decide +kernel
theorem fkX8_83 : (RX8, 83, (TX5 3).1, (TX5 3).2.1, (TX5 3).2.2.1, "PaperRepeats") ∈ zm_NW := by decide +kernel
theorem fkX8_97 : (RX8, 97, (TX5 1).1, (TX5 1).2.1, (TX5 1).2.2.1, "PaperRepeats") ∈ zm_NW := by decide +kernel
theorem fkX8_30 : Cond.fieldLink RX8 30 (TX8 2).1 (TX8 2).2.1 (TX8 2).2.2.1 ∈ zm_tb := zm_tb_in 217 (by decide +kernel) (by decide +kernel)
theorem fkX8_37 : Cond.fieldLink RX8 37 (TX8 3).1 (TX8 3).2.1 (TX8 3).2.2.1 ∈ zm_tb := zm_tb_in 218 (by decide +kernel) (by decide +kernel)
theorem fkX8_184 : (RX8, 184, (TX7 6).1, (TX7 6).2.1, (TX7 6).2.2.1, "PaperRepeats") ∈ zm_NW := by decide +kernel
theorem fkX8_196 : (RX8, 196, (TX7 3).1, (TX7 3).2.1, (TX7 3).2.2.1, "PaperRepeats") ∈ zm_NW := by decide +kernel
theorem fkX8_208 : Cond.constantLong RX8 208 (-3) ∈ zm_tb := zm_tb_in 648 (by decide +kernel) (by decide +kernel)
theorem fkX8_51 : Cond.fieldLink RX8 51 (TX8 5).1 (TX8 5).2.1 (TX8 5).2.2.1 ∈ zm_tb := zm_tb_in 220 (by decide +kernel) (by decide +kernel)
theorem fkX8_58 : Cond.fieldLink RX8 58 (TX8 6).1 (TX8 6).2.1 (TX8 6).2.2.1 ∈ zm_tb := zm_tb_in 221 (by decide +kernel) (by decide +kernel)
theorem fkX8_65 : Cond.fieldLink RX8 65 (TX8 7).1 (TX8 7).2.1 (TX8 7).2.2.1 ∈ zm_tb := zm_tb_in 222 (by decide +kernel) (by decide +kernel)
theorem fkX9_7 : Cond.fieldLink RX9 7 (TX9 1).1 (TX9 1).2.1 (TX9 1).2.2.1 ∈ zm_tb := zm_tb_in 768 (by decide +kernel) (by decide +kernel)
theorem fkX9_13 : Cond.fieldLink RX9 13 (TX9 2).1 (TX9 2).2.1 (TX9 2).2.2.1 ∈ zm_tb := zm_tb_in 769 (by decide +kernel) (by decide +kernel)
theorem fkX9_69 : Cond.fieldLink RX9 69 (TX9 0).1 (TX9 0).2.1 (TX9 0).2.2.1 ∈ zm_tb := zm_tb_in 767 (by decide +kernel) (by decide +kernel)
theorem fkX9_95 : Cond.constantLong RX9 95 (6) ∈ zm_tb := zm_tb_in 838 (by decide +kernel) (by decide +kernel)
theorem fkX9_19 : Cond.fieldLink RX9 19 (TX9 4).1 (TX9 4).2.1 (TX9 4).2.2.1 ∈ zm_tb := zm_tb_in 771 (by decide +kernel) (by decide +kernel)
theorem fkX9_97 : Cond.fieldLink RX9 97 (TX9 10).1 (TX9 10).2.1 (TX9 10).2.2.1 ∈ zm_tb := zm_tb_in 777 (by decide +kernel) (by decide +kernel)
theorem fkX9_100 : Cond.constantLong RX9 100 (4) ∈ zm_tb := zm_tb_in 846 (by decide +kernel) (by decide +kernel)
theorem fkX9_16 : Cond.fieldLink RX9 16 (TX9 3).1 (TX9 3).2.1 (TX9 3).2.2.1 ∈ zm_tb := zm_tb_in 770 (by decide +kernel) (by decide +kernel)
theorem fkX9_108 : Cond.constantLong RX9 108 (9) ∈ zm_tb := zm_tb_in 867 (by decide +kernel) (by decide +kernel)
theorem fkX9_23 : Cond.fieldLink RX9 23 (TX9 5).1 (TX9 5).2.1 (TX9 5).2.2.1 ∈ zm_tb := zm_tb_in 772 (by decide +kernel) (by decide +kernel)
theorem fkX9_125 : Cond.constantLong RX9 125 (8) ∈ zm_tb := zm_tb_in 932 (by decide +kernel) (by decide +kernel)
theorem fkX9_45 : Cond.fieldLink RX9 45 (TX9 13).1 (TX9 13).2.1 (TX9 13).2.2.1 ∈ zm_tb := zm_tb_in 780 (by decide +kernel) (by decide +kernel)
theorem fkX9_133 : Cond.constantLong RX9 133 (7) ∈ zm_tb := zm_tb_in 953 (by decide +kernel) (by decide +kernel)
theorem fkX9_48 : Cond.fieldLink RX9 48 (TX9 14).1 (TX9 14).2.1 (TX9 14).2.2.1 ∈ zm_tb := zm_tb_in 781 (by decide +kernel) (by decide +kernel)
theorem fkX9_35 : Cond.fieldLink RX9 35 (TX9 9).1 (TX9 9).2.1 (TX9 9).2.2.1 ∈ zm_tb := zm_tb_in 776 (by decide +kernel) (by decide +kernel)
theorem fkX9_38 : Cond.fieldLink RX9 38 (TX9 11).1 (TX9 11).2.1 (TX9 11).2.2.1 ∈ zm_tb := zm_tb_in 778 (by decide +kernel) (by decide +kernel)
theorem fkX9_42 : Cond.fieldLink RX9 42 (TX9 12).1 (TX9 12).2.1 (TX9 12).2.2.1 ∈ zm_tb := zm_tb_in 779 (by decide +kernel) (by decide +kernel)
theorem fkX9_29 : Cond.fieldLink RX9 29 (TX9 7).1 (TX9 7).2.1 (TX9 7).2.2.1 ∈ zm_tb := zm_tb_in 774 (by decide +kernel) (by decide +kernel)
theorem fkX9_32 : Cond.fieldLink RX9 32 (TX9 8).1 (TX9 8).2.1 (TX9 8).2.2.1 ∈ zm_tb := zm_tb_in 775 (by decide +kernel) (by decide +kernel)
theorem fkX9_173 : Cond.constantLong RX9 173 (-3) ∈ zm_tb := zm_tb_in 1070 (by decide +kernel) (by decide +kernel)
theorem fkX9_66 : Cond.fieldLink RX9 66 (TX9 21).1 (TX9 21).2.1 (TX9 21).2.2.1 ∈ zm_tb := zm_tb_in 788 (by decide +kernel) (by decide +kernel)
theorem fkX9_26 : Cond.fieldLink RX9 26 (TX9 6).1 (TX9 6).2.1 (TX9 6).2.2.1 ∈ zm_tb := zm_tb_in 773 (by decide +kernel) (by decide +kernel)
theorem fkX9_182 : Cond.fieldLink RX9 182 (TX9 20).1 (TX9 20).2.1 (TX9 20).2.2.1 ∈ zm_tb := zm_tb_in 787 (by decide +kernel) (by decide +kernel)
theorem fkX9_51 : Cond.fieldLink RX9 51 (TX9 15).1 (TX9 15).2.1 (TX9 15).2.2.1 ∈ zm_tb := zm_tb_in 782 (by decide +kernel) (by decide +kernel)
theorem fkX9_60 : Cond.fieldLink RX9 60 (TX9 18).1 (TX9 18).2.1 (TX9 18).2.2.1 ∈ zm_tb := zm_tb_in 785 (by decide +kernel) (by decide +kernel)
theorem fkX9_54 : Cond.fieldLink RX9 54 (TX9 16).1 (TX9 16).2.1 (TX9 16).2.2.1 ∈ zm_tb := zm_tb_in 783 (by decide +kernel) (by decide +kernel)
theorem fkX9_57 : Cond.fieldLink RX9 57 (TX9 17).1 (TX9 17).2.1 (TX9 17).2.2.1 ∈ zm_tb := zm_tb_in 784 (by decide +kernel) (by decide +kernel)
theorem fkX9_63 : Cond.fieldLink RX9 63 (TX9 19).1 (TX9 19).2.1 (TX9 19).2.2.1 ∈ zm_tb := zm_tb_in 786 (by decide +kernel) (by decide +kernel)
