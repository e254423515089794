/-! printed by program out of the code: methods, shapes, links -/
def mX7_init : mv_M := (yX7_init, cX7_init, 2, none, 1, 18)
def mX2_init : mv_M := (yX2_init, cX2_init, 2, none, 1, 6)
def mX1_init : mv_M := (yX1_init, cX1_init, 1, none, 10, 81)
def mX4_init : mv_M := (yX4_init, cX4_init, 1, none, 3, 66)
def mX8_init : mv_M := (yX8_init, cX8_init, 1, none, 0, 0)
def mX6_init : mv_M := (yX6_init, cX6_init, 1, none, 1, 6)
def mX0_init : mv_M := (yX0_init, cX0_init, 1, none, 4, 140)
def mX3_init : mv_M := (yX3_init, cX3_init, 1, none, 3, 18)
def mX5_init : mv_M := (yX5_init, cX5_init, 1, none, 4, 24)
def mX9_init : mv_M := (yX9_init, cX9_init, 1, none, 54, 555)
def mX10_init : mv_M := (yX10_init, cX10_init, 1, none, 27, 8677)
def mX9_box : mv_M := (yX9_box, cX9_box, 5, some .int, 0, 0)
def mX9_putSolid : mv_M := (yX9_putSolid, cX9_putSolid, 6, some .int, 0, 0)
def mX9_isNumber : mv_M := (yX9_isNumber, cX9_isNumber, 1, some .boolean, 0, 0)
def mX9_isSide : mv_M := (yX9_isSide, cX9_isSide, 1, some .boolean, 0, 0)
def mX9_isWithin : mv_M := (yX9_isWithin, cX9_isWithin, 3, some .boolean, 0, 0)
def mX7_put : mv_M := (yX7_put, cX7_put, 5, none, 0, 0)
def mX7_count : mv_M := (yX7_count, cX7_count, 1, some .int, 0, 0)
def mJ6_bitCount_0f7a4 : mv_M := (yJ6_bitCount_0f7a4, cJ6_bitCount_0f7a4, 1, some .int, 0, 0)
def mX10_box : mv_M := (yX10_box, cX10_box, 5, some .int, 0, 0)
def mX10_isNumber : mv_M := (yX10_isNumber, cX10_isNumber, 1, some .boolean, 0, 0)
def mX10_in : mv_M := (yX10_in, cX10_in, 6, some .boolean, 0, 0)
def mX10_areSides : mv_M := (yX10_areSides, cX10_areSides, 3, some .boolean, 0, 0)
def mX10_putBox : mv_M := (yX10_putBox, cX10_putBox, 5, none, 0, 0)
def mX10_ones : mv_M := (yX10_ones, cX10_ones, 3, some .int, 0, 0)
def mX9_thing : mv_M := (yX9_thing, cX9_thing, 5, some .int, 0, 0)
def mX10_thing : mv_M := (yX10_thing, cX10_thing, 5, some .int, 0, 0)
def mX10_putThing : mv_M := (yX10_putThing, cX10_putThing, 5, none, 0, 0)
def mX9_sheet : mv_M := (yX9_sheet, cX9_sheet, 4, some .int, 0, 0)
def mX10_sheet : mv_M := (yX10_sheet, cX10_sheet, 4, some .int, 0, 0)
def mX10_putSheet : mv_M := (yX10_putSheet, cX10_putSheet, 4, none, 0, 0)
def mX9_drop : mv_M := (yX9_drop, cX9_drop, 4, some .int, 0, 0)
def mX1_shelf : mv_M := (yX1_shelf, cX1_shelf, 2, some (.object "PaperBoxes$Shelf"), 0, 0)
def mX7_has : mv_M := (yX7_has, cX7_has, 2, some .boolean, 0, 0)
def mX9_isIn : mv_M := (yX9_isIn, cX9_isIn, 2, some .boolean, 0, 0)
def mX7_remove : mv_M := (yX7_remove, cX7_remove, 2, none, 0, 0)
def mX10_drop : mv_M := (yX10_drop, cX10_drop, 4, some .int, 0, 0)
def mX10_isBox : mv_M := (yX10_isBox, cX10_isBox, 2, some .boolean, 0, 0)
def mX10_isThing : mv_M := (yX10_isThing, cX10_isThing, 2, some .boolean, 0, 0)
def mX10_isSheet : mv_M := (yX10_isSheet, cX10_isSheet, 2, some .boolean, 0, 0)
def mX9_set : mv_M := (yX9_set, cX9_set, 4, some .int, 0, 0)
def mX1_setting : mv_M := (yX1_setting, cX1_setting, 2, some .int, 0, 0)
def mX1_change : mv_M := (yX1_change, cX1_change, 3, none, 0, 0)
def mX10_set : mv_M := (yX10_set, cX10_set, 5, some .int, 0, 0)
def mX9_say : mv_M := (yX9_say, cX9_say, 2, some .int, 0, 0)
def mX4_add : mv_M := (yX4_add, cX4_add, 2, some .boolean, 0, 0)
def mX4_count : mv_M := (yX4_count, cX4_count, 1, some .int, 0, 0)
def mX10_say : mv_M := (yX10_say, cX10_say, 2, some .int, 0, 0)
def mX9_wipe : mv_M := (yX9_wipe, cX9_wipe, 2, some .int, 0, 0)
def mX4_clear : mv_M := (yX4_clear, cX4_clear, 1, none, 0, 0)
def mX10_wipe : mv_M := (yX10_wipe, cX10_wipe, 2, some .int, 0, 0)
def mX9_fault : mv_M := (yX9_fault, cX9_fault, 1, some .int, 0, 0)
def mX4_scan : mv_M := (yX4_scan, cX4_scan, 3, some .int, 0, 0)
def mX4_startList : mv_M := (yX4_startList, cX4_startList, 2, none, 0, 0)
def mX4_accepts : mv_M := (yX4_accepts, cX4_accepts, 3, some .boolean, 0, 0)
def mX4_acceptsLetter : mv_M := (yX4_acceptsLetter, cX4_acceptsLetter, 2, some .boolean, 0, 0)
def mX4_startPart : mv_M := (yX4_startPart, cX4_startPart, 4, none, 0, 0)
def mX4_keepNumber : mv_M := (yX4_keepNumber, cX4_keepNumber, 1, none, 0, 0)
def mX4_acceptsDigit : mv_M := (yX4_acceptsDigit, cX4_acceptsDigit, 3, some .boolean, 0, 0)
def mX4_endPart : mv_M := (yX4_endPart, cX4_endPart, 2, none, 0, 0)
def mX10_fault : mv_M := (yX10_fault, cX10_fault, 3, some .int, 0, 0)
def mX10_readSort : mv_M := (yX10_readSort, cX10_readSort, 2, some .boolean, 0, 0)
def mX10_readMore : mv_M := (yX10_readMore, cX10_readMore, 4, some .boolean, 0, 0)
def mX9_lay : mv_M := (yX9_lay, cX9_lay, 2, some .int, 0, 0)
def mX4_hasPlaceIn : mv_M := (yX4_hasPlaceIn, cX4_hasPlaceIn, 3, some .boolean, 0, 0)
def mX7_putAtFirstFree : mv_M := (yX7_putAtFirstFree, cX7_putAtFirstFree, 5, none, 0, 0)
def mX4_parts : mv_M := (yX4_parts, cX4_parts, 1, some .int, 0, 0)
def mX10_lay : mv_M := (yX10_lay, cX10_lay, 5, some .int, 0, 0)
def mX10_countOf : mv_M := (yX10_countOf, cX10_countOf, 4, some .int, 0, 0)
def mX10_freeOf : mv_M := (yX10_freeOf, cX10_freeOf, 2, some .int, 0, 0)
def mX9_need : mv_M := (yX9_need, cX9_need, 5, some .int, 0, 0)
def mX9_isBoxByAxis : mv_M := (yX9_isBoxByAxis, cX9_isBoxByAxis, 3, some .boolean, 0, 0)
def mX9_wrapOf : mv_M := (yX9_wrapOf, cX9_wrapOf, 2, some (.object "PaperBoxes$Wrap"), 0, 0)
def mX7_side : mv_M := (yX7_side, cX7_side, 3, some .int, 0, 0)
def mX9_measure : mv_M := (yX9_measure, cX9_measure, 4, none, 0, 0)
def mX8_measure : mv_M := (yX8_measure, cX8_measure, 6, none, 0, 0)
def mX8_round : mv_M := (yX8_round, cX8_round, 2, some .int, 0, 0)
def mX8_u : mv_M := (yX8_u, cX8_u, 2, some .int, 0, 0)
def mX8_v : mv_M := (yX8_v, cX8_v, 2, some .int, 0, 0)
def mX8_reach : mv_M := (yX8_reach, cX8_reach, 2, some .int, 0, 0)
def mX8_along : mv_M := (yX8_along, cX8_along, 2, some .int, 0, 0)
def mX8_paper : mv_M := (yX8_paper, cX8_paper, 2, some .int, 0, 0)
def mX10_need : mv_M := (yX10_need, cX10_need, 4, some .int, 0, 0)
def mX10_isAxis : mv_M := (yX10_isAxis, cX10_isAxis, 1, some .boolean, 0, 0)
def mX10_look : mv_M := (yX10_look, cX10_look, 2, none, 0, 0)
def mX10_layBox : mv_M := (yX10_layBox, cX10_layBox, 5, none, 0, 0)
def mX10_paper : mv_M := (yX10_paper, cX10_paper, 2, some .int, 0, 0)
def mX9_least : mv_M := (yX9_least, cX9_least, 4, some .int, 0, 0)
def mX8_leastAxis : mv_M := (yX8_leastAxis, cX8_leastAxis, 3, some .int, 0, 0)
def mX8_leastPaper : mv_M := (yX8_leastPaper, cX8_leastPaper, 1, some .int, 0, 0)
def mX10_least : mv_M := (yX10_least, cX10_least, 3, some .int, 0, 0)
def mX10_leastAxis : mv_M := (yX10_leastAxis, cX10_leastAxis, 2, some .int, 0, 0)
def mX9_does : mv_M := (yX9_does, cX9_does, 6, some .int, 0, 0)
def mX8_wayOnSheet : mv_M := (yX8_wayOnSheet, cX8_wayOnSheet, 6, some .int, 0, 0)
def mX9_axisOf : mv_M := (yX9_axisOf, cX9_axisOf, 1, some .int, 0, 0)
def mX9_turnOf : mv_M := (yX9_turnOf, cX9_turnOf, 1, some .int, 0, 0)
def mX8_lackOn : mv_M := (yX8_lackOn, cX8_lackOn, 7, some .int, 0, 0)
def mX7_area : mv_M := (yX7_area, cX7_area, 2, some .int, 0, 0)
def mX10_does : mv_M := (yX10_does, cX10_does, 5, some .int, 0, 0)
def mX10_doesBy : mv_M := (yX10_doesBy, cX10_doesBy, 7, some .int, 0, 0)
def mX10_areaOf : mv_M := (yX10_areaOf, cX10_areaOf, 2, some .int, 0, 0)
def mX9_taken : mv_M := (yX9_taken, cX9_taken, 2, some .int, 0, 0)
def mX9_sheetsDoingFor : mv_M := (yX9_sheetsDoingFor, cX9_sheetsDoingFor, 5, some .int, 0, 0)
def mX7_leastAreaOf : mv_M := (yX7_leastAreaOf, cX7_leastAreaOf, 4, some .int, 0, 0)
def mX10_taken : mv_M := (yX10_taken, cX10_taken, 2, some .int, 0, 0)
def mX10_takenOf : mv_M := (yX10_takenOf, cX10_takenOf, 5, some .int, 0, 0)
def mX9_shortBy : mv_M := (yX9_shortBy, cX9_shortBy, 5, some .int, 0, 0)
def mX10_shortBy : mv_M := (yX10_shortBy, cX10_shortBy, 7, some .int, 0, 0)
def mX10_above : mv_M := (yX10_above, cX10_above, 1, some .int, 0, 0)
def mX9_slant : mv_M := (yX9_slant, cX9_slant, 3, some .int, 0, 0)
def mX8_squareFor : mv_M := (yX8_squareFor, cX8_squareFor, 3, some .int, 0, 0)
def mX9_rootAbove : mv_M := (yX9_rootAbove, cX9_rootAbove, 2, some .int, 0, 0)
def mX9_rootBelow : mv_M := (yX9_rootBelow, cX9_rootBelow, 4, some .int, 0, 0)
def mX10_slant : mv_M := (yX10_slant, cX10_slant, 3, some .int, 0, 0)
def mX10_slantBy : mv_M := (yX10_slantBy, cX10_slantBy, 3, some .int, 0, 0)
def mX10_rootOf : mv_M := (yX10_rootOf, cX10_rootOf, 2, some .int, 0, 0)
def mX9_slants : mv_M := (yX9_slants, cX9_slants, 5, some .int, 0, 0)
def mX8_leastSquare : mv_M := (yX8_leastSquare, cX8_leastSquare, 4, some .int, 0, 0)
def mX10_slants : mv_M := (yX10_slants, cX10_slants, 4, some .int, 0, 0)
def mX10_leastSlant : mv_M := (yX10_leastSlant, cX10_leastSlant, 4, some .int, 0, 0)
def mX9_saved : mv_M := (yX9_saved, cX9_saved, 4, some .int, 0, 0)
def mX10_saved : mv_M := (yX10_saved, cX10_saved, 3, some .int, 0, 0)
def mX9_roll : mv_M := (yX9_roll, cX9_roll, 6, some .int, 0, 0)
def mX8_wayOffRoll : mv_M := (yX8_wayOffRoll, cX8_wayOffRoll, 4, some .int, 0, 0)
def mX8_acrossOff : mv_M := (yX8_acrossOff, cX8_acrossOff, 2, some .int, 0, 0)
def mX8_lengthOff : mv_M := (yX8_lengthOff, cX8_lengthOff, 2, some .int, 0, 0)
def mX10_roll : mv_M := (yX10_roll, cX10_roll, 5, some .int, 0, 0)
def mX10_isWide : mv_M := (yX10_isWide, cX10_isWide, 1, some .boolean, 0, 0)
def mX10_rollBy : mv_M := (yX10_rollBy, cX10_rollBy, 5, some .int, 0, 0)
def mX10_acrossBy : mv_M := (yX10_acrossBy, cX10_acrossBy, 2, some .int, 0, 0)
def mX10_lengthBy : mv_M := (yX10_lengthBy, cX10_lengthBy, 2, some .int, 0, 0)
def mX9_cheaper : mv_M := (yX9_cheaper, cX9_cheaper, 10, some .int, 0, 0)
def mX9_isRoll : mv_M := (yX9_isRoll, cX9_isRoll, 2, some .boolean, 0, 0)
def mX9_priceOff : mv_M := (yX9_priceOff, cX9_priceOff, 6, some .int, 0, 0)
def mX10_cheaper : mv_M := (yX10_cheaper, cX10_cheaper, 12, some .int, 0, 0)
def mX9_narrow : mv_M := (yX9_narrow, cX9_narrow, 3, some .int, 0, 0)
def mX8_leastAcross : mv_M := (yX8_leastAcross, cX8_leastAcross, 5, some .int, 0, 0)
def mX10_narrow : mv_M := (yX10_narrow, cX10_narrow, 5, some .int, 0, 0)
def mX9_pieces : mv_M := (yX9_pieces, cX9_pieces, 6, some .int, 0, 0)
def mX6_gather : mv_M := (yX6_gather, cX6_gather, 8, none, 0, 0)
def mX8_girth : mv_M := (yX8_girth, cX8_girth, 2, some .int, 0, 0)
def mX6_fewest : mv_M := (yX6_fewest, cX6_fewest, 6, some .int, 0, 0)
def mX6_sumOf : mv_M := (yX6_sumOf, cX6_sumOf, 4, some .int, 0, 0)
def mX10_pieces : mv_M := (yX10_pieces, cX10_pieces, 7, some .int, 0, 0)
def mX10_goRound : mv_M := (yX10_goRound, cX10_goRound, 7, some .boolean, 0, 0)
def mX10_givenBy : mv_M := (yX10_givenBy, cX10_givenBy, 5, some .int, 0, 0)
def mX9_cut : mv_M := (yX9_cut, cX9_cut, 3, some .int, 0, 0)
def mX7_holdsAll : mv_M := (yX7_holdsAll, cX7_holdsAll, 2, some .boolean, 0, 0)
def mX9_startCuts : mv_M := (yX9_startCuts, cX9_startCuts, 6, none, 0, 0)
def mX0_start : mv_M := (yX0_start, cX0_start, 4, none, 0, 0)
def mX0_want : mv_M := (yX0_want, cX0_want, 4, none, 0, 0)
def mX0_gives : mv_M := (yX0_gives, cX0_gives, 3, some .boolean, 0, 0)
def mX0_paperOf : mv_M := (yX0_paperOf, cX0_paperOf, 4, some .int, 0, 0)
def mX0_stripByHeight : mv_M := (yX0_stripByHeight, cX0_stripByHeight, 2, some .int, 0, 0)
def mX0_strip : mv_M := (yX0_strip, cX0_strip, 6, some .int, 0, 0)
def mX0_stripParted : mv_M := (yX0_stripParted, cX0_stripParted, 7, some .int, 0, 0)
def mX0_givesBoth : mv_M := (yX0_givesBoth, cX0_givesBoth, 3, some .boolean, 0, 0)
def mX0_stripByWidth : mv_M := (yX0_stripByWidth, cX0_stripByWidth, 2, some .int, 0, 0)
def mX10_cut : mv_M := (yX10_cut, cX10_cut, 3, some .int, 0, 0)
def mX10_areBoxes : mv_M := (yX10_areBoxes, cX10_areBoxes, 2, some .boolean, 0, 0)
def mX10_canCut : mv_M := (yX10_canCut, cX10_canCut, 6, some .boolean, 0, 0)
def mX10_layPieces : mv_M := (yX10_layPieces, cX10_layPieces, 4, none, 0, 0)
def mX10_findShapes : mv_M := (yX10_findShapes, cX10_findShapes, 4, none, 0, 0)
def mX10_putShape : mv_M := (yX10_putShape, cX10_putShape, 4, none, 0, 0)
def mX10_joinShapes : mv_M := (yX10_joinShapes, cX10_joinShapes, 6, none, 0, 0)
def mX10_more : mv_M := (yX10_more, cX10_more, 2, some .int, 0, 0)
def mX9_most : mv_M := (yX9_most, cX9_most, 5, some .int, 0, 0)
def mX7_bits : mv_M := (yX7_bits, cX7_bits, 1, some .int, 0, 0)
def mX0_greatestOf : mv_M := (yX0_greatestOf, cX0_greatestOf, 4, some .int, 0, 0)
def mX10_most : mv_M := (yX10_most, cX10_most, 6, some .int, 0, 0)
def mX10_paperOf : mv_M := (yX10_paperOf, cX10_paperOf, 4, some .int, 0, 0)
def mX9_usedUp : mv_M := (yX9_usedUp, cX9_usedUp, 4, some .int, 0, 0)
def mX3_suit : mv_M := (yX3_suit, cX3_suit, 3, none, 0, 0)
def mX3_search : mv_M := (yX3_search, cX3_search, 3, none, 0, 0)
def mX3_extend : mv_M := (yX3_extend, cX3_extend, 10, none, 0, 0)
def mX3_keep : mv_M := (yX3_keep, cX3_keep, 3, none, 0, 0)
def mX3_wrapped : mv_M := (yX3_wrapped, cX3_wrapped, 1, some .int, 0, 0)
def mX3_boxAt : mv_M := (yX3_boxAt, cX3_boxAt, 2, some .int, 0, 0)
def mX10_usedUp : mv_M := (yX10_usedUp, cX10_usedUp, 8, some .int, 0, 0)
def mX10_layMembers : mv_M := (yX10_layMembers, cX10_layMembers, 3, none, 0, 0)
def mX10_layRow : mv_M := (yX10_layRow, cX10_layRow, 5, some .boolean, 0, 0)
def mX10_wrappedByRow : mv_M := (yX10_wrappedByRow, cX10_wrappedByRow, 5, some .int, 0, 0)
def mX9_pleat : mv_M := (yX9_pleat, cX9_pleat, 3, some .int, 0, 0)
def mX9_pleatOf : mv_M := (yX9_pleatOf, cX9_pleatOf, 4, some .int, 0, 0)
def mX10_pleat : mv_M := (yX10_pleat, cX10_pleat, 3, some .int, 0, 0)
def mX10_pleatBy : mv_M := (yX10_pleatBy, cX10_pleatBy, 3, some .int, 0, 0)
def mX9_match : mv_M := (yX9_match, cX9_match, 5, some .int, 0, 0)
def mX10_match : mv_M := (yX10_match, cX10_match, 4, some .int, 0, 0)
def mX9_ribbon : mv_M := (yX9_ribbon, cX9_ribbon, 4, some .int, 0, 0)
def mX10_ribbon : mv_M := (yX10_ribbon, cX10_ribbon, 3, some .int, 0, 0)
def mX9_corners : mv_M := (yX9_corners, cX9_corners, 5, some .int, 0, 0)
def mX8_cornerSquare : mv_M := (yX8_cornerSquare, cX8_cornerSquare, 4, some .int, 0, 0)
def mX10_corners : mv_M := (yX10_corners, cX10_corners, 8, some .int, 0, 0)
def mX9_fits : mv_M := (yX9_fits, cX9_fits, 3, some .int, 0, 0)
def mX9_isRoomFor : mv_M := (yX9_isRoomFor, cX9_isRoomFor, 5, some .boolean, 0, 0)
def mX7_lesserSide : mv_M := (yX7_lesserSide, cX7_lesserSide, 2, some .int, 0, 0)
def mX7_middleSide : mv_M := (yX7_middleSide, cX7_middleSide, 3, some .int, 0, 0)
def mX7_greaterSide : mv_M := (yX7_greaterSide, cX7_greaterSide, 2, some .int, 0, 0)
def mX10_fits : mv_M := (yX10_fits, cX10_fits, 3, some .int, 0, 0)
def mX10_fitsIn : mv_M := (yX10_fitsIn, cX10_fitsIn, 3, some .boolean, 0, 0)
def mX10_sortSides : mv_M := (yX10_sortSides, cX10_sortSides, 7, none, 0, 0)
def mX9_tight : mv_M := (yX9_tight, cX9_tight, 7, some .int, 0, 0)
def mX9_boxesWithRoomFor : mv_M := (yX9_boxesWithRoomFor, cX9_boxesWithRoomFor, 4, some .int, 0, 0)
def mX10_tight : mv_M := (yX10_tight, cX10_tight, 5, some .int, 0, 0)
def mX10_leastPaper : mv_M := (yX10_leastPaper, cX10_leastPaper, 2, some .int, 0, 0)
def mX9_paired : mv_M := (yX9_paired, cX9_paired, 3, some .int, 0, 0)
def mX9_startPairs : mv_M := (yX9_startPairs, cX9_startPairs, 3, none, 0, 0)
def mX5_price : mv_M := (yX5_price, cX5_price, 3, none, 0, 0)
def mX5_allow : mv_M := (yX5_allow, cX5_allow, 3, none, 0, 0)
def mX5_search : mv_M := (yX5_search, cX5_search, 3, none, 0, 0)
def mX5_extend : mv_M := (yX5_extend, cX5_extend, 6, none, 0, 0)
def mX5_keep : mv_M := (yX5_keep, cX5_keep, 3, none, 0, 0)
def mX5_paper : mv_M := (yX5_paper, cX5_paper, 1, some .int, 0, 0)
def mX5_boxOf : mv_M := (yX5_boxOf, cX5_boxOf, 2, some .int, 0, 0)
def mX10_paired : mv_M := (yX10_paired, cX10_paired, 8, some .int, 0, 0)
def mX10_findPairs : mv_M := (yX10_findPairs, cX10_findPairs, 4, none, 0, 0)
def mX10_paperOfRow : mv_M := (yX10_paperOfRow, cX10_paperOfRow, 8, some .int, 0, 0)
def mX9_mark : mv_M := (yX9_mark, cX9_mark, 4, some .int, 0, 0)
def mX1_marks : mv_M := (yX1_marks, cX1_marks, 2, some (.object "PaperBoxes$Marks"), 0, 0)
def mX2_farthest : mv_M := (yX2_farthest, cX2_farthest, 1, some .int, 0, 0)
def mX2_add : mv_M := (yX2_add, cX2_add, 2, some .boolean, 0, 0)
def mX2_count : mv_M := (yX2_count, cX2_count, 1, some .int, 0, 0)
def mX10_mark : mv_M := (yX10_mark, cX10_mark, 3, some .int, 0, 0)
def mX9_iron : mv_M := (yX9_iron, cX9_iron, 4, some .int, 0, 0)
def mX2_clear : mv_M := (yX2_clear, cX2_clear, 1, none, 0, 0)
def mX10_iron : mv_M := (yX10_iron, cX10_iron, 3, some .int, 0, 0)
def mX9_hidden : mv_M := (yX9_hidden, cX9_hidden, 12, some .int, 0, 0)
def mX2_areHidden : mv_M := (yX2_areHidden, cX2_areHidden, 6, some .boolean, 0, 0)
def mX10_hidden : mv_M := (yX10_hidden, cX10_hidden, 8, some .int, 0, 0)
def mX10_isHiddenFrom : mv_M := (yX10_isHiddenFrom, cX10_isHiddenFrom, 6, some .boolean, 0, 0)
def mX9_undone : mv_M := (yX9_undone, cX9_undone, 9, some .int, 0, 0)
def mX2_areOf : mv_M := (yX2_areOf, cX2_areOf, 6, some .boolean, 0, 0)
def mX10_undone : mv_M := (yX10_undone, cX10_undone, 8, some .int, 0, 0)
def mX10_areCreasesOf : mv_M := (yX10_areCreasesOf, cX10_areCreasesOf, 6, some .boolean, 0, 0)
def mX9_year : mv_M := (yX9_year, cX9_year, 11, some .int, 0, 0)
def mX10_year : mv_M := (yX10_year, cX10_year, 12, some .int, 0, 0)
def mX9_image : mv_M := (yX9_image, cX9_image, 2, some .int, 0, 0)
def mX9_imageOf : mv_M := (yX9_imageOf, cX9_imageOf, 2, some (.object "PaperBoxes$Goods"), 0, 0)
def mX1_copyFrom : mv_M := (yX1_copyFrom, cX1_copyFrom, 2, none, 0, 0)
def mX7_copyFrom : mv_M := (yX7_copyFrom, cX7_copyFrom, 3, none, 0, 0)
def mX2_copyFrom : mv_M := (yX2_copyFrom, cX2_copyFrom, 3, none, 0, 0)
def mX10_image : mv_M := (yX10_image, cX10_image, 2, some .int, 0, 0)
def mX10_passAll : mv_M := (yX10_passAll, cX10_passAll, 2, none, 0, 0)
def mX10_pass : mv_M := (yX10_pass, cX10_pass, 3, some .int, 0, 0)
def mX9_restore : mv_M := (yX9_restore, cX9_restore, 2, some .int, 0, 0)
def mX10_restore : mv_M := (yX10_restore, cX10_restore, 2, some .int, 0, 0)
def mX9_told : mv_M := (yX9_told, cX9_told, 2, some .int, 0, 0)
def mX9_toldSide : mv_M := (yX9_toldSide, cX9_toldSide, 6, some .int, 0, 0)
def mX7_columns : mv_M := (yX7_columns, cX7_columns, 1, some .int, 0, 0)
def mX10_told : mv_M := (yX10_told, cX10_told, 2, some .int, 0, 0)
def mX10_toldOf : mv_M := (yX10_toldOf, cX10_toldOf, 3, some .int, 0, 0)
def mL_law : mv_M := (yL_law, cL_law, 4, some .boolean, 83, 9288)
def sh_0 : mv_S := []
def sh_1 : mv_S := sh_0 ++ [.inr (9, [some none, some none, some none, none, some none, some none, some none, some none, some none, some none])]
def sh_2 : mv_S := sh_1 ++ [.inr (1, [some none, some none, some none, some none, some none, none, none, none, none])]
def sh_3 : mv_S := sh_2 ++ [.inr (7, [none, some none, none])]
def sh_4 : mv_S := sh_3 ++ [.inl (false, 18)]
def sh_5 : mv_S := sh_4.set 2 (.inr (7, [none, some (some 3), none]))
def sh_6 : mv_S := sh_5.set 1 (.inr (1, [some (some 2), some none, some none, some none, some none, none, none, none, none]))
def sh_7 : mv_S := sh_6 ++ [.inr (7, [none, some none, none])]
def sh_8 : mv_S := sh_7 ++ [.inl (false, 18)]
def sh_9 : mv_S := sh_8.set 4 (.inr (7, [none, some (some 5), none]))
def sh_10 : mv_S := sh_9.set 1 (.inr (1, [some (some 2), some (some 4), some none, some none, some none, none, none, none, none]))
def sh_11 : mv_S := sh_10 ++ [.inr (7, [none, some none, none])]
def sh_12 : mv_S := sh_11 ++ [.inl (false, 18)]
def sh_13 : mv_S := sh_12.set 6 (.inr (7, [none, some (some 7), none]))
def sh_14 : mv_S := sh_13.set 1 (.inr (1, [some (some 2), some (some 4), some (some 6), some none, some none, none, none, none, none]))
def sh_15 : mv_S := sh_14 ++ [.inr (2, [none, some none, none])]
def sh_16 : mv_S := sh_15 ++ [.inl (false, 6)]
def sh_17 : mv_S := sh_16.set 8 (.inr (2, [none, some (some 9), none]))
def sh_18 : mv_S := sh_17.set 1 (.inr (1, [some (some 2), some (some 4), some (some 6), some (some 8), some none, none, none, none, none]))
def sh_19 : mv_S := sh_18 ++ [.inr (2, [none, some none, none])]
def sh_20 : mv_S := sh_19 ++ [.inl (false, 6)]
def sh_21 : mv_S := sh_20.set 10 (.inr (2, [none, some (some 11), none]))
def sh_22 : mv_S := sh_21.set 1 (.inr (1, [some (some 2), some (some 4), some (some 6), some (some 8), some (some 10), none, none, none, none]))
def sh_23 : mv_S := sh_22.set 0 (.inr (9, [some (some 1), some none, some none, none, some none, some none, some none, some none, some none, some none]))
def sh_24 : mv_S := sh_23 ++ [.inr (1, [some none, some none, some none, some none, some none, none, none, none, none])]
def sh_25 : mv_S := sh_24 ++ [.inr (7, [none, some none, none])]
def sh_26 : mv_S := sh_25 ++ [.inl (false, 18)]
def sh_27 : mv_S := sh_26.set 13 (.inr (7, [none, some (some 14), none]))
def sh_28 : mv_S := sh_27.set 12 (.inr (1, [some (some 13), some none, some none, some none, some none, none, none, none, none]))
def sh_29 : mv_S := sh_28 ++ [.inr (7, [none, some none, none])]
def sh_30 : mv_S := sh_29 ++ [.inl (false, 18)]
def sh_31 : mv_S := sh_30.set 15 (.inr (7, [none, some (some 16), none]))
def sh_32 : mv_S := sh_31.set 12 (.inr (1, [some (some 13), some (some 15), some none, some none, some none, none, none, none, none]))
def sh_33 : mv_S := sh_32 ++ [.inr (7, [none, some none, none])]
def sh_34 : mv_S := sh_33 ++ [.inl (false, 18)]
def sh_35 : mv_S := sh_34.set 17 (.inr (7, [none, some (some 18), none]))
def sh_36 : mv_S := sh_35.set 12 (.inr (1, [some (some 13), some (some 15), some (some 17), some none, some none, none, none, none, none]))
def sh_37 : mv_S := sh_36 ++ [.inr (2, [none, some none, none])]
def sh_38 : mv_S := sh_37 ++ [.inl (false, 6)]
def sh_39 : mv_S := sh_38.set 19 (.inr (2, [none, some (some 20), none]))
def sh_40 : mv_S := sh_39.set 12 (.inr (1, [some (some 13), some (some 15), some (some 17), some (some 19), some none, none, none, none, none]))
def sh_41 : mv_S := sh_40 ++ [.inr (2, [none, some none, none])]
def sh_42 : mv_S := sh_41 ++ [.inl (false, 6)]
def sh_43 : mv_S := sh_42.set 21 (.inr (2, [none, some (some 22), none]))
def sh_44 : mv_S := sh_43.set 12 (.inr (1, [some (some 13), some (some 15), some (some 17), some (some 19), some (some 21), none, none, none, none]))
def sh_45 : mv_S := sh_44.set 0 (.inr (9, [some (some 1), some (some 12), some none, none, some none, some none, some none, some none, some none, some none]))
def sh_46 : mv_S := sh_45 ++ [.inr (1, [some none, some none, some none, some none, some none, none, none, none, none])]
def sh_47 : mv_S := sh_46 ++ [.inr (7, [none, some none, none])]
def sh_48 : mv_S := sh_47 ++ [.inl (false, 18)]
def sh_49 : mv_S := sh_48.set 24 (.inr (7, [none, some (some 25), none]))
def sh_50 : mv_S := sh_49.set 23 (.inr (1, [some (some 24), some none, some none, some none, some none, none, none, none, none]))
def sh_51 : mv_S := sh_50 ++ [.inr (7, [none, some none, none])]
def sh_52 : mv_S := sh_51 ++ [.inl (false, 18)]
def sh_53 : mv_S := sh_52.set 26 (.inr (7, [none, some (some 27), none]))
def sh_54 : mv_S := sh_53.set 23 (.inr (1, [some (some 24), some (some 26), some none, some none, some none, none, none, none, none]))
def sh_55 : mv_S := sh_54 ++ [.inr (7, [none, some none, none])]
def sh_56 : mv_S := sh_55 ++ [.inl (false, 18)]
def sh_57 : mv_S := sh_56.set 28 (.inr (7, [none, some (some 29), none]))
def sh_58 : mv_S := sh_57.set 23 (.inr (1, [some (some 24), some (some 26), some (some 28), some none, some none, none, none, none, none]))
def sh_59 : mv_S := sh_58 ++ [.inr (2, [none, some none, none])]
def sh_60 : mv_S := sh_59 ++ [.inl (false, 6)]
def sh_61 : mv_S := sh_60.set 30 (.inr (2, [none, some (some 31), none]))
def sh_62 : mv_S := sh_61.set 23 (.inr (1, [some (some 24), some (some 26), some (some 28), some (some 30), some none, none, none, none, none]))
def sh_63 : mv_S := sh_62 ++ [.inr (2, [none, some none, none])]
def sh_64 : mv_S := sh_63 ++ [.inl (false, 6)]
def sh_65 : mv_S := sh_64.set 32 (.inr (2, [none, some (some 33), none]))
def sh_66 : mv_S := sh_65.set 23 (.inr (1, [some (some 24), some (some 26), some (some 28), some (some 30), some (some 32), none, none, none, none]))
def sh_67 : mv_S := sh_66.set 0 (.inr (9, [some (some 1), some (some 12), some (some 23), none, some none, some none, some none, some none, some none, some none]))
def sh_68 : mv_S := sh_67 ++ [.inr (4, [some none, none, none, none, none, none, none, some none, some none])]
def sh_69 : mv_S := sh_68 ++ [.inl (false, 60)]
def sh_70 : mv_S := sh_69.set 34 (.inr (4, [some (some 35), none, none, none, none, none, none, some none, some none]))
def sh_71 : mv_S := sh_70 ++ [.inl (false, 3)]
def sh_72 : mv_S := sh_71.set 34 (.inr (4, [some (some 35), none, none, none, none, none, none, some (some 36), some none]))
def sh_73 : mv_S := sh_72 ++ [.inl (false, 3)]
def sh_74 : mv_S := sh_73.set 34 (.inr (4, [some (some 35), none, none, none, none, none, none, some (some 36), some (some 37)]))
def sh_75 : mv_S := sh_74.set 0 (.inr (9, [some (some 1), some (some 12), some (some 23), none, some (some 34), some none, some none, some none, some none, some none]))
def sh_76 : mv_S := sh_75 ++ [.inr (8, [none, none, none, none, none])]
def sh_77 : mv_S := sh_76.set 0 (.inr (9, [some (some 1), some (some 12), some (some 23), none, some (some 34), some (some 38), some none, some none, some none, some none]))
def sh_78 : mv_S := sh_77 ++ [.inr (6, [some none])]
def sh_79 : mv_S := sh_78 ++ [.inl (false, 6)]
def sh_80 : mv_S := sh_79.set 39 (.inr (6, [some (some 40)]))
def sh_81 : mv_S := sh_80.set 0 (.inr (9, [some (some 1), some (some 12), some (some 23), none, some (some 34), some (some 38), some (some 39), some none, some none, some none]))
def sh_82 : mv_S := sh_81 ++ [.inr (0, [some none, some none, some none, some none, none, none])]
def sh_83 : mv_S := sh_82 ++ [.inl (false, 6)]
def sh_84 : mv_S := sh_83.set 41 (.inr (0, [some (some 42), some none, some none, some none, none, none]))
def sh_85 : mv_S := sh_84 ++ [.inl (false, 6)]
def sh_86 : mv_S := sh_85.set 41 (.inr (0, [some (some 42), some (some 43), some none, some none, none, none]))
def sh_87 : mv_S := sh_86 ++ [.inl (false, 64)]
def sh_88 : mv_S := sh_87.set 41 (.inr (0, [some (some 42), some (some 43), some (some 44), some none, none, none]))
def sh_89 : mv_S := sh_88 ++ [.inl (false, 64)]
def sh_90 : mv_S := sh_89.set 41 (.inr (0, [some (some 42), some (some 43), some (some 44), some (some 45), none, none]))
def sh_91 : mv_S := sh_90.set 0 (.inr (9, [some (some 1), some (some 12), some (some 23), none, some (some 34), some (some 38), some (some 39), some (some 41), some none, some none]))
def sh_92 : mv_S := sh_91 ++ [.inr (3, [some none, some none, some none, none, none])]
def sh_93 : mv_S := sh_92 ++ [.inl (false, 6)]
def sh_94 : mv_S := sh_93.set 46 (.inr (3, [some (some 47), some none, some none, none, none]))
def sh_95 : mv_S := sh_94 ++ [.inl (false, 6)]
def sh_96 : mv_S := sh_95.set 46 (.inr (3, [some (some 47), some (some 48), some none, none, none]))
def sh_97 : mv_S := sh_96 ++ [.inl (false, 6)]
def sh_98 : mv_S := sh_97.set 46 (.inr (3, [some (some 47), some (some 48), some (some 49), none, none]))
def sh_99 : mv_S := sh_98.set 0 (.inr (9, [some (some 1), some (some 12), some (some 23), none, some (some 34), some (some 38), some (some 39), some (some 41), some (some 46), some none]))
def sh_100 : mv_S := sh_99 ++ [.inr (5, [some none, some none, some none, some none, none])]
def sh_101 : mv_S := sh_100 ++ [.inl (false, 6)]
def sh_102 : mv_S := sh_101.set 50 (.inr (5, [some (some 51), some none, some none, some none, none]))
def sh_103 : mv_S := sh_102 ++ [.inl (false, 6)]
def sh_104 : mv_S := sh_103.set 50 (.inr (5, [some (some 51), some (some 52), some none, some none, none]))
def sh_105 : mv_S := sh_104 ++ [.inl (false, 6)]
def sh_106 : mv_S := sh_105.set 50 (.inr (5, [some (some 51), some (some 52), some (some 53), some none, none]))
def sh_107 : mv_S := sh_106 ++ [.inl (false, 6)]
def sh_108 : mv_S := sh_107.set 50 (.inr (5, [some (some 51), some (some 52), some (some 53), some (some 54), none]))
def sh_109 : mv_S := sh_108.set 0 (.inr (9, [some (some 1), some (some 12), some (some 23), none, some (some 34), some (some 38), some (some 39), some (some 41), some (some 46), some (some 50)]))
def sh_110 : mv_S := sh_109 ++ [.inr (10, [none, none, none, some none, some none, some none, some none, none, none, none, none, some none, none, some none, none, some none, none, some none, some none, none, none, none, none, some none, some none, some none, some none, some none, some none, some none, none, some none, some none, some none, some none, none, some none, none, some none, some none, some none, some none, some none, some none, none, none])]
def sh_111 : mv_S := sh_110 ++ [.inl (false, 18)]
def sh_112 : mv_S := sh_111.set 55 (.inr (10, [none, none, none, some (some 56), some none, some none, some none, none, none, none, none, some none, none, some none, none, some none, none, some none, some none, none, none, none, none, some none, some none, some none, some none, some none, some none, some none, none, some none, some none, some none, some none, none, some none, none, some none, some none, some none, some none, some none, some none, none, none]))
def sh_113 : mv_S := sh_112 ++ [.inl (false, 18)]
def sh_114 : mv_S := sh_113.set 55 (.inr (10, [none, none, none, some (some 56), some (some 57), some none, some none, none, none, none, none, some none, none, some none, none, some none, none, some none, some none, none, none, none, none, some none, some none, some none, some none, some none, some none, some none, none, some none, some none, some none, some none, none, some none, none, some none, some none, some none, some none, some none, some none, none, none]))
def sh_115 : mv_S := sh_114 ++ [.inl (false, 6)]
def sh_116 : mv_S := sh_115.set 55 (.inr (10, [none, none, none, some (some 56), some (some 57), some (some 58), some none, none, none, none, none, some none, none, some none, none, some none, none, some none, some none, none, none, none, none, some none, some none, some none, some none, some none, some none, some none, none, some none, some none, some none, some none, none, some none, none, some none, some none, some none, some none, some none, some none, none, none]))
def sh_117 : mv_S := sh_116 ++ [.inl (false, 6)]
def sh_118 : mv_S := sh_117.set 55 (.inr (10, [none, none, none, some (some 56), some (some 57), some (some 58), some (some 59), none, none, none, none, some none, none, some none, none, some none, none, some none, some none, none, none, none, none, some none, some none, some none, some none, some none, some none, some none, none, some none, some none, some none, some none, none, some none, none, some none, some none, some none, some none, some none, some none, none, none]))
def sh_119 : mv_S := sh_118 ++ [.inl (false, 6)]
def sh_120 : mv_S := sh_119.set 55 (.inr (10, [none, none, none, some (some 56), some (some 57), some (some 58), some (some 59), none, none, none, none, some (some 60), none, some none, none, some none, none, some none, some none, none, none, none, none, some none, some none, some none, some none, some none, some none, some none, none, some none, some none, some none, some none, none, some none, none, some none, some none, some none, some none, some none, some none, none, none]))
def sh_121 : mv_S := sh_120 ++ [.inl (false, 6)]
def sh_122 : mv_S := sh_121.set 55 (.inr (10, [none, none, none, some (some 56), some (some 57), some (some 58), some (some 59), none, none, none, none, some (some 60), none, some (some 61), none, some none, none, some none, some none, none, none, none, none, some none, some none, some none, some none, some none, some none, some none, none, some none, some none, some none, some none, none, some none, none, some none, some none, some none, some none, some none, some none, none, none]))
def sh_123 : mv_S := sh_122 ++ [.inl (false, 60)]
def sh_124 : mv_S := sh_123.set 55 (.inr (10, [none, none, none, some (some 56), some (some 57), some (some 58), some (some 59), none, none, none, none, some (some 60), none, some (some 61), none, some (some 62), none, some none, some none, none, none, none, none, some none, some none, some none, some none, some none, some none, some none, none, some none, some none, some none, some none, none, some none, none, some none, some none, some none, some none, some none, some none, none, none]))
def sh_125 : mv_S := sh_124 ++ [.inl (false, 60)]
def sh_126 : mv_S := sh_125.set 55 (.inr (10, [none, none, none, some (some 56), some (some 57), some (some 58), some (some 59), none, none, none, none, some (some 60), none, some (some 61), none, some (some 62), none, some (some 63), some none, none, none, none, none, some none, some none, some none, some none, some none, some none, some none, none, some none, some none, some none, some none, none, some none, none, some none, some none, some none, some none, some none, some none, none, none]))
def sh_127 : mv_S := sh_126 ++ [.inl (false, 180)]
def sh_128 : mv_S := sh_127.set 55 (.inr (10, [none, none, none, some (some 56), some (some 57), some (some 58), some (some 59), none, none, none, none, some (some 60), none, some (some 61), none, some (some 62), none, some (some 63), some (some 64), none, none, none, none, some none, some none, some none, some none, some none, some none, some none, none, some none, some none, some none, some none, none, some none, none, some none, some none, some none, some none, some none, some none, none, none]))
def sh_129 : mv_S := sh_128 ++ [.inl (false, 3)]
def sh_130 : mv_S := sh_129.set 55 (.inr (10, [none, none, none, some (some 56), some (some 57), some (some 58), some (some 59), none, none, none, none, some (some 60), none, some (some 61), none, some (some 62), none, some (some 63), some (some 64), none, none, none, none, some (some 65), some none, some none, some none, some none, some none, some none, none, some none, some none, some none, some none, none, some none, none, some none, some none, some none, some none, some none, some none, none, none]))
def sh_131 : mv_S := sh_130 ++ [.inl (false, 3)]
def sh_132 : mv_S := sh_131.set 55 (.inr (10, [none, none, none, some (some 56), some (some 57), some (some 58), some (some 59), none, none, none, none, some (some 60), none, some (some 61), none, some (some 62), none, some (some 63), some (some 64), none, none, none, none, some (some 65), some (some 66), some none, some none, some none, some none, some none, none, some none, some none, some none, some none, none, some none, none, some none, some none, some none, some none, some none, some none, none, none]))
def sh_133 : mv_S := sh_132 ++ [.inl (false, 3)]
def sh_134 : mv_S := sh_133.set 55 (.inr (10, [none, none, none, some (some 56), some (some 57), some (some 58), some (some 59), none, none, none, none, some (some 60), none, some (some 61), none, some (some 62), none, some (some 63), some (some 64), none, none, none, none, some (some 65), some (some 66), some (some 67), some none, some none, some none, some none, none, some none, some none, some none, some none, none, some none, none, some none, some none, some none, some none, some none, some none, none, none]))
def sh_135 : mv_S := sh_134 ++ [.inl (false, 3)]
def sh_136 : mv_S := sh_135.set 55 (.inr (10, [none, none, none, some (some 56), some (some 57), some (some 58), some (some 59), none, none, none, none, some (some 60), none, some (some 61), none, some (some 62), none, some (some 63), some (some 64), none, none, none, none, some (some 65), some (some 66), some (some 67), some (some 68), some none, some none, some none, none, some none, some none, some none, some none, none, some none, none, some none, some none, some none, some none, some none, some none, none, none]))
def sh_137 : mv_S := sh_136 ++ [.inl (false, 3)]
def sh_138 : mv_S := sh_137.set 55 (.inr (10, [none, none, none, some (some 56), some (some 57), some (some 58), some (some 59), none, none, none, none, some (some 60), none, some (some 61), none, some (some 62), none, some (some 63), some (some 64), none, none, none, none, some (some 65), some (some 66), some (some 67), some (some 68), some (some 69), some none, some none, none, some none, some none, some none, some none, none, some none, none, some none, some none, some none, some none, some none, some none, none, none]))
def sh_139 : mv_S := sh_138 ++ [.inl (false, 4)]
def sh_140 : mv_S := sh_139.set 55 (.inr (10, [none, none, none, some (some 56), some (some 57), some (some 58), some (some 59), none, none, none, none, some (some 60), none, some (some 61), none, some (some 62), none, some (some 63), some (some 64), none, none, none, none, some (some 65), some (some 66), some (some 67), some (some 68), some (some 69), some (some 70), some none, none, some none, some none, some none, some none, none, some none, none, some none, some none, some none, some none, some none, some none, none, none]))
def sh_141 : mv_S := sh_140 ++ [.inl (false, 4)]
def sh_142 : mv_S := sh_141.set 55 (.inr (10, [none, none, none, some (some 56), some (some 57), some (some 58), some (some 59), none, none, none, none, some (some 60), none, some (some 61), none, some (some 62), none, some (some 63), some (some 64), none, none, none, none, some (some 65), some (some 66), some (some 67), some (some 68), some (some 69), some (some 70), some (some 71), none, some none, some none, some none, some none, none, some none, none, some none, some none, some none, some none, some none, some none, none, none]))
def sh_143 : mv_S := sh_142 ++ [.inl (false, 16)]
def sh_144 : mv_S := sh_143.set 55 (.inr (10, [none, none, none, some (some 56), some (some 57), some (some 58), some (some 59), none, none, none, none, some (some 60), none, some (some 61), none, some (some 62), none, some (some 63), some (some 64), none, none, none, none, some (some 65), some (some 66), some (some 67), some (some 68), some (some 69), some (some 70), some (some 71), none, some (some 72), some none, some none, some none, none, some none, none, some none, some none, some none, some none, some none, some none, none, none]))
def sh_145 : mv_S := sh_144 ++ [.inl (false, 16)]
def sh_146 : mv_S := sh_145.set 55 (.inr (10, [none, none, none, some (some 56), some (some 57), some (some 58), some (some 59), none, none, none, none, some (some 60), none, some (some 61), none, some (some 62), none, some (some 63), some (some 64), none, none, none, none, some (some 65), some (some 66), some (some 67), some (some 68), some (some 69), some (some 70), some (some 71), none, some (some 72), some (some 73), some none, some none, none, some none, none, some none, some none, some none, some none, some none, some none, none, none]))
def sh_147 : mv_S := sh_146 ++ [.inl (false, 4000)]
def sh_148 : mv_S := sh_147.set 55 (.inr (10, [none, none, none, some (some 56), some (some 57), some (some 58), some (some 59), none, none, none, none, some (some 60), none, some (some 61), none, some (some 62), none, some (some 63), some (some 64), none, none, none, none, some (some 65), some (some 66), some (some 67), some (some 68), some (some 69), some (some 70), some (some 71), none, some (some 72), some (some 73), some (some 74), some none, none, some none, none, some none, some none, some none, some none, some none, some none, none, none]))
def sh_149 : mv_S := sh_148 ++ [.inl (false, 4000)]
def sh_150 : mv_S := sh_149.set 55 (.inr (10, [none, none, none, some (some 56), some (some 57), some (some 58), some (some 59), none, none, none, none, some (some 60), none, some (some 61), none, some (some 62), none, some (some 63), some (some 64), none, none, none, none, some (some 65), some (some 66), some (some 67), some (some 68), some (some 69), some (some 70), some (some 71), none, some (some 72), some (some 73), some (some 74), some (some 75), none, some none, none, some none, some none, some none, some none, some none, some none, none, none]))
def sh_151 : mv_S := sh_150 ++ [.inl (false, 6)]
def sh_152 : mv_S := sh_151.set 55 (.inr (10, [none, none, none, some (some 56), some (some 57), some (some 58), some (some 59), none, none, none, none, some (some 60), none, some (some 61), none, some (some 62), none, some (some 63), some (some 64), none, none, none, none, some (some 65), some (some 66), some (some 67), some (some 68), some (some 69), some (some 70), some (some 71), none, some (some 72), some (some 73), some (some 74), some (some 75), none, some (some 76), none, some none, some none, some none, some none, some none, some none, none, none]))
def sh_153 : mv_S := sh_152 ++ [.inl (false, 6)]
def sh_154 : mv_S := sh_153.set 55 (.inr (10, [none, none, none, some (some 56), some (some 57), some (some 58), some (some 59), none, none, none, none, some (some 60), none, some (some 61), none, some (some 62), none, some (some 63), some (some 64), none, none, none, none, some (some 65), some (some 66), some (some 67), some (some 68), some (some 69), some (some 70), some (some 71), none, some (some 72), some (some 73), some (some 74), some (some 75), none, some (some 76), none, some (some 77), some none, some none, some none, some none, some none, none, none]))
def sh_155 : mv_S := sh_154 ++ [.inl (false, 6)]
def sh_156 : mv_S := sh_155.set 55 (.inr (10, [none, none, none, some (some 56), some (some 57), some (some 58), some (some 59), none, none, none, none, some (some 60), none, some (some 61), none, some (some 62), none, some (some 63), some (some 64), none, none, none, none, some (some 65), some (some 66), some (some 67), some (some 68), some (some 69), some (some 70), some (some 71), none, some (some 72), some (some 73), some (some 74), some (some 75), none, some (some 76), none, some (some 77), some (some 78), some none, some none, some none, some none, none, none]))
def sh_157 : mv_S := sh_156 ++ [.inl (false, 6)]
def sh_158 : mv_S := sh_157.set 55 (.inr (10, [none, none, none, some (some 56), some (some 57), some (some 58), some (some 59), none, none, none, none, some (some 60), none, some (some 61), none, some (some 62), none, some (some 63), some (some 64), none, none, none, none, some (some 65), some (some 66), some (some 67), some (some 68), some (some 69), some (some 70), some (some 71), none, some (some 72), some (some 73), some (some 74), some (some 75), none, some (some 76), none, some (some 77), some (some 78), some (some 79), some none, some none, some none, none, none]))
def sh_159 : mv_S := sh_158 ++ [.inl (false, 36)]
def sh_160 : mv_S := sh_159.set 55 (.inr (10, [none, none, none, some (some 56), some (some 57), some (some 58), some (some 59), none, none, none, none, some (some 60), none, some (some 61), none, some (some 62), none, some (some 63), some (some 64), none, none, none, none, some (some 65), some (some 66), some (some 67), some (some 68), some (some 69), some (some 70), some (some 71), none, some (some 72), some (some 73), some (some 74), some (some 75), none, some (some 76), none, some (some 77), some (some 78), some (some 79), some (some 80), some none, some none, none, none]))
def sh_161 : mv_S := sh_160 ++ [.inl (false, 200)]
def sh_162 : mv_S := sh_161.set 55 (.inr (10, [none, none, none, some (some 56), some (some 57), some (some 58), some (some 59), none, none, none, none, some (some 60), none, some (some 61), none, some (some 62), none, some (some 63), some (some 64), none, none, none, none, some (some 65), some (some 66), some (some 67), some (some 68), some (some 69), some (some 70), some (some 71), none, some (some 72), some (some 73), some (some 74), some (some 75), none, some (some 76), none, some (some 77), some (some 78), some (some 79), some (some 80), some (some 81), some none, none, none]))
def sh_163 : mv_S := sh_162 ++ [.inl (true, 2)]
def sh_164 : mv_S := sh_163.set 55 (.inr (10, [none, none, none, some (some 56), some (some 57), some (some 58), some (some 59), none, none, none, none, some (some 60), none, some (some 61), none, some (some 62), none, some (some 63), some (some 64), none, none, none, none, some (some 65), some (some 66), some (some 67), some (some 68), some (some 69), some (some 70), some (some 71), none, some (some 72), some (some 73), some (some 74), some (some 75), none, some (some 76), none, some (some 77), some (some 78), some (some 79), some (some 80), some (some 81), some (some 82), none, none]))
def mv_SH : mv_S := [.inr (9, [some (some 1), some (some 12), some (some 23), none, some (some 34), some (some 38), some (some 39), some (some 41), some (some 46), some (some 50)]), .inr (1, [some (some 2), some (some 4), some (some 6), some (some 8), some (some 10), none, none, none, none]), .inr (7, [none, some (some 3), none]), .inl (false, 18), .inr (7, [none, some (some 5), none]), .inl (false, 18), .inr (7, [none, some (some 7), none]), .inl (false, 18), .inr (2, [none, some (some 9), none]), .inl (false, 6), .inr (2, [none, some (some 11), none]), .inl (false, 6), .inr (1, [some (some 13), some (some 15), some (some 17), some (some 19), some (some 21), none, none, none, none]), .inr (7, [none, some (some 14), none]), .inl (false, 18), .inr (7, [none, some (some 16), none]), .inl (false, 18), .inr (7, [none, some (some 18), none]), .inl (false, 18), .inr (2, [none, some (some 20), none]), .inl (false, 6), .inr (2, [none, some (some 22), none]), .inl (false, 6), .inr (1, [some (some 24), some (some 26), some (some 28), some (some 30), some (some 32), none, none, none, none]), .inr (7, [none, some (some 25), none]), .inl (false, 18), .inr (7, [none, some (some 27), none]), .inl (false, 18), .inr (7, [none, some (some 29), none]), .inl (false, 18), .inr (2, [none, some (some 31), none]), .inl (false, 6), .inr (2, [none, some (some 33), none]), .inl (false, 6), .inr (4, [some (some 35), none, none, none, none, none, none, some (some 36), some (some 37)]), .inl (false, 60), .inl (false, 3), .inl (false, 3), .inr (8, [none, none, none, none, none]), .inr (6, [some (some 40)]), .inl (false, 6), .inr (0, [some (some 42), some (some 43), some (some 44), some (some 45), none, none]), .inl (false, 6), .inl (false, 6), .inl (false, 64), .inl (false, 64), .inr (3, [some (some 47), some (some 48), some (some 49), none, none]), .inl (false, 6), .inl (false, 6), .inl (false, 6), .inr (5, [some (some 51), some (some 52), some (some 53), some (some 54), none]), .inl (false, 6), .inl (false, 6), .inl (false, 6), .inl (false, 6), .inr (10, [none, none, none, some (some 56), some (some 57), some (some 58), some (some 59), none, none, none, none, some (some 60), none, some (some 61), none, some (some 62), none, some (some 63), some (some 64), none, none, none, none, some (some 65), some (some 66), some (some 67), some (some 68), some (some 69), some (some 70), some (some 71), none, some (some 72), some (some 73), some (some 74), some (some 75), none, some (some 76), none, some (some 77), some (some 78), some (some 79), some (some 80), some (some 81), some (some 82), none, none]), .inl (false, 18), .inl (false, 18), .inl (false, 6), .inl (false, 6), .inl (false, 6), .inl (false, 6), .inl (false, 60), .inl (false, 60), .inl (false, 180), .inl (false, 3), .inl (false, 3), .inl (false, 3), .inl (false, 3), .inl (false, 3), .inl (false, 4), .inl (false, 4), .inl (false, 16), .inl (false, 16), .inl (false, 4000), .inl (false, 4000), .inl (false, 6), .inl (false, 6), .inl (false, 6), .inl (false, 6), .inl (false, 36), .inl (false, 200), .inl (true, 2)]
theorem sh_fin : sh_164 = mv_SH := by decide +kernel
set_option maxRecDepth 20000 in
theorem kc_9 : mv_cls 9 RX9 TX9 10 tyX9 := ⟨rfl, fun w h => mv_tb_in ((show ∀ w ∈ u_ws RX9 TX9 10, w ∈ lw_tbl by decide +kernel) w h) ((show ∀ w ∈ u_ws RX9 TX9 10, goodWord w = true by decide +kernel) w h), tyX9_ok, nmX9⟩
set_option maxRecDepth 20000 in
theorem km_X9_init : mv_mk mX9_init 0 := ⟨(mv_t1 18 rfl rfl), (mv_t1 1 rfl rfl), ⟨by decide +kernel, by decide +kernel, by decide +kernel⟩, by decide⟩
set_option maxRecDepth 20000 in
theorem kk_L_9 : mv_kI RL 9 mX9_init 0 := ⟨km_X9_init, rfl, (mv_t1 17 rfl rfl), Or.inl (mv_t1 16 rfl rfl)⟩
set_option maxRecDepth 20000 in
theorem kc_1 : mv_cls 1 RX1 TX1 9 tyX1 := ⟨rfl, fun w h => mv_tb_in ((show ∀ w ∈ u_ws RX1 TX1 9, w ∈ lw_tbl by decide +kernel) w h) ((show ∀ w ∈ u_ws RX1 TX1 9, goodWord w = true by decide +kernel) w h), tyX1_ok, nmX1⟩
set_option maxRecDepth 20000 in
theorem km_X1_init : mv_mk mX1_init 0 := ⟨(mv_t1 26 rfl rfl), (mv_t1 2 rfl rfl), ⟨by decide +kernel, by decide +kernel, by decide +kernel⟩, by decide⟩
set_option maxRecDepth 20000 in
theorem kk_X9_9 : mv_kI RX9 9 mX1_init 0 := ⟨km_X1_init, rfl, (mv_t1 25 rfl rfl), Or.inr ⟨"PaperBoxes", by decide +kernel⟩⟩
set_option maxRecDepth 20000 in
theorem kc_7 : mv_cls 7 RX7 TX7 3 tyX7 := ⟨rfl, fun w h => mv_tb_in ((show ∀ w ∈ u_ws RX7 TX7 3, w ∈ lw_tbl by decide +kernel) w h) ((show ∀ w ∈ u_ws RX7 TX7 3, goodWord w = true by decide +kernel) w h), tyX7_ok, nmX7⟩
set_option maxRecDepth 20000 in
theorem km_X7_init : mv_mk mX7_init 1 := ⟨(mv_t1 32 rfl rfl), (mv_t1 3 rfl rfl), ⟨by decide +kernel, by decide +kernel, by decide +kernel⟩, by decide⟩
set_option maxRecDepth 20000 in
theorem kk_X1_11 : mv_kI RX1 11 mX7_init 1 := ⟨km_X7_init, rfl, (mv_t1 31 rfl rfl), Or.inl (mv_t1 30 rfl rfl)⟩
set_option maxRecDepth 20000 in
theorem kf_X7_9 : mv_fl RX7 9 7 1 true (.array .int) := ⟨RX7, TX7, 3, tyX7, kc_7, by decide, rfl, rfl, Or.inl ⟨(mv_t1 35 rfl rfl), fun _ => rfl⟩⟩
set_option maxRecDepth 20000 in
theorem kf_X7_15 : mv_fl RX7 15 7 0 true .int := ⟨RX7, TX7, 3, tyX7, kc_7, by decide, rfl, rfl, Or.inl ⟨(mv_t1 34 rfl rfl), fun _ => rfl⟩⟩
set_option maxRecDepth 20000 in
theorem kf_X1_14 : mv_fl RX1 14 1 0 true (.object "PaperBoxes$Shelf") := ⟨RX1, TX1, 9, tyX1, kc_1, by decide, rfl, rfl, Or.inl ⟨(mv_t1 61 rfl rfl), fun _ => rfl⟩⟩
set_option maxRecDepth 20000 in
theorem kf_X1_20 : mv_fl RX1 20 1 1 true (.object "PaperBoxes$Shelf") := ⟨RX1, TX1, 9, tyX1, kc_1, by decide, rfl, rfl, Or.inl ⟨(mv_t1 63 rfl rfl), fun _ => rfl⟩⟩
set_option maxRecDepth 20000 in
theorem kf_X1_23 : mv_fl RX1 23 1 2 true (.object "PaperBoxes$Shelf") := ⟨RX1, TX1, 9, tyX1, kc_1, by decide, rfl, rfl, Or.inl ⟨(mv_t1 65 rfl rfl), fun _ => rfl⟩⟩
set_option maxRecDepth 20000 in
theorem kc_2 : mv_cls 2 RX2 TX2 3 tyX2 := ⟨rfl, fun w h => mv_tb_in ((show ∀ w ∈ u_ws RX2 TX2 3, w ∈ lw_tbl by decide +kernel) w h) ((show ∀ w ∈ u_ws RX2 TX2 3, goodWord w = true by decide +kernel) w h), tyX2_ok, nmX2⟩
set_option maxRecDepth 20000 in
theorem km_X2_init : mv_mk mX2_init 1 := ⟨(mv_t1 49 rfl rfl), (mv_t1 4 rfl rfl), ⟨by decide +kernel, by decide +kernel, by decide +kernel⟩, by decide⟩
set_option maxRecDepth 20000 in
theorem kk_X1_28 : mv_kI RX1 28 mX2_init 1 := ⟨km_X2_init, rfl, (mv_t1 48 rfl rfl), Or.inl (mv_t1 47 rfl rfl)⟩
set_option maxRecDepth 20000 in
theorem kf_X2_9 : mv_fl RX2 9 2 1 true (.array .int) := ⟨RX2, TX2, 3, tyX2, kc_2, by decide, rfl, rfl, Or.inl ⟨(mv_t1 52 rfl rfl), fun _ => rfl⟩⟩
set_option maxRecDepth 20000 in
theorem kf_X2_13 : mv_fl RX2 13 2 0 true .int := ⟨RX2, TX2, 3, tyX2, kc_2, by decide, rfl, rfl, Or.inl ⟨(mv_t1 51 rfl rfl), fun _ => rfl⟩⟩
set_option maxRecDepth 20000 in
theorem kf_X1_29 : mv_fl RX1 29 1 3 true (.object "PaperBoxes$Marks") := ⟨RX1, TX1, 9, tyX1, kc_1, by decide, rfl, rfl, Or.inl ⟨(mv_t1 67 rfl rfl), fun _ => rfl⟩⟩
set_option maxRecDepth 20000 in
theorem kf_X1_33 : mv_fl RX1 33 1 4 true (.object "PaperBoxes$Marks") := ⟨RX1, TX1, 9, tyX1, kc_1, by decide, rfl, rfl, Or.inl ⟨(mv_t1 69 rfl rfl), fun _ => rfl⟩⟩
set_option maxRecDepth 20000 in
theorem kf_X1_36 : mv_fl RX1 36 1 5 false .int := ⟨RX1, TX1, 9, tyX1, kc_1, by decide, rfl, rfl, Or.inl ⟨(mv_t1 71 rfl rfl), fun _ => rfl⟩⟩
set_option maxRecDepth 20000 in
theorem kf_X1_40 : mv_fl RX1 40 1 6 false .int := ⟨RX1, TX1, 9, tyX1, kc_1, by decide, rfl, rfl, Or.inl ⟨(mv_t1 72 rfl rfl), fun _ => rfl⟩⟩
set_option maxRecDepth 20000 in
theorem kf_X1_43 : mv_fl RX1 43 1 7 false .int := ⟨RX1, TX1, 9, tyX1, kc_1, by decide, rfl, rfl, Or.inl ⟨(mv_t1 73 rfl rfl), fun _ => rfl⟩⟩
set_option maxRecDepth 20000 in
theorem kf_X1_46 : mv_fl RX1 46 1 8 false .int := ⟨RX1, TX1, 9, tyX1, kc_1, by decide, rfl, rfl, Or.inl ⟨(mv_t1 74 rfl rfl), fun _ => rfl⟩⟩
set_option maxRecDepth 20000 in
theorem kf_X9_10 : mv_fl RX9 10 9 0 true (.object "PaperBoxes$Goods") := ⟨RX9, TX9, 10, tyX9, kc_9, by decide, rfl, rfl, Or.inl ⟨(mv_t1 229 rfl rfl), fun _ => rfl⟩⟩
set_option maxRecDepth 20000 in
theorem kf_X9_16 : mv_fl RX9 16 9 1 true (.object "PaperBoxes$Goods") := ⟨RX9, TX9, 10, tyX9, kc_9, by decide, rfl, rfl, Or.inl ⟨(mv_t1 230 rfl rfl), fun _ => rfl⟩⟩
set_option maxRecDepth 20000 in
theorem kf_X9_19 : mv_fl RX9 19 9 2 true (.object "PaperBoxes$Goods") := ⟨RX9, TX9, 10, tyX9, kc_9, by decide, rfl, rfl, Or.inl ⟨(mv_t1 231 rfl rfl), fun _ => rfl⟩⟩
set_option maxRecDepth 20000 in
theorem kc_4 : mv_cls 4 RX4 TX4 9 tyX4 := ⟨rfl, fun w h => mv_tb_in ((show ∀ w ∈ u_ws RX4 TX4 9, w ∈ lw_tbl by decide +kernel) w h) ((show ∀ w ∈ u_ws RX4 TX4 9, goodWord w = true by decide +kernel) w h), tyX4_ok, nmX4⟩
set_option maxRecDepth 20000 in
theorem km_X4_init : mv_mk mX4_init 0 := ⟨(mv_t1 98 rfl rfl), (mv_t1 5 rfl rfl), ⟨by decide +kernel, by decide +kernel, by decide +kernel⟩, by decide⟩
set_option maxRecDepth 20000 in
theorem kk_X9_24 : mv_kI RX9 24 mX4_init 0 := ⟨km_X4_init, rfl, (mv_t1 97 rfl rfl), Or.inr ⟨"PaperBoxes", by decide +kernel⟩⟩
set_option maxRecDepth 20000 in
theorem kf_X4_11 : mv_fl RX4 11 4 0 true (.array .int) := ⟨RX4, TX4, 9, tyX4, kc_4, by decide, rfl, rfl, Or.inl ⟨(mv_t1 100 rfl rfl), fun _ => rfl⟩⟩
set_option maxRecDepth 20000 in
theorem kf_X4_15 : mv_fl RX4 15 4 2 false .int := ⟨RX4, TX4, 9, tyX4, kc_4, by decide, rfl, rfl, Or.inl ⟨(mv_t1 102 rfl rfl), fun _ => rfl⟩⟩
set_option maxRecDepth 20000 in
theorem kf_X4_19 : mv_fl RX4 19 4 7 true (.array .int) := ⟨RX4, TX4, 9, tyX4, kc_4, by decide, rfl, rfl, Or.inl ⟨(mv_t1 107 rfl rfl), fun _ => rfl⟩⟩
set_option maxRecDepth 20000 in
theorem kf_X4_22 : mv_fl RX4 22 4 8 true (.array .int) := ⟨RX4, TX4, 9, tyX4, kc_4, by decide, rfl, rfl, Or.inl ⟨(mv_t1 108 rfl rfl), fun _ => rfl⟩⟩
set_option maxRecDepth 20000 in
theorem kf_X9_25 : mv_fl RX9 25 9 4 true (.object "PaperBoxes$Pad") := ⟨RX9, TX9, 10, tyX9, kc_9, by decide, rfl, rfl, Or.inl ⟨(mv_t1 233 rfl rfl), fun _ => rfl⟩⟩
set_option maxRecDepth 20000 in
theorem kc_8 : mv_cls 8 RX8 TX8 5 tyX8 := ⟨rfl, fun w h => mv_tb_in ((show ∀ w ∈ u_ws RX8 TX8 5, w ∈ lw_tbl by decide +kernel) w h) ((show ∀ w ∈ u_ws RX8 TX8 5, goodWord w = true by decide +kernel) w h), tyX8_ok, nmX8⟩
set_option maxRecDepth 20000 in
theorem km_X8_init : mv_mk mX8_init 0 := ⟨(mv_t1 132 rfl rfl), (mv_t1 6 rfl rfl), ⟨by decide +kernel, by decide +kernel, by decide +kernel⟩, by decide⟩
set_option maxRecDepth 20000 in
theorem kk_X9_31 : mv_kI RX9 31 mX8_init 0 := ⟨km_X8_init, rfl, (mv_t1 131 rfl rfl), Or.inr ⟨"PaperBoxes", by decide +kernel⟩⟩
set_option maxRecDepth 20000 in
theorem kf_X9_32 : mv_fl RX9 32 9 5 true (.object "PaperBoxes$Wrap") := ⟨RX9, TX9, 10, tyX9, kc_9, by decide, rfl, rfl, Or.inl ⟨(mv_t1 234 rfl rfl), fun _ => rfl⟩⟩
set_option maxRecDepth 20000 in
theorem kc_6 : mv_cls 6 RX6 TX6 1 tyX6 := ⟨rfl, fun w h => mv_tb_in ((show ∀ w ∈ u_ws RX6 TX6 1, w ∈ lw_tbl by decide +kernel) w h) ((show ∀ w ∈ u_ws RX6 TX6 1, goodWord w = true by decide +kernel) w h), tyX6_ok, nmX6⟩
set_option maxRecDepth 20000 in
theorem km_X6_init : mv_mk mX6_init 0 := ⟨(mv_t1 154 rfl rfl), (mv_t1 7 rfl rfl), ⟨by decide +kernel, by decide +kernel, by decide +kernel⟩, by decide⟩
set_option maxRecDepth 20000 in
theorem kk_X9_38 : mv_kI RX9 38 mX6_init 0 := ⟨km_X6_init, rfl, (mv_t1 153 rfl rfl), Or.inr ⟨"PaperBoxes", by decide +kernel⟩⟩
set_option maxRecDepth 20000 in
theorem kf_X6_9 : mv_fl RX6 9 6 0 true (.array .int) := ⟨RX6, TX6, 1, tyX6, kc_6, by decide, rfl, rfl, Or.inl ⟨(mv_t1 156 rfl rfl), fun _ => rfl⟩⟩
set_option maxRecDepth 20000 in
theorem kf_X9_39 : mv_fl RX9 39 9 6 true (.object "PaperBoxes$Pieces") := ⟨RX9, TX9, 10, tyX9, kc_9, by decide, rfl, rfl, Or.inl ⟨(mv_t1 235 rfl rfl), fun _ => rfl⟩⟩
set_option maxRecDepth 20000 in
theorem kc_0 : mv_cls 0 RX0 TX0 6 tyX0 := ⟨rfl, fun w h => mv_tb_in ((show ∀ w ∈ u_ws RX0 TX0 6, w ∈ lw_tbl by decide +kernel) w h) ((show ∀ w ∈ u_ws RX0 TX0 6, goodWord w = true by decide +kernel) w h), tyX0_ok, nmX0⟩
set_option maxRecDepth 20000 in
theorem km_X0_init : mv_mk mX0_init 0 := ⟨(mv_t1 164 rfl rfl), (mv_t1 8 rfl rfl), ⟨by decide +kernel, by decide +kernel, by decide +kernel⟩, by decide⟩
set_option maxRecDepth 20000 in
theorem kk_X9_45 : mv_kI RX9 45 mX0_init 0 := ⟨km_X0_init, rfl, (mv_t1 163 rfl rfl), Or.inr ⟨"PaperBoxes", by decide +kernel⟩⟩
set_option maxRecDepth 20000 in
theorem kf_X0_9 : mv_fl RX0 9 0 0 true (.array .int) := ⟨RX0, TX0, 6, tyX0, kc_0, by decide, rfl, rfl, Or.inl ⟨(mv_t1 166 rfl rfl), fun _ => rfl⟩⟩
set_option maxRecDepth 20000 in
theorem kf_X0_15 : mv_fl RX0 15 0 1 true (.array .int) := ⟨RX0, TX0, 6, tyX0, kc_0, by decide, rfl, rfl, Or.inl ⟨(mv_t1 167 rfl rfl), fun _ => rfl⟩⟩
set_option maxRecDepth 20000 in
theorem kf_X0_18 : mv_fl RX0 18 0 2 true (.array .int) := ⟨RX0, TX0, 6, tyX0, kc_0, by decide, rfl, rfl, Or.inl ⟨(mv_t1 168 rfl rfl), fun _ => rfl⟩⟩
set_option maxRecDepth 20000 in
theorem kf_X0_21 : mv_fl RX0 21 0 3 true (.array .int) := ⟨RX0, TX0, 6, tyX0, kc_0, by decide, rfl, rfl, Or.inl ⟨(mv_t1 169 rfl rfl), fun _ => rfl⟩⟩
set_option maxRecDepth 20000 in
theorem kf_X9_46 : mv_fl RX9 46 9 7 true (.object "PaperBoxes$Cutter") := ⟨RX9, TX9, 10, tyX9, kc_9, by decide, rfl, rfl, Or.inl ⟨(mv_t1 236 rfl rfl), fun _ => rfl⟩⟩
set_option maxRecDepth 20000 in
theorem kc_3 : mv_cls 3 RX3 TX3 5 tyX3 := ⟨rfl, fun w h => mv_tb_in ((show ∀ w ∈ u_ws RX3 TX3 5, w ∈ lw_tbl by decide +kernel) w h) ((show ∀ w ∈ u_ws RX3 TX3 5, goodWord w = true by decide +kernel) w h), tyX3_ok, nmX3⟩
set_option maxRecDepth 20000 in
theorem km_X3_init : mv_mk mX3_init 0 := ⟨(mv_t1 189 rfl rfl), (mv_t1 9 rfl rfl), ⟨by decide +kernel, by decide +kernel, by decide +kernel⟩, by decide⟩
set_option maxRecDepth 20000 in
theorem kk_X9_52 : mv_kI RX9 52 mX3_init 0 := ⟨km_X3_init, rfl, (mv_t1 188 rfl rfl), Or.inr ⟨"PaperBoxes", by decide +kernel⟩⟩
set_option maxRecDepth 20000 in
theorem kf_X3_9 : mv_fl RX3 9 3 0 true (.array .int) := ⟨RX3, TX3, 5, tyX3, kc_3, by decide, rfl, rfl, Or.inl ⟨(mv_t1 191 rfl rfl), fun _ => rfl⟩⟩
set_option maxRecDepth 20000 in
theorem kf_X3_15 : mv_fl RX3 15 3 1 true (.array .int) := ⟨RX3, TX3, 5, tyX3, kc_3, by decide, rfl, rfl, Or.inl ⟨(mv_t1 192 rfl rfl), fun _ => rfl⟩⟩
set_option maxRecDepth 20000 in
theorem kf_X3_18 : mv_fl RX3 18 3 2 true (.array .int) := ⟨RX3, TX3, 5, tyX3, kc_3, by decide, rfl, rfl, Or.inl ⟨(mv_t1 193 rfl rfl), fun _ => rfl⟩⟩
set_option maxRecDepth 20000 in
theorem kf_X9_53 : mv_fl RX9 53 9 8 true (.object "PaperBoxes$Order") := ⟨RX9, TX9, 10, tyX9, kc_9, by decide, rfl, rfl, Or.inl ⟨(mv_t1 237 rfl rfl), fun _ => rfl⟩⟩
set_option maxRecDepth 20000 in
theorem kc_5 : mv_cls 5 RX5 TX5 5 tyX5 := ⟨rfl, fun w h => mv_tb_in ((show ∀ w ∈ u_ws RX5 TX5 5, w ∈ lw_tbl by decide +kernel) w h) ((show ∀ w ∈ u_ws RX5 TX5 5, goodWord w = true by decide +kernel) w h), tyX5_ok, nmX5⟩
set_option maxRecDepth 20000 in
theorem km_X5_init : mv_mk mX5_init 0 := ⟨(mv_t1 211 rfl rfl), (mv_t1 10 rfl rfl), ⟨by decide +kernel, by decide +kernel, by decide +kernel⟩, by decide⟩
set_option maxRecDepth 20000 in
theorem kk_X9_59 : mv_kI RX9 59 mX5_init 0 := ⟨km_X5_init, rfl, (mv_t1 210 rfl rfl), Or.inr ⟨"PaperBoxes", by decide +kernel⟩⟩
set_option maxRecDepth 20000 in
theorem kf_X5_9 : mv_fl RX5 9 5 0 true (.array .int) := ⟨RX5, TX5, 5, tyX5, kc_5, by decide, rfl, rfl, Or.inl ⟨(mv_t1 213 rfl rfl), fun _ => rfl⟩⟩
set_option maxRecDepth 20000 in
theorem kf_X5_15 : mv_fl RX5 15 5 1 true (.array .int) := ⟨RX5, TX5, 5, tyX5, kc_5, by decide, rfl, rfl, Or.inl ⟨(mv_t1 214 rfl rfl), fun _ => rfl⟩⟩
set_option maxRecDepth 20000 in
theorem kf_X5_18 : mv_fl RX5 18 5 2 true (.array .int) := ⟨RX5, TX5, 5, tyX5, kc_5, by decide, rfl, rfl, Or.inl ⟨(mv_t1 215 rfl rfl), fun _ => rfl⟩⟩
set_option maxRecDepth 20000 in
theorem kf_X5_21 : mv_fl RX5 21 5 3 true (.array .int) := ⟨RX5, TX5, 5, tyX5, kc_5, by decide, rfl, rfl, Or.inl ⟨(mv_t1 216 rfl rfl), fun _ => rfl⟩⟩
set_option maxRecDepth 20000 in
theorem kf_X9_60 : mv_fl RX9 60 9 9 true (.object "PaperBoxes$Pairing") := ⟨RX9, TX9, 10, tyX9, kc_9, by decide, rfl, rfl, Or.inl ⟨(mv_t1 238 rfl rfl), fun _ => rfl⟩⟩
set_option maxRecDepth 20000 in
theorem kc_10 : mv_cls 10 RX10 TX10 46 tyX10 := ⟨rfl, fun w h => mv_tb_in ((show ∀ w ∈ u_ws RX10 TX10 46, w ∈ lw_tbl by decide +kernel) w h) ((show ∀ w ∈ u_ws RX10 TX10 46, goodWord w = true by decide +kernel) w h), tyX10_ok, nmX10⟩
set_option maxRecDepth 20000 in
theorem km_X10_init : mv_mk mX10_init 0 := ⟨(mv_t4 186 rfl rfl), (mv_t1 11 rfl rfl), ⟨by decide +kernel, by decide +kernel, by decide +kernel⟩, by decide⟩
set_option maxRecDepth 20000 in
theorem kk_L_12 : mv_kI RL 12 mX10_init 0 := ⟨km_X10_init, rfl, (mv_t4 185 rfl rfl), Or.inl (mv_t4 184 rfl rfl)⟩
set_option maxRecDepth 20000 in
theorem kf_X10_7 : mv_fl RX10 7 10 3 true (.array .int) := ⟨RX10, TX10, 46, tyX10, kc_10, by decide, rfl, rfl, Or.inl ⟨(mv_t4 191 rfl rfl), fun _ => rfl⟩⟩
set_option maxRecDepth 20000 in
theorem kf_X10_13 : mv_fl RX10 13 10 4 true (.array .int) := ⟨RX10, TX10, 46, tyX10, kc_10, by decide, rfl, rfl, Or.inl ⟨(mv_t4 192 rfl rfl), fun _ => rfl⟩⟩
set_option maxRecDepth 20000 in
theorem kf_X10_16 : mv_fl RX10 16 10 5 true (.array .int) := ⟨RX10, TX10, 46, tyX10, kc_10, by decide, rfl, rfl, Or.inl ⟨(mv_t4 193 rfl rfl), fun _ => rfl⟩⟩
set_option maxRecDepth 20000 in
theorem kf_X10_19 : mv_fl RX10 19 10 6 true (.array .int) := ⟨RX10, TX10, 46, tyX10, kc_10, by decide, rfl, rfl, Or.inl ⟨(mv_t4 194 rfl rfl), fun _ => rfl⟩⟩
set_option maxRecDepth 20000 in
theorem kf_X10_22 : mv_fl RX10 22 10 11 true (.array .int) := ⟨RX10, TX10, 46, tyX10, kc_10, by decide, rfl, rfl, Or.inl ⟨(mv_t4 199 rfl rfl), fun _ => rfl⟩⟩
set_option maxRecDepth 20000 in
theorem kf_X10_25 : mv_fl RX10 25 10 13 true (.array .int) := ⟨RX10, TX10, 46, tyX10, kc_10, by decide, rfl, rfl, Or.inl ⟨(mv_t4 201 rfl rfl), fun _ => rfl⟩⟩
set_option maxRecDepth 20000 in
theorem kf_X10_28 : mv_fl RX10 28 10 15 true (.array .int) := ⟨RX10, TX10, 46, tyX10, kc_10, by decide, rfl, rfl, Or.inl ⟨(mv_t4 203 rfl rfl), fun _ => rfl⟩⟩
set_option maxRecDepth 20000 in
theorem kf_X10_31 : mv_fl RX10 31 10 17 true (.array .int) := ⟨RX10, TX10, 46, tyX10, kc_10, by decide, rfl, rfl, Or.inl ⟨(mv_t4 205 rfl rfl), fun _ => rfl⟩⟩
set_option maxRecDepth 20000 in
theorem kf_X10_34 : mv_fl RX10 34 10 18 true (.array .int) := ⟨RX10, TX10, 46, tyX10, kc_10, by decide, rfl, rfl, Or.inl ⟨(mv_t4 206 rfl rfl), fun _ => rfl⟩⟩
set_option maxRecDepth 20000 in
theorem kf_X10_37 : mv_fl RX10 37 10 23 true (.array .int) := ⟨RX10, TX10, 46, tyX10, kc_10, by decide, rfl, rfl, Or.inl ⟨(mv_t4 211 rfl rfl), fun _ => rfl⟩⟩
set_option maxRecDepth 20000 in
theorem kf_X10_40 : mv_fl RX10 40 10 24 true (.array .int) := ⟨RX10, TX10, 46, tyX10, kc_10, by decide, rfl, rfl, Or.inl ⟨(mv_t4 212 rfl rfl), fun _ => rfl⟩⟩
set_option maxRecDepth 20000 in
theorem kf_X10_43 : mv_fl RX10 43 10 25 true (.array .int) := ⟨RX10, TX10, 46, tyX10, kc_10, by decide, rfl, rfl, Or.inl ⟨(mv_t4 213 rfl rfl), fun _ => rfl⟩⟩
set_option maxRecDepth 20000 in
theorem kf_X10_46 : mv_fl RX10 46 10 26 true (.array .int) := ⟨RX10, TX10, 46, tyX10, kc_10, by decide, rfl, rfl, Or.inl ⟨(mv_t4 214 rfl rfl), fun _ => rfl⟩⟩
set_option maxRecDepth 20000 in
theorem kf_X10_49 : mv_fl RX10 49 10 27 true (.array .int) := ⟨RX10, TX10, 46, tyX10, kc_10, by decide, rfl, rfl, Or.inl ⟨(mv_t4 215 rfl rfl), fun _ => rfl⟩⟩
set_option maxRecDepth 20000 in
theorem kf_X10_52 : mv_fl RX10 52 10 28 true (.array .int) := ⟨RX10, TX10, 46, tyX10, kc_10, by decide, rfl, rfl, Or.inl ⟨(mv_t4 216 rfl rfl), fun _ => rfl⟩⟩
set_option maxRecDepth 20000 in
theorem kf_X10_55 : mv_fl RX10 55 10 29 true (.array .int) := ⟨RX10, TX10, 46, tyX10, kc_10, by decide, rfl, rfl, Or.inl ⟨(mv_t4 217 rfl rfl), fun _ => rfl⟩⟩
set_option maxRecDepth 20000 in
theorem kf_X10_58 : mv_fl RX10 58 10 31 true (.array .int) := ⟨RX10, TX10, 46, tyX10, kc_10, by decide, rfl, rfl, Or.inl ⟨(mv_t4 219 rfl rfl), fun _ => rfl⟩⟩
set_option maxRecDepth 20000 in
theorem kf_X10_61 : mv_fl RX10 61 10 32 true (.array .int) := ⟨RX10, TX10, 46, tyX10, kc_10, by decide, rfl, rfl, Or.inl ⟨(mv_t4 220 rfl rfl), fun _ => rfl⟩⟩
set_option maxRecDepth 20000 in
theorem kf_X10_64 : mv_fl RX10 64 10 33 true (.array .int) := ⟨RX10, TX10, 46, tyX10, kc_10, by decide, rfl, rfl, Or.inl ⟨(mv_t4 221 rfl rfl), fun _ => rfl⟩⟩
set_option maxRecDepth 20000 in
theorem kf_X10_67 : mv_fl RX10 67 10 34 true (.array .int) := ⟨RX10, TX10, 46, tyX10, kc_10, by decide, rfl, rfl, Or.inl ⟨(mv_t4 222 rfl rfl), fun _ => rfl⟩⟩
set_option maxRecDepth 20000 in
theorem kf_X10_70 : mv_fl RX10 70 10 36 true (.array .int) := ⟨RX10, TX10, 46, tyX10, kc_10, by decide, rfl, rfl, Or.inl ⟨(mv_t4 224 rfl rfl), fun _ => rfl⟩⟩
set_option maxRecDepth 20000 in
theorem kf_X10_73 : mv_fl RX10 73 10 38 true (.array .int) := ⟨RX10, TX10, 46, tyX10, kc_10, by decide, rfl, rfl, Or.inl ⟨(mv_t4 226 rfl rfl), fun _ => rfl⟩⟩
set_option maxRecDepth 20000 in
theorem kf_X10_76 : mv_fl RX10 76 10 39 true (.array .int) := ⟨RX10, TX10, 46, tyX10, kc_10, by decide, rfl, rfl, Or.inl ⟨(mv_t4 227 rfl rfl), fun _ => rfl⟩⟩
set_option maxRecDepth 20000 in
theorem kf_X10_79 : mv_fl RX10 79 10 40 true (.array .int) := ⟨RX10, TX10, 46, tyX10, kc_10, by decide, rfl, rfl, Or.inl ⟨(mv_t4 228 rfl rfl), fun _ => rfl⟩⟩
set_option maxRecDepth 20000 in
theorem kf_X10_82 : mv_fl RX10 82 10 41 true (.array .int) := ⟨RX10, TX10, 46, tyX10, kc_10, by decide, rfl, rfl, Or.inl ⟨(mv_t4 229 rfl rfl), fun _ => rfl⟩⟩
set_option maxRecDepth 20000 in
theorem kf_X10_85 : mv_fl RX10 85 10 42 true (.array .int) := ⟨RX10, TX10, 46, tyX10, kc_10, by decide, rfl, rfl, Or.inl ⟨(mv_t4 230 rfl rfl), fun _ => rfl⟩⟩
set_option maxRecDepth 20000 in
theorem kf_X10_88 : mv_fl RX10 88 10 43 true (.array .boolean) := ⟨RX10, TX10, 46, tyX10, kc_10, by decide, rfl, rfl, Or.inl ⟨(mv_t4 231 rfl rfl), fun _ => rfl⟩⟩
set_option maxRecDepth 20000 in
theorem kf_X10_92 : mv_fl RX10 92 10 7 false .int := ⟨RX10, TX10, 46, tyX10, kc_10, by decide, rfl, rfl, Or.inl ⟨(mv_t4 195 rfl rfl), fun _ => rfl⟩⟩
set_option maxRecDepth 20000 in
theorem kf_X10_96 : mv_fl RX10 96 10 9 false .int := ⟨RX10, TX10, 46, tyX10, kc_10, by decide, rfl, rfl, Or.inl ⟨(mv_t4 197 rfl rfl), fun _ => rfl⟩⟩
set_option maxRecDepth 20000 in
theorem kf_X10_99 : mv_fl RX10 99 10 10 false .int := ⟨RX10, TX10, 46, tyX10, kc_10, by decide, rfl, rfl, Or.inl ⟨(mv_t4 198 rfl rfl), fun _ => rfl⟩⟩
set_option maxRecDepth 20000 in
theorem km_X9_box : mv_mk mX9_box 4 := ⟨(mv_t2 23 rfl rfl), (mv_t1 1 rfl rfl), ⟨by decide +kernel, by decide +kernel, by decide +kernel⟩, by decide⟩
set_option maxRecDepth 20000 in
theorem kk_L_13 : mv_kV RL 13 mX9_box 4 := ⟨km_X9_box, (mv_t2 20 rfl rfl), (mv_t2 21 rfl rfl), (mv_t2 22 rfl rfl)⟩
theorem so_0 : mv_SH[0]? = some (.inr (9, [some (some 1), some (some 12), some (some 23), none, some (some 34), some (some 38), some (some 39), some (some 41), some (some 46), some (some 50)])) := by decide +kernel
theorem gf_0_0 : mv_gf mv_SH 0 9 0 (some (some 1)) := ⟨_, so_0, rfl⟩
theorem kf_X9_64 : mv_fl RX9 64 1 0 true (.object "PaperBoxes$Shelf") := ⟨RX1, TX1, 9, tyX1, kc_1, by decide, rfl, rfl, Or.inr ⟨rfl, "PaperBoxes", by decide +kernel⟩⟩
theorem so_1 : mv_SH[1]? = some (.inr (1, [some (some 2), some (some 4), some (some 6), some (some 8), some (some 10), none, none, none, none])) := by decide +kernel
theorem gf_1_0 : mv_gf mv_SH 1 1 0 (some (some 2)) := ⟨_, so_1, rfl⟩
set_option maxRecDepth 20000 in
theorem km_X9_putSolid : mv_mk mX9_putSolid 5 := ⟨(mv_t2 27 rfl rfl), (mv_t1 1 rfl rfl), ⟨by decide +kernel, by decide +kernel, by decide +kernel⟩, by decide⟩
set_option maxRecDepth 20000 in
theorem kk_X9_68 : mv_kV RX9 68 mX9_putSolid 5 := ⟨km_X9_putSolid, (mv_t2 24 rfl rfl), (mv_t2 26 rfl rfl), (mv_t0 0 rfl rfl)⟩
set_option maxRecDepth 20000 in
theorem km_X9_isNumber : mv_mk mX9_isNumber 1 := ⟨(mv_t2 30 rfl rfl), (mv_t1 1 rfl rfl), ⟨by decide +kernel, by decide +kernel, by decide +kernel⟩, by decide⟩
set_option maxRecDepth 20000 in
theorem kk_X9_75 : mv_kS RX9 75 mX9_isNumber 1 := ⟨km_X9_isNumber, (mv_t2 29 rfl rfl), Or.inl (mv_t2 28 rfl rfl)⟩
set_option maxRecDepth 20000 in
theorem km_X9_isSide : mv_mk mX9_isSide 1 := ⟨(mv_t2 33 rfl rfl), (mv_t1 1 rfl rfl), ⟨by decide +kernel, by decide +kernel, by decide +kernel⟩, by decide⟩
set_option maxRecDepth 20000 in
theorem kk_X9_348 : mv_kS RX9 348 mX9_isSide 1 := ⟨km_X9_isSide, (mv_t2 32 rfl rfl), Or.inl (mv_t2 31 rfl rfl)⟩
set_option maxRecDepth 20000 in
theorem km_X9_isWithin : mv_mk mX9_isWithin 3 := ⟨(mv_t2 36 rfl rfl), (mv_t1 1 rfl rfl), ⟨by decide +kernel, by decide +kernel, by decide +kernel⟩, by decide⟩
set_option maxRecDepth 20000 in
theorem kk_X9_79 : mv_kS RX9 79 mX9_isWithin 3 := ⟨km_X9_isWithin, (mv_t2 35 rfl rfl), Or.inl (mv_t2 34 rfl rfl)⟩
set_option maxRecDepth 20000 in
theorem km_X7_put : mv_mk mX7_put 4 := ⟨(mv_t2 40 rfl rfl), (mv_t1 3 rfl rfl), ⟨by decide +kernel, by decide +kernel, by decide +kernel⟩, by decide⟩
set_option maxRecDepth 20000 in
theorem kk_X9_86 : mv_kV RX9 86 mX7_put 4 := ⟨km_X7_put, (mv_t2 37 rfl rfl), (mv_t2 38 rfl rfl), (mv_t2 39 rfl rfl)⟩
set_option maxRecDepth 20000 in
theorem kk_X7_28 : mv_kS RX7 28 mX9_isNumber 1 := ⟨km_X9_isNumber, (mv_t2 29 rfl rfl), Or.inr ⟨"PaperBoxes", by decide +kernel⟩⟩
theorem so_2 : mv_SH[2]? = some (.inr (7, [none, some (some 3), none])) := by decide +kernel
theorem gf_2_1 : mv_gf mv_SH 2 7 1 (some (some 3)) := ⟨_, so_2, rfl⟩
theorem so_3 : mv_SH[3]? = some (.inl (false, 18)) := by decide +kernel
set_option maxRecDepth 20000 in
theorem kf_X7_19 : mv_fl RX7 19 7 2 false .int := ⟨RX7, TX7, 3, tyX7, kc_7, by decide, rfl, rfl, Or.inl ⟨(mv_t1 36 rfl rfl), fun _ => rfl⟩⟩
theorem gf_2_2 : mv_gf mv_SH 2 7 2 none := ⟨_, so_2, rfl⟩
theorem vc_7 : vwCl[7]? = some (RX7, TX7, 3) := rfl
set_option maxRecDepth 20000 in
theorem km_X7_count : mv_mk mX7_count 0 := ⟨(mv_t2 45 rfl rfl), (mv_t1 3 rfl rfl), ⟨by decide +kernel, by decide +kernel, by decide +kernel⟩, by decide⟩
set_option maxRecDepth 20000 in
theorem kk_X9_92 : mv_kV RX9 92 mX7_count 0 := ⟨km_X7_count, (mv_t2 42 rfl rfl), (mv_t2 43 rfl rfl), (mv_t2 44 rfl rfl)⟩
set_option maxRecDepth 20000 in
theorem km_J6_bitCount_0f7a4 : mv_mk mJ6_bitCount_0f7a4 1 := ⟨(mv_t2 48 rfl rfl), (mv_t1 12 rfl rfl), ⟨by decide +kernel, by decide +kernel, by decide +kernel⟩, by decide⟩
set_option maxRecDepth 20000 in
theorem kk_X7_22 : mv_kS RX7 22 mJ6_bitCount_0f7a4 1 := ⟨km_J6_bitCount_0f7a4, (mv_t2 47 rfl rfl), Or.inl (mv_t2 46 rfl rfl)⟩
set_option maxRecDepth 20000 in
theorem kn_J6_265 : Cond.constant RJ6 265 1431655765 ∈ mv_tb := (mv_t2 49 rfl rfl)
set_option maxRecDepth 20000 in
theorem kn_J6_266 : Cond.constant RJ6 266 858993459 ∈ mv_tb := (mv_t2 50 rfl rfl)
set_option maxRecDepth 20000 in
theorem kn_J6_267 : Cond.constant RJ6 267 252645135 ∈ mv_tb := (mv_t2 51 rfl rfl)
theorem vc_9 : vwCl[9]? = some (RX9, TX9, 10) := rfl
set_option maxRecDepth 20000 in
theorem km_X10_box : mv_mk mX10_box 4 := ⟨(mv_t5 91 rfl rfl), (mv_t1 11 rfl rfl), ⟨by decide +kernel, by decide +kernel, by decide +kernel⟩, by decide⟩
set_option maxRecDepth 20000 in
theorem kk_L_17 : mv_kV RL 17 mX10_box 4 := ⟨km_X10_box, (mv_t5 88 rfl rfl), (mv_t5 89 rfl rfl), (mv_t5 90 rfl rfl)⟩
set_option maxRecDepth 20000 in
theorem km_X10_isNumber : mv_mk mX10_isNumber 1 := ⟨(mv_t5 94 rfl rfl), (mv_t1 11 rfl rfl), ⟨by decide +kernel, by decide +kernel, by decide +kernel⟩, by decide⟩
set_option maxRecDepth 20000 in
theorem kk_X10_108 : mv_kS RX10 108 mX10_isNumber 1 := ⟨km_X10_isNumber, (mv_t5 93 rfl rfl), Or.inl (mv_t5 92 rfl rfl)⟩
set_option maxRecDepth 20000 in
theorem kn_X10_102 : Cond.constantLong RX10 102 5 ∈ mv_tb := (mv_t5 95 rfl rfl)
set_option maxRecDepth 20000 in
theorem km_X10_in : mv_mk mX10_in 3 := ⟨(mv_t5 98 rfl rfl), (mv_t1 11 rfl rfl), ⟨by decide +kernel, by decide +kernel, by decide +kernel⟩, by decide⟩
set_option maxRecDepth 20000 in
theorem kk_X10_104 : mv_kS RX10 104 mX10_in 3 := ⟨km_X10_in, (mv_t5 97 rfl rfl), Or.inl (mv_t5 96 rfl rfl)⟩
set_option maxRecDepth 20000 in
theorem km_X10_areSides : mv_mk mX10_areSides 3 := ⟨(mv_t5 101 rfl rfl), (mv_t1 11 rfl rfl), ⟨by decide +kernel, by decide +kernel, by decide +kernel⟩, by decide⟩
set_option maxRecDepth 20000 in
theorem kk_X10_123 : mv_kS RX10 123 mX10_areSides 3 := ⟨km_X10_areSides, (mv_t5 100 rfl rfl), Or.inl (mv_t5 99 rfl rfl)⟩
set_option maxRecDepth 20000 in
theorem kn_X10_121 : Cond.constantLong RX10 121 20 ∈ mv_tb := (mv_t5 102 rfl rfl)
set_option maxRecDepth 20000 in
theorem km_X10_putBox : mv_mk mX10_putBox 4 := ⟨(mv_t5 106 rfl rfl), (mv_t1 11 rfl rfl), ⟨by decide +kernel, by decide +kernel, by decide +kernel⟩, by decide⟩
set_option maxRecDepth 20000 in
theorem kk_X10_127 : mv_kV RX10 127 mX10_putBox 4 := ⟨km_X10_putBox, (mv_t5 103 rfl rfl), (mv_t5 105 rfl rfl), (mv_t0 30 rfl rfl)⟩
theorem so_55 : mv_SH[55]? = some (.inr (10, [none, none, none, some (some 56), some (some 57), some (some 58), some (some 59), none, none, none, none, some (some 60), none, some (some 61), none, some (some 62), none, some (some 63), some (some 64), none, none, none, none, some (some 65), some (some 66), some (some 67), some (some 68), some (some 69), some (some 70), some (some 71), none, some (some 72), some (some 73), some (some 74), some (some 75), none, some (some 76), none, some (some 77), some (some 78), some (some 79), some (some 80), some (some 81), some (some 82), none, none])) := by decide +kernel
theorem gf_55_3 : mv_gf mv_SH 55 10 3 (some (some 56)) := ⟨_, so_55, rfl⟩
theorem so_56 : mv_SH[56]? = some (.inl (false, 18)) := by decide +kernel
set_option maxRecDepth 20000 in
theorem kf_X10_112 : mv_fl RX10 112 10 0 false .int := ⟨RX10, TX10, 46, tyX10, kc_10, by decide, rfl, rfl, Or.inl ⟨(mv_t4 188 rfl rfl), fun _ => rfl⟩⟩
theorem gf_55_0 : mv_gf mv_SH 55 10 0 none := ⟨_, so_55, rfl⟩
theorem vc_10 : vwCl[10]? = some (RX10, TX10, 46) := rfl
set_option maxRecDepth 20000 in
theorem km_X10_ones : mv_mk mX10_ones 1 := ⟨(mv_t5 109 rfl rfl), (mv_t1 11 rfl rfl), ⟨by decide +kernel, by decide +kernel, by decide +kernel⟩, by decide⟩
set_option maxRecDepth 20000 in
theorem kk_X10_131 : mv_kS RX10 131 mX10_ones 1 := ⟨km_X10_ones, (mv_t5 108 rfl rfl), Or.inl (mv_t5 107 rfl rfl)⟩
set_option maxRecDepth 20000 in
theorem km_X9_thing : mv_mk mX9_thing 4 := ⟨(mv_t2 55 rfl rfl), (mv_t1 1 rfl rfl), ⟨by decide +kernel, by decide +kernel, by decide +kernel⟩, by decide⟩
set_option maxRecDepth 20000 in
theorem kk_L_18 : mv_kV RL 18 mX9_thing 4 := ⟨km_X9_thing, (mv_t2 52 rfl rfl), (mv_t2 53 rfl rfl), (mv_t2 54 rfl rfl)⟩
theorem kf_X9_72 : mv_fl RX9 72 1 1 true (.object "PaperBoxes$Shelf") := ⟨RX1, TX1, 9, tyX1, kc_1, by decide, rfl, rfl, Or.inr ⟨rfl, "PaperBoxes", by decide +kernel⟩⟩
theorem gf_1_1 : mv_gf mv_SH 1 1 1 (some (some 4)) := ⟨_, so_1, rfl⟩
theorem so_4 : mv_SH[4]? = some (.inr (7, [none, some (some 5), none])) := by decide +kernel
theorem gf_4_1 : mv_gf mv_SH 4 7 1 (some (some 5)) := ⟨_, so_4, rfl⟩
theorem so_5 : mv_SH[5]? = some (.inl (false, 18)) := by decide +kernel
theorem gf_4_2 : mv_gf mv_SH 4 7 2 none := ⟨_, so_4, rfl⟩
set_option maxRecDepth 20000 in
theorem km_X10_thing : mv_mk mX10_thing 4 := ⟨(mv_t5 113 rfl rfl), (mv_t1 11 rfl rfl), ⟨by decide +kernel, by decide +kernel, by decide +kernel⟩, by decide⟩
set_option maxRecDepth 20000 in
theorem kk_L_21 : mv_kV RL 21 mX10_thing 4 := ⟨km_X10_thing, (mv_t5 110 rfl rfl), (mv_t5 111 rfl rfl), (mv_t5 112 rfl rfl)⟩
set_option maxRecDepth 20000 in
theorem km_X10_putThing : mv_mk mX10_putThing 4 := ⟨(mv_t5 117 rfl rfl), (mv_t1 11 rfl rfl), ⟨by decide +kernel, by decide +kernel, by decide +kernel⟩, by decide⟩
set_option maxRecDepth 20000 in
theorem kk_X10_135 : mv_kV RX10 135 mX10_putThing 4 := ⟨km_X10_putThing, (mv_t5 114 rfl rfl), (mv_t5 116 rfl rfl), (mv_t0 31 rfl rfl)⟩
theorem gf_55_4 : mv_gf mv_SH 55 10 4 (some (some 57)) := ⟨_, so_55, rfl⟩
theorem so_57 : mv_SH[57]? = some (.inl (false, 18)) := by decide +kernel
set_option maxRecDepth 20000 in
theorem kf_X10_115 : mv_fl RX10 115 10 1 false .int := ⟨RX10, TX10, 46, tyX10, kc_10, by decide, rfl, rfl, Or.inl ⟨(mv_t4 189 rfl rfl), fun _ => rfl⟩⟩
theorem gf_55_1 : mv_gf mv_SH 55 10 1 none := ⟨_, so_55, rfl⟩
set_option maxRecDepth 20000 in
theorem km_X9_sheet : mv_mk mX9_sheet 3 := ⟨(mv_t2 59 rfl rfl), (mv_t1 1 rfl rfl), ⟨by decide +kernel, by decide +kernel, by decide +kernel⟩, by decide⟩
set_option maxRecDepth 20000 in
theorem kk_L_22 : mv_kV RL 22 mX9_sheet 3 := ⟨km_X9_sheet, (mv_t2 56 rfl rfl), (mv_t2 57 rfl rfl), (mv_t2 58 rfl rfl)⟩
theorem kf_X9_83 : mv_fl RX9 83 1 2 true (.object "PaperBoxes$Shelf") := ⟨RX1, TX1, 9, tyX1, kc_1, by decide, rfl, rfl, Or.inr ⟨rfl, "PaperBoxes", by decide +kernel⟩⟩
theorem gf_1_2 : mv_gf mv_SH 1 1 2 (some (some 6)) := ⟨_, so_1, rfl⟩
theorem so_6 : mv_SH[6]? = some (.inr (7, [none, some (some 7), none])) := by decide +kernel
theorem gf_6_1 : mv_gf mv_SH 6 7 1 (some (some 7)) := ⟨_, so_6, rfl⟩
theorem so_7 : mv_SH[7]? = some (.inl (false, 18)) := by decide +kernel
theorem gf_6_2 : mv_gf mv_SH 6 7 2 none := ⟨_, so_6, rfl⟩
set_option maxRecDepth 20000 in
theorem km_X10_sheet : mv_mk mX10_sheet 3 := ⟨(mv_t5 121 rfl rfl), (mv_t1 11 rfl rfl), ⟨by decide +kernel, by decide +kernel, by decide +kernel⟩, by decide⟩
set_option maxRecDepth 20000 in
theorem kk_L_26 : mv_kV RL 26 mX10_sheet 3 := ⟨km_X10_sheet, (mv_t5 118 rfl rfl), (mv_t5 119 rfl rfl), (mv_t5 120 rfl rfl)⟩
set_option maxRecDepth 20000 in
theorem kn_X10_138 : Cond.constantLong RX10 138 150 ∈ mv_tb := (mv_t5 122 rfl rfl)
set_option maxRecDepth 20000 in
theorem km_X10_putSheet : mv_mk mX10_putSheet 3 := ⟨(mv_t5 126 rfl rfl), (mv_t1 11 rfl rfl), ⟨by decide +kernel, by decide +kernel, by decide +kernel⟩, by decide⟩
set_option maxRecDepth 20000 in
theorem kk_X10_140 : mv_kV RX10 140 mX10_putSheet 3 := ⟨km_X10_putSheet, (mv_t5 123 rfl rfl), (mv_t5 125 rfl rfl), (mv_t0 32 rfl rfl)⟩
theorem gf_55_5 : mv_gf mv_SH 55 10 5 (some (some 58)) := ⟨_, so_55, rfl⟩
theorem so_58 : mv_SH[58]? = some (.inl (false, 6)) := by decide +kernel
theorem gf_55_6 : mv_gf mv_SH 55 10 6 (some (some 59)) := ⟨_, so_55, rfl⟩
theorem so_59 : mv_SH[59]? = some (.inl (false, 6)) := by decide +kernel
set_option maxRecDepth 20000 in
theorem kf_X10_118 : mv_fl RX10 118 10 2 false .int := ⟨RX10, TX10, 46, tyX10, kc_10, by decide, rfl, rfl, Or.inl ⟨(mv_t4 190 rfl rfl), fun _ => rfl⟩⟩
theorem gf_55_2 : mv_gf mv_SH 55 10 2 none := ⟨_, so_55, rfl⟩
set_option maxRecDepth 20000 in
theorem km_X9_drop : mv_mk mX9_drop 2 := ⟨(mv_t2 63 rfl rfl), (mv_t1 1 rfl rfl), ⟨by decide +kernel, by decide +kernel, by decide +kernel⟩, by decide⟩
set_option maxRecDepth 20000 in
theorem kk_L_27 : mv_kV RL 27 mX9_drop 2 := ⟨km_X9_drop, (mv_t2 60 rfl rfl), (mv_t2 61 rfl rfl), (mv_t2 62 rfl rfl)⟩
set_option maxRecDepth 20000 in
theorem km_X1_shelf : mv_mk mX1_shelf 1 := ⟨(mv_t2 67 rfl rfl), (mv_t1 2 rfl rfl), ⟨by decide +kernel, by decide +kernel, by decide +kernel⟩, by decide⟩
set_option maxRecDepth 20000 in
theorem kk_X9_96 : mv_kV RX9 96 mX1_shelf 1 := ⟨km_X1_shelf, (mv_t2 64 rfl rfl), (mv_t2 65 rfl rfl), (mv_t2 66 rfl rfl)⟩
theorem vc_1 : vwCl[1]? = some (RX1, TX1, 9) := rfl
set_option maxRecDepth 20000 in
theorem km_X7_has : mv_mk mX7_has 1 := ⟨(mv_t2 71 rfl rfl), (mv_t1 3 rfl rfl), ⟨by decide +kernel, by decide +kernel, by decide +kernel⟩, by decide⟩
set_option maxRecDepth 20000 in
theorem kk_X9_100 : mv_kV RX9 100 mX7_has 1 := ⟨km_X7_has, (mv_t2 68 rfl rfl), (mv_t2 69 rfl rfl), (mv_t2 70 rfl rfl)⟩
set_option maxRecDepth 20000 in
theorem km_X9_isIn : mv_mk mX9_isIn 2 := ⟨(mv_t2 74 rfl rfl), (mv_t1 1 rfl rfl), ⟨by decide +kernel, by decide +kernel, by decide +kernel⟩, by decide⟩
set_option maxRecDepth 20000 in
theorem kk_X7_32 : mv_kS RX7 32 mX9_isIn 2 := ⟨km_X9_isIn, (mv_t2 73 rfl rfl), Or.inr ⟨"PaperBoxes", by decide +kernel⟩⟩
set_option maxRecDepth 20000 in
theorem km_X7_remove : mv_mk mX7_remove 1 := ⟨(mv_t2 78 rfl rfl), (mv_t1 3 rfl rfl), ⟨by decide +kernel, by decide +kernel, by decide +kernel⟩, by decide⟩
set_option maxRecDepth 20000 in
theorem kk_X9_103 : mv_kV RX9 103 mX7_remove 1 := ⟨km_X7_remove, (mv_t2 75 rfl rfl), (mv_t2 76 rfl rfl), (mv_t2 77 rfl rfl)⟩
set_option maxRecDepth 20000 in
theorem km_X10_drop : mv_mk mX10_drop 2 := ⟨(mv_t5 130 rfl rfl), (mv_t1 11 rfl rfl), ⟨by decide +kernel, by decide +kernel, by decide +kernel⟩, by decide⟩
set_option maxRecDepth 20000 in
theorem kk_L_31 : mv_kV RL 31 mX10_drop 2 := ⟨km_X10_drop, (mv_t5 127 rfl rfl), (mv_t5 128 rfl rfl), (mv_t5 129 rfl rfl)⟩
set_option maxRecDepth 20000 in
theorem kn_X10_144 : Cond.constantLong RX10 144 2 ∈ mv_tb := (mv_t5 131 rfl rfl)
set_option maxRecDepth 20000 in
theorem km_X10_isBox : mv_mk mX10_isBox 1 := ⟨(mv_t5 135 rfl rfl), (mv_t1 11 rfl rfl), ⟨by decide +kernel, by decide +kernel, by decide +kernel⟩, by decide⟩
set_option maxRecDepth 20000 in
theorem kk_X10_146 : mv_kV RX10 146 mX10_isBox 1 := ⟨km_X10_isBox, (mv_t5 132 rfl rfl), (mv_t5 134 rfl rfl), (mv_t0 33 rfl rfl)⟩
set_option maxRecDepth 20000 in
theorem km_X10_isThing : mv_mk mX10_isThing 1 := ⟨(mv_t5 139 rfl rfl), (mv_t1 11 rfl rfl), ⟨by decide +kernel, by decide +kernel, by decide +kernel⟩, by decide⟩
set_option maxRecDepth 20000 in
theorem kk_X10_149 : mv_kV RX10 149 mX10_isThing 1 := ⟨km_X10_isThing, (mv_t5 136 rfl rfl), (mv_t5 138 rfl rfl), (mv_t0 34 rfl rfl)⟩
set_option maxRecDepth 20000 in
theorem km_X10_isSheet : mv_mk mX10_isSheet 1 := ⟨(mv_t5 143 rfl rfl), (mv_t1 11 rfl rfl), ⟨by decide +kernel, by decide +kernel, by decide +kernel⟩, by decide⟩
set_option maxRecDepth 20000 in
theorem kk_X10_152 : mv_kV RX10 152 mX10_isSheet 1 := ⟨km_X10_isSheet, (mv_t5 140 rfl rfl), (mv_t5 142 rfl rfl), (mv_t0 35 rfl rfl)⟩
set_option maxRecDepth 20000 in
theorem km_X9_set : mv_mk mX9_set 2 := ⟨(mv_t2 82 rfl rfl), (mv_t1 1 rfl rfl), ⟨by decide +kernel, by decide +kernel, by decide +kernel⟩, by decide⟩
set_option maxRecDepth 20000 in
theorem kk_L_32 : mv_kV RL 32 mX9_set 2 := ⟨km_X9_set, (mv_t2 79 rfl rfl), (mv_t2 80 rfl rfl), (mv_t2 81 rfl rfl)⟩
set_option maxRecDepth 20000 in
theorem ks_1 : Cond.fieldLink RX9 107 "PaperBoxes" "SETTINGS_LEAST" "[I" ∈ mv_tb := (mv_t2 83 rfl rfl)
set_option maxRecDepth 20000 in
theorem ks_2 : Cond.fieldLink RX9 111 "PaperBoxes" "SETTINGS_MOST" "[I" ∈ mv_tb := (mv_t2 85 rfl rfl)
set_option maxRecDepth 20000 in
theorem km_X1_setting : mv_mk mX1_setting 1 := ⟨(mv_t2 90 rfl rfl), (mv_t1 2 rfl rfl), ⟨by decide +kernel, by decide +kernel, by decide +kernel⟩, by decide⟩
set_option maxRecDepth 20000 in
theorem kk_X9_114 : mv_kV RX9 114 mX1_setting 1 := ⟨km_X1_setting, (mv_t2 87 rfl rfl), (mv_t2 88 rfl rfl), (mv_t2 89 rfl rfl)⟩
theorem gf_1_5 : mv_gf mv_SH 1 1 5 none := ⟨_, so_1, rfl⟩
theorem gf_1_6 : mv_gf mv_SH 1 1 6 none := ⟨_, so_1, rfl⟩
theorem gf_1_7 : mv_gf mv_SH 1 1 7 none := ⟨_, so_1, rfl⟩
theorem gf_1_8 : mv_gf mv_SH 1 1 8 none := ⟨_, so_1, rfl⟩
set_option maxRecDepth 20000 in
theorem km_X1_change : mv_mk mX1_change 2 := ⟨(mv_t2 94 rfl rfl), (mv_t1 2 rfl rfl), ⟨by decide +kernel, by decide +kernel, by decide +kernel⟩, by decide⟩
set_option maxRecDepth 20000 in
theorem kk_X9_118 : mv_kV RX9 118 mX1_change 2 := ⟨km_X1_change, (mv_t2 91 rfl rfl), (mv_t2 92 rfl rfl), (mv_t2 93 rfl rfl)⟩
set_option maxRecDepth 20000 in
theorem km_X10_set : mv_mk mX10_set 2 := ⟨(mv_t5 147 rfl rfl), (mv_t1 11 rfl rfl), ⟨by decide +kernel, by decide +kernel, by decide +kernel⟩, by decide⟩
set_option maxRecDepth 20000 in
theorem kk_L_35 : mv_kV RL 35 mX10_set 2 := ⟨km_X10_set, (mv_t5 144 rfl rfl), (mv_t5 145 rfl rfl), (mv_t5 146 rfl rfl)⟩
set_option maxRecDepth 20000 in
theorem kn_X10_155 : Cond.constantLong RX10 155 3 ∈ mv_tb := (mv_t5 148 rfl rfl)
theorem gf_55_7 : mv_gf mv_SH 55 10 7 none := ⟨_, so_55, rfl⟩
set_option maxRecDepth 20000 in
theorem kf_X10_157 : mv_fl RX10 157 10 8 false .int := ⟨RX10, TX10, 46, tyX10, kc_10, by decide, rfl, rfl, Or.inl ⟨(mv_t4 196 rfl rfl), fun _ => rfl⟩⟩
theorem gf_55_8 : mv_gf mv_SH 55 10 8 none := ⟨_, so_55, rfl⟩
theorem gf_55_9 : mv_gf mv_SH 55 10 9 none := ⟨_, so_55, rfl⟩
theorem gf_55_10 : mv_gf mv_SH 55 10 10 none := ⟨_, so_55, rfl⟩
set_option maxRecDepth 20000 in
theorem km_X9_say : mv_mk mX9_say 1 := ⟨(mv_t2 98 rfl rfl), (mv_t1 1 rfl rfl), ⟨by decide +kernel, by decide +kernel, by decide +kernel⟩, by decide⟩
set_option maxRecDepth 20000 in
theorem kk_L_36 : mv_kV RL 36 mX9_say 1 := ⟨km_X9_say, (mv_t2 95 rfl rfl), (mv_t2 96 rfl rfl), (mv_t2 97 rfl rfl)⟩
theorem gf_0_4 : mv_gf mv_SH 0 9 4 (some (some 34)) := ⟨_, so_0, rfl⟩
set_option maxRecDepth 20000 in
theorem km_X4_add : mv_mk mX4_add 1 := ⟨(mv_t2 102 rfl rfl), (mv_t1 5 rfl rfl), ⟨by decide +kernel, by decide +kernel, by decide +kernel⟩, by decide⟩
set_option maxRecDepth 20000 in
theorem kk_X9_122 : mv_kV RX9 122 mX4_add 1 := ⟨km_X4_add, (mv_t2 99 rfl rfl), (mv_t2 100 rfl rfl), (mv_t2 101 rfl rfl)⟩
set_option maxRecDepth 20000 in
theorem kf_X4_25 : mv_fl RX4 25 4 1 false .int := ⟨RX4, TX4, 9, tyX4, kc_4, by decide, rfl, rfl, Or.inl ⟨(mv_t1 101 rfl rfl), fun _ => rfl⟩⟩
theorem so_34 : mv_SH[34]? = some (.inr (4, [some (some 35), none, none, none, none, none, none, some (some 36), some (some 37)])) := by decide +kernel
theorem gf_34_1 : mv_gf mv_SH 34 4 1 none := ⟨_, so_34, rfl⟩
theorem gf_34_0 : mv_gf mv_SH 34 4 0 (some (some 35)) := ⟨_, so_34, rfl⟩
theorem so_35 : mv_SH[35]? = some (.inl (false, 60)) := by decide +kernel
theorem vc_4 : vwCl[4]? = some (RX4, TX4, 9) := rfl
set_option maxRecDepth 20000 in
theorem km_X4_count : mv_mk mX4_count 0 := ⟨(mv_t2 106 rfl rfl), (mv_t1 5 rfl rfl), ⟨by decide +kernel, by decide +kernel, by decide +kernel⟩, by decide⟩
set_option maxRecDepth 20000 in
theorem kk_X9_125 : mv_kV RX9 125 mX4_count 0 := ⟨km_X4_count, (mv_t2 103 rfl rfl), (mv_t2 104 rfl rfl), (mv_t2 105 rfl rfl)⟩
set_option maxRecDepth 20000 in
theorem km_X10_say : mv_mk mX10_say 1 := ⟨(mv_t5 152 rfl rfl), (mv_t1 11 rfl rfl), ⟨by decide +kernel, by decide +kernel, by decide +kernel⟩, by decide⟩
set_option maxRecDepth 20000 in
theorem kk_L_40 : mv_kV RL 40 mX10_say 1 := ⟨km_X10_say, (mv_t5 149 rfl rfl), (mv_t5 150 rfl rfl), (mv_t5 151 rfl rfl)⟩
set_option maxRecDepth 20000 in
theorem kn_X10_160 : Cond.constantLong RX10 160 33 ∈ mv_tb := (mv_t5 153 rfl rfl)
set_option maxRecDepth 20000 in
theorem kn_X10_162 : Cond.constantLong RX10 162 126 ∈ mv_tb := (mv_t5 154 rfl rfl)
set_option maxRecDepth 20000 in
theorem kf_X10_164 : mv_fl RX10 164 10 16 false .int := ⟨RX10, TX10, 46, tyX10, kc_10, by decide, rfl, rfl, Or.inl ⟨(mv_t4 204 rfl rfl), fun _ => rfl⟩⟩
theorem gf_55_16 : mv_gf mv_SH 55 10 16 none := ⟨_, so_55, rfl⟩
theorem gf_55_15 : mv_gf mv_SH 55 10 15 (some (some 62)) := ⟨_, so_55, rfl⟩
theorem so_62 : mv_SH[62]? = some (.inl (false, 60)) := by decide +kernel
set_option maxRecDepth 20000 in
theorem km_X9_wipe : mv_mk mX9_wipe 0 := ⟨(mv_t2 110 rfl rfl), (mv_t1 1 rfl rfl), ⟨by decide +kernel, by decide +kernel, by decide +kernel⟩, by decide⟩
set_option maxRecDepth 20000 in
theorem kk_L_41 : mv_kV RL 41 mX9_wipe 0 := ⟨km_X9_wipe, (mv_t2 107 rfl rfl), (mv_t2 108 rfl rfl), (mv_t2 109 rfl rfl)⟩
set_option maxRecDepth 20000 in
theorem km_X4_clear : mv_mk mX4_clear 0 := ⟨(mv_t2 114 rfl rfl), (mv_t1 5 rfl rfl), ⟨by decide +kernel, by decide +kernel, by decide +kernel⟩, by decide⟩
set_option maxRecDepth 20000 in
theorem kk_X9_126 : mv_kV RX9 126 mX4_clear 0 := ⟨km_X4_clear, (mv_t2 111 rfl rfl), (mv_t2 112 rfl rfl), (mv_t2 113 rfl rfl)⟩
set_option maxRecDepth 20000 in
theorem km_X10_wipe : mv_mk mX10_wipe 0 := ⟨(mv_t5 158 rfl rfl), (mv_t1 11 rfl rfl), ⟨by decide +kernel, by decide +kernel, by decide +kernel⟩, by decide⟩
set_option maxRecDepth 20000 in
theorem kk_L_45 : mv_kV RL 45 mX10_wipe 0 := ⟨km_X10_wipe, (mv_t5 155 rfl rfl), (mv_t5 156 rfl rfl), (mv_t5 157 rfl rfl)⟩
set_option maxRecDepth 20000 in
theorem km_X9_fault : mv_mk mX9_fault 0 := ⟨(mv_t2 118 rfl rfl), (mv_t1 1 rfl rfl), ⟨by decide +kernel, by decide +kernel, by decide +kernel⟩, by decide⟩
set_option maxRecDepth 20000 in
theorem kk_L_46 : mv_kV RL 46 mX9_fault 0 := ⟨km_X9_fault, (mv_t2 115 rfl rfl), (mv_t2 116 rfl rfl), (mv_t2 117 rfl rfl)⟩
set_option maxRecDepth 20000 in
theorem km_X4_scan : mv_mk mX4_scan 1 := ⟨(mv_t2 122 rfl rfl), (mv_t1 5 rfl rfl), ⟨by decide +kernel, by decide +kernel, by decide +kernel⟩, by decide⟩
set_option maxRecDepth 20000 in
theorem kk_X9_129 : mv_kV RX9 129 mX4_scan 1 := ⟨km_X4_scan, (mv_t2 119 rfl rfl), (mv_t2 120 rfl rfl), (mv_t2 121 rfl rfl)⟩
set_option maxRecDepth 20000 in
theorem km_X4_startList : mv_mk mX4_startList 0 := ⟨(mv_t2 126 rfl rfl), (mv_t1 5 rfl rfl), ⟨by decide +kernel, by decide +kernel, by decide +kernel⟩, by decide⟩
set_option maxRecDepth 20000 in
theorem kk_X4_39 : mv_kV RX4 39 mX4_startList 0 := ⟨km_X4_startList, (mv_t2 123 rfl rfl), (mv_t2 125 rfl rfl), (mv_t0 1 rfl rfl)⟩
theorem gf_34_2 : mv_gf mv_SH 34 4 2 none := ⟨_, so_34, rfl⟩
theorem gf_34_8 : mv_gf mv_SH 34 4 8 (some (some 37)) := ⟨_, so_34, rfl⟩
theorem so_37 : mv_SH[37]? = some (.inl (false, 3)) := by decide +kernel
set_option maxRecDepth 20000 in
theorem km_X4_accepts : mv_mk mX4_accepts 1 := ⟨(mv_t2 130 rfl rfl), (mv_t1 5 rfl rfl), ⟨by decide +kernel, by decide +kernel, by decide +kernel⟩, by decide⟩
set_option maxRecDepth 20000 in
theorem kk_X4_42 : mv_kV RX4 42 mX4_accepts 1 := ⟨km_X4_accepts, (mv_t2 127 rfl rfl), (mv_t2 129 rfl rfl), (mv_t0 2 rfl rfl)⟩
set_option maxRecDepth 20000 in
theorem km_X4_acceptsLetter : mv_mk mX4_acceptsLetter 1 := ⟨(mv_t2 134 rfl rfl), (mv_t1 5 rfl rfl), ⟨by decide +kernel, by decide +kernel, by decide +kernel⟩, by decide⟩
set_option maxRecDepth 20000 in
theorem kk_X4_50 : mv_kV RX4 50 mX4_acceptsLetter 1 := ⟨km_X4_acceptsLetter, (mv_t2 131 rfl rfl), (mv_t2 133 rfl rfl), (mv_t0 3 rfl rfl)⟩
set_option maxRecDepth 20000 in
theorem km_X4_startPart : mv_mk mX4_startPart 3 := ⟨(mv_t2 138 rfl rfl), (mv_t1 5 rfl rfl), ⟨by decide +kernel, by decide +kernel, by decide +kernel⟩, by decide⟩
set_option maxRecDepth 20000 in
theorem kk_X4_72 : mv_kV RX4 72 mX4_startPart 3 := ⟨km_X4_startPart, (mv_t2 135 rfl rfl), (mv_t2 137 rfl rfl), (mv_t0 4 rfl rfl)⟩
set_option maxRecDepth 20000 in
theorem kf_X4_63 : mv_fl RX4 63 4 3 false .int := ⟨RX4, TX4, 9, tyX4, kc_4, by decide, rfl, rfl, Or.inl ⟨(mv_t1 103 rfl rfl), fun _ => rfl⟩⟩
theorem gf_34_3 : mv_gf mv_SH 34 4 3 none := ⟨_, so_34, rfl⟩
set_option maxRecDepth 20000 in
theorem kf_X4_76 : mv_fl RX4 76 4 4 false .int := ⟨RX4, TX4, 9, tyX4, kc_4, by decide, rfl, rfl, Or.inl ⟨(mv_t1 104 rfl rfl), fun _ => rfl⟩⟩
theorem gf_34_4 : mv_gf mv_SH 34 4 4 none := ⟨_, so_34, rfl⟩
set_option maxRecDepth 20000 in
theorem kf_X4_60 : mv_fl RX4 60 4 5 false .int := ⟨RX4, TX4, 9, tyX4, kc_4, by decide, rfl, rfl, Or.inl ⟨(mv_t1 105 rfl rfl), fun _ => rfl⟩⟩
theorem gf_34_5 : mv_gf mv_SH 34 4 5 none := ⟨_, so_34, rfl⟩
set_option maxRecDepth 20000 in
theorem kf_X4_66 : mv_fl RX4 66 4 6 false .int := ⟨RX4, TX4, 9, tyX4, kc_4, by decide, rfl, rfl, Or.inl ⟨(mv_t1 106 rfl rfl), fun _ => rfl⟩⟩
theorem gf_34_6 : mv_gf mv_SH 34 4 6 none := ⟨_, so_34, rfl⟩
set_option maxRecDepth 20000 in
theorem kk_X4_53 : mv_kS RX4 53 mX9_isWithin 3 := ⟨km_X9_isWithin, (mv_t2 35 rfl rfl), Or.inr ⟨"PaperBoxes", by decide +kernel⟩⟩
set_option maxRecDepth 20000 in
theorem km_X4_keepNumber : mv_mk mX4_keepNumber 0 := ⟨(mv_t2 147 rfl rfl), (mv_t1 5 rfl rfl), ⟨by decide +kernel, by decide +kernel, by decide +kernel⟩, by decide⟩
set_option maxRecDepth 20000 in
theorem kk_X4_69 : mv_kV RX4 69 mX4_keepNumber 0 := ⟨km_X4_keepNumber, (mv_t2 144 rfl rfl), (mv_t2 146 rfl rfl), (mv_t0 6 rfl rfl)⟩
theorem gf_34_7 : mv_gf mv_SH 34 4 7 (some (some 36)) := ⟨_, so_34, rfl⟩
theorem so_36 : mv_SH[36]? = some (.inl (false, 3)) := by decide +kernel
set_option maxRecDepth 20000 in
theorem km_X4_acceptsDigit : mv_mk mX4_acceptsDigit 1 := ⟨(mv_t2 143 rfl rfl), (mv_t1 5 rfl rfl), ⟨by decide +kernel, by decide +kernel, by decide +kernel⟩, by decide⟩
set_option maxRecDepth 20000 in
theorem kk_X4_57 : mv_kV RX4 57 mX4_acceptsDigit 1 := ⟨km_X4_acceptsDigit, (mv_t2 140 rfl rfl), (mv_t2 142 rfl rfl), (mv_t0 5 rfl rfl)⟩
set_option maxRecDepth 20000 in
theorem km_X4_endPart : mv_mk mX4_endPart 1 := ⟨(mv_t2 151 rfl rfl), (mv_t1 5 rfl rfl), ⟨by decide +kernel, by decide +kernel, by decide +kernel⟩, by decide⟩
set_option maxRecDepth 20000 in
theorem kk_X4_46 : mv_kV RX4 46 mX4_endPart 1 := ⟨km_X4_endPart, (mv_t2 148 rfl rfl), (mv_t2 150 rfl rfl), (mv_t0 7 rfl rfl)⟩
set_option maxRecDepth 20000 in
theorem km_X10_fault : mv_mk mX10_fault 0 := ⟨(mv_t5 162 rfl rfl), (mv_t1 11 rfl rfl), ⟨by decide +kernel, by decide +kernel, by decide +kernel⟩, by decide⟩
set_option maxRecDepth 20000 in
theorem kk_L_49 : mv_kV RL 49 mX10_fault 0 := ⟨km_X10_fault, (mv_t5 159 rfl rfl), (mv_t5 160 rfl rfl), (mv_t5 161 rfl rfl)⟩
set_option maxRecDepth 20000 in
theorem kf_X10_167 : mv_fl RX10 167 10 19 false .int := ⟨RX10, TX10, 46, tyX10, kc_10, by decide, rfl, rfl, Or.inl ⟨(mv_t4 207 rfl rfl), fun _ => rfl⟩⟩
theorem gf_55_19 : mv_gf mv_SH 55 10 19 none := ⟨_, so_55, rfl⟩
set_option maxRecDepth 20000 in
theorem kf_X10_176 : mv_fl RX10 176 10 21 false .boolean := ⟨RX10, TX10, 46, tyX10, kc_10, by decide, rfl, rfl, Or.inl ⟨(mv_t4 209 rfl rfl), fun _ => rfl⟩⟩
theorem gf_55_21 : mv_gf mv_SH 55 10 21 none := ⟨_, so_55, rfl⟩
set_option maxRecDepth 20000 in
theorem km_X10_readSort : mv_mk mX10_readSort 1 := ⟨(mv_t5 172 rfl rfl), (mv_t1 11 rfl rfl), ⟨by decide +kernel, by decide +kernel, by decide +kernel⟩, by decide⟩
set_option maxRecDepth 20000 in
theorem kk_X10_187 : mv_kV RX10 187 mX10_readSort 1 := ⟨km_X10_readSort, (mv_t5 169 rfl rfl), (mv_t5 171 rfl rfl), (mv_t0 37 rfl rfl)⟩
theorem gf_55_17 : mv_gf mv_SH 55 10 17 (some (some 63)) := ⟨_, so_55, rfl⟩
theorem so_63 : mv_SH[63]? = some (.inl (false, 60)) := by decide +kernel
set_option maxRecDepth 20000 in
theorem kf_X10_170 : mv_fl RX10 170 10 20 false .int := ⟨RX10, TX10, 46, tyX10, kc_10, by decide, rfl, rfl, Or.inl ⟨(mv_t4 208 rfl rfl), fun _ => rfl⟩⟩
theorem gf_55_20 : mv_gf mv_SH 55 10 20 none := ⟨_, so_55, rfl⟩
set_option maxRecDepth 20000 in
theorem kf_X10_173 : mv_fl RX10 173 10 22 false .int := ⟨RX10, TX10, 46, tyX10, kc_10, by decide, rfl, rfl, Or.inl ⟨(mv_t4 210 rfl rfl), fun _ => rfl⟩⟩
theorem gf_55_22 : mv_gf mv_SH 55 10 22 none := ⟨_, so_55, rfl⟩
set_option maxRecDepth 20000 in
theorem km_X10_readMore : mv_mk mX10_readMore 1 := ⟨(mv_t5 166 rfl rfl), (mv_t1 11 rfl rfl), ⟨by decide +kernel, by decide +kernel, by decide +kernel⟩, by decide⟩
set_option maxRecDepth 20000 in
theorem kk_X10_184 : mv_kV RX10 184 mX10_readMore 1 := ⟨km_X10_readMore, (mv_t5 163 rfl rfl), (mv_t5 165 rfl rfl), (mv_t0 36 rfl rfl)⟩
set_option maxRecDepth 20000 in
theorem kn_X10_180 : Cond.constantLong RX10 180 48 ∈ mv_tb := (mv_t5 167 rfl rfl)
set_option maxRecDepth 20000 in
theorem kn_X10_182 : Cond.constantLong RX10 182 57 ∈ mv_tb := (mv_t5 168 rfl rfl)
theorem gf_55_18 : mv_gf mv_SH 55 10 18 (some (some 64)) := ⟨_, so_55, rfl⟩
theorem so_64 : mv_SH[64]? = some (.inl (false, 180)) := by decide +kernel
set_option maxRecDepth 20000 in
theorem km_X9_lay : mv_mk mX9_lay 0 := ⟨(mv_t2 162 rfl rfl), (mv_t1 1 rfl rfl), ⟨by decide +kernel, by decide +kernel, by decide +kernel⟩, by decide⟩
set_option maxRecDepth 20000 in
theorem kk_L_50 : mv_kV RL 50 mX9_lay 0 := ⟨km_X9_lay, (mv_t2 159 rfl rfl), (mv_t2 160 rfl rfl), (mv_t2 161 rfl rfl)⟩
set_option maxRecDepth 20000 in
theorem km_X4_hasPlaceIn : mv_mk mX4_hasPlaceIn 1 := ⟨(mv_t2 166 rfl rfl), (mv_t1 5 rfl rfl), ⟨by decide +kernel, by decide +kernel, by decide +kernel⟩, by decide⟩
set_option maxRecDepth 20000 in
theorem kk_X9_133 : mv_kV RX9 133 mX4_hasPlaceIn 1 := ⟨km_X4_hasPlaceIn, (mv_t2 163 rfl rfl), (mv_t2 164 rfl rfl), (mv_t2 165 rfl rfl)⟩
set_option maxRecDepth 20000 in
theorem kk_X4_28 : mv_kV RX4 28 mX1_shelf 1 := ⟨km_X1_shelf, (mv_t2 152 rfl rfl), (mv_t2 65 rfl rfl), (mv_t2 66 rfl rfl)⟩
set_option maxRecDepth 20000 in
theorem kk_X4_34 : mv_kV RX4 34 mX7_count 0 := ⟨km_X7_count, (mv_t2 167 rfl rfl), (mv_t2 43 rfl rfl), (mv_t2 44 rfl rfl)⟩
set_option maxRecDepth 20000 in
theorem km_X7_putAtFirstFree : mv_mk mX7_putAtFirstFree 3 := ⟨(mv_t2 156 rfl rfl), (mv_t1 3 rfl rfl), ⟨by decide +kernel, by decide +kernel, by decide +kernel⟩, by decide⟩
set_option maxRecDepth 20000 in
theorem kk_X4_79 : mv_kV RX4 79 mX7_putAtFirstFree 3 := ⟨km_X7_putAtFirstFree, (mv_t2 153 rfl rfl), (mv_t2 154 rfl rfl), (mv_t2 155 rfl rfl)⟩
set_option maxRecDepth 20000 in
theorem kk_X7_36 : mv_kV RX7 36 mX7_has 1 := ⟨km_X7_has, (mv_t2 157 rfl rfl), (mv_t2 69 rfl rfl), (mv_t2 70 rfl rfl)⟩
set_option maxRecDepth 20000 in
theorem kk_X7_39 : mv_kV RX7 39 mX7_put 4 := ⟨km_X7_put, (mv_t2 158 rfl rfl), (mv_t2 38 rfl rfl), (mv_t2 39 rfl rfl)⟩
set_option maxRecDepth 20000 in
theorem km_X4_parts : mv_mk mX4_parts 0 := ⟨(mv_t2 171 rfl rfl), (mv_t1 5 rfl rfl), ⟨by decide +kernel, by decide +kernel, by decide +kernel⟩, by decide⟩
set_option maxRecDepth 20000 in
theorem kk_X9_137 : mv_kV RX9 137 mX4_parts 0 := ⟨km_X4_parts, (mv_t2 168 rfl rfl), (mv_t2 169 rfl rfl), (mv_t2 170 rfl rfl)⟩
set_option maxRecDepth 20000 in
theorem km_X10_lay : mv_mk mX10_lay 0 := ⟨(mv_t5 176 rfl rfl), (mv_t1 11 rfl rfl), ⟨by decide +kernel, by decide +kernel, by decide +kernel⟩, by decide⟩
set_option maxRecDepth 20000 in
theorem kk_L_53 : mv_kV RL 53 mX10_lay 0 := ⟨km_X10_lay, (mv_t5 173 rfl rfl), (mv_t5 174 rfl rfl), (mv_t5 175 rfl rfl)⟩
set_option maxRecDepth 20000 in
theorem kk_X10_190 : mv_kV RX10 190 mX10_fault 0 := ⟨km_X10_fault, (mv_t5 177 rfl rfl), (mv_t5 160 rfl rfl), (mv_t5 161 rfl rfl)⟩
set_option maxRecDepth 20000 in
theorem km_X10_countOf : mv_mk mX10_countOf 1 := ⟨(mv_t5 181 rfl rfl), (mv_t1 11 rfl rfl), ⟨by decide +kernel, by decide +kernel, by decide +kernel⟩, by decide⟩
set_option maxRecDepth 20000 in
theorem kk_X10_194 : mv_kV RX10 194 mX10_countOf 1 := ⟨km_X10_countOf, (mv_t5 178 rfl rfl), (mv_t5 180 rfl rfl), (mv_t0 38 rfl rfl)⟩
set_option maxRecDepth 20000 in
theorem km_X10_freeOf : mv_mk mX10_freeOf 1 := ⟨(mv_t5 184 rfl rfl), (mv_t1 11 rfl rfl), ⟨by decide +kernel, by decide +kernel, by decide +kernel⟩, by decide⟩
set_option maxRecDepth 20000 in
theorem kk_X10_197 : mv_kS RX10 197 mX10_freeOf 1 := ⟨km_X10_freeOf, (mv_t5 183 rfl rfl), Or.inl (mv_t5 182 rfl rfl)⟩
set_option maxRecDepth 20000 in
theorem km_X9_need : mv_mk mX9_need 3 := ⟨(mv_t2 175 rfl rfl), (mv_t1 1 rfl rfl), ⟨by decide +kernel, by decide +kernel, by decide +kernel⟩, by decide⟩
set_option maxRecDepth 20000 in
theorem kk_L_54 : mv_kV RL 54 mX9_need 3 := ⟨km_X9_need, (mv_t2 172 rfl rfl), (mv_t2 173 rfl rfl), (mv_t2 174 rfl rfl)⟩
set_option maxRecDepth 20000 in
theorem km_X9_isBoxByAxis : mv_mk mX9_isBoxByAxis 2 := ⟨(mv_t2 179 rfl rfl), (mv_t1 1 rfl rfl), ⟨by decide +kernel, by decide +kernel, by decide +kernel⟩, by decide⟩
set_option maxRecDepth 20000 in
theorem kk_X9_140 : mv_kV RX9 140 mX9_isBoxByAxis 2 := ⟨km_X9_isBoxByAxis, (mv_t2 176 rfl rfl), (mv_t2 178 rfl rfl), (mv_t0 8 rfl rfl)⟩
set_option maxRecDepth 20000 in
theorem km_X9_wrapOf : mv_mk mX9_wrapOf 1 := ⟨(mv_t2 183 rfl rfl), (mv_t1 1 rfl rfl), ⟨by decide +kernel, by decide +kernel, by decide +kernel⟩, by decide⟩
set_option maxRecDepth 20000 in
theorem kk_X9_144 : mv_kV RX9 144 mX9_wrapOf 1 := ⟨km_X9_wrapOf, (mv_t2 180 rfl rfl), (mv_t2 182 rfl rfl), (mv_t0 9 rfl rfl)⟩
set_option maxRecDepth 20000 in
theorem km_X7_side : mv_mk mX7_side 2 := ⟨(mv_t2 187 rfl rfl), (mv_t1 3 rfl rfl), ⟨by decide +kernel, by decide +kernel, by decide +kernel⟩, by decide⟩
set_option maxRecDepth 20000 in
theorem kk_X9_163 : mv_kV RX9 163 mX7_side 2 := ⟨km_X7_side, (mv_t2 184 rfl rfl), (mv_t2 185 rfl rfl), (mv_t2 186 rfl rfl)⟩
set_option maxRecDepth 20000 in
theorem km_X9_measure : mv_mk mX9_measure 3 := ⟨(mv_t2 191 rfl rfl), (mv_t1 1 rfl rfl), ⟨by decide +kernel, by decide +kernel, by decide +kernel⟩, by decide⟩
set_option maxRecDepth 20000 in
theorem kk_X9_326 : mv_kV RX9 326 mX9_measure 3 := ⟨km_X9_measure, (mv_t2 188 rfl rfl), (mv_t2 190 rfl rfl), (mv_t0 10 rfl rfl)⟩
theorem gf_0_5 : mv_gf mv_SH 0 9 5 (some (some 38)) := ⟨_, so_0, rfl⟩
set_option maxRecDepth 20000 in
theorem km_X8_measure : mv_mk mX8_measure 5 := ⟨(mv_t2 195 rfl rfl), (mv_t1 6 rfl rfl), ⟨by decide +kernel, by decide +kernel, by decide +kernel⟩, by decide⟩
set_option maxRecDepth 20000 in
theorem kk_X9_351 : mv_kV RX9 351 mX8_measure 5 := ⟨km_X8_measure, (mv_t2 192 rfl rfl), (mv_t2 193 rfl rfl), (mv_t2 194 rfl rfl)⟩
set_option maxRecDepth 20000 in
theorem kf_X8_9 : mv_fl RX8 9 8 0 false .int := ⟨RX8, TX8, 5, tyX8, kc_8, by decide, rfl, rfl, Or.inl ⟨(mv_t1 134 rfl rfl), fun _ => rfl⟩⟩
theorem so_38 : mv_SH[38]? = some (.inr (8, [none, none, none, none, none])) := by decide +kernel
theorem gf_38_0 : mv_gf mv_SH 38 8 0 none := ⟨_, so_38, rfl⟩
set_option maxRecDepth 20000 in
theorem kf_X8_15 : mv_fl RX8 15 8 1 false .int := ⟨RX8, TX8, 5, tyX8, kc_8, by decide, rfl, rfl, Or.inl ⟨(mv_t1 135 rfl rfl), fun _ => rfl⟩⟩
theorem gf_38_1 : mv_gf mv_SH 38 8 1 none := ⟨_, so_38, rfl⟩
set_option maxRecDepth 20000 in
theorem kf_X8_18 : mv_fl RX8 18 8 2 false .int := ⟨RX8, TX8, 5, tyX8, kc_8, by decide, rfl, rfl, Or.inl ⟨(mv_t1 136 rfl rfl), fun _ => rfl⟩⟩
theorem gf_38_2 : mv_gf mv_SH 38 8 2 none := ⟨_, so_38, rfl⟩
set_option maxRecDepth 20000 in
theorem kf_X8_21 : mv_fl RX8 21 8 3 false .int := ⟨RX8, TX8, 5, tyX8, kc_8, by decide, rfl, rfl, Or.inl ⟨(mv_t1 137 rfl rfl), fun _ => rfl⟩⟩
theorem gf_38_3 : mv_gf mv_SH 38 8 3 none := ⟨_, so_38, rfl⟩
set_option maxRecDepth 20000 in
theorem kf_X8_24 : mv_fl RX8 24 8 4 false .int := ⟨RX8, TX8, 5, tyX8, kc_8, by decide, rfl, rfl, Or.inl ⟨(mv_t1 138 rfl rfl), fun _ => rfl⟩⟩
theorem gf_38_4 : mv_gf mv_SH 38 8 4 none := ⟨_, so_38, rfl⟩
theorem vc_8 : vwCl[8]? = some (RX8, TX8, 5) := rfl
set_option maxRecDepth 20000 in
theorem km_X8_round : mv_mk mX8_round 1 := ⟨(mv_t2 199 rfl rfl), (mv_t1 6 rfl rfl), ⟨by decide +kernel, by decide +kernel, by decide +kernel⟩, by decide⟩
set_option maxRecDepth 20000 in
theorem kk_X9_148 : mv_kV RX9 148 mX8_round 1 := ⟨km_X8_round, (mv_t2 196 rfl rfl), (mv_t2 197 rfl rfl), (mv_t2 198 rfl rfl)⟩
set_option maxRecDepth 20000 in
theorem km_X8_u : mv_mk mX8_u 1 := ⟨(mv_t2 203 rfl rfl), (mv_t1 6 rfl rfl), ⟨by decide +kernel, by decide +kernel, by decide +kernel⟩, by decide⟩
set_option maxRecDepth 20000 in
theorem kk_X8_27 : mv_kV RX8 27 mX8_u 1 := ⟨km_X8_u, (mv_t2 200 rfl rfl), (mv_t2 201 rfl rfl), (mv_t2 202 rfl rfl)⟩
set_option maxRecDepth 20000 in
theorem km_X8_v : mv_mk mX8_v 1 := ⟨(mv_t2 207 rfl rfl), (mv_t1 6 rfl rfl), ⟨by decide +kernel, by decide +kernel, by decide +kernel⟩, by decide⟩
set_option maxRecDepth 20000 in
theorem kk_X8_31 : mv_kV RX8 31 mX8_v 1 := ⟨km_X8_v, (mv_t2 204 rfl rfl), (mv_t2 205 rfl rfl), (mv_t2 206 rfl rfl)⟩
set_option maxRecDepth 20000 in
theorem km_X8_reach : mv_mk mX8_reach 1 := ⟨(mv_t2 211 rfl rfl), (mv_t1 6 rfl rfl), ⟨by decide +kernel, by decide +kernel, by decide +kernel⟩, by decide⟩
set_option maxRecDepth 20000 in
theorem kk_X9_151 : mv_kV RX9 151 mX8_reach 1 := ⟨km_X8_reach, (mv_t2 208 rfl rfl), (mv_t2 209 rfl rfl), (mv_t2 210 rfl rfl)⟩
set_option maxRecDepth 20000 in
theorem km_X8_along : mv_mk mX8_along 1 := ⟨(mv_t2 215 rfl rfl), (mv_t1 6 rfl rfl), ⟨by decide +kernel, by decide +kernel, by decide +kernel⟩, by decide⟩
set_option maxRecDepth 20000 in
theorem kk_X8_34 : mv_kV RX8 34 mX8_along 1 := ⟨km_X8_along, (mv_t2 212 rfl rfl), (mv_t2 213 rfl rfl), (mv_t2 214 rfl rfl)⟩
set_option maxRecDepth 20000 in
theorem kx_X8_37 : Cond.methodLink RX8 37 Lib.Math.min.name ∈ mv_tb := (mv_t2 216 rfl rfl)
set_option maxRecDepth 20000 in
theorem kx_min_s : Cond.static Lib.Math.min.name ∈ mv_tb := (mv_t2 217 rfl rfl)
set_option maxRecDepth 20000 in
theorem kx_math : Cond.initialized "java/lang/Math" ∈ mv_tb := (mv_t1 13 rfl rfl)
set_option maxRecDepth 20000 in
theorem kx_min_c : Cond.code Lib.Math.min.name Lib.Math.min.code 2 (some .int) ∈ mv_tb := (mv_t2 218 rfl rfl)
set_option maxRecDepth 20000 in
theorem km_X8_paper : mv_mk mX8_paper 1 := ⟨(mv_t2 222 rfl rfl), (mv_t1 6 rfl rfl), ⟨by decide +kernel, by decide +kernel, by decide +kernel⟩, by decide⟩
set_option maxRecDepth 20000 in
theorem kk_X9_154 : mv_kV RX9 154 mX8_paper 1 := ⟨km_X8_paper, (mv_t2 219 rfl rfl), (mv_t2 220 rfl rfl), (mv_t2 221 rfl rfl)⟩
set_option maxRecDepth 20000 in
theorem kk_X8_43 : mv_kV RX8 43 mX8_round 1 := ⟨km_X8_round, (mv_t2 223 rfl rfl), (mv_t2 197 rfl rfl), (mv_t2 198 rfl rfl)⟩
set_option maxRecDepth 20000 in
theorem kk_X8_46 : mv_kV RX8 46 mX8_reach 1 := ⟨km_X8_reach, (mv_t2 224 rfl rfl), (mv_t2 209 rfl rfl), (mv_t2 210 rfl rfl)⟩
set_option maxRecDepth 20000 in
theorem km_X10_need : mv_mk mX10_need 3 := ⟨(mv_t5 188 rfl rfl), (mv_t1 11 rfl rfl), ⟨by decide +kernel, by decide +kernel, by decide +kernel⟩, by decide⟩
set_option maxRecDepth 20000 in
theorem kk_L_57 : mv_kV RL 57 mX10_need 3 := ⟨km_X10_need, (mv_t5 185 rfl rfl), (mv_t5 186 rfl rfl), (mv_t5 187 rfl rfl)⟩
set_option maxRecDepth 20000 in
theorem km_X10_isAxis : mv_mk mX10_isAxis 1 := ⟨(mv_t5 191 rfl rfl), (mv_t1 11 rfl rfl), ⟨by decide +kernel, by decide +kernel, by decide +kernel⟩, by decide⟩
set_option maxRecDepth 20000 in
theorem kk_X10_206 : mv_kS RX10 206 mX10_isAxis 1 := ⟨km_X10_isAxis, (mv_t5 190 rfl rfl), Or.inl (mv_t5 189 rfl rfl)⟩
set_option maxRecDepth 20000 in
theorem km_X10_look : mv_mk mX10_look 1 := ⟨(mv_t5 195 rfl rfl), (mv_t1 11 rfl rfl), ⟨by decide +kernel, by decide +kernel, by decide +kernel⟩, by decide⟩
set_option maxRecDepth 20000 in
theorem kk_X10_209 : mv_kV RX10 209 mX10_look 1 := ⟨km_X10_look, (mv_t5 192 rfl rfl), (mv_t5 194 rfl rfl), (mv_t0 39 rfl rfl)⟩
set_option maxRecDepth 20000 in
theorem km_X10_layBox : mv_mk mX10_layBox 3 := ⟨(mv_t5 199 rfl rfl), (mv_t1 11 rfl rfl), ⟨by decide +kernel, by decide +kernel, by decide +kernel⟩, by decide⟩
set_option maxRecDepth 20000 in
theorem kk_X10_200 : mv_kV RX10 200 mX10_layBox 3 := ⟨km_X10_layBox, (mv_t5 196 rfl rfl), (mv_t5 198 rfl rfl), (mv_t0 40 rfl rfl)⟩
theorem gf_55_27 : mv_gf mv_SH 55 10 27 (some (some 69)) := ⟨_, so_55, rfl⟩
theorem so_69 : mv_SH[69]? = some (.inl (false, 3)) := by decide +kernel
theorem gf_55_25 : mv_gf mv_SH 55 10 25 (some (some 67)) := ⟨_, so_55, rfl⟩
theorem so_67 : mv_SH[67]? = some (.inl (false, 3)) := by decide +kernel
theorem gf_55_26 : mv_gf mv_SH 55 10 26 (some (some 68)) := ⟨_, so_55, rfl⟩
theorem so_68 : mv_SH[68]? = some (.inl (false, 3)) := by decide +kernel
theorem gf_55_23 : mv_gf mv_SH 55 10 23 (some (some 65)) := ⟨_, so_55, rfl⟩
theorem so_65 : mv_SH[65]? = some (.inl (false, 3)) := by decide +kernel
theorem gf_55_24 : mv_gf mv_SH 55 10 24 (some (some 66)) := ⟨_, so_55, rfl⟩
theorem so_66 : mv_SH[66]? = some (.inl (false, 3)) := by decide +kernel
set_option maxRecDepth 20000 in
theorem km_X10_paper : mv_mk mX10_paper 1 := ⟨(mv_t5 203 rfl rfl), (mv_t1 11 rfl rfl), ⟨by decide +kernel, by decide +kernel, by decide +kernel⟩, by decide⟩
set_option maxRecDepth 20000 in
theorem kk_X10_203 : mv_kV RX10 203 mX10_paper 1 := ⟨km_X10_paper, (mv_t5 200 rfl rfl), (mv_t5 202 rfl rfl), (mv_t0 41 rfl rfl)⟩
set_option maxRecDepth 20000 in
theorem km_X9_least : mv_mk mX9_least 2 := ⟨(mv_t2 228 rfl rfl), (mv_t1 1 rfl rfl), ⟨by decide +kernel, by decide +kernel, by decide +kernel⟩, by decide⟩
set_option maxRecDepth 20000 in
theorem kk_L_58 : mv_kV RL 58 mX9_least 2 := ⟨km_X9_least, (mv_t2 225 rfl rfl), (mv_t2 226 rfl rfl), (mv_t2 227 rfl rfl)⟩
set_option maxRecDepth 20000 in
theorem km_X8_leastAxis : mv_mk mX8_leastAxis 0 := ⟨(mv_t2 232 rfl rfl), (mv_t1 6 rfl rfl), ⟨by decide +kernel, by decide +kernel, by decide +kernel⟩, by decide⟩
set_option maxRecDepth 20000 in
theorem kk_X9_157 : mv_kV RX9 157 mX8_leastAxis 0 := ⟨km_X8_leastAxis, (mv_t2 229 rfl rfl), (mv_t2 230 rfl rfl), (mv_t2 231 rfl rfl)⟩
set_option maxRecDepth 20000 in
theorem kk_X8_49 : mv_kV RX8 49 mX8_paper 1 := ⟨km_X8_paper, (mv_t2 233 rfl rfl), (mv_t2 220 rfl rfl), (mv_t2 221 rfl rfl)⟩
set_option maxRecDepth 20000 in
theorem km_X8_leastPaper : mv_mk mX8_leastPaper 0 := ⟨(mv_t2 237 rfl rfl), (mv_t1 6 rfl rfl), ⟨by decide +kernel, by decide +kernel, by decide +kernel⟩, by decide⟩
set_option maxRecDepth 20000 in
theorem kk_X9_160 : mv_kV RX9 160 mX8_leastPaper 0 := ⟨km_X8_leastPaper, (mv_t2 234 rfl rfl), (mv_t2 235 rfl rfl), (mv_t2 236 rfl rfl)⟩
set_option maxRecDepth 20000 in
theorem kk_X8_52 : mv_kV RX8 52 mX8_leastAxis 0 := ⟨km_X8_leastAxis, (mv_t2 238 rfl rfl), (mv_t2 230 rfl rfl), (mv_t2 231 rfl rfl)⟩
set_option maxRecDepth 20000 in
theorem km_X10_least : mv_mk mX10_least 2 := ⟨(mv_t5 207 rfl rfl), (mv_t1 11 rfl rfl), ⟨by decide +kernel, by decide +kernel, by decide +kernel⟩, by decide⟩
set_option maxRecDepth 20000 in
theorem kk_L_61 : mv_kV RL 61 mX10_least 2 := ⟨km_X10_least, (mv_t5 204 rfl rfl), (mv_t5 205 rfl rfl), (mv_t5 206 rfl rfl)⟩
set_option maxRecDepth 20000 in
theorem km_X10_leastAxis : mv_mk mX10_leastAxis 0 := ⟨(mv_t5 211 rfl rfl), (mv_t1 11 rfl rfl), ⟨by decide +kernel, by decide +kernel, by decide +kernel⟩, by decide⟩
set_option maxRecDepth 20000 in
theorem kk_X10_213 : mv_kV RX10 213 mX10_leastAxis 0 := ⟨km_X10_leastAxis, (mv_t5 208 rfl rfl), (mv_t5 210 rfl rfl), (mv_t0 42 rfl rfl)⟩
set_option maxRecDepth 20000 in
theorem km_X9_does : mv_mk mX9_does 3 := ⟨(mv_t3 2 rfl rfl), (mv_t1 1 rfl rfl), ⟨by decide +kernel, by decide +kernel, by decide +kernel⟩, by decide⟩
set_option maxRecDepth 20000 in
theorem kk_L_62 : mv_kV RL 62 mX9_does 3 := ⟨km_X9_does, (mv_t2 239 rfl rfl), (mv_t3 0 rfl rfl), (mv_t3 1 rfl rfl)⟩
set_option maxRecDepth 20000 in
theorem km_X8_wayOnSheet : mv_mk mX8_wayOnSheet 2 := ⟨(mv_t3 6 rfl rfl), (mv_t1 6 rfl rfl), ⟨by decide +kernel, by decide +kernel, by decide +kernel⟩, by decide⟩
set_option maxRecDepth 20000 in
theorem kk_X9_167 : mv_kV RX9 167 mX8_wayOnSheet 2 := ⟨km_X8_wayOnSheet, (mv_t3 3 rfl rfl), (mv_t3 4 rfl rfl), (mv_t3 5 rfl rfl)⟩
set_option maxRecDepth 20000 in
theorem km_X9_axisOf : mv_mk mX9_axisOf 1 := ⟨(mv_t3 9 rfl rfl), (mv_t1 1 rfl rfl), ⟨by decide +kernel, by decide +kernel, by decide +kernel⟩, by decide⟩
set_option maxRecDepth 20000 in
theorem kk_X8_59 : mv_kS RX8 59 mX9_axisOf 1 := ⟨km_X9_axisOf, (mv_t3 8 rfl rfl), Or.inr ⟨"PaperBoxes", by decide +kernel⟩⟩
set_option maxRecDepth 20000 in
theorem km_X9_turnOf : mv_mk mX9_turnOf 1 := ⟨(mv_t3 12 rfl rfl), (mv_t1 1 rfl rfl), ⟨by decide +kernel, by decide +kernel, by decide +kernel⟩, by decide⟩
set_option maxRecDepth 20000 in
theorem kk_X8_62 : mv_kS RX8 62 mX9_turnOf 1 := ⟨km_X9_turnOf, (mv_t3 11 rfl rfl), Or.inr ⟨"PaperBoxes", by decide +kernel⟩⟩
set_option maxRecDepth 20000 in
theorem km_X8_lackOn : mv_mk mX8_lackOn 4 := ⟨(mv_t3 16 rfl rfl), (mv_t1 6 rfl rfl), ⟨by decide +kernel, by decide +kernel, by decide +kernel⟩, by decide⟩
set_option maxRecDepth 20000 in
theorem kk_X8_65 : mv_kV RX8 65 mX8_lackOn 4 := ⟨km_X8_lackOn, (mv_t3 13 rfl rfl), (mv_t3 14 rfl rfl), (mv_t3 15 rfl rfl)⟩
set_option maxRecDepth 20000 in
theorem kx_X8_56 : Cond.methodLink RX8 56 Lib.Math.max.name ∈ mv_tb := (mv_t3 17 rfl rfl)
set_option maxRecDepth 20000 in
theorem kx_max_s : Cond.static Lib.Math.max.name ∈ mv_tb := (mv_t3 18 rfl rfl)
set_option maxRecDepth 20000 in
theorem kx_max_c : Cond.code Lib.Math.max.name Lib.Math.max.code 2 (some .int) ∈ mv_tb := (mv_t3 19 rfl rfl)
set_option maxRecDepth 20000 in
theorem kk_X9_170 : mv_kS RX9 170 mX9_axisOf 1 := ⟨km_X9_axisOf, (mv_t3 8 rfl rfl), Or.inl (mv_t3 20 rfl rfl)⟩
set_option maxRecDepth 20000 in
theorem kk_X9_173 : mv_kS RX9 173 mX9_turnOf 1 := ⟨km_X9_turnOf, (mv_t3 11 rfl rfl), Or.inl (mv_t3 21 rfl rfl)⟩
set_option maxRecDepth 20000 in
theorem km_X7_area : mv_mk mX7_area 1 := ⟨(mv_t3 25 rfl rfl), (mv_t1 3 rfl rfl), ⟨by decide +kernel, by decide +kernel, by decide +kernel⟩, by decide⟩
set_option maxRecDepth 20000 in
theorem kk_X9_176 : mv_kV RX9 176 mX7_area 1 := ⟨km_X7_area, (mv_t3 22 rfl rfl), (mv_t3 23 rfl rfl), (mv_t3 24 rfl rfl)⟩
set_option maxRecDepth 20000 in
theorem kk_X7_43 : mv_kV RX7 43 mX7_side 2 := ⟨km_X7_side, (mv_t3 26 rfl rfl), (mv_t2 185 rfl rfl), (mv_t2 186 rfl rfl)⟩
set_option maxRecDepth 20000 in
theorem km_X10_does : mv_mk mX10_does 3 := ⟨(mv_t5 215 rfl rfl), (mv_t1 11 rfl rfl), ⟨by decide +kernel, by decide +kernel, by decide +kernel⟩, by decide⟩
set_option maxRecDepth 20000 in
theorem kk_L_65 : mv_kV RL 65 mX10_does 3 := ⟨km_X10_does, (mv_t5 212 rfl rfl), (mv_t5 213 rfl rfl), (mv_t5 214 rfl rfl)⟩
set_option maxRecDepth 20000 in
theorem km_X10_doesBy : mv_mk mX10_doesBy 1 := ⟨(mv_t5 219 rfl rfl), (mv_t1 11 rfl rfl), ⟨by decide +kernel, by decide +kernel, by decide +kernel⟩, by decide⟩
set_option maxRecDepth 20000 in
theorem kk_X10_216 : mv_kV RX10 216 mX10_doesBy 1 := ⟨km_X10_doesBy, (mv_t5 216 rfl rfl), (mv_t5 218 rfl rfl), (mv_t0 43 rfl rfl)⟩
set_option maxRecDepth 20000 in
theorem km_X10_areaOf : mv_mk mX10_areaOf 1 := ⟨(mv_t5 223 rfl rfl), (mv_t1 11 rfl rfl), ⟨by decide +kernel, by decide +kernel, by decide +kernel⟩, by decide⟩
set_option maxRecDepth 20000 in
theorem kk_X10_219 : mv_kV RX10 219 mX10_areaOf 1 := ⟨km_X10_areaOf, (mv_t5 220 rfl rfl), (mv_t5 222 rfl rfl), (mv_t0 44 rfl rfl)⟩
set_option maxRecDepth 20000 in
theorem km_X9_taken : mv_mk mX9_taken 1 := ⟨(mv_t3 30 rfl rfl), (mv_t1 1 rfl rfl), ⟨by decide +kernel, by decide +kernel, by decide +kernel⟩, by decide⟩
set_option maxRecDepth 20000 in
theorem kk_L_66 : mv_kV RL 66 mX9_taken 1 := ⟨km_X9_taken, (mv_t3 27 rfl rfl), (mv_t3 28 rfl rfl), (mv_t3 29 rfl rfl)⟩
set_option maxRecDepth 20000 in
theorem km_X9_sheetsDoingFor : mv_mk mX9_sheetsDoingFor 1 := ⟨(mv_t3 34 rfl rfl), (mv_t1 1 rfl rfl), ⟨by decide +kernel, by decide +kernel, by decide +kernel⟩, by decide⟩
set_option maxRecDepth 20000 in
theorem kk_X9_179 : mv_kV RX9 179 mX9_sheetsDoingFor 1 := ⟨km_X9_sheetsDoingFor, (mv_t3 31 rfl rfl), (mv_t3 33 rfl rfl), (mv_t0 11 rfl rfl)⟩
set_option maxRecDepth 20000 in
theorem km_X7_leastAreaOf : mv_mk mX7_leastAreaOf 1 := ⟨(mv_t3 38 rfl rfl), (mv_t1 3 rfl rfl), ⟨by decide +kernel, by decide +kernel, by decide +kernel⟩, by decide⟩
set_option maxRecDepth 20000 in
theorem kk_X9_182 : mv_kV RX9 182 mX7_leastAreaOf 1 := ⟨km_X7_leastAreaOf, (mv_t3 35 rfl rfl), (mv_t3 36 rfl rfl), (mv_t3 37 rfl rfl)⟩
set_option maxRecDepth 20000 in
theorem kk_X7_47 : mv_kV RX7 47 mX7_area 1 := ⟨km_X7_area, (mv_t3 39 rfl rfl), (mv_t3 23 rfl rfl), (mv_t3 24 rfl rfl)⟩
set_option maxRecDepth 20000 in
theorem km_X10_taken : mv_mk mX10_taken 1 := ⟨(mv_t5 227 rfl rfl), (mv_t1 11 rfl rfl), ⟨by decide +kernel, by decide +kernel, by decide +kernel⟩, by decide⟩
set_option maxRecDepth 20000 in
theorem kk_L_69 : mv_kV RL 69 mX10_taken 1 := ⟨km_X10_taken, (mv_t5 224 rfl rfl), (mv_t5 225 rfl rfl), (mv_t5 226 rfl rfl)⟩
set_option maxRecDepth 20000 in
theorem km_X10_takenOf : mv_mk mX10_takenOf 1 := ⟨(mv_t5 231 rfl rfl), (mv_t1 11 rfl rfl), ⟨by decide +kernel, by decide +kernel, by decide +kernel⟩, by decide⟩
set_option maxRecDepth 20000 in
theorem kk_X10_222 : mv_kV RX10 222 mX10_takenOf 1 := ⟨km_X10_takenOf, (mv_t5 228 rfl rfl), (mv_t5 230 rfl rfl), (mv_t0 45 rfl rfl)⟩
set_option maxRecDepth 20000 in
theorem km_X9_shortBy : mv_mk mX9_shortBy 4 := ⟨(mv_t3 43 rfl rfl), (mv_t1 1 rfl rfl), ⟨by decide +kernel, by decide +kernel, by decide +kernel⟩, by decide⟩
set_option maxRecDepth 20000 in
theorem kk_L_70 : mv_kV RL 70 mX9_shortBy 4 := ⟨km_X9_shortBy, (mv_t3 40 rfl rfl), (mv_t3 41 rfl rfl), (mv_t3 42 rfl rfl)⟩
set_option maxRecDepth 20000 in
theorem kk_X9_185 : mv_kV RX9 185 mX8_lackOn 4 := ⟨km_X8_lackOn, (mv_t3 44 rfl rfl), (mv_t3 14 rfl rfl), (mv_t3 15 rfl rfl)⟩
set_option maxRecDepth 20000 in
theorem km_X10_shortBy : mv_mk mX10_shortBy 4 := ⟨(mv_t5 235 rfl rfl), (mv_t1 11 rfl rfl), ⟨by decide +kernel, by decide +kernel, by decide +kernel⟩, by decide⟩
set_option maxRecDepth 20000 in
theorem kk_L_73 : mv_kV RL 73 mX10_shortBy 4 := ⟨km_X10_shortBy, (mv_t5 232 rfl rfl), (mv_t5 233 rfl rfl), (mv_t5 234 rfl rfl)⟩
set_option maxRecDepth 20000 in
theorem km_X10_above : mv_mk mX10_above 1 := ⟨(mv_t5 238 rfl rfl), (mv_t1 11 rfl rfl), ⟨by decide +kernel, by decide +kernel, by decide +kernel⟩, by decide⟩
set_option maxRecDepth 20000 in
theorem kk_X10_225 : mv_kS RX10 225 mX10_above 1 := ⟨km_X10_above, (mv_t5 237 rfl rfl), Or.inl (mv_t5 236 rfl rfl)⟩
set_option maxRecDepth 20000 in
theorem km_X9_slant : mv_mk mX9_slant 2 := ⟨(mv_t3 48 rfl rfl), (mv_t1 1 rfl rfl), ⟨by decide +kernel, by decide +kernel, by decide +kernel⟩, by decide⟩
set_option maxRecDepth 20000 in
theorem kk_L_74 : mv_kV RL 74 mX9_slant 2 := ⟨km_X9_slant, (mv_t3 45 rfl rfl), (mv_t3 46 rfl rfl), (mv_t3 47 rfl rfl)⟩
set_option maxRecDepth 20000 in
theorem km_X8_squareFor : mv_mk mX8_squareFor 1 := ⟨(mv_t3 52 rfl rfl), (mv_t1 6 rfl rfl), ⟨by decide +kernel, by decide +kernel, by decide +kernel⟩, by decide⟩
set_option maxRecDepth 20000 in
theorem kk_X9_189 : mv_kV RX9 189 mX8_squareFor 1 := ⟨km_X8_squareFor, (mv_t3 49 rfl rfl), (mv_t3 50 rfl rfl), (mv_t3 51 rfl rfl)⟩
set_option maxRecDepth 20000 in
theorem km_X9_rootAbove : mv_mk mX9_rootAbove 1 := ⟨(mv_t3 55 rfl rfl), (mv_t1 1 rfl rfl), ⟨by decide +kernel, by decide +kernel, by decide +kernel⟩, by decide⟩
set_option maxRecDepth 20000 in
theorem kk_X8_75 : mv_kS RX8 75 mX9_rootAbove 1 := ⟨km_X9_rootAbove, (mv_t3 54 rfl rfl), Or.inr ⟨"PaperBoxes", by decide +kernel⟩⟩
set_option maxRecDepth 20000 in
theorem km_X9_rootBelow : mv_mk mX9_rootBelow 1 := ⟨(mv_t3 58 rfl rfl), (mv_t1 1 rfl rfl), ⟨by decide +kernel, by decide +kernel, by decide +kernel⟩, by decide⟩
set_option maxRecDepth 20000 in
theorem kk_X9_278 : mv_kS RX9 278 mX9_rootBelow 1 := ⟨km_X9_rootBelow, (mv_t3 57 rfl rfl), Or.inl (mv_t3 56 rfl rfl)⟩
set_option maxRecDepth 20000 in
theorem km_X10_slant : mv_mk mX10_slant 2 := ⟨(mv_t6 2 rfl rfl), (mv_t1 11 rfl rfl), ⟨by decide +kernel, by decide +kernel, by decide +kernel⟩, by decide⟩
set_option maxRecDepth 20000 in
theorem kk_L_77 : mv_kV RL 77 mX10_slant 2 := ⟨km_X10_slant, (mv_t5 239 rfl rfl), (mv_t6 0 rfl rfl), (mv_t6 1 rfl rfl)⟩
set_option maxRecDepth 20000 in
theorem km_X10_slantBy : mv_mk mX10_slantBy 1 := ⟨(mv_t6 6 rfl rfl), (mv_t1 11 rfl rfl), ⟨by decide +kernel, by decide +kernel, by decide +kernel⟩, by decide⟩
set_option maxRecDepth 20000 in
theorem kk_X10_231 : mv_kV RX10 231 mX10_slantBy 1 := ⟨km_X10_slantBy, (mv_t6 3 rfl rfl), (mv_t6 5 rfl rfl), (mv_t0 46 rfl rfl)⟩
set_option maxRecDepth 20000 in
theorem km_X10_rootOf : mv_mk mX10_rootOf 1 := ⟨(mv_t6 9 rfl rfl), (mv_t1 11 rfl rfl), ⟨by decide +kernel, by decide +kernel, by decide +kernel⟩, by decide⟩
set_option maxRecDepth 20000 in
theorem kk_X10_228 : mv_kS RX10 228 mX10_rootOf 1 := ⟨km_X10_rootOf, (mv_t6 8 rfl rfl), Or.inl (mv_t6 7 rfl rfl)⟩
set_option maxRecDepth 20000 in
theorem km_X9_slants : mv_mk mX9_slants 2 := ⟨(mv_t3 62 rfl rfl), (mv_t1 1 rfl rfl), ⟨by decide +kernel, by decide +kernel, by decide +kernel⟩, by decide⟩
set_option maxRecDepth 20000 in
theorem kk_L_78 : mv_kV RL 78 mX9_slants 2 := ⟨km_X9_slants, (mv_t3 59 rfl rfl), (mv_t3 60 rfl rfl), (mv_t3 61 rfl rfl)⟩
set_option maxRecDepth 20000 in
theorem km_X8_leastSquare : mv_mk mX8_leastSquare 0 := ⟨(mv_t3 66 rfl rfl), (mv_t1 6 rfl rfl), ⟨by decide +kernel, by decide +kernel, by decide +kernel⟩, by decide⟩
set_option maxRecDepth 20000 in
theorem kk_X9_192 : mv_kV RX9 192 mX8_leastSquare 0 := ⟨km_X8_leastSquare, (mv_t3 63 rfl rfl), (mv_t3 64 rfl rfl), (mv_t3 65 rfl rfl)⟩
set_option maxRecDepth 20000 in
theorem kk_X8_78 : mv_kV RX8 78 mX8_squareFor 1 := ⟨km_X8_squareFor, (mv_t3 67 rfl rfl), (mv_t3 50 rfl rfl), (mv_t3 51 rfl rfl)⟩
set_option maxRecDepth 20000 in
theorem kx_X9_195 : Cond.methodLink RX9 195 Lib.Math.min.name ∈ mv_tb := (mv_t3 68 rfl rfl)
set_option maxRecDepth 20000 in
theorem km_X10_slants : mv_mk mX10_slants 2 := ⟨(mv_t6 13 rfl rfl), (mv_t1 11 rfl rfl), ⟨by decide +kernel, by decide +kernel, by decide +kernel⟩, by decide⟩
set_option maxRecDepth 20000 in
theorem kk_L_81 : mv_kV RL 81 mX10_slants 2 := ⟨km_X10_slants, (mv_t6 10 rfl rfl), (mv_t6 11 rfl rfl), (mv_t6 12 rfl rfl)⟩
set_option maxRecDepth 20000 in
theorem km_X10_leastSlant : mv_mk mX10_leastSlant 0 := ⟨(mv_t6 17 rfl rfl), (mv_t1 11 rfl rfl), ⟨by decide +kernel, by decide +kernel, by decide +kernel⟩, by decide⟩
set_option maxRecDepth 20000 in
theorem kk_X10_234 : mv_kV RX10 234 mX10_leastSlant 0 := ⟨km_X10_leastSlant, (mv_t6 14 rfl rfl), (mv_t6 16 rfl rfl), (mv_t0 47 rfl rfl)⟩
set_option maxRecDepth 20000 in
theorem km_X9_saved : mv_mk mX9_saved 1 := ⟨(mv_t3 72 rfl rfl), (mv_t1 1 rfl rfl), ⟨by decide +kernel, by decide +kernel, by decide +kernel⟩, by decide⟩
set_option maxRecDepth 20000 in
theorem kk_L_82 : mv_kV RL 82 mX9_saved 1 := ⟨km_X9_saved, (mv_t3 69 rfl rfl), (mv_t3 70 rfl rfl), (mv_t3 71 rfl rfl)⟩
set_option maxRecDepth 20000 in
theorem kn_X9_200 : Cond.constant RX9 200 100000 ∈ mv_tb := (mv_t3 73 rfl rfl)
set_option maxRecDepth 20000 in
theorem km_X10_saved : mv_mk mX10_saved 1 := ⟨(mv_t6 21 rfl rfl), (mv_t1 11 rfl rfl), ⟨by decide +kernel, by decide +kernel, by decide +kernel⟩, by decide⟩
set_option maxRecDepth 20000 in
theorem kk_L_85 : mv_kV RL 85 mX10_saved 1 := ⟨km_X10_saved, (mv_t6 18 rfl rfl), (mv_t6 19 rfl rfl), (mv_t6 20 rfl rfl)⟩
set_option maxRecDepth 20000 in
theorem kn_X10_237 : Cond.constant RX10 237 100000 ∈ mv_tb := (mv_t6 22 rfl rfl)
set_option maxRecDepth 20000 in
theorem km_X9_roll : mv_mk mX9_roll 3 := ⟨(mv_t3 77 rfl rfl), (mv_t1 1 rfl rfl), ⟨by decide +kernel, by decide +kernel, by decide +kernel⟩, by decide⟩
set_option maxRecDepth 20000 in
theorem kk_L_86 : mv_kV RL 86 mX9_roll 3 := ⟨km_X9_roll, (mv_t3 74 rfl rfl), (mv_t3 75 rfl rfl), (mv_t3 76 rfl rfl)⟩
set_option maxRecDepth 20000 in
theorem km_X8_wayOffRoll : mv_mk mX8_wayOffRoll 1 := ⟨(mv_t3 81 rfl rfl), (mv_t1 6 rfl rfl), ⟨by decide +kernel, by decide +kernel, by decide +kernel⟩, by decide⟩
set_option maxRecDepth 20000 in
theorem kk_X9_201 : mv_kV RX9 201 mX8_wayOffRoll 1 := ⟨km_X8_wayOffRoll, (mv_t3 78 rfl rfl), (mv_t3 79 rfl rfl), (mv_t3 80 rfl rfl)⟩
set_option maxRecDepth 20000 in
theorem km_X8_acrossOff : mv_mk mX8_acrossOff 1 := ⟨(mv_t3 85 rfl rfl), (mv_t1 6 rfl rfl), ⟨by decide +kernel, by decide +kernel, by decide +kernel⟩, by decide⟩
set_option maxRecDepth 20000 in
theorem kk_X8_69 : mv_kV RX8 69 mX8_acrossOff 1 := ⟨km_X8_acrossOff, (mv_t3 82 rfl rfl), (mv_t3 83 rfl rfl), (mv_t3 84 rfl rfl)⟩
set_option maxRecDepth 20000 in
theorem km_X8_lengthOff : mv_mk mX8_lengthOff 1 := ⟨(mv_t3 89 rfl rfl), (mv_t1 6 rfl rfl), ⟨by decide +kernel, by decide +kernel, by decide +kernel⟩, by decide⟩
set_option maxRecDepth 20000 in
theorem kk_X8_72 : mv_kV RX8 72 mX8_lengthOff 1 := ⟨km_X8_lengthOff, (mv_t3 86 rfl rfl), (mv_t3 87 rfl rfl), (mv_t3 88 rfl rfl)⟩
set_option maxRecDepth 20000 in
theorem kk_X9_204 : mv_kV RX9 204 mX8_lengthOff 1 := ⟨km_X8_lengthOff, (mv_t3 90 rfl rfl), (mv_t3 87 rfl rfl), (mv_t3 88 rfl rfl)⟩
set_option maxRecDepth 20000 in
theorem km_X10_roll : mv_mk mX10_roll 3 := ⟨(mv_t6 26 rfl rfl), (mv_t1 11 rfl rfl), ⟨by decide +kernel, by decide +kernel, by decide +kernel⟩, by decide⟩
set_option maxRecDepth 20000 in
theorem kk_L_89 : mv_kV RL 89 mX10_roll 3 := ⟨km_X10_roll, (mv_t6 23 rfl rfl), (mv_t6 24 rfl rfl), (mv_t6 25 rfl rfl)⟩
set_option maxRecDepth 20000 in
theorem km_X10_isWide : mv_mk mX10_isWide 1 := ⟨(mv_t6 29 rfl rfl), (mv_t1 11 rfl rfl), ⟨by decide +kernel, by decide +kernel, by decide +kernel⟩, by decide⟩
set_option maxRecDepth 20000 in
theorem kk_X10_244 : mv_kS RX10 244 mX10_isWide 1 := ⟨km_X10_isWide, (mv_t6 28 rfl rfl), Or.inl (mv_t6 27 rfl rfl)⟩
set_option maxRecDepth 20000 in
theorem km_X10_rollBy : mv_mk mX10_rollBy 1 := ⟨(mv_t6 33 rfl rfl), (mv_t1 11 rfl rfl), ⟨by decide +kernel, by decide +kernel, by decide +kernel⟩, by decide⟩
set_option maxRecDepth 20000 in
theorem kk_X10_247 : mv_kV RX10 247 mX10_rollBy 1 := ⟨km_X10_rollBy, (mv_t6 30 rfl rfl), (mv_t6 32 rfl rfl), (mv_t0 48 rfl rfl)⟩
set_option maxRecDepth 20000 in
theorem km_X10_acrossBy : mv_mk mX10_acrossBy 1 := ⟨(mv_t6 37 rfl rfl), (mv_t1 11 rfl rfl), ⟨by decide +kernel, by decide +kernel, by decide +kernel⟩, by decide⟩
set_option maxRecDepth 20000 in
theorem kk_X10_238 : mv_kV RX10 238 mX10_acrossBy 1 := ⟨km_X10_acrossBy, (mv_t6 34 rfl rfl), (mv_t6 36 rfl rfl), (mv_t0 49 rfl rfl)⟩
set_option maxRecDepth 20000 in
theorem km_X10_lengthBy : mv_mk mX10_lengthBy 1 := ⟨(mv_t6 41 rfl rfl), (mv_t1 11 rfl rfl), ⟨by decide +kernel, by decide +kernel, by decide +kernel⟩, by decide⟩
set_option maxRecDepth 20000 in
theorem kk_X10_241 : mv_kV RX10 241 mX10_lengthBy 1 := ⟨km_X10_lengthBy, (mv_t6 38 rfl rfl), (mv_t6 40 rfl rfl), (mv_t0 50 rfl rfl)⟩
set_option maxRecDepth 20000 in
theorem km_X9_cheaper : mv_mk mX9_cheaper 6 := ⟨(mv_t3 94 rfl rfl), (mv_t1 1 rfl rfl), ⟨by decide +kernel, by decide +kernel, by decide +kernel⟩, by decide⟩
set_option maxRecDepth 20000 in
theorem kk_L_90 : mv_kV RL 90 mX9_cheaper 6 := ⟨km_X9_cheaper, (mv_t3 91 rfl rfl), (mv_t3 92 rfl rfl), (mv_t3 93 rfl rfl)⟩
set_option maxRecDepth 20000 in
theorem km_X9_isRoll : mv_mk mX9_isRoll 2 := ⟨(mv_t3 97 rfl rfl), (mv_t1 1 rfl rfl), ⟨by decide +kernel, by decide +kernel, by decide +kernel⟩, by decide⟩
set_option maxRecDepth 20000 in
theorem kk_X9_207 : mv_kS RX9 207 mX9_isRoll 2 := ⟨km_X9_isRoll, (mv_t3 96 rfl rfl), Or.inl (mv_t3 95 rfl rfl)⟩
set_option maxRecDepth 20000 in
theorem km_X9_priceOff : mv_mk mX9_priceOff 3 := ⟨(mv_t3 101 rfl rfl), (mv_t1 1 rfl rfl), ⟨by decide +kernel, by decide +kernel, by decide +kernel⟩, by decide⟩
set_option maxRecDepth 20000 in
theorem kk_X9_210 : mv_kV RX9 210 mX9_priceOff 3 := ⟨km_X9_priceOff, (mv_t3 98 rfl rfl), (mv_t3 100 rfl rfl), (mv_t0 12 rfl rfl)⟩
set_option maxRecDepth 20000 in
theorem km_X10_cheaper : mv_mk mX10_cheaper 6 := ⟨(mv_t6 45 rfl rfl), (mv_t1 11 rfl rfl), ⟨by decide +kernel, by decide +kernel, by decide +kernel⟩, by decide⟩
set_option maxRecDepth 20000 in
theorem kk_L_94 : mv_kV RL 94 mX10_cheaper 6 := ⟨km_X10_cheaper, (mv_t6 42 rfl rfl), (mv_t6 43 rfl rfl), (mv_t6 44 rfl rfl)⟩
set_option maxRecDepth 20000 in
theorem kn_X10_250 : Cond.constantLong RX10 250 99 ∈ mv_tb := (mv_t6 46 rfl rfl)
set_option maxRecDepth 20000 in
theorem kn_X10_252 : Cond.constant RX10 252 1000000000 ∈ mv_tb := (mv_t6 47 rfl rfl)
set_option maxRecDepth 20000 in
theorem km_X9_narrow : mv_mk mX9_narrow 2 := ⟨(mv_t3 105 rfl rfl), (mv_t1 1 rfl rfl), ⟨by decide +kernel, by decide +kernel, by decide +kernel⟩, by decide⟩
set_option maxRecDepth 20000 in
theorem kk_L_95 : mv_kV RL 95 mX9_narrow 2 := ⟨km_X9_narrow, (mv_t3 102 rfl rfl), (mv_t3 103 rfl rfl), (mv_t3 104 rfl rfl)⟩
set_option maxRecDepth 20000 in
theorem km_X8_leastAcross : mv_mk mX8_leastAcross 1 := ⟨(mv_t3 109 rfl rfl), (mv_t1 6 rfl rfl), ⟨by decide +kernel, by decide +kernel, by decide +kernel⟩, by decide⟩
set_option maxRecDepth 20000 in
theorem kk_X9_214 : mv_kV RX9 214 mX8_leastAcross 1 := ⟨km_X8_leastAcross, (mv_t3 106 rfl rfl), (mv_t3 107 rfl rfl), (mv_t3 108 rfl rfl)⟩
set_option maxRecDepth 20000 in
theorem km_X10_narrow : mv_mk mX10_narrow 2 := ⟨(mv_t6 51 rfl rfl), (mv_t1 11 rfl rfl), ⟨by decide +kernel, by decide +kernel, by decide +kernel⟩, by decide⟩
set_option maxRecDepth 20000 in
theorem kk_L_98 : mv_kV RL 98 mX10_narrow 2 := ⟨km_X10_narrow, (mv_t6 48 rfl rfl), (mv_t6 49 rfl rfl), (mv_t6 50 rfl rfl)⟩
set_option maxRecDepth 20000 in
theorem kn_X10_253 : Cond.constantLong RX10 253 300 ∈ mv_tb := (mv_t6 52 rfl rfl)
set_option maxRecDepth 20000 in
theorem km_X9_pieces : mv_mk mX9_pieces 3 := ⟨(mv_t3 113 rfl rfl), (mv_t1 1 rfl rfl), ⟨by decide +kernel, by decide +kernel, by decide +kernel⟩, by decide⟩
set_option maxRecDepth 20000 in
theorem kk_L_99 : mv_kV RL 99 mX9_pieces 3 := ⟨km_X9_pieces, (mv_t3 110 rfl rfl), (mv_t3 111 rfl rfl), (mv_t3 112 rfl rfl)⟩
theorem gf_0_6 : mv_gf mv_SH 0 9 6 (some (some 39)) := ⟨_, so_0, rfl⟩
set_option maxRecDepth 20000 in
theorem km_X6_gather : mv_mk mX6_gather 2 := ⟨(mv_t3 117 rfl rfl), (mv_t1 7 rfl rfl), ⟨by decide +kernel, by decide +kernel, by decide +kernel⟩, by decide⟩
set_option maxRecDepth 20000 in
theorem kk_X9_217 : mv_kV RX9 217 mX6_gather 2 := ⟨km_X6_gather, (mv_t3 114 rfl rfl), (mv_t3 115 rfl rfl), (mv_t3 116 rfl rfl)⟩
set_option maxRecDepth 20000 in
theorem kk_X6_15 : mv_kV RX6 15 mX7_side 2 := ⟨km_X7_side, (mv_t3 118 rfl rfl), (mv_t2 185 rfl rfl), (mv_t2 186 rfl rfl)⟩
theorem so_39 : mv_SH[39]? = some (.inr (6, [some (some 40)])) := by decide +kernel
theorem gf_39_0 : mv_gf mv_SH 39 6 0 (some (some 40)) := ⟨_, so_39, rfl⟩
set_option maxRecDepth 20000 in
theorem kk_X6_21 : mv_kV RX6 21 mX7_has 1 := ⟨km_X7_has, (mv_t3 119 rfl rfl), (mv_t2 69 rfl rfl), (mv_t2 70 rfl rfl)⟩
theorem so_40 : mv_SH[40]? = some (.inl (false, 6)) := by decide +kernel
set_option maxRecDepth 20000 in
theorem kx_X6_25 : Cond.methodLink RX6 25 Lib.Math.max.name ∈ mv_tb := (mv_t3 120 rfl rfl)
theorem vc_6 : vwCl[6]? = some (RX6, TX6, 1) := rfl
set_option maxRecDepth 20000 in
theorem km_X8_girth : mv_mk mX8_girth 1 := ⟨(mv_t3 124 rfl rfl), (mv_t1 6 rfl rfl), ⟨by decide +kernel, by decide +kernel, by decide +kernel⟩, by decide⟩
set_option maxRecDepth 20000 in
theorem kk_X9_221 : mv_kV RX9 221 mX8_girth 1 := ⟨km_X8_girth, (mv_t3 121 rfl rfl), (mv_t3 122 rfl rfl), (mv_t3 123 rfl rfl)⟩
set_option maxRecDepth 20000 in
theorem km_X6_fewest : mv_mk mX6_fewest 2 := ⟨(mv_t3 128 rfl rfl), (mv_t1 7 rfl rfl), ⟨by decide +kernel, by decide +kernel, by decide +kernel⟩, by decide⟩
set_option maxRecDepth 20000 in
theorem kk_X9_224 : mv_kV RX9 224 mX6_fewest 2 := ⟨km_X6_fewest, (mv_t3 125 rfl rfl), (mv_t3 126 rfl rfl), (mv_t3 127 rfl rfl)⟩
set_option maxRecDepth 20000 in
theorem kk_X6_30 : mv_kS RX6 30 mJ6_bitCount_0f7a4 1 := ⟨km_J6_bitCount_0f7a4, (mv_t2 47 rfl rfl), Or.inl (mv_t3 129 rfl rfl)⟩
set_option maxRecDepth 20000 in
theorem km_X6_sumOf : mv_mk mX6_sumOf 1 := ⟨(mv_t3 133 rfl rfl), (mv_t1 7 rfl rfl), ⟨by decide +kernel, by decide +kernel, by decide +kernel⟩, by decide⟩
set_option maxRecDepth 20000 in
theorem kk_X6_36 : mv_kV RX6 36 mX6_sumOf 1 := ⟨km_X6_sumOf, (mv_t3 130 rfl rfl), (mv_t3 132 rfl rfl), (mv_t0 13 rfl rfl)⟩
set_option maxRecDepth 20000 in
theorem kk_X6_39 : mv_kS RX6 39 mX9_isIn 2 := ⟨km_X9_isIn, (mv_t2 73 rfl rfl), Or.inr ⟨"PaperBoxes", by decide +kernel⟩⟩
set_option maxRecDepth 20000 in
theorem kk_X9_227 : mv_kS RX9 227 mJ6_bitCount_0f7a4 1 := ⟨km_J6_bitCount_0f7a4, (mv_t2 47 rfl rfl), Or.inl (mv_t3 135 rfl rfl)⟩
set_option maxRecDepth 20000 in
theorem km_X10_pieces : mv_mk mX10_pieces 3 := ⟨(mv_t6 56 rfl rfl), (mv_t1 11 rfl rfl), ⟨by decide +kernel, by decide +kernel, by decide +kernel⟩, by decide⟩
set_option maxRecDepth 20000 in
theorem kk_L_102 : mv_kV RL 102 mX10_pieces 3 := ⟨km_X10_pieces, (mv_t6 53 rfl rfl), (mv_t6 54 rfl rfl), (mv_t6 55 rfl rfl)⟩
set_option maxRecDepth 20000 in
theorem km_X10_goRound : mv_mk mX10_goRound 2 := ⟨(mv_t6 60 rfl rfl), (mv_t1 11 rfl rfl), ⟨by decide +kernel, by decide +kernel, by decide +kernel⟩, by decide⟩
set_option maxRecDepth 20000 in
theorem kk_X10_259 : mv_kV RX10 259 mX10_goRound 2 := ⟨km_X10_goRound, (mv_t6 57 rfl rfl), (mv_t6 59 rfl rfl), (mv_t0 51 rfl rfl)⟩
set_option maxRecDepth 20000 in
theorem km_X10_givenBy : mv_mk mX10_givenBy 2 := ⟨(mv_t6 64 rfl rfl), (mv_t1 11 rfl rfl), ⟨by decide +kernel, by decide +kernel, by decide +kernel⟩, by decide⟩
set_option maxRecDepth 20000 in
theorem kk_X10_255 : mv_kV RX10 255 mX10_givenBy 2 := ⟨km_X10_givenBy, (mv_t6 61 rfl rfl), (mv_t6 63 rfl rfl), (mv_t0 52 rfl rfl)⟩
set_option maxRecDepth 20000 in
theorem km_X9_cut : mv_mk mX9_cut 2 := ⟨(mv_t3 139 rfl rfl), (mv_t1 1 rfl rfl), ⟨by decide +kernel, by decide +kernel, by decide +kernel⟩, by decide⟩
set_option maxRecDepth 20000 in
theorem kk_L_103 : mv_kV RL 103 mX9_cut 2 := ⟨km_X9_cut, (mv_t3 136 rfl rfl), (mv_t3 137 rfl rfl), (mv_t3 138 rfl rfl)⟩
set_option maxRecDepth 20000 in
theorem km_X7_holdsAll : mv_mk mX7_holdsAll 1 := ⟨(mv_t3 143 rfl rfl), (mv_t1 3 rfl rfl), ⟨by decide +kernel, by decide +kernel, by decide +kernel⟩, by decide⟩
set_option maxRecDepth 20000 in
theorem kk_X9_232 : mv_kV RX9 232 mX7_holdsAll 1 := ⟨km_X7_holdsAll, (mv_t3 140 rfl rfl), (mv_t3 141 rfl rfl), (mv_t3 142 rfl rfl)⟩
set_option maxRecDepth 20000 in
theorem km_X9_startCuts : mv_mk mX9_startCuts 2 := ⟨(mv_t3 147 rfl rfl), (mv_t1 1 rfl rfl), ⟨by decide +kernel, by decide +kernel, by decide +kernel⟩, by decide⟩
set_option maxRecDepth 20000 in
theorem kk_X9_235 : mv_kV RX9 235 mX9_startCuts 2 := ⟨km_X9_startCuts, (mv_t3 144 rfl rfl), (mv_t3 146 rfl rfl), (mv_t0 14 rfl rfl)⟩
theorem gf_0_7 : mv_gf mv_SH 0 9 7 (some (some 41)) := ⟨_, so_0, rfl⟩
set_option maxRecDepth 20000 in
theorem km_X0_start : mv_mk mX0_start 2 := ⟨(mv_t3 151 rfl rfl), (mv_t1 8 rfl rfl), ⟨by decide +kernel, by decide +kernel, by decide +kernel⟩, by decide⟩
set_option maxRecDepth 20000 in
theorem kk_X9_354 : mv_kV RX9 354 mX0_start 2 := ⟨km_X0_start, (mv_t3 148 rfl rfl), (mv_t3 149 rfl rfl), (mv_t3 150 rfl rfl)⟩
set_option maxRecDepth 20000 in
theorem kf_X0_24 : mv_fl RX0 24 0 4 false .int := ⟨RX0, TX0, 6, tyX0, kc_0, by decide, rfl, rfl, Or.inl ⟨(mv_t1 170 rfl rfl), fun _ => rfl⟩⟩
theorem so_41 : mv_SH[41]? = some (.inr (0, [some (some 42), some (some 43), some (some 44), some (some 45), none, none])) := by decide +kernel
theorem gf_41_4 : mv_gf mv_SH 41 0 4 none := ⟨_, so_41, rfl⟩
set_option maxRecDepth 20000 in
theorem kf_X0_28 : mv_fl RX0 28 0 5 false .int := ⟨RX0, TX0, 6, tyX0, kc_0, by decide, rfl, rfl, Or.inl ⟨(mv_t1 171 rfl rfl), fun _ => rfl⟩⟩
theorem gf_41_5 : mv_gf mv_SH 41 0 5 none := ⟨_, so_41, rfl⟩
theorem gf_41_2 : mv_gf mv_SH 41 0 2 (some (some 44)) := ⟨_, so_41, rfl⟩
theorem so_44 : mv_SH[44]? = some (.inl (false, 64)) := by decide +kernel
theorem gf_41_3 : mv_gf mv_SH 41 0 3 (some (some 45)) := ⟨_, so_41, rfl⟩
theorem so_45 : mv_SH[45]? = some (.inl (false, 64)) := by decide +kernel
theorem vc_0 : vwCl[0]? = some (RX0, TX0, 6) := rfl
set_option maxRecDepth 20000 in
theorem kk_X9_250 : mv_kS RX9 250 mX9_isIn 2 := ⟨km_X9_isIn, (mv_t2 73 rfl rfl), Or.inl (mv_t3 152 rfl rfl)⟩
set_option maxRecDepth 20000 in
theorem km_X0_want : mv_mk mX0_want 3 := ⟨(mv_t3 156 rfl rfl), (mv_t1 8 rfl rfl), ⟨by decide +kernel, by decide +kernel, by decide +kernel⟩, by decide⟩
set_option maxRecDepth 20000 in
theorem kk_X9_357 : mv_kV RX9 357 mX0_want 3 := ⟨km_X0_want, (mv_t3 153 rfl rfl), (mv_t3 154 rfl rfl), (mv_t3 155 rfl rfl)⟩
set_option maxRecDepth 20000 in
theorem kk_X0_31 : mv_kS RX0 31 mX9_isNumber 1 := ⟨km_X9_isNumber, (mv_t2 29 rfl rfl), Or.inr ⟨"PaperBoxes", by decide +kernel⟩⟩
theorem gf_41_0 : mv_gf mv_SH 41 0 0 (some (some 42)) := ⟨_, so_41, rfl⟩
theorem so_42 : mv_SH[42]? = some (.inl (false, 6)) := by decide +kernel
theorem gf_41_1 : mv_gf mv_SH 41 0 1 (some (some 43)) := ⟨_, so_41, rfl⟩
theorem so_43 : mv_SH[43]? = some (.inl (false, 6)) := by decide +kernel
set_option maxRecDepth 20000 in
theorem km_X0_gives : mv_mk mX0_gives 1 := ⟨(mv_t3 161 rfl rfl), (mv_t1 8 rfl rfl), ⟨by decide +kernel, by decide +kernel, by decide +kernel⟩, by decide⟩
set_option maxRecDepth 20000 in
theorem kk_X9_238 : mv_kV RX9 238 mX0_gives 1 := ⟨km_X0_gives, (mv_t3 158 rfl rfl), (mv_t3 159 rfl rfl), (mv_t3 160 rfl rfl)⟩
set_option maxRecDepth 20000 in
theorem km_X0_paperOf : mv_mk mX0_paperOf 1 := ⟨(mv_t3 165 rfl rfl), (mv_t1 8 rfl rfl), ⟨by decide +kernel, by decide +kernel, by decide +kernel⟩, by decide⟩
set_option maxRecDepth 20000 in
theorem kk_X0_48 : mv_kV RX0 48 mX0_paperOf 1 := ⟨km_X0_paperOf, (mv_t3 162 rfl rfl), (mv_t3 163 rfl rfl), (mv_t3 164 rfl rfl)⟩
set_option maxRecDepth 20000 in
theorem kk_X0_35 : mv_kS RX0 35 mX9_isIn 2 := ⟨km_X9_isIn, (mv_t2 73 rfl rfl), Or.inr ⟨"PaperBoxes", by decide +kernel⟩⟩
set_option maxRecDepth 20000 in
theorem kk_X0_39 : mv_kS RX0 39 mJ6_bitCount_0f7a4 1 := ⟨km_J6_bitCount_0f7a4, (mv_t2 47 rfl rfl), Or.inl (mv_t3 167 rfl rfl)⟩
set_option maxRecDepth 20000 in
theorem km_X0_stripByHeight : mv_mk mX0_stripByHeight 1 := ⟨(mv_t3 171 rfl rfl), (mv_t1 8 rfl rfl), ⟨by decide +kernel, by decide +kernel, by decide +kernel⟩, by decide⟩
set_option maxRecDepth 20000 in
theorem kk_X0_51 : mv_kV RX0 51 mX0_stripByHeight 1 := ⟨km_X0_stripByHeight, (mv_t3 168 rfl rfl), (mv_t3 170 rfl rfl), (mv_t0 15 rfl rfl)⟩
set_option maxRecDepth 20000 in
theorem kk_X0_60 : mv_kS RX0 60 mX9_isWithin 3 := ⟨km_X9_isWithin, (mv_t2 35 rfl rfl), Or.inr ⟨"PaperBoxes", by decide +kernel⟩⟩
set_option maxRecDepth 20000 in
theorem km_X0_strip : mv_mk mX0_strip 2 := ⟨(mv_t3 176 rfl rfl), (mv_t1 8 rfl rfl), ⟨by decide +kernel, by decide +kernel, by decide +kernel⟩, by decide⟩
set_option maxRecDepth 20000 in
theorem kk_X0_64 : mv_kV RX0 64 mX0_strip 2 := ⟨km_X0_strip, (mv_t3 173 rfl rfl), (mv_t3 175 rfl rfl), (mv_t0 16 rfl rfl)⟩
set_option maxRecDepth 20000 in
theorem km_X0_stripParted : mv_mk mX0_stripParted 3 := ⟨(mv_t3 180 rfl rfl), (mv_t1 8 rfl rfl), ⟨by decide +kernel, by decide +kernel, by decide +kernel⟩, by decide⟩
set_option maxRecDepth 20000 in
theorem kk_X0_68 : mv_kV RX0 68 mX0_stripParted 3 := ⟨km_X0_stripParted, (mv_t3 177 rfl rfl), (mv_t3 179 rfl rfl), (mv_t0 17 rfl rfl)⟩
set_option maxRecDepth 20000 in
theorem kx_X0_72 : Cond.methodLink RX0 72 Lib.Math.min.name ∈ mv_tb := (mv_t3 182 rfl rfl)
set_option maxRecDepth 20000 in
theorem kx_X0_77 : Cond.methodLink RX0 77 Lib.Math.max.name ∈ mv_tb := (mv_t3 181 rfl rfl)
set_option maxRecDepth 20000 in
theorem km_X0_givesBoth : mv_mk mX0_givesBoth 2 := ⟨(mv_t3 186 rfl rfl), (mv_t1 8 rfl rfl), ⟨by decide +kernel, by decide +kernel, by decide +kernel⟩, by decide⟩
set_option maxRecDepth 20000 in
theorem kk_X0_54 : mv_kV RX0 54 mX0_givesBoth 2 := ⟨km_X0_givesBoth, (mv_t3 183 rfl rfl), (mv_t3 185 rfl rfl), (mv_t0 18 rfl rfl)⟩
set_option maxRecDepth 20000 in
theorem km_X0_stripByWidth : mv_mk mX0_stripByWidth 1 := ⟨(mv_t3 190 rfl rfl), (mv_t1 8 rfl rfl), ⟨by decide +kernel, by decide +kernel, by decide +kernel⟩, by decide⟩
set_option maxRecDepth 20000 in
theorem kk_X0_57 : mv_kV RX0 57 mX0_stripByWidth 1 := ⟨km_X0_stripByWidth, (mv_t3 187 rfl rfl), (mv_t3 189 rfl rfl), (mv_t0 19 rfl rfl)⟩
set_option maxRecDepth 20000 in
theorem km_X10_cut : mv_mk mX10_cut 2 := ⟨(mv_t6 68 rfl rfl), (mv_t1 11 rfl rfl), ⟨by decide +kernel, by decide +kernel, by decide +kernel⟩, by decide⟩
set_option maxRecDepth 20000 in
theorem kk_L_106 : mv_kV RL 106 mX10_cut 2 := ⟨km_X10_cut, (mv_t6 65 rfl rfl), (mv_t6 66 rfl rfl), (mv_t6 67 rfl rfl)⟩
set_option maxRecDepth 20000 in
theorem km_X10_areBoxes : mv_mk mX10_areBoxes 1 := ⟨(mv_t6 72 rfl rfl), (mv_t1 11 rfl rfl), ⟨by decide +kernel, by decide +kernel, by decide +kernel⟩, by decide⟩
set_option maxRecDepth 20000 in
theorem kk_X10_286 : mv_kV RX10 286 mX10_areBoxes 1 := ⟨km_X10_areBoxes, (mv_t6 69 rfl rfl), (mv_t6 71 rfl rfl), (mv_t0 53 rfl rfl)⟩
set_option maxRecDepth 20000 in
theorem kn_X10_284 : Cond.constantLong RX10 284 63 ∈ mv_tb := (mv_t6 73 rfl rfl)
set_option maxRecDepth 20000 in
theorem km_X10_canCut : mv_mk mX10_canCut 2 := ⟨(mv_t6 77 rfl rfl), (mv_t1 11 rfl rfl), ⟨by decide +kernel, by decide +kernel, by decide +kernel⟩, by decide⟩
set_option maxRecDepth 20000 in
theorem kk_X10_289 : mv_kV RX10 289 mX10_canCut 2 := ⟨km_X10_canCut, (mv_t6 74 rfl rfl), (mv_t6 76 rfl rfl), (mv_t0 54 rfl rfl)⟩
set_option maxRecDepth 20000 in
theorem km_X10_layPieces : mv_mk mX10_layPieces 1 := ⟨(mv_t6 81 rfl rfl), (mv_t1 11 rfl rfl), ⟨by decide +kernel, by decide +kernel, by decide +kernel⟩, by decide⟩
set_option maxRecDepth 20000 in
theorem kk_X10_278 : mv_kV RX10 278 mX10_layPieces 1 := ⟨km_X10_layPieces, (mv_t6 78 rfl rfl), (mv_t6 80 rfl rfl), (mv_t0 55 rfl rfl)⟩
set_option maxRecDepth 20000 in
theorem kf_X10_272 : mv_fl RX10 272 10 30 false .int := ⟨RX10, TX10, 46, tyX10, kc_10, by decide, rfl, rfl, Or.inl ⟨(mv_t4 218 rfl rfl), fun _ => rfl⟩⟩
theorem gf_55_30 : mv_gf mv_SH 55 10 30 none := ⟨_, so_55, rfl⟩
theorem gf_55_28 : mv_gf mv_SH 55 10 28 (some (some 70)) := ⟨_, so_55, rfl⟩
theorem so_70 : mv_SH[70]? = some (.inl (false, 4)) := by decide +kernel
theorem gf_55_29 : mv_gf mv_SH 55 10 29 (some (some 71)) := ⟨_, so_55, rfl⟩
theorem so_71 : mv_SH[71]? = some (.inl (false, 4)) := by decide +kernel
set_option maxRecDepth 20000 in
theorem km_X10_findShapes : mv_mk mX10_findShapes 0 := ⟨(mv_t6 85 rfl rfl), (mv_t1 11 rfl rfl), ⟨by decide +kernel, by decide +kernel, by decide +kernel⟩, by decide⟩
set_option maxRecDepth 20000 in
theorem kk_X10_281 : mv_kV RX10 281 mX10_findShapes 0 := ⟨km_X10_findShapes, (mv_t6 82 rfl rfl), (mv_t6 84 rfl rfl), (mv_t0 56 rfl rfl)⟩
set_option maxRecDepth 20000 in
theorem kf_X10_263 : mv_fl RX10 263 10 35 false .int := ⟨RX10, TX10, 46, tyX10, kc_10, by decide, rfl, rfl, Or.inl ⟨(mv_t4 223 rfl rfl), fun _ => rfl⟩⟩
theorem gf_55_35 : mv_gf mv_SH 55 10 35 none := ⟨_, so_55, rfl⟩
theorem gf_55_31 : mv_gf mv_SH 55 10 31 (some (some 72)) := ⟨_, so_55, rfl⟩
theorem so_72 : mv_SH[72]? = some (.inl (false, 16)) := by decide +kernel
theorem gf_55_32 : mv_gf mv_SH 55 10 32 (some (some 73)) := ⟨_, so_55, rfl⟩
theorem so_73 : mv_SH[73]? = some (.inl (false, 16)) := by decide +kernel
set_option maxRecDepth 20000 in
theorem km_X10_putShape : mv_mk mX10_putShape 3 := ⟨(mv_t6 89 rfl rfl), (mv_t1 11 rfl rfl), ⟨by decide +kernel, by decide +kernel, by decide +kernel⟩, by decide⟩
set_option maxRecDepth 20000 in
theorem kk_X10_269 : mv_kV RX10 269 mX10_putShape 3 := ⟨km_X10_putShape, (mv_t6 86 rfl rfl), (mv_t6 88 rfl rfl), (mv_t0 57 rfl rfl)⟩
theorem gf_55_33 : mv_gf mv_SH 55 10 33 (some (some 74)) := ⟨_, so_55, rfl⟩
theorem so_74 : mv_SH[74]? = some (.inl (false, 4000)) := by decide +kernel
theorem gf_55_34 : mv_gf mv_SH 55 10 34 (some (some 75)) := ⟨_, so_55, rfl⟩
theorem so_75 : mv_SH[75]? = some (.inl (false, 4000)) := by decide +kernel
set_option maxRecDepth 20000 in
theorem km_X10_joinShapes : mv_mk mX10_joinShapes 3 := ⟨(mv_t6 93 rfl rfl), (mv_t1 11 rfl rfl), ⟨by decide +kernel, by decide +kernel, by decide +kernel⟩, by decide⟩
set_option maxRecDepth 20000 in
theorem kk_X10_275 : mv_kV RX10 275 mX10_joinShapes 3 := ⟨km_X10_joinShapes, (mv_t6 90 rfl rfl), (mv_t6 92 rfl rfl), (mv_t0 58 rfl rfl)⟩
set_option maxRecDepth 20000 in
theorem km_X10_more : mv_mk mX10_more 2 := ⟨(mv_t6 96 rfl rfl), (mv_t1 11 rfl rfl), ⟨by decide +kernel, by decide +kernel, by decide +kernel⟩, by decide⟩
set_option maxRecDepth 20000 in
theorem kk_X10_266 : mv_kS RX10 266 mX10_more 2 := ⟨km_X10_more, (mv_t6 95 rfl rfl), Or.inl (mv_t6 94 rfl rfl)⟩
set_option maxRecDepth 20000 in
theorem km_X9_most : mv_mk mX9_most 2 := ⟨(mv_t3 194 rfl rfl), (mv_t1 1 rfl rfl), ⟨by decide +kernel, by decide +kernel, by decide +kernel⟩, by decide⟩
set_option maxRecDepth 20000 in
theorem kk_L_107 : mv_kV RL 107 mX9_most 2 := ⟨km_X9_most, (mv_t3 191 rfl rfl), (mv_t3 192 rfl rfl), (mv_t3 193 rfl rfl)⟩
set_option maxRecDepth 20000 in
theorem km_X7_bits : mv_mk mX7_bits 0 := ⟨(mv_t3 198 rfl rfl), (mv_t1 3 rfl rfl), ⟨by decide +kernel, by decide +kernel, by decide +kernel⟩, by decide⟩
set_option maxRecDepth 20000 in
theorem kk_X9_241 : mv_kV RX9 241 mX7_bits 0 := ⟨km_X7_bits, (mv_t3 195 rfl rfl), (mv_t3 196 rfl rfl), (mv_t3 197 rfl rfl)⟩
set_option maxRecDepth 20000 in
theorem km_X0_greatestOf : mv_mk mX0_greatestOf 1 := ⟨(mv_t3 202 rfl rfl), (mv_t1 8 rfl rfl), ⟨by decide +kernel, by decide +kernel, by decide +kernel⟩, by decide⟩
set_option maxRecDepth 20000 in
theorem kk_X9_244 : mv_kV RX9 244 mX0_greatestOf 1 := ⟨km_X0_greatestOf, (mv_t3 199 rfl rfl), (mv_t3 200 rfl rfl), (mv_t3 201 rfl rfl)⟩
set_option maxRecDepth 20000 in
theorem kk_X0_45 : mv_kV RX0 45 mX0_gives 1 := ⟨km_X0_gives, (mv_t3 203 rfl rfl), (mv_t3 159 rfl rfl), (mv_t3 160 rfl rfl)⟩
set_option maxRecDepth 20000 in
theorem kk_X9_247 : mv_kV RX9 247 mX0_paperOf 1 := ⟨km_X0_paperOf, (mv_t3 204 rfl rfl), (mv_t3 163 rfl rfl), (mv_t3 164 rfl rfl)⟩
set_option maxRecDepth 20000 in
theorem km_X10_most : mv_mk mX10_most 2 := ⟨(mv_t6 100 rfl rfl), (mv_t1 11 rfl rfl), ⟨by decide +kernel, by decide +kernel, by decide +kernel⟩, by decide⟩
set_option maxRecDepth 20000 in
theorem kk_L_110 : mv_kV RL 110 mX10_most 2 := ⟨km_X10_most, (mv_t6 97 rfl rfl), (mv_t6 98 rfl rfl), (mv_t6 99 rfl rfl)⟩
set_option maxRecDepth 20000 in
theorem km_X10_paperOf : mv_mk mX10_paperOf 1 := ⟨(mv_t6 104 rfl rfl), (mv_t1 11 rfl rfl), ⟨by decide +kernel, by decide +kernel, by decide +kernel⟩, by decide⟩
set_option maxRecDepth 20000 in
theorem kk_X10_292 : mv_kV RX10 292 mX10_paperOf 1 := ⟨km_X10_paperOf, (mv_t6 101 rfl rfl), (mv_t6 103 rfl rfl), (mv_t0 59 rfl rfl)⟩
set_option maxRecDepth 20000 in
theorem km_X9_usedUp : mv_mk mX9_usedUp 2 := ⟨(mv_t3 208 rfl rfl), (mv_t1 1 rfl rfl), ⟨by decide +kernel, by decide +kernel, by decide +kernel⟩, by decide⟩
set_option maxRecDepth 20000 in
theorem kk_L_111 : mv_kV RL 111 mX9_usedUp 2 := ⟨km_X9_usedUp, (mv_t3 205 rfl rfl), (mv_t3 206 rfl rfl), (mv_t3 207 rfl rfl)⟩
theorem gf_0_8 : mv_gf mv_SH 0 9 8 (some (some 46)) := ⟨_, so_0, rfl⟩
set_option maxRecDepth 20000 in
theorem km_X3_suit : mv_mk mX3_suit 2 := ⟨(mv_t3 212 rfl rfl), (mv_t1 9 rfl rfl), ⟨by decide +kernel, by decide +kernel, by decide +kernel⟩, by decide⟩
set_option maxRecDepth 20000 in
theorem kk_X9_253 : mv_kV RX9 253 mX3_suit 2 := ⟨km_X3_suit, (mv_t3 209 rfl rfl), (mv_t3 210 rfl rfl), (mv_t3 211 rfl rfl)⟩
set_option maxRecDepth 20000 in
theorem kk_X3_21 : mv_kS RX3 21 mX9_isNumber 1 := ⟨km_X9_isNumber, (mv_t2 29 rfl rfl), Or.inr ⟨"PaperBoxes", by decide +kernel⟩⟩
theorem so_46 : mv_SH[46]? = some (.inr (3, [some (some 47), some (some 48), some (some 49), none, none])) := by decide +kernel
theorem gf_46_0 : mv_gf mv_SH 46 3 0 (some (some 47)) := ⟨_, so_46, rfl⟩
theorem so_47 : mv_SH[47]? = some (.inl (false, 6)) := by decide +kernel
theorem vc_3 : vwCl[3]? = some (RX3, TX3, 5) := rfl
set_option maxRecDepth 20000 in
theorem km_X3_search : mv_mk mX3_search 2 := ⟨(mv_t3 217 rfl rfl), (mv_t1 9 rfl rfl), ⟨by decide +kernel, by decide +kernel, by decide +kernel⟩, by decide⟩
set_option maxRecDepth 20000 in
theorem kk_X9_256 : mv_kV RX9 256 mX3_search 2 := ⟨km_X3_search, (mv_t3 214 rfl rfl), (mv_t3 215 rfl rfl), (mv_t3 216 rfl rfl)⟩
set_option maxRecDepth 20000 in
theorem kk_X3_25 : mv_kS RX3 25 mJ6_bitCount_0f7a4 1 := ⟨km_J6_bitCount_0f7a4, (mv_t2 47 rfl rfl), Or.inl (mv_t3 218 rfl rfl)⟩
set_option maxRecDepth 20000 in
theorem kf_X3_31 : mv_fl RX3 31 3 3 false .int := ⟨RX3, TX3, 5, tyX3, kc_3, by decide, rfl, rfl, Or.inl ⟨(mv_t1 194 rfl rfl), fun _ => rfl⟩⟩
theorem gf_46_3 : mv_gf mv_SH 46 3 3 none := ⟨_, so_46, rfl⟩
set_option maxRecDepth 20000 in
theorem kf_X3_35 : mv_fl RX3 35 3 4 false .int := ⟨RX3, TX3, 5, tyX3, kc_3, by decide, rfl, rfl, Or.inl ⟨(mv_t1 195 rfl rfl), fun _ => rfl⟩⟩
theorem gf_46_4 : mv_gf mv_SH 46 3 4 none := ⟨_, so_46, rfl⟩
set_option maxRecDepth 20000 in
theorem kk_X3_38 : mv_kV RX3 38 mX7_bits 0 := ⟨km_X7_bits, (mv_t3 219 rfl rfl), (mv_t3 196 rfl rfl), (mv_t3 197 rfl rfl)⟩
set_option maxRecDepth 20000 in
theorem km_X3_extend : mv_mk mX3_extend 5 := ⟨(mv_t3 223 rfl rfl), (mv_t1 9 rfl rfl), ⟨by decide +kernel, by decide +kernel, by decide +kernel⟩, by decide⟩
set_option maxRecDepth 20000 in
theorem kk_X3_44 : mv_kV RX3 44 mX3_extend 5 := ⟨km_X3_extend, (mv_t3 220 rfl rfl), (mv_t3 222 rfl rfl), (mv_t0 20 rfl rfl)⟩
set_option maxRecDepth 20000 in
theorem kx_X3_48 : Cond.methodLink RX3 48 Lib.Math.min.name ∈ mv_tb := (mv_t3 224 rfl rfl)
set_option maxRecDepth 20000 in
theorem km_X3_keep : mv_mk mX3_keep 1 := ⟨(mv_t3 228 rfl rfl), (mv_t1 9 rfl rfl), ⟨by decide +kernel, by decide +kernel, by decide +kernel⟩, by decide⟩
set_option maxRecDepth 20000 in
theorem kk_X3_54 : mv_kV RX3 54 mX3_keep 1 := ⟨km_X3_keep, (mv_t3 225 rfl rfl), (mv_t3 227 rfl rfl), (mv_t0 21 rfl rfl)⟩
theorem gf_46_2 : mv_gf mv_SH 46 3 2 (some (some 49)) := ⟨_, so_46, rfl⟩
theorem gf_46_1 : mv_gf mv_SH 46 3 1 (some (some 48)) := ⟨_, so_46, rfl⟩
theorem so_48 : mv_SH[48]? = some (.inl (false, 6)) := by decide +kernel
theorem so_49 : mv_SH[49]? = some (.inl (false, 6)) := by decide +kernel
set_option maxRecDepth 20000 in
theorem kk_X3_58 : mv_kS RX3 58 mX9_isIn 2 := ⟨km_X9_isIn, (mv_t2 73 rfl rfl), Or.inr ⟨"PaperBoxes", by decide +kernel⟩⟩
set_option maxRecDepth 20000 in
theorem kk_X3_62 : mv_kV RX3 62 mX7_leastAreaOf 1 := ⟨km_X7_leastAreaOf, (mv_t3 230 rfl rfl), (mv_t3 36 rfl rfl), (mv_t3 37 rfl rfl)⟩
set_option maxRecDepth 20000 in
theorem km_X3_wrapped : mv_mk mX3_wrapped 0 := ⟨(mv_t3 234 rfl rfl), (mv_t1 9 rfl rfl), ⟨by decide +kernel, by decide +kernel, by decide +kernel⟩, by decide⟩
set_option maxRecDepth 20000 in
theorem kk_X9_260 : mv_kV RX9 260 mX3_wrapped 0 := ⟨km_X3_wrapped, (mv_t3 231 rfl rfl), (mv_t3 232 rfl rfl), (mv_t3 233 rfl rfl)⟩
set_option maxRecDepth 20000 in
theorem km_X3_boxAt : mv_mk mX3_boxAt 1 := ⟨(mv_t3 238 rfl rfl), (mv_t1 9 rfl rfl), ⟨by decide +kernel, by decide +kernel, by decide +kernel⟩, by decide⟩
set_option maxRecDepth 20000 in
theorem kk_X9_263 : mv_kV RX9 263 mX3_boxAt 1 := ⟨km_X3_boxAt, (mv_t3 235 rfl rfl), (mv_t3 236 rfl rfl), (mv_t3 237 rfl rfl)⟩
set_option maxRecDepth 20000 in
theorem km_X10_usedUp : mv_mk mX10_usedUp 2 := ⟨(mv_t6 108 rfl rfl), (mv_t1 11 rfl rfl), ⟨by decide +kernel, by decide +kernel, by decide +kernel⟩, by decide⟩
set_option maxRecDepth 20000 in
theorem kk_L_114 : mv_kV RL 114 mX10_usedUp 2 := ⟨km_X10_usedUp, (mv_t6 105 rfl rfl), (mv_t6 106 rfl rfl), (mv_t6 107 rfl rfl)⟩
set_option maxRecDepth 20000 in
theorem km_X10_layMembers : mv_mk mX10_layMembers 1 := ⟨(mv_t6 112 rfl rfl), (mv_t1 11 rfl rfl), ⟨by decide +kernel, by decide +kernel, by decide +kernel⟩, by decide⟩
set_option maxRecDepth 20000 in
theorem kk_X10_298 : mv_kV RX10 298 mX10_layMembers 1 := ⟨km_X10_layMembers, (mv_t6 109 rfl rfl), (mv_t6 111 rfl rfl), (mv_t0 60 rfl rfl)⟩
set_option maxRecDepth 20000 in
theorem kf_X10_295 : mv_fl RX10 295 10 37 false .int := ⟨RX10, TX10, 46, tyX10, kc_10, by decide, rfl, rfl, Or.inl ⟨(mv_t4 225 rfl rfl), fun _ => rfl⟩⟩
theorem gf_55_37 : mv_gf mv_SH 55 10 37 none := ⟨_, so_55, rfl⟩
theorem gf_55_36 : mv_gf mv_SH 55 10 36 (some (some 76)) := ⟨_, so_55, rfl⟩
theorem so_76 : mv_SH[76]? = some (.inl (false, 6)) := by decide +kernel
set_option maxRecDepth 20000 in
theorem km_X10_layRow : mv_mk mX10_layRow 1 := ⟨(mv_t6 116 rfl rfl), (mv_t1 11 rfl rfl), ⟨by decide +kernel, by decide +kernel, by decide +kernel⟩, by decide⟩
set_option maxRecDepth 20000 in
theorem kk_X10_301 : mv_kV RX10 301 mX10_layRow 1 := ⟨km_X10_layRow, (mv_t6 113 rfl rfl), (mv_t6 115 rfl rfl), (mv_t0 61 rfl rfl)⟩
theorem gf_55_38 : mv_gf mv_SH 55 10 38 (some (some 77)) := ⟨_, so_55, rfl⟩
theorem so_77 : mv_SH[77]? = some (.inl (false, 6)) := by decide +kernel
theorem gf_55_39 : mv_gf mv_SH 55 10 39 (some (some 78)) := ⟨_, so_55, rfl⟩
theorem so_78 : mv_SH[78]? = some (.inl (false, 6)) := by decide +kernel
set_option maxRecDepth 20000 in
theorem km_X10_wrappedByRow : mv_mk mX10_wrappedByRow 0 := ⟨(mv_t6 120 rfl rfl), (mv_t1 11 rfl rfl), ⟨by decide +kernel, by decide +kernel, by decide +kernel⟩, by decide⟩
set_option maxRecDepth 20000 in
theorem kk_X10_304 : mv_kV RX10 304 mX10_wrappedByRow 0 := ⟨km_X10_wrappedByRow, (mv_t6 117 rfl rfl), (mv_t6 119 rfl rfl), (mv_t0 62 rfl rfl)⟩
set_option maxRecDepth 20000 in
theorem km_X9_pleat : mv_mk mX9_pleat 2 := ⟨(mv_t4 2 rfl rfl), (mv_t1 1 rfl rfl), ⟨by decide +kernel, by decide +kernel, by decide +kernel⟩, by decide⟩
set_option maxRecDepth 20000 in
theorem kk_L_115 : mv_kV RL 115 mX9_pleat 2 := ⟨km_X9_pleat, (mv_t3 239 rfl rfl), (mv_t4 0 rfl rfl), (mv_t4 1 rfl rfl)⟩
set_option maxRecDepth 20000 in
theorem km_X9_pleatOf : mv_mk mX9_pleatOf 1 := ⟨(mv_t4 6 rfl rfl), (mv_t1 1 rfl rfl), ⟨by decide +kernel, by decide +kernel, by decide +kernel⟩, by decide⟩
set_option maxRecDepth 20000 in
theorem kk_X9_266 : mv_kV RX9 266 mX9_pleatOf 1 := ⟨km_X9_pleatOf, (mv_t4 3 rfl rfl), (mv_t4 5 rfl rfl), (mv_t0 22 rfl rfl)⟩
set_option maxRecDepth 20000 in
theorem km_X10_pleat : mv_mk mX10_pleat 2 := ⟨(mv_t6 124 rfl rfl), (mv_t1 11 rfl rfl), ⟨by decide +kernel, by decide +kernel, by decide +kernel⟩, by decide⟩
set_option maxRecDepth 20000 in
theorem kk_L_118 : mv_kV RL 118 mX10_pleat 2 := ⟨km_X10_pleat, (mv_t6 121 rfl rfl), (mv_t6 122 rfl rfl), (mv_t6 123 rfl rfl)⟩
set_option maxRecDepth 20000 in
theorem km_X10_pleatBy : mv_mk mX10_pleatBy 1 := ⟨(mv_t6 128 rfl rfl), (mv_t1 11 rfl rfl), ⟨by decide +kernel, by decide +kernel, by decide +kernel⟩, by decide⟩
set_option maxRecDepth 20000 in
theorem kk_X10_307 : mv_kV RX10 307 mX10_pleatBy 1 := ⟨km_X10_pleatBy, (mv_t6 125 rfl rfl), (mv_t6 127 rfl rfl), (mv_t0 63 rfl rfl)⟩
set_option maxRecDepth 20000 in
theorem km_X9_match : mv_mk mX9_match 1 := ⟨(mv_t4 10 rfl rfl), (mv_t1 1 rfl rfl), ⟨by decide +kernel, by decide +kernel, by decide +kernel⟩, by decide⟩
set_option maxRecDepth 20000 in
theorem kk_L_119 : mv_kV RL 119 mX9_match 1 := ⟨km_X9_match, (mv_t4 7 rfl rfl), (mv_t4 8 rfl rfl), (mv_t4 9 rfl rfl)⟩
set_option maxRecDepth 20000 in
theorem km_X10_match : mv_mk mX10_match 1 := ⟨(mv_t6 132 rfl rfl), (mv_t1 11 rfl rfl), ⟨by decide +kernel, by decide +kernel, by decide +kernel⟩, by decide⟩
set_option maxRecDepth 20000 in
theorem kk_L_122 : mv_kV RL 122 mX10_match 1 := ⟨km_X10_match, (mv_t6 129 rfl rfl), (mv_t6 130 rfl rfl), (mv_t6 131 rfl rfl)⟩
set_option maxRecDepth 20000 in
theorem km_X9_ribbon : mv_mk mX9_ribbon 2 := ⟨(mv_t4 14 rfl rfl), (mv_t1 1 rfl rfl), ⟨by decide +kernel, by decide +kernel, by decide +kernel⟩, by decide⟩
set_option maxRecDepth 20000 in
theorem kk_L_123 : mv_kV RL 123 mX9_ribbon 2 := ⟨km_X9_ribbon, (mv_t4 11 rfl rfl), (mv_t4 12 rfl rfl), (mv_t4 13 rfl rfl)⟩
set_option maxRecDepth 20000 in
theorem kk_X9_269 : mv_kV RX9 269 mX8_along 1 := ⟨km_X8_along, (mv_t4 15 rfl rfl), (mv_t2 213 rfl rfl), (mv_t2 214 rfl rfl)⟩
set_option maxRecDepth 20000 in
theorem km_X10_ribbon : mv_mk mX10_ribbon 2 := ⟨(mv_t6 136 rfl rfl), (mv_t1 11 rfl rfl), ⟨by decide +kernel, by decide +kernel, by decide +kernel⟩, by decide⟩
set_option maxRecDepth 20000 in
theorem kk_L_126 : mv_kV RL 126 mX10_ribbon 2 := ⟨km_X10_ribbon, (mv_t6 133 rfl rfl), (mv_t6 134 rfl rfl), (mv_t6 135 rfl rfl)⟩
set_option maxRecDepth 20000 in
theorem km_X9_corners : mv_mk mX9_corners 3 := ⟨(mv_t4 19 rfl rfl), (mv_t1 1 rfl rfl), ⟨by decide +kernel, by decide +kernel, by decide +kernel⟩, by decide⟩
set_option maxRecDepth 20000 in
theorem kk_L_127 : mv_kV RL 127 mX9_corners 3 := ⟨km_X9_corners, (mv_t4 16 rfl rfl), (mv_t4 17 rfl rfl), (mv_t4 18 rfl rfl)⟩
set_option maxRecDepth 20000 in
theorem km_X8_cornerSquare : mv_mk mX8_cornerSquare 1 := ⟨(mv_t4 23 rfl rfl), (mv_t1 6 rfl rfl), ⟨by decide +kernel, by decide +kernel, by decide +kernel⟩, by decide⟩
set_option maxRecDepth 20000 in
theorem kk_X9_272 : mv_kV RX9 272 mX8_cornerSquare 1 := ⟨km_X8_cornerSquare, (mv_t4 20 rfl rfl), (mv_t4 21 rfl rfl), (mv_t4 22 rfl rfl)⟩
set_option maxRecDepth 20000 in
theorem kk_X9_275 : mv_kS RX9 275 mX9_rootAbove 1 := ⟨km_X9_rootAbove, (mv_t3 54 rfl rfl), Or.inl (mv_t4 24 rfl rfl)⟩
set_option maxRecDepth 20000 in
theorem km_X10_corners : mv_mk mX10_corners 3 := ⟨(mv_t6 140 rfl rfl), (mv_t1 11 rfl rfl), ⟨by decide +kernel, by decide +kernel, by decide +kernel⟩, by decide⟩
set_option maxRecDepth 20000 in
theorem kk_L_130 : mv_kV RL 130 mX10_corners 3 := ⟨km_X10_corners, (mv_t6 137 rfl rfl), (mv_t6 138 rfl rfl), (mv_t6 139 rfl rfl)⟩
set_option maxRecDepth 20000 in
theorem km_X9_fits : mv_mk mX9_fits 2 := ⟨(mv_t4 28 rfl rfl), (mv_t1 1 rfl rfl), ⟨by decide +kernel, by decide +kernel, by decide +kernel⟩, by decide⟩
set_option maxRecDepth 20000 in
theorem kk_L_131 : mv_kV RL 131 mX9_fits 2 := ⟨km_X9_fits, (mv_t4 25 rfl rfl), (mv_t4 26 rfl rfl), (mv_t4 27 rfl rfl)⟩
set_option maxRecDepth 20000 in
theorem km_X9_isRoomFor : mv_mk mX9_isRoomFor 2 := ⟨(mv_t4 32 rfl rfl), (mv_t1 1 rfl rfl), ⟨by decide +kernel, by decide +kernel, by decide +kernel⟩, by decide⟩
set_option maxRecDepth 20000 in
theorem kk_X9_281 : mv_kV RX9 281 mX9_isRoomFor 2 := ⟨km_X9_isRoomFor, (mv_t4 29 rfl rfl), (mv_t4 31 rfl rfl), (mv_t0 23 rfl rfl)⟩
set_option maxRecDepth 20000 in
theorem km_X7_lesserSide : mv_mk mX7_lesserSide 1 := ⟨(mv_t4 36 rfl rfl), (mv_t1 3 rfl rfl), ⟨by decide +kernel, by decide +kernel, by decide +kernel⟩, by decide⟩
set_option maxRecDepth 20000 in
theorem kk_X9_360 : mv_kV RX9 360 mX7_lesserSide 1 := ⟨km_X7_lesserSide, (mv_t4 33 rfl rfl), (mv_t4 34 rfl rfl), (mv_t4 35 rfl rfl)⟩
set_option maxRecDepth 20000 in
theorem kx_X7_50 : Cond.methodLink RX7 50 Lib.Math.min.name ∈ mv_tb := (mv_t4 37 rfl rfl)
set_option maxRecDepth 20000 in
theorem km_X7_middleSide : mv_mk mX7_middleSide 1 := ⟨(mv_t4 41 rfl rfl), (mv_t1 3 rfl rfl), ⟨by decide +kernel, by decide +kernel, by decide +kernel⟩, by decide⟩
set_option maxRecDepth 20000 in
theorem kk_X9_363 : mv_kV RX9 363 mX7_middleSide 1 := ⟨km_X7_middleSide, (mv_t4 38 rfl rfl), (mv_t4 39 rfl rfl), (mv_t4 40 rfl rfl)⟩
set_option maxRecDepth 20000 in
theorem kk_X7_58 : mv_kV RX7 58 mX7_lesserSide 1 := ⟨km_X7_lesserSide, (mv_t4 42 rfl rfl), (mv_t4 34 rfl rfl), (mv_t4 35 rfl rfl)⟩
set_option maxRecDepth 20000 in
theorem km_X7_greaterSide : mv_mk mX7_greaterSide 1 := ⟨(mv_t4 46 rfl rfl), (mv_t1 3 rfl rfl), ⟨by decide +kernel, by decide +kernel, by decide +kernel⟩, by decide⟩
set_option maxRecDepth 20000 in
theorem kk_X7_61 : mv_kV RX7 61 mX7_greaterSide 1 := ⟨km_X7_greaterSide, (mv_t4 43 rfl rfl), (mv_t4 44 rfl rfl), (mv_t4 45 rfl rfl)⟩
set_option maxRecDepth 20000 in
theorem kx_X7_55 : Cond.methodLink RX7 55 Lib.Math.max.name ∈ mv_tb := (mv_t4 47 rfl rfl)
set_option maxRecDepth 20000 in
theorem kk_X9_366 : mv_kV RX9 366 mX7_greaterSide 1 := ⟨km_X7_greaterSide, (mv_t4 48 rfl rfl), (mv_t4 44 rfl rfl), (mv_t4 45 rfl rfl)⟩
set_option maxRecDepth 20000 in
theorem km_X10_fits : mv_mk mX10_fits 2 := ⟨(mv_t6 144 rfl rfl), (mv_t1 11 rfl rfl), ⟨by decide +kernel, by decide +kernel, by decide +kernel⟩, by decide⟩
set_option maxRecDepth 20000 in
theorem kk_L_134 : mv_kV RL 134 mX10_fits 2 := ⟨km_X10_fits, (mv_t6 141 rfl rfl), (mv_t6 142 rfl rfl), (mv_t6 143 rfl rfl)⟩
set_option maxRecDepth 20000 in
theorem km_X10_fitsIn : mv_mk mX10_fitsIn 2 := ⟨(mv_t6 148 rfl rfl), (mv_t1 11 rfl rfl), ⟨by decide +kernel, by decide +kernel, by decide +kernel⟩, by decide⟩
set_option maxRecDepth 20000 in
theorem kk_X10_313 : mv_kV RX10 313 mX10_fitsIn 2 := ⟨km_X10_fitsIn, (mv_t6 145 rfl rfl), (mv_t6 147 rfl rfl), (mv_t0 64 rfl rfl)⟩
set_option maxRecDepth 20000 in
theorem km_X10_sortSides : mv_mk mX10_sortSides 4 := ⟨(mv_t6 152 rfl rfl), (mv_t1 11 rfl rfl), ⟨by decide +kernel, by decide +kernel, by decide +kernel⟩, by decide⟩
set_option maxRecDepth 20000 in
theorem kk_X10_310 : mv_kV RX10 310 mX10_sortSides 4 := ⟨km_X10_sortSides, (mv_t6 149 rfl rfl), (mv_t6 151 rfl rfl), (mv_t0 65 rfl rfl)⟩
theorem gf_55_40 : mv_gf mv_SH 55 10 40 (some (some 79)) := ⟨_, so_55, rfl⟩
theorem so_79 : mv_SH[79]? = some (.inl (false, 6)) := by decide +kernel
set_option maxRecDepth 20000 in
theorem km_X9_tight : mv_mk mX9_tight 1 := ⟨(mv_t4 52 rfl rfl), (mv_t1 1 rfl rfl), ⟨by decide +kernel, by decide +kernel, by decide +kernel⟩, by decide⟩
set_option maxRecDepth 20000 in
theorem kk_L_135 : mv_kV RL 135 mX9_tight 1 := ⟨km_X9_tight, (mv_t4 49 rfl rfl), (mv_t4 50 rfl rfl), (mv_t4 51 rfl rfl)⟩
set_option maxRecDepth 20000 in
theorem km_X9_boxesWithRoomFor : mv_mk mX9_boxesWithRoomFor 1 := ⟨(mv_t4 56 rfl rfl), (mv_t1 1 rfl rfl), ⟨by decide +kernel, by decide +kernel, by decide +kernel⟩, by decide⟩
set_option maxRecDepth 20000 in
theorem kk_X9_284 : mv_kV RX9 284 mX9_boxesWithRoomFor 1 := ⟨km_X9_boxesWithRoomFor, (mv_t4 53 rfl rfl), (mv_t4 55 rfl rfl), (mv_t0 24 rfl rfl)⟩
set_option maxRecDepth 20000 in
theorem km_X10_tight : mv_mk mX10_tight 1 := ⟨(mv_t6 156 rfl rfl), (mv_t1 11 rfl rfl), ⟨by decide +kernel, by decide +kernel, by decide +kernel⟩, by decide⟩
set_option maxRecDepth 20000 in
theorem kk_L_138 : mv_kV RL 138 mX10_tight 1 := ⟨km_X10_tight, (mv_t6 153 rfl rfl), (mv_t6 154 rfl rfl), (mv_t6 155 rfl rfl)⟩
set_option maxRecDepth 20000 in
theorem km_X10_leastPaper : mv_mk mX10_leastPaper 1 := ⟨(mv_t6 160 rfl rfl), (mv_t1 11 rfl rfl), ⟨by decide +kernel, by decide +kernel, by decide +kernel⟩, by decide⟩
set_option maxRecDepth 20000 in
theorem kk_X10_316 : mv_kV RX10 316 mX10_leastPaper 1 := ⟨km_X10_leastPaper, (mv_t6 157 rfl rfl), (mv_t6 159 rfl rfl), (mv_t0 66 rfl rfl)⟩
set_option maxRecDepth 20000 in
theorem km_X9_paired : mv_mk mX9_paired 2 := ⟨(mv_t4 60 rfl rfl), (mv_t1 1 rfl rfl), ⟨by decide +kernel, by decide +kernel, by decide +kernel⟩, by decide⟩
set_option maxRecDepth 20000 in
theorem kk_L_139 : mv_kV RL 139 mX9_paired 2 := ⟨km_X9_paired, (mv_t4 57 rfl rfl), (mv_t4 58 rfl rfl), (mv_t4 59 rfl rfl)⟩
set_option maxRecDepth 20000 in
theorem km_X9_startPairs : mv_mk mX9_startPairs 1 := ⟨(mv_t4 64 rfl rfl), (mv_t1 1 rfl rfl), ⟨by decide +kernel, by decide +kernel, by decide +kernel⟩, by decide⟩
set_option maxRecDepth 20000 in
theorem kk_X9_287 : mv_kV RX9 287 mX9_startPairs 1 := ⟨km_X9_startPairs, (mv_t4 61 rfl rfl), (mv_t4 63 rfl rfl), (mv_t0 25 rfl rfl)⟩
theorem gf_0_9 : mv_gf mv_SH 0 9 9 (some (some 50)) := ⟨_, so_0, rfl⟩
set_option maxRecDepth 20000 in
theorem km_X5_price : mv_mk mX5_price 2 := ⟨(mv_t4 68 rfl rfl), (mv_t1 10 rfl rfl), ⟨by decide +kernel, by decide +kernel, by decide +kernel⟩, by decide⟩
set_option maxRecDepth 20000 in
theorem kk_X9_369 : mv_kV RX9 369 mX5_price 2 := ⟨km_X5_price, (mv_t4 65 rfl rfl), (mv_t4 66 rfl rfl), (mv_t4 67 rfl rfl)⟩
set_option maxRecDepth 20000 in
theorem kk_X5_24 : mv_kS RX5 24 mX9_isNumber 1 := ⟨km_X9_isNumber, (mv_t2 29 rfl rfl), Or.inr ⟨"PaperBoxes", by decide +kernel⟩⟩
theorem so_50 : mv_SH[50]? = some (.inr (5, [some (some 51), some (some 52), some (some 53), some (some 54), none])) := by decide +kernel
theorem gf_50_0 : mv_gf mv_SH 50 5 0 (some (some 51)) := ⟨_, so_50, rfl⟩
theorem so_51 : mv_SH[51]? = some (.inl (false, 6)) := by decide +kernel
theorem vc_5 : vwCl[5]? = some (RX5, TX5, 5) := rfl
set_option maxRecDepth 20000 in
theorem km_X5_allow : mv_mk mX5_allow 2 := ⟨(mv_t4 73 rfl rfl), (mv_t1 10 rfl rfl), ⟨by decide +kernel, by decide +kernel, by decide +kernel⟩, by decide⟩
set_option maxRecDepth 20000 in
theorem kk_X9_372 : mv_kV RX9 372 mX5_allow 2 := ⟨km_X5_allow, (mv_t4 70 rfl rfl), (mv_t4 71 rfl rfl), (mv_t4 72 rfl rfl)⟩
theorem gf_50_1 : mv_gf mv_SH 50 5 1 (some (some 52)) := ⟨_, so_50, rfl⟩
theorem so_52 : mv_SH[52]? = some (.inl (false, 6)) := by decide +kernel
set_option maxRecDepth 20000 in
theorem km_X5_search : mv_mk mX5_search 2 := ⟨(mv_t4 77 rfl rfl), (mv_t1 10 rfl rfl), ⟨by decide +kernel, by decide +kernel, by decide +kernel⟩, by decide⟩
set_option maxRecDepth 20000 in
theorem kk_X9_290 : mv_kV RX9 290 mX5_search 2 := ⟨km_X5_search, (mv_t4 74 rfl rfl), (mv_t4 75 rfl rfl), (mv_t4 76 rfl rfl)⟩
set_option maxRecDepth 20000 in
theorem kf_X5_28 : mv_fl RX5 28 5 4 false .int := ⟨RX5, TX5, 5, tyX5, kc_5, by decide, rfl, rfl, Or.inl ⟨(mv_t1 217 rfl rfl), fun _ => rfl⟩⟩
theorem gf_50_4 : mv_gf mv_SH 50 5 4 none := ⟨_, so_50, rfl⟩
set_option maxRecDepth 20000 in
theorem km_X5_extend : mv_mk mX5_extend 4 := ⟨(mv_t4 81 rfl rfl), (mv_t1 10 rfl rfl), ⟨by decide +kernel, by decide +kernel, by decide +kernel⟩, by decide⟩
set_option maxRecDepth 20000 in
theorem kk_X5_32 : mv_kV RX5 32 mX5_extend 4 := ⟨km_X5_extend, (mv_t4 78 rfl rfl), (mv_t4 80 rfl rfl), (mv_t0 26 rfl rfl)⟩
set_option maxRecDepth 20000 in
theorem km_X5_keep : mv_mk mX5_keep 1 := ⟨(mv_t4 85 rfl rfl), (mv_t1 10 rfl rfl), ⟨by decide +kernel, by decide +kernel, by decide +kernel⟩, by decide⟩
set_option maxRecDepth 20000 in
theorem kk_X5_36 : mv_kV RX5 36 mX5_keep 1 := ⟨km_X5_keep, (mv_t4 82 rfl rfl), (mv_t4 84 rfl rfl), (mv_t0 27 rfl rfl)⟩
theorem gf_50_3 : mv_gf mv_SH 50 5 3 (some (some 54)) := ⟨_, so_50, rfl⟩
theorem gf_50_2 : mv_gf mv_SH 50 5 2 (some (some 53)) := ⟨_, so_50, rfl⟩
theorem so_53 : mv_SH[53]? = some (.inl (false, 6)) := by decide +kernel
theorem so_54 : mv_SH[54]? = some (.inl (false, 6)) := by decide +kernel
set_option maxRecDepth 20000 in
theorem kk_X5_40 : mv_kS RX5 40 mX9_isIn 2 := ⟨km_X9_isIn, (mv_t2 73 rfl rfl), Or.inr ⟨"PaperBoxes", by decide +kernel⟩⟩
set_option maxRecDepth 20000 in
theorem km_X5_paper : mv_mk mX5_paper 0 := ⟨(mv_t4 90 rfl rfl), (mv_t1 10 rfl rfl), ⟨by decide +kernel, by decide +kernel, by decide +kernel⟩, by decide⟩
set_option maxRecDepth 20000 in
theorem kk_X9_292 : mv_kV RX9 292 mX5_paper 0 := ⟨km_X5_paper, (mv_t4 87 rfl rfl), (mv_t4 88 rfl rfl), (mv_t4 89 rfl rfl)⟩
set_option maxRecDepth 20000 in
theorem km_X5_boxOf : mv_mk mX5_boxOf 1 := ⟨(mv_t4 94 rfl rfl), (mv_t1 10 rfl rfl), ⟨by decide +kernel, by decide +kernel, by decide +kernel⟩, by decide⟩
set_option maxRecDepth 20000 in
theorem kk_X9_294 : mv_kV RX9 294 mX5_boxOf 1 := ⟨km_X5_boxOf, (mv_t4 91 rfl rfl), (mv_t4 92 rfl rfl), (mv_t4 93 rfl rfl)⟩
set_option maxRecDepth 20000 in
theorem km_X10_paired : mv_mk mX10_paired 2 := ⟨(mv_t6 164 rfl rfl), (mv_t1 11 rfl rfl), ⟨by decide +kernel, by decide +kernel, by decide +kernel⟩, by decide⟩
set_option maxRecDepth 20000 in
theorem kk_L_142 : mv_kV RL 142 mX10_paired 2 := ⟨km_X10_paired, (mv_t6 161 rfl rfl), (mv_t6 162 rfl rfl), (mv_t6 163 rfl rfl)⟩
set_option maxRecDepth 20000 in
theorem km_X10_findPairs : mv_mk mX10_findPairs 0 := ⟨(mv_t6 168 rfl rfl), (mv_t1 11 rfl rfl), ⟨by decide +kernel, by decide +kernel, by decide +kernel⟩, by decide⟩
set_option maxRecDepth 20000 in
theorem kk_X10_319 : mv_kV RX10 319 mX10_findPairs 0 := ⟨km_X10_findPairs, (mv_t6 165 rfl rfl), (mv_t6 167 rfl rfl), (mv_t0 67 rfl rfl)⟩
theorem gf_55_41 : mv_gf mv_SH 55 10 41 (some (some 80)) := ⟨_, so_55, rfl⟩
theorem so_80 : mv_SH[80]? = some (.inl (false, 36)) := by decide +kernel
set_option maxRecDepth 20000 in
theorem km_X10_paperOfRow : mv_mk mX10_paperOfRow 1 := ⟨(mv_t6 172 rfl rfl), (mv_t1 11 rfl rfl), ⟨by decide +kernel, by decide +kernel, by decide +kernel⟩, by decide⟩
set_option maxRecDepth 20000 in
theorem kk_X10_322 : mv_kV RX10 322 mX10_paperOfRow 1 := ⟨km_X10_paperOfRow, (mv_t6 169 rfl rfl), (mv_t6 171 rfl rfl), (mv_t0 68 rfl rfl)⟩
set_option maxRecDepth 20000 in
theorem km_X9_mark : mv_mk mX9_mark 2 := ⟨(mv_t4 98 rfl rfl), (mv_t1 1 rfl rfl), ⟨by decide +kernel, by decide +kernel, by decide +kernel⟩, by decide⟩
set_option maxRecDepth 20000 in
theorem kk_L_143 : mv_kV RL 143 mX9_mark 2 := ⟨km_X9_mark, (mv_t4 95 rfl rfl), (mv_t4 96 rfl rfl), (mv_t4 97 rfl rfl)⟩
set_option maxRecDepth 20000 in
theorem km_X1_marks : mv_mk mX1_marks 1 := ⟨(mv_t4 102 rfl rfl), (mv_t1 2 rfl rfl), ⟨by decide +kernel, by decide +kernel, by decide +kernel⟩, by decide⟩
set_option maxRecDepth 20000 in
theorem kk_X9_297 : mv_kV RX9 297 mX1_marks 1 := ⟨km_X1_marks, (mv_t4 99 rfl rfl), (mv_t4 100 rfl rfl), (mv_t4 101 rfl rfl)⟩
theorem gf_1_3 : mv_gf mv_SH 1 1 3 (some (some 8)) := ⟨_, so_1, rfl⟩
theorem gf_1_4 : mv_gf mv_SH 1 1 4 (some (some 10)) := ⟨_, so_1, rfl⟩
set_option maxRecDepth 20000 in
theorem km_X2_farthest : mv_mk mX2_farthest 0 := ⟨(mv_t4 106 rfl rfl), (mv_t1 4 rfl rfl), ⟨by decide +kernel, by decide +kernel, by decide +kernel⟩, by decide⟩
set_option maxRecDepth 20000 in
theorem kk_X9_301 : mv_kV RX9 301 mX2_farthest 0 := ⟨km_X2_farthest, (mv_t4 103 rfl rfl), (mv_t4 104 rfl rfl), (mv_t4 105 rfl rfl)⟩
theorem so_8 : mv_SH[8]? = some (.inr (2, [none, some (some 9), none])) := by decide +kernel
theorem gf_8_0 : mv_gf mv_SH 8 2 0 none := ⟨_, so_8, rfl⟩
theorem vc_2 : vwCl[2]? = some (RX2, TX2, 3) := rfl
set_option maxRecDepth 20000 in
theorem km_X2_add : mv_mk mX2_add 1 := ⟨(mv_t4 110 rfl rfl), (mv_t1 4 rfl rfl), ⟨by decide +kernel, by decide +kernel, by decide +kernel⟩, by decide⟩
set_option maxRecDepth 20000 in
theorem kk_X9_306 : mv_kV RX9 306 mX2_add 1 := ⟨km_X2_add, (mv_t4 107 rfl rfl), (mv_t4 108 rfl rfl), (mv_t4 109 rfl rfl)⟩
set_option maxRecDepth 20000 in
theorem kf_X2_17 : mv_fl RX2 17 2 2 false .int := ⟨RX2, TX2, 3, tyX2, kc_2, by decide, rfl, rfl, Or.inl ⟨(mv_t1 53 rfl rfl), fun _ => rfl⟩⟩
theorem gf_8_2 : mv_gf mv_SH 8 2 2 none := ⟨_, so_8, rfl⟩
theorem gf_8_1 : mv_gf mv_SH 8 2 1 (some (some 9)) := ⟨_, so_8, rfl⟩
theorem so_9 : mv_SH[9]? = some (.inl (false, 6)) := by decide +kernel
set_option maxRecDepth 20000 in
theorem km_X2_count : mv_mk mX2_count 0 := ⟨(mv_t4 114 rfl rfl), (mv_t1 4 rfl rfl), ⟨by decide +kernel, by decide +kernel, by decide +kernel⟩, by decide⟩
set_option maxRecDepth 20000 in
theorem kk_X9_307 : mv_kV RX9 307 mX2_count 0 := ⟨km_X2_count, (mv_t4 111 rfl rfl), (mv_t4 112 rfl rfl), (mv_t4 113 rfl rfl)⟩
theorem so_10 : mv_SH[10]? = some (.inr (2, [none, some (some 11), none])) := by decide +kernel
theorem gf_10_0 : mv_gf mv_SH 10 2 0 none := ⟨_, so_10, rfl⟩
theorem gf_10_2 : mv_gf mv_SH 10 2 2 none := ⟨_, so_10, rfl⟩
theorem gf_10_1 : mv_gf mv_SH 10 2 1 (some (some 11)) := ⟨_, so_10, rfl⟩
theorem so_11 : mv_SH[11]? = some (.inl (false, 6)) := by decide +kernel
set_option maxRecDepth 20000 in
theorem km_X10_mark : mv_mk mX10_mark 2 := ⟨(mv_t6 176 rfl rfl), (mv_t1 11 rfl rfl), ⟨by decide +kernel, by decide +kernel, by decide +kernel⟩, by decide⟩
set_option maxRecDepth 20000 in
theorem kk_L_146 : mv_kV RL 146 mX10_mark 2 := ⟨km_X10_mark, (mv_t6 173 rfl rfl), (mv_t6 174 rfl rfl), (mv_t6 175 rfl rfl)⟩
set_option maxRecDepth 20000 in
theorem kf_X10_327 : mv_fl RX10 327 10 12 false .int := ⟨RX10, TX10, 46, tyX10, kc_10, by decide, rfl, rfl, Or.inl ⟨(mv_t4 200 rfl rfl), fun _ => rfl⟩⟩
theorem gf_55_12 : mv_gf mv_SH 55 10 12 none := ⟨_, so_55, rfl⟩
theorem gf_55_11 : mv_gf mv_SH 55 10 11 (some (some 60)) := ⟨_, so_55, rfl⟩
theorem so_60 : mv_SH[60]? = some (.inl (false, 6)) := by decide +kernel
theorem gf_55_13 : mv_gf mv_SH 55 10 13 (some (some 61)) := ⟨_, so_55, rfl⟩
set_option maxRecDepth 20000 in
theorem kf_X10_330 : mv_fl RX10 330 10 14 false .int := ⟨RX10, TX10, 46, tyX10, kc_10, by decide, rfl, rfl, Or.inl ⟨(mv_t4 202 rfl rfl), fun _ => rfl⟩⟩
theorem gf_55_14 : mv_gf mv_SH 55 10 14 none := ⟨_, so_55, rfl⟩
theorem so_61 : mv_SH[61]? = some (.inl (false, 6)) := by decide +kernel
set_option maxRecDepth 20000 in
theorem kn_X10_325 : Cond.constantLong RX10 325 90 ∈ mv_tb := (mv_t6 177 rfl rfl)
set_option maxRecDepth 20000 in
theorem km_X9_iron : mv_mk mX9_iron 1 := ⟨(mv_t4 118 rfl rfl), (mv_t1 1 rfl rfl), ⟨by decide +kernel, by decide +kernel, by decide +kernel⟩, by decide⟩
set_option maxRecDepth 20000 in
theorem kk_L_147 : mv_kV RL 147 mX9_iron 1 := ⟨km_X9_iron, (mv_t4 115 rfl rfl), (mv_t4 116 rfl rfl), (mv_t4 117 rfl rfl)⟩
set_option maxRecDepth 20000 in
theorem km_X2_clear : mv_mk mX2_clear 0 := ⟨(mv_t4 122 rfl rfl), (mv_t1 4 rfl rfl), ⟨by decide +kernel, by decide +kernel, by decide +kernel⟩, by decide⟩
set_option maxRecDepth 20000 in
theorem kk_X9_308 : mv_kV RX9 308 mX2_clear 0 := ⟨km_X2_clear, (mv_t4 119 rfl rfl), (mv_t4 120 rfl rfl), (mv_t4 121 rfl rfl)⟩
set_option maxRecDepth 20000 in
theorem km_X10_iron : mv_mk mX10_iron 1 := ⟨(mv_t6 181 rfl rfl), (mv_t1 11 rfl rfl), ⟨by decide +kernel, by decide +kernel, by decide +kernel⟩, by decide⟩
set_option maxRecDepth 20000 in
theorem kk_L_150 : mv_kV RL 150 mX10_iron 1 := ⟨km_X10_iron, (mv_t6 178 rfl rfl), (mv_t6 179 rfl rfl), (mv_t6 180 rfl rfl)⟩
set_option maxRecDepth 20000 in
theorem km_X9_hidden : mv_mk mX9_hidden 4 := ⟨(mv_t4 126 rfl rfl), (mv_t1 1 rfl rfl), ⟨by decide +kernel, by decide +kernel, by decide +kernel⟩, by decide⟩
set_option maxRecDepth 20000 in
theorem kk_L_151 : mv_kV RL 151 mX9_hidden 4 := ⟨km_X9_hidden, (mv_t4 123 rfl rfl), (mv_t4 124 rfl rfl), (mv_t4 125 rfl rfl)⟩
set_option maxRecDepth 20000 in
theorem kk_X9_309 : mv_kV RX9 309 mX8_u 1 := ⟨km_X8_u, (mv_t4 127 rfl rfl), (mv_t2 201 rfl rfl), (mv_t2 202 rfl rfl)⟩
theorem kf_X9_312 : mv_fl RX9 312 1 3 true (.object "PaperBoxes$Marks") := ⟨RX1, TX1, 9, tyX1, kc_1, by decide, rfl, rfl, Or.inr ⟨rfl, "PaperBoxes", by decide +kernel⟩⟩
set_option maxRecDepth 20000 in
theorem km_X2_areHidden : mv_mk mX2_areHidden 3 := ⟨(mv_t4 131 rfl rfl), (mv_t1 4 rfl rfl), ⟨by decide +kernel, by decide +kernel, by decide +kernel⟩, by decide⟩
set_option maxRecDepth 20000 in
theorem kk_X9_316 : mv_kV RX9 316 mX2_areHidden 3 := ⟨km_X2_areHidden, (mv_t4 128 rfl rfl), (mv_t4 129 rfl rfl), (mv_t4 130 rfl rfl)⟩
set_option maxRecDepth 20000 in
theorem km_X10_hidden : mv_mk mX10_hidden 4 := ⟨(mv_t6 185 rfl rfl), (mv_t1 11 rfl rfl), ⟨by decide +kernel, by decide +kernel, by decide +kernel⟩, by decide⟩
set_option maxRecDepth 20000 in
theorem kk_L_154 : mv_kV RL 154 mX10_hidden 4 := ⟨km_X10_hidden, (mv_t6 182 rfl rfl), (mv_t6 183 rfl rfl), (mv_t6 184 rfl rfl)⟩
set_option maxRecDepth 20000 in
theorem km_X10_isHiddenFrom : mv_mk mX10_isHiddenFrom 2 := ⟨(mv_t6 189 rfl rfl), (mv_t1 11 rfl rfl), ⟨by decide +kernel, by decide +kernel, by decide +kernel⟩, by decide⟩
set_option maxRecDepth 20000 in
theorem kk_X10_333 : mv_kV RX10 333 mX10_isHiddenFrom 2 := ⟨km_X10_isHiddenFrom, (mv_t6 186 rfl rfl), (mv_t6 188 rfl rfl), (mv_t0 69 rfl rfl)⟩
set_option maxRecDepth 20000 in
theorem km_X9_undone : mv_mk mX9_undone 2 := ⟨(mv_t4 135 rfl rfl), (mv_t1 1 rfl rfl), ⟨by decide +kernel, by decide +kernel, by decide +kernel⟩, by decide⟩
set_option maxRecDepth 20000 in
theorem kk_L_155 : mv_kV RL 155 mX9_undone 2 := ⟨km_X9_undone, (mv_t4 132 rfl rfl), (mv_t4 133 rfl rfl), (mv_t4 134 rfl rfl)⟩
theorem kf_X9_319 : mv_fl RX9 319 1 4 true (.object "PaperBoxes$Marks") := ⟨RX1, TX1, 9, tyX1, kc_1, by decide, rfl, rfl, Or.inr ⟨rfl, "PaperBoxes", by decide +kernel⟩⟩
set_option maxRecDepth 20000 in
theorem km_X2_areOf : mv_mk mX2_areOf 3 := ⟨(mv_t4 139 rfl rfl), (mv_t1 4 rfl rfl), ⟨by decide +kernel, by decide +kernel, by decide +kernel⟩, by decide⟩
set_option maxRecDepth 20000 in
theorem kk_X9_322 : mv_kV RX9 322 mX2_areOf 3 := ⟨km_X2_areOf, (mv_t4 136 rfl rfl), (mv_t4 137 rfl rfl), (mv_t4 138 rfl rfl)⟩
set_option maxRecDepth 20000 in
theorem km_X10_undone : mv_mk mX10_undone 2 := ⟨(mv_t6 193 rfl rfl), (mv_t1 11 rfl rfl), ⟨by decide +kernel, by decide +kernel, by decide +kernel⟩, by decide⟩
set_option maxRecDepth 20000 in
theorem kk_L_158 : mv_kV RL 158 mX10_undone 2 := ⟨km_X10_undone, (mv_t6 190 rfl rfl), (mv_t6 191 rfl rfl), (mv_t6 192 rfl rfl)⟩
set_option maxRecDepth 20000 in
theorem kn_X10_336 : Cond.constantLong RX10 336 89 ∈ mv_tb := (mv_t6 194 rfl rfl)
set_option maxRecDepth 20000 in
theorem km_X10_areCreasesOf : mv_mk mX10_areCreasesOf 2 := ⟨(mv_t6 198 rfl rfl), (mv_t1 11 rfl rfl), ⟨by decide +kernel, by decide +kernel, by decide +kernel⟩, by decide⟩
set_option maxRecDepth 20000 in
theorem kk_X10_338 : mv_kV RX10 338 mX10_areCreasesOf 2 := ⟨km_X10_areCreasesOf, (mv_t6 195 rfl rfl), (mv_t6 197 rfl rfl), (mv_t0 70 rfl rfl)⟩
set_option maxRecDepth 20000 in
theorem km_X9_year : mv_mk mX9_year 4 := ⟨(mv_t4 143 rfl rfl), (mv_t1 1 rfl rfl), ⟨by decide +kernel, by decide +kernel, by decide +kernel⟩, by decide⟩
set_option maxRecDepth 20000 in
theorem kk_L_159 : mv_kV RL 159 mX9_year 4 := ⟨km_X9_year, (mv_t4 140 rfl rfl), (mv_t4 141 rfl rfl), (mv_t4 142 rfl rfl)⟩
set_option maxRecDepth 20000 in
theorem kn_X9_325 : Cond.constant RX9 325 65537 ∈ mv_tb := (mv_t4 144 rfl rfl)
set_option maxRecDepth 20000 in
theorem kx_X9_330 : Cond.methodLink RX9 330 Lib.Math.max.name ∈ mv_tb := (mv_t4 145 rfl rfl)
set_option maxRecDepth 20000 in
theorem km_X10_year : mv_mk mX10_year 4 := ⟨(mv_t6 202 rfl rfl), (mv_t1 11 rfl rfl), ⟨by decide +kernel, by decide +kernel, by decide +kernel⟩, by decide⟩
set_option maxRecDepth 20000 in
theorem kk_L_162 : mv_kV RL 162 mX10_year 4 := ⟨km_X10_year, (mv_t6 199 rfl rfl), (mv_t6 200 rfl rfl), (mv_t6 201 rfl rfl)⟩
set_option maxRecDepth 20000 in
theorem kn_X10_341 : Cond.constantLong RX10 341 9999 ∈ mv_tb := (mv_t6 203 rfl rfl)
set_option maxRecDepth 20000 in
theorem kn_X10_343 : Cond.constantLong RX10 343 75 ∈ mv_tb := (mv_t6 204 rfl rfl)
set_option maxRecDepth 20000 in
theorem kn_X10_345 : Cond.constantLong RX10 345 74 ∈ mv_tb := (mv_t6 205 rfl rfl)
set_option maxRecDepth 20000 in
theorem kn_X10_347 : Cond.constantLong RX10 347 65537 ∈ mv_tb := (mv_t6 206 rfl rfl)
set_option maxRecDepth 20000 in
theorem km_X9_image : mv_mk mX9_image 1 := ⟨(mv_t4 149 rfl rfl), (mv_t1 1 rfl rfl), ⟨by decide +kernel, by decide +kernel, by decide +kernel⟩, by decide⟩
set_option maxRecDepth 20000 in
theorem kk_L_163 : mv_kV RL 163 mX9_image 1 := ⟨km_X9_image, (mv_t4 146 rfl rfl), (mv_t4 147 rfl rfl), (mv_t4 148 rfl rfl)⟩
set_option maxRecDepth 20000 in
theorem km_X9_imageOf : mv_mk mX9_imageOf 1 := ⟨(mv_t4 153 rfl rfl), (mv_t1 1 rfl rfl), ⟨by decide +kernel, by decide +kernel, by decide +kernel⟩, by decide⟩
set_option maxRecDepth 20000 in
theorem kk_X9_333 : mv_kV RX9 333 mX9_imageOf 1 := ⟨km_X9_imageOf, (mv_t4 150 rfl rfl), (mv_t4 152 rfl rfl), (mv_t0 28 rfl rfl)⟩
theorem gf_0_1 : mv_gf mv_SH 0 9 1 (some (some 12)) := ⟨_, so_0, rfl⟩
theorem gf_0_2 : mv_gf mv_SH 0 9 2 (some (some 23)) := ⟨_, so_0, rfl⟩
set_option maxRecDepth 20000 in
theorem km_X1_copyFrom : mv_mk mX1_copyFrom 1 := ⟨(mv_t4 157 rfl rfl), (mv_t1 2 rfl rfl), ⟨by decide +kernel, by decide +kernel, by decide +kernel⟩, by decide⟩
set_option maxRecDepth 20000 in
theorem kk_X9_337 : mv_kV RX9 337 mX1_copyFrom 1 := ⟨km_X1_copyFrom, (mv_t4 154 rfl rfl), (mv_t4 155 rfl rfl), (mv_t4 156 rfl rfl)⟩
theorem so_12 : mv_SH[12]? = some (.inr (1, [some (some 13), some (some 15), some (some 17), some (some 19), some (some 21), none, none, none, none])) := by decide +kernel
theorem gf_12_0 : mv_gf mv_SH 12 1 0 (some (some 13)) := ⟨_, so_12, rfl⟩
set_option maxRecDepth 20000 in
theorem km_X7_copyFrom : mv_mk mX7_copyFrom 1 := ⟨(mv_t4 161 rfl rfl), (mv_t1 3 rfl rfl), ⟨by decide +kernel, by decide +kernel, by decide +kernel⟩, by decide⟩
set_option maxRecDepth 20000 in
theorem kk_X1_49 : mv_kV RX1 49 mX7_copyFrom 1 := ⟨km_X7_copyFrom, (mv_t4 158 rfl rfl), (mv_t4 159 rfl rfl), (mv_t4 160 rfl rfl)⟩
theorem so_13 : mv_SH[13]? = some (.inr (7, [none, some (some 14), none])) := by decide +kernel
theorem gf_13_1 : mv_gf mv_SH 13 7 1 (some (some 14)) := ⟨_, so_13, rfl⟩
theorem so_14 : mv_SH[14]? = some (.inl (false, 18)) := by decide +kernel
theorem gf_13_2 : mv_gf mv_SH 13 7 2 none := ⟨_, so_13, rfl⟩
theorem gf_12_1 : mv_gf mv_SH 12 1 1 (some (some 15)) := ⟨_, so_12, rfl⟩
theorem so_15 : mv_SH[15]? = some (.inr (7, [none, some (some 16), none])) := by decide +kernel
theorem gf_15_1 : mv_gf mv_SH 15 7 1 (some (some 16)) := ⟨_, so_15, rfl⟩
theorem so_16 : mv_SH[16]? = some (.inl (false, 18)) := by decide +kernel
theorem gf_15_2 : mv_gf mv_SH 15 7 2 none := ⟨_, so_15, rfl⟩
theorem gf_12_2 : mv_gf mv_SH 12 1 2 (some (some 17)) := ⟨_, so_12, rfl⟩
theorem so_17 : mv_SH[17]? = some (.inr (7, [none, some (some 18), none])) := by decide +kernel
theorem gf_17_1 : mv_gf mv_SH 17 7 1 (some (some 18)) := ⟨_, so_17, rfl⟩
theorem so_18 : mv_SH[18]? = some (.inl (false, 18)) := by decide +kernel
theorem gf_17_2 : mv_gf mv_SH 17 7 2 none := ⟨_, so_17, rfl⟩
theorem gf_12_3 : mv_gf mv_SH 12 1 3 (some (some 19)) := ⟨_, so_12, rfl⟩
set_option maxRecDepth 20000 in
theorem km_X2_copyFrom : mv_mk mX2_copyFrom 1 := ⟨(mv_t4 165 rfl rfl), (mv_t1 4 rfl rfl), ⟨by decide +kernel, by decide +kernel, by decide +kernel⟩, by decide⟩
set_option maxRecDepth 20000 in
theorem kk_X1_53 : mv_kV RX1 53 mX2_copyFrom 1 := ⟨km_X2_copyFrom, (mv_t4 162 rfl rfl), (mv_t4 163 rfl rfl), (mv_t4 164 rfl rfl)⟩
theorem so_19 : mv_SH[19]? = some (.inr (2, [none, some (some 20), none])) := by decide +kernel
theorem gf_19_1 : mv_gf mv_SH 19 2 1 (some (some 20)) := ⟨_, so_19, rfl⟩
theorem so_20 : mv_SH[20]? = some (.inl (false, 6)) := by decide +kernel
theorem gf_19_2 : mv_gf mv_SH 19 2 2 none := ⟨_, so_19, rfl⟩
theorem gf_12_4 : mv_gf mv_SH 12 1 4 (some (some 21)) := ⟨_, so_12, rfl⟩
theorem so_21 : mv_SH[21]? = some (.inr (2, [none, some (some 22), none])) := by decide +kernel
theorem gf_21_1 : mv_gf mv_SH 21 2 1 (some (some 22)) := ⟨_, so_21, rfl⟩
theorem so_22 : mv_SH[22]? = some (.inl (false, 6)) := by decide +kernel
theorem gf_21_2 : mv_gf mv_SH 21 2 2 none := ⟨_, so_21, rfl⟩
theorem gf_12_5 : mv_gf mv_SH 12 1 5 none := ⟨_, so_12, rfl⟩
theorem gf_12_6 : mv_gf mv_SH 12 1 6 none := ⟨_, so_12, rfl⟩
theorem gf_12_7 : mv_gf mv_SH 12 1 7 none := ⟨_, so_12, rfl⟩
theorem gf_12_8 : mv_gf mv_SH 12 1 8 none := ⟨_, so_12, rfl⟩
set_option maxRecDepth 20000 in
theorem kf_X9_341 : mv_fl RX9 341 9 3 false .int := ⟨RX9, TX9, 10, tyX9, kc_9, by decide, rfl, rfl, Or.inl ⟨(mv_t1 232 rfl rfl), fun _ => rfl⟩⟩
theorem gf_0_3 : mv_gf mv_SH 0 9 3 none := ⟨_, so_0, rfl⟩
theorem so_23 : mv_SH[23]? = some (.inr (1, [some (some 24), some (some 26), some (some 28), some (some 30), some (some 32), none, none, none, none])) := by decide +kernel
theorem gf_23_0 : mv_gf mv_SH 23 1 0 (some (some 24)) := ⟨_, so_23, rfl⟩
theorem so_24 : mv_SH[24]? = some (.inr (7, [none, some (some 25), none])) := by decide +kernel
theorem gf_24_1 : mv_gf mv_SH 24 7 1 (some (some 25)) := ⟨_, so_24, rfl⟩
theorem so_25 : mv_SH[25]? = some (.inl (false, 18)) := by decide +kernel
theorem gf_24_2 : mv_gf mv_SH 24 7 2 none := ⟨_, so_24, rfl⟩
theorem gf_23_1 : mv_gf mv_SH 23 1 1 (some (some 26)) := ⟨_, so_23, rfl⟩
theorem so_26 : mv_SH[26]? = some (.inr (7, [none, some (some 27), none])) := by decide +kernel
theorem gf_26_1 : mv_gf mv_SH 26 7 1 (some (some 27)) := ⟨_, so_26, rfl⟩
theorem so_27 : mv_SH[27]? = some (.inl (false, 18)) := by decide +kernel
theorem gf_26_2 : mv_gf mv_SH 26 7 2 none := ⟨_, so_26, rfl⟩
theorem gf_23_2 : mv_gf mv_SH 23 1 2 (some (some 28)) := ⟨_, so_23, rfl⟩
theorem so_28 : mv_SH[28]? = some (.inr (7, [none, some (some 29), none])) := by decide +kernel
theorem gf_28_1 : mv_gf mv_SH 28 7 1 (some (some 29)) := ⟨_, so_28, rfl⟩
theorem so_29 : mv_SH[29]? = some (.inl (false, 18)) := by decide +kernel
theorem gf_28_2 : mv_gf mv_SH 28 7 2 none := ⟨_, so_28, rfl⟩
theorem gf_23_3 : mv_gf mv_SH 23 1 3 (some (some 30)) := ⟨_, so_23, rfl⟩
theorem so_30 : mv_SH[30]? = some (.inr (2, [none, some (some 31), none])) := by decide +kernel
theorem gf_30_1 : mv_gf mv_SH 30 2 1 (some (some 31)) := ⟨_, so_30, rfl⟩
theorem so_31 : mv_SH[31]? = some (.inl (false, 6)) := by decide +kernel
theorem gf_30_2 : mv_gf mv_SH 30 2 2 none := ⟨_, so_30, rfl⟩
theorem gf_23_4 : mv_gf mv_SH 23 1 4 (some (some 32)) := ⟨_, so_23, rfl⟩
theorem so_32 : mv_SH[32]? = some (.inr (2, [none, some (some 33), none])) := by decide +kernel
theorem gf_32_1 : mv_gf mv_SH 32 2 1 (some (some 33)) := ⟨_, so_32, rfl⟩
theorem so_33 : mv_SH[33]? = some (.inl (false, 6)) := by decide +kernel
theorem gf_32_2 : mv_gf mv_SH 32 2 2 none := ⟨_, so_32, rfl⟩
theorem gf_23_5 : mv_gf mv_SH 23 1 5 none := ⟨_, so_23, rfl⟩
theorem gf_23_6 : mv_gf mv_SH 23 1 6 none := ⟨_, so_23, rfl⟩
theorem gf_23_7 : mv_gf mv_SH 23 1 7 none := ⟨_, so_23, rfl⟩
theorem gf_23_8 : mv_gf mv_SH 23 1 8 none := ⟨_, so_23, rfl⟩
set_option maxRecDepth 20000 in
theorem km_X10_image : mv_mk mX10_image 1 := ⟨(mv_t6 210 rfl rfl), (mv_t1 11 rfl rfl), ⟨by decide +kernel, by decide +kernel, by decide +kernel⟩, by decide⟩
set_option maxRecDepth 20000 in
theorem kk_L_166 : mv_kV RL 166 mX10_image 1 := ⟨km_X10_image, (mv_t6 207 rfl rfl), (mv_t6 208 rfl rfl), (mv_t6 209 rfl rfl)⟩
set_option maxRecDepth 20000 in
theorem kf_X10_352 : mv_fl RX10 352 10 44 false .int := ⟨RX10, TX10, 46, tyX10, kc_10, by decide, rfl, rfl, Or.inl ⟨(mv_t4 232 rfl rfl), fun _ => rfl⟩⟩
theorem gf_55_44 : mv_gf mv_SH 55 10 44 none := ⟨_, so_55, rfl⟩
set_option maxRecDepth 20000 in
theorem kf_X10_349 : mv_fl RX10 349 10 45 false .boolean := ⟨RX10, TX10, 46, tyX10, kc_10, by decide, rfl, rfl, Or.inl ⟨(mv_t4 233 rfl rfl), fun _ => rfl⟩⟩
theorem gf_55_45 : mv_gf mv_SH 55 10 45 none := ⟨_, so_55, rfl⟩
set_option maxRecDepth 20000 in
theorem km_X10_passAll : mv_mk mX10_passAll 0 := ⟨(mv_t6 214 rfl rfl), (mv_t1 11 rfl rfl), ⟨by decide +kernel, by decide +kernel, by decide +kernel⟩, by decide⟩
set_option maxRecDepth 20000 in
theorem kk_X10_358 : mv_kV RX10 358 mX10_passAll 0 := ⟨km_X10_passAll, (mv_t6 211 rfl rfl), (mv_t6 213 rfl rfl), (mv_t0 71 rfl rfl)⟩
set_option maxRecDepth 20000 in
theorem km_X10_pass : mv_mk mX10_pass 1 := ⟨(mv_t6 218 rfl rfl), (mv_t1 11 rfl rfl), ⟨by decide +kernel, by decide +kernel, by decide +kernel⟩, by decide⟩
set_option maxRecDepth 20000 in
theorem kk_X10_355 : mv_kV RX10 355 mX10_pass 1 := ⟨km_X10_pass, (mv_t6 215 rfl rfl), (mv_t6 217 rfl rfl), (mv_t0 72 rfl rfl)⟩
theorem gf_55_42 : mv_gf mv_SH 55 10 42 (some (some 81)) := ⟨_, so_55, rfl⟩
theorem so_81 : mv_SH[81]? = some (.inl (false, 200)) := by decide +kernel
theorem gf_55_43 : mv_gf mv_SH 55 10 43 (some (some 82)) := ⟨_, so_55, rfl⟩
theorem so_82 : mv_SH[82]? = some (.inl (true, 2)) := by decide +kernel
set_option maxRecDepth 20000 in
theorem km_X9_restore : mv_mk mX9_restore 1 := ⟨(mv_t4 169 rfl rfl), (mv_t1 1 rfl rfl), ⟨by decide +kernel, by decide +kernel, by decide +kernel⟩, by decide⟩
set_option maxRecDepth 20000 in
theorem kk_L_167 : mv_kV RL 167 mX9_restore 1 := ⟨km_X9_restore, (mv_t4 166 rfl rfl), (mv_t4 167 rfl rfl), (mv_t4 168 rfl rfl)⟩
set_option maxRecDepth 20000 in
theorem km_X10_restore : mv_mk mX10_restore 1 := ⟨(mv_t6 222 rfl rfl), (mv_t1 11 rfl rfl), ⟨by decide +kernel, by decide +kernel, by decide +kernel⟩, by decide⟩
set_option maxRecDepth 20000 in
theorem kk_L_170 : mv_kV RL 170 mX10_restore 1 := ⟨km_X10_restore, (mv_t6 219 rfl rfl), (mv_t6 220 rfl rfl), (mv_t6 221 rfl rfl)⟩
set_option maxRecDepth 20000 in
theorem km_X9_told : mv_mk mX9_told 1 := ⟨(mv_t4 173 rfl rfl), (mv_t1 1 rfl rfl), ⟨by decide +kernel, by decide +kernel, by decide +kernel⟩, by decide⟩
set_option maxRecDepth 20000 in
theorem kk_L_171 : mv_kV RL 171 mX9_told 1 := ⟨km_X9_told, (mv_t4 170 rfl rfl), (mv_t4 171 rfl rfl), (mv_t4 172 rfl rfl)⟩
set_option maxRecDepth 20000 in
theorem km_X9_toldSide : mv_mk mX9_toldSide 2 := ⟨(mv_t4 177 rfl rfl), (mv_t1 1 rfl rfl), ⟨by decide +kernel, by decide +kernel, by decide +kernel⟩, by decide⟩
set_option maxRecDepth 20000 in
theorem kk_X9_345 : mv_kV RX9 345 mX9_toldSide 2 := ⟨km_X9_toldSide, (mv_t4 174 rfl rfl), (mv_t4 176 rfl rfl), (mv_t0 29 rfl rfl)⟩
set_option maxRecDepth 20000 in
theorem km_X7_columns : mv_mk mX7_columns 0 := ⟨(mv_t4 181 rfl rfl), (mv_t1 3 rfl rfl), ⟨by decide +kernel, by decide +kernel, by decide +kernel⟩, by decide⟩
set_option maxRecDepth 20000 in
theorem kk_X9_375 : mv_kV RX9 375 mX7_columns 0 := ⟨km_X7_columns, (mv_t4 178 rfl rfl), (mv_t4 179 rfl rfl), (mv_t4 180 rfl rfl)⟩
theorem gf_2_0 : mv_gf mv_SH 2 7 0 none := ⟨_, so_2, rfl⟩
theorem gf_4_0 : mv_gf mv_SH 4 7 0 none := ⟨_, so_4, rfl⟩
theorem gf_6_0 : mv_gf mv_SH 6 7 0 none := ⟨_, so_6, rfl⟩
set_option maxRecDepth 20000 in
theorem km_X10_told : mv_mk mX10_told 1 := ⟨(mv_t6 226 rfl rfl), (mv_t1 11 rfl rfl), ⟨by decide +kernel, by decide +kernel, by decide +kernel⟩, by decide⟩
set_option maxRecDepth 20000 in
theorem kk_L_174 : mv_kV RL 174 mX10_told 1 := ⟨km_X10_told, (mv_t6 223 rfl rfl), (mv_t6 224 rfl rfl), (mv_t6 225 rfl rfl)⟩
set_option maxRecDepth 20000 in
theorem kn_X10_367 : Cond.constantLong RX10 367 100 ∈ mv_tb := (mv_t6 227 rfl rfl)
set_option maxRecDepth 20000 in
theorem kn_X10_369 : Cond.constantLong RX10 369 699 ∈ mv_tb := (mv_t6 228 rfl rfl)
set_option maxRecDepth 20000 in
theorem km_X10_toldOf : mv_mk mX10_toldOf 2 := ⟨(mv_t6 232 rfl rfl), (mv_t1 11 rfl rfl), ⟨by decide +kernel, by decide +kernel, by decide +kernel⟩, by decide⟩
set_option maxRecDepth 20000 in
theorem kk_X10_371 : mv_kV RX10 371 mX10_toldOf 2 := ⟨km_X10_toldOf, (mv_t6 229 rfl rfl), (mv_t6 231 rfl rfl), (mv_t0 73 rfl rfl)⟩
set_option maxRecDepth 20000 in
theorem kn_X10_361 : Cond.constantLong RX10 361 10 ∈ mv_tb := (mv_t6 233 rfl rfl)
set_option maxRecDepth 20000 in
theorem kn_X10_363 : Cond.constantLong RX10 363 12 ∈ mv_tb := (mv_t6 234 rfl rfl)
set_option maxRecDepth 20000 in
theorem kn_X10_365 : Cond.constantLong RX10 365 21 ∈ mv_tb := (mv_t6 235 rfl rfl)
