/-! the method table: name, code, locals, answer, class, kind (0 static, 1 virtual, 2 constructor), parameters, room -/
abbrev mRow : Type := MethodName × ByteArray × Nat × Option FieldType × Nat × Nat × Nat × Room
def mTab_0 : List mRow := [(yX0_init, cX0_init, 1, none, 0, 2, 0, { frames := 1, cells := 1, slots := 8, locals := 20 }),
  (yX0_look, cX0_look, 3, none, 0, 1, 1, { frames := 2, cells := 0, slots := 0, locals := 46 }),
  (yX0_bendFrom, cX0_bendFrom, 6, (some .int), 0, 1, 2, { frames := 1, cells := 0, slots := 0, locals := 21 }),
  (yX0_note, cX0_note, 2, none, 0, 1, 1, { frames := 1, cells := 0, slots := 0, locals := 21 }),
  (yX0_kind, cX0_kind, 1, (some .int), 0, 1, 0, { frames := 0, cells := 0, slots := 0, locals := 0 }),
  (yX0_bentSquares, cX0_bentSquares, 1, (some .int), 0, 1, 0, { frames := 0, cells := 0, slots := 0, locals := 0 }),
  (yX0_fact, cX0_fact, 2, (some .int), 0, 1, 1, { frames := 1, cells := 0, slots := 0, locals := 20 }),
  (yX1_init, cX1_init, 1, none, 1, 2, 0, { frames := 2, cells := 7, slots := 55, locals := 40 }),
  (yX1_look, cX1_look, 3, none, 1, 1, 1, { frames := 3, cells := 0, slots := 0, locals := 68 }),
  (yX1_partInRings, cX1_partInRings, 5, none, 1, 1, 1, { frames := 0, cells := 0, slots := 0, locals := 0 }),
  (yX1_liesFlatBelow, cX1_liesFlatBelow, 4, (some .boolean), 1, 1, 2, { frames := 0, cells := 0, slots := 0, locals := 0 }),
  (yX1_join, cX1_join, 7, none, 1, 1, 3, { frames := 1, cells := 0, slots := 0, locals := 21 }),
  (yX1_list, cX1_list, 3, none, 1, 1, 1, { frames := 1, cells := 0, slots := 0, locals := 24 }),
  (yX1_ringsIn, cX1_ringsIn, 5, (some .int), 1, 1, 2, { frames := 0, cells := 0, slots := 0, locals := 0 }),
  (yX1_wholeParts, cX1_wholeParts, 4, (some .long), 1, 1, 0, { frames := 0, cells := 0, slots := 0, locals := 0 }),
  (yX2_init, cX2_init, 1, none, 2, 2, 0, { frames := 1, cells := 0, slots := 0, locals := 20 })]
def mTab_1 : List mRow := [(yX2_tell, cX2_tell, 7, none, 2, 1, 2, { frames := 1, cells := 0, slots := 0, locals := 26 }),
  (yX3_init, cX3_init, 1, none, 3, 2, 0, { frames := 1, cells := 5, slots := 40, locals := 20 }),
  (yX3_isMissing, cX3_isMissing, 1, (some .boolean), 3, 1, 0, { frames := 0, cells := 0, slots := 0, locals := 0 }),
  (yX3_vanish, cX3_vanish, 1, none, 3, 1, 0, { frames := 0, cells := 0, slots := 0, locals := 0 }),
  (yX3_has, cX3_has, 2, (some .boolean), 3, 1, 1, { frames := 0, cells := 0, slots := 0, locals := 0 }),
  (yX3_layOut, cX3_layOut, 4, none, 3, 1, 2, { frames := 1, cells := 0, slots := 0, locals := 23 }),
  (yX3_unfold, cX3_unfold, 5, none, 3, 1, 2, { frames := 1, cells := 0, slots := 0, locals := 23 }),
  (yX3_become, cX3_become, 3, none, 3, 1, 1, { frames := 1, cells := 0, slots := 0, locals := 23 }),
  (yX3_glue, cX3_glue, 4, none, 3, 1, 3, { frames := 0, cells := 0, slots := 0, locals := 0 }),
  (yX3_slide, cX3_slide, 3, none, 3, 1, 1, { frames := 1, cells := 0, slots := 0, locals := 24 }),
  (yX3_slideOnce, cX3_slideOnce, 5, none, 3, 1, 2, { frames := 0, cells := 0, slots := 0, locals := 0 }),
  (yX3_quarter, cX3_quarter, 2, none, 3, 1, 0, { frames := 0, cells := 0, slots := 0, locals := 0 }),
  (yX3_quarterBack, cX3_quarterBack, 2, none, 3, 1, 0, { frames := 0, cells := 0, slots := 0, locals := 0 }),
  (yX3_tilt, cX3_tilt, 6, none, 3, 1, 2, { frames := 2, cells := 0, slots := 0, locals := 46 }),
  (yX3_ringLength, cX3_ringLength, 4, (some .int), 3, 1, 1, { frames := 0, cells := 0, slots := 0, locals := 0 }),
  (yX3_aroundCorner, cX3_aroundCorner, 2, (some .int), 3, 1, 1, { frames := 0, cells := 0, slots := 0, locals := 0 })]
def mTab_2 : List mRow := [(yX3_mixInto, cX3_mixInto, 4, (some .long), 3, 1, 1, { frames := 0, cells := 0, slots := 0, locals := 0 }),
  (yX4_init, cX4_init, 1, none, 4, 2, 0, { frames := 1, cells := 2, slots := 16, locals := 20 }),
  (yX4_look, cX4_look, 5, none, 4, 1, 1, { frames := 2, cells := 0, slots := 0, locals := 49 }),
  (yX4_rowFrom, cX4_rowFrom, 9, (some .long), 4, 1, 2, { frames := 1, cells := 0, slots := 0, locals := 21 }),
  (yX4_number, cX4_number, 2, (some .int), 4, 1, 1, { frames := 0, cells := 0, slots := 0, locals := 0 }),
  (yX5_init, cX5_init, 1, none, 5, 2, 0, { frames := 2, cells := 12, slots := 1567, locals := 40 }),
  (yX5_fill, cX5_fill, 3, none, 5, 1, 1, { frames := 4, cells := 0, slots := 0, locals := 94 }),
  (yX5_numberOrNew, cX5_numberOrNew, 2, (some .int), 5, 1, 0, { frames := 3, cells := 0, slots := 0, locals := 73 }),
  (yX5_numberOf, cX5_numberOf, 4, (some .int), 5, 1, 1, { frames := 0, cells := 0, slots := 0, locals := 0 }),
  (yX5_rounds, cX5_rounds, 3, (some .int), 5, 1, 0, { frames := 1, cells := 0, slots := 0, locals := 23 }),
  (yX5_roundLength, cX5_roundLength, 5, (some .int), 5, 1, 1, { frames := 1, cells := 0, slots := 0, locals := 23 }),
  (yX5_roundFrom, cX5_roundFrom, 4, (some .int), 5, 1, 1, { frames := 0, cells := 0, slots := 0, locals := 0 }),
  (yX6_init, cX6_init, 1, none, 6, 2, 0, { frames := 1, cells := 1, slots := 8, locals := 20 }),
  (yX6_isMissing, cX6_isMissing, 1, (some .boolean), 6, 1, 0, { frames := 0, cells := 0, slots := 0, locals := 0 }),
  (yX6_vanish, cX6_vanish, 1, none, 6, 1, 0, { frames := 0, cells := 0, slots := 0, locals := 0 }),
  (yX6_clear, cX6_clear, 3, none, 6, 1, 1, { frames := 0, cells := 0, slots := 0, locals := 0 })]
def mTab_3 : List mRow := [(yX6_has, cX6_has, 3, (some .boolean), 6, 1, 2, { frames := 0, cells := 0, slots := 0, locals := 0 }),
  (yX6_hasEachOnce, cX6_hasEachOnce, 3, (some .boolean), 6, 1, 0, { frames := 0, cells := 0, slots := 0, locals := 0 }),
  (yX6_mixInto, cX6_mixInto, 4, (some .long), 6, 1, 1, { frames := 0, cells := 0, slots := 0, locals := 0 }),
  (yX7_init, cX7_init, 2, none, 7, 2, 0, { frames := 3, cells := 104, slots := 2241, locals := 60 }),
  (yX7_sheet, cX7_sheet, 3, (some .int), 7, 1, 2, { frames := 1, cells := 0, slots := 0, locals := 22 }),
  (yX7_lay, cX7_lay, 6, (some .int), 7, 1, 3, { frames := 1, cells := 0, slots := 0, locals := 21 }),
  (yX7_tear, cX7_tear, 2, (some .int), 7, 1, 1, { frames := 1, cells := 0, slots := 0, locals := 21 }),
  (yX7_copy, cX7_copy, 8, (some .int), 7, 1, 5, { frames := 1, cells := 0, slots := 0, locals := 60 }),
  (yX7_ground, cX7_ground, 6, (some .int), 7, 1, 3, { frames := 2, cells := 0, slots := 0, locals := 46 }),
  (yX7_drop, cX7_drop, 2, (some .int), 7, 1, 1, { frames := 1, cells := 0, slots := 0, locals := 21 }),
  (yX7_twin, cX7_twin, 3, (some .int), 7, 1, 2, { frames := 2, cells := 0, slots := 0, locals := 45 }),
  (yX7_told, cX7_told, 4, (some .int), 7, 1, 2, { frames := 3, cells := 0, slots := 0, locals := 73 }),
  (yX7_mark, cX7_mark, 4, (some .int), 7, 1, 2, { frames := 3, cells := 0, slots := 0, locals := 68 }),
  (yX7_next, cX7_next, 5, (some .int), 7, 1, 3, { frames := 1, cells := 0, slots := 0, locals := 21 }),
  (yX7_bend, cX7_bend, 4, (some .int), 7, 1, 2, { frames := 3, cells := 0, slots := 0, locals := 68 }),
  (yX7_name, cX7_name, 4, (some .int), 7, 1, 2, { frames := 3, cells := 0, slots := 0, locals := 73 })]
def mTab_4 : List mRow := [(yX7_alike, cX7_alike, 7, (some .int), 7, 1, 2, { frames := 3, cells := 0, slots := 0, locals := 73 }),
  (yX7_mean, cX7_mean, 2, (some .int), 7, 1, 1, { frames := 3, cells := 0, slots := 0, locals := 68 }),
  (yX7_shear, cX7_shear, 3, (some .int), 7, 1, 2, { frames := 2, cells := 0, slots := 0, locals := 46 }),
  (yX7_turn, cX7_turn, 2, (some .int), 7, 1, 1, { frames := 1, cells := 0, slots := 0, locals := 21 }),
  (yX7_see, cX7_see, 4, (some .int), 7, 1, 3, { frames := 3, cells := 0, slots := 0, locals := 71 }),
  (yX7_cylinders, cX7_cylinders, 4, (some .int), 7, 1, 3, { frames := 4, cells := 0, slots := 0, locals := 90 }),
  (yX7_cylinder, cX7_cylinder, 4, (some .int), 7, 1, 3, { frames := 4, cells := 0, slots := 0, locals := 90 }),
  (yX7_share, cX7_share, 2, (some .int), 7, 1, 1, { frames := 4, cells := 0, slots := 0, locals := 90 }),
  (yX7_reach, cX7_reach, 3, (some .int), 7, 1, 1, { frames := 6, cells := 0, slots := 0, locals := 137 }),
  (yX7_reached, cX7_reached, 5, (some .int), 7, 1, 3, { frames := 6, cells := 0, slots := 0, locals := 137 }),
  (yX7_cusps, cX7_cusps, 3, (some .int), 7, 1, 1, { frames := 6, cells := 0, slots := 0, locals := 137 }),
  (yX7_width, cX7_width, 5, (some .int), 7, 1, 2, { frames := 6, cells := 0, slots := 0, locals := 137 }),
  (yX7_meanShare, cX7_meanShare, 3, (some .int), 7, 1, 1, { frames := 6, cells := 0, slots := 0, locals := 137 }),
  (yX7_twist, cX7_twist, 5, (some .int), 7, 1, 1, { frames := 6, cells := 0, slots := 0, locals := 137 }),
  (yX7_comes, cX7_comes, 5, (some .int), 7, 1, 2, { frames := 6, cells := 0, slots := 0, locals := 137 }),
  (yX7_upper, cX7_upper, 1, (some .long), 7, 1, 0, { frames := 0, cells := 0, slots := 0, locals := 0 })]
def mTab_5 : List mRow := [(yX7_lower, cX7_lower, 1, (some .long), 7, 1, 0, { frames := 0, cells := 0, slots := 0, locals := 0 }),
  (yX7_count, cX7_count, 2, (some .int), 7, 1, 1, { frames := 2, cells := 0, slots := 0, locals := 43 }),
  (yX7_finding, cX7_finding, 1, (some .int), 7, 1, 0, { frames := 0, cells := 0, slots := 0, locals := 0 }),
  (yX7_findings, cX7_findings, 2, (some .int), 7, 1, 1, { frames := 0, cells := 0, slots := 0, locals := 0 }),
  (yX7_digest, cX7_digest, 4, (some .long), 7, 1, 0, { frames := 1, cells := 0, slots := 0, locals := 23 }),
  (yX7_isSheetNumber, cX7_isSheetNumber, 1, (some .boolean), 7, 0, 1, { frames := 0, cells := 0, slots := 0, locals := 0 }),
  (yX7_isGroundNumber, cX7_isGroundNumber, 1, (some .boolean), 7, 0, 1, { frames := 0, cells := 0, slots := 0, locals := 0 }),
  (yX7_isSlope, cX7_isSlope, 2, (some .boolean), 7, 0, 2, { frames := 1, cells := 0, slots := 0, locals := 26 }),
  (yX7_commonDivisor, cX7_commonDivisor, 7, (some .long), 7, 0, 2, { frames := 0, cells := 0, slots := 0, locals := 0 }),
  (yX7_place, cX7_place, 4, (some .int), 7, 0, 3, { frames := 0, cells := 0, slots := 0, locals := 0 }),
  (yX7_tellGround, cX7_tellGround, 2, (some .boolean), 7, 0, 2, { frames := 1, cells := 0, slots := 0, locals := 24 }),
  (yX7_hangTogether, cX7_hangTogether, 5, (some .boolean), 7, 0, 2, { frames := 0, cells := 0, slots := 0, locals := 0 }),
  (yX7_found, cX7_found, 2, (some .int), 7, 1, 1, { frames := 0, cells := 0, slots := 0, locals := 0 }),
  (yX7_refusedReach, cX7_refusedReach, 2, (some .int), 7, 1, 1, { frames := 5, cells := 0, slots := 0, locals := 116 }),
  (yX7_selvesOf, cX7_selvesOf, 2, (some .int), 7, 1, 1, { frames := 3, cells := 0, slots := 0, locals := 73 }),
  (yX7_cylindersOf, cX7_cylindersOf, 2, (some .int), 7, 1, 1, { frames := 4, cells := 0, slots := 0, locals := 90 })]
def mTab_6 : List mRow := [(yX7_sharesInReach, cX7_sharesInReach, 4, (some .long), 7, 1, 0, { frames := 4, cells := 0, slots := 0, locals := 90 }),
  (yX7_sheetsThere, cX7_sheetsThere, 3, (some .int), 7, 1, 0, { frames := 1, cells := 0, slots := 0, locals := 20 }),
  (yX7_groundsThere, cX7_groundsThere, 4, (some .int), 7, 1, 1, { frames := 1, cells := 0, slots := 0, locals := 20 }),
  (yX8_init, cX8_init, 2, none, 8, 2, 0, { frames := 1, cells := 24, slots := 10832, locals := 20 }),
  (yX8_in, cX8_in, 3, (some .boolean), 8, 0, 3, { frames := 0, cells := 0, slots := 0, locals := 0 }),
  (yX8_meets, cX8_meets, 2, (some .int), 8, 1, 1, { frames := 0, cells := 0, slots := 0, locals := 0 }),
  (yX8_isSheet, cX8_isSheet, 1, (some .boolean), 8, 0, 1, { frames := 1, cells := 0, slots := 0, locals := 22 }),
  (yX8_looked, cX8_looked, 2, (some .int), 8, 1, 1, { frames := 2, cells := 0, slots := 0, locals := 42 }),
  (yX8_sheet, cX8_sheet, 4, (some .int), 8, 1, 2, { frames := 2, cells := 0, slots := 0, locals := 42 }),
  (yX8_lay, cX8_lay, 6, (some .int), 8, 1, 3, { frames := 3, cells := 0, slots := 0, locals := 63 }),
  (yX8_tear, cX8_tear, 3, (some .int), 8, 1, 1, { frames := 3, cells := 0, slots := 0, locals := 63 }),
  (yX8_copy, cX8_copy, 7, (some .int), 8, 1, 5, { frames := 2, cells := 0, slots := 0, locals := 42 }),
  (yX8_setBack, cX8_setBack, 2, none, 8, 1, 0, { frames := 0, cells := 0, slots := 0, locals := 0 }),
  (yX8_isNumber, cX8_isNumber, 1, (some .boolean), 8, 0, 1, { frames := 1, cells := 0, slots := 0, locals := 22 }),
  (yX8_askedFor, cX8_askedFor, 2, (some .int), 8, 1, 1, { frames := 2, cells := 0, slots := 0, locals := 43 }),
  (yX8_load, cX8_load, 3, none, 8, 1, 1, { frames := 1, cells := 0, slots := 0, locals := 21 })]
def mTab_7 : List mRow := [(yX8_keep, cX8_keep, 3, (some .int), 8, 1, 1, { frames := 0, cells := 0, slots := 0, locals := 0 }),
  (yX8_isWhole, cX8_isWhole, 6, (some .boolean), 8, 1, 2, { frames := 1, cells := 0, slots := 0, locals := 22 }),
  (yX8_numbered, cX8_numbered, 6, (some .int), 8, 1, 1, { frames := 0, cells := 0, slots := 0, locals := 0 }),
  (yX8_ground, cX8_ground, 6, (some .int), 8, 1, 3, { frames := 2, cells := 0, slots := 0, locals := 47 }),
  (yX8_drop, cX8_drop, 3, (some .int), 8, 1, 1, { frames := 3, cells := 0, slots := 0, locals := 64 }),
  (yX8_twin, cX8_twin, 4, (some .int), 8, 1, 2, { frames := 3, cells := 0, slots := 0, locals := 64 }),
  (yX8_around, cX8_around, 2, (some .int), 8, 1, 1, { frames := 0, cells := 0, slots := 0, locals := 0 }),
  (yX8_bendAt, cX8_bendAt, 4, (some .int), 8, 1, 1, { frames := 1, cells := 0, slots := 0, locals := 21 }),
  (yX8_isFirst, cX8_isFirst, 4, (some .boolean), 8, 1, 1, { frames := 1, cells := 0, slots := 0, locals := 21 }),
  (yX8_corners, cX8_corners, 6, (some .int), 8, 1, 1, { frames := 2, cells := 0, slots := 0, locals := 44 }),
  (yX8_kindOf, cX8_kindOf, 2, (some .int), 8, 1, 0, { frames := 3, cells := 0, slots := 0, locals := 69 }),
  (yX8_setName, cX8_setName, 5, none, 8, 1, 0, { frames := 1, cells := 0, slots := 0, locals := 25 }),
  (yX8_against, cX8_against, 2, (some .int), 8, 1, 0, { frames := 0, cells := 0, slots := 0, locals := 0 }),
  (yX8_tells, cX8_tells, 2, (some .int), 8, 1, 1, { frames := 4, cells := 0, slots := 0, locals := 90 }),
  (yX8_told, cX8_told, 4, (some .int), 8, 1, 2, { frames := 5, cells := 0, slots := 0, locals := 111 }),
  (yX8_ringOf, cX8_ringOf, 4, (some .int), 8, 1, 1, { frames := 0, cells := 0, slots := 0, locals := 0 })]
def mTab_8 : List mRow := [(yX8_mark, cX8_mark, 4, (some .int), 8, 1, 2, { frames := 4, cells := 0, slots := 0, locals := 90 }),
  (yX8_next, cX8_next, 5, (some .int), 8, 1, 3, { frames := 3, cells := 0, slots := 0, locals := 64 }),
  (yX8_bend, cX8_bend, 4, (some .int), 8, 1, 2, { frames := 3, cells := 0, slots := 0, locals := 64 }),
  (yX8_name, cX8_name, 4, (some .int), 8, 1, 2, { frames := 3, cells := 0, slots := 0, locals := 64 }),
  (yX8_otherName, cX8_otherName, 3, (some .int), 8, 1, 1, { frames := 2, cells := 0, slots := 0, locals := 49 }),
  (yX8_isOther, cX8_isOther, 3, (some .boolean), 8, 1, 0, { frames := 0, cells := 0, slots := 0, locals := 0 }),
  (yX8_alike, cX8_alike, 4, (some .int), 8, 1, 2, { frames := 3, cells := 0, slots := 0, locals := 71 }),
  (yX8_mean, cX8_mean, 3, (some .int), 8, 1, 1, { frames := 3, cells := 0, slots := 0, locals := 69 }),
  (yX8_shearOnce, cX8_shearOnce, 3, none, 8, 1, 1, { frames := 1, cells := 0, slots := 0, locals := 21 }),
  (yX8_shearBy, cX8_shearBy, 3, none, 8, 1, 1, { frames := 2, cells := 0, slots := 0, locals := 43 }),
  (yX8_turnOnce, cX8_turnOnce, 3, none, 8, 1, 1, { frames := 1, cells := 0, slots := 0, locals := 21 }),
  (yX8_shear, cX8_shear, 4, (some .int), 8, 1, 2, { frames := 3, cells := 0, slots := 0, locals := 65 }),
  (yX8_turn, cX8_turn, 3, (some .int), 8, 1, 1, { frames := 3, cells := 0, slots := 0, locals := 64 }),
  (yX8_isSlope, cX8_isSlope, 5, (some .boolean), 8, 0, 2, { frames := 1, cells := 0, slots := 0, locals := 22 }),
  (yX8_seeIn, cX8_seeIn, 7, none, 8, 1, 2, { frames := 3, cells := 0, slots := 0, locals := 65 }),
  (yX8_see, cX8_see, 5, (some .int), 8, 1, 3, { frames := 4, cells := 0, slots := 0, locals := 91 })]
def mTab_9 : List mRow := [(yX8_setCylinders, cX8_setCylinders, 4, (some .int), 8, 1, 0, { frames := 3, cells := 0, slots := 0, locals := 67 }),
  (yX8_joins, cX8_joins, 5, (some .boolean), 8, 1, 2, { frames := 0, cells := 0, slots := 0, locals := 0 }),
  (yX8_isSmooth, cX8_isSmooth, 4, (some .boolean), 8, 1, 1, { frames := 2, cells := 0, slots := 0, locals := 44 }),
  (yX8_sizeOf, cX8_sizeOf, 4, (some .int), 8, 1, 1, { frames := 0, cells := 0, slots := 0, locals := 0 }),
  (yX8_cylinders, cX8_cylinders, 5, (some .int), 8, 1, 3, { frames := 4, cells := 0, slots := 0, locals := 91 }),
  (yX8_cylinder, cX8_cylinder, 9, (some .int), 8, 1, 3, { frames := 4, cells := 0, slots := 0, locals := 90 }),
  (yX8_shareOf, cX8_shareOf, 5, (some .int), 8, 1, 0, { frames := 4, cells := 0, slots := 0, locals := 90 }),
  (yX8_tell, cX8_tell, 11, (some .int), 8, 1, 2, { frames := 0, cells := 0, slots := 0, locals := 0 }),
  (yX8_share, cX8_share, 3, (some .int), 8, 1, 1, { frames := 5, cells := 0, slots := 0, locals := 114 }),
  (yX8_loadName, cX8_loadName, 3, none, 8, 1, 1, { frames := 1, cells := 0, slots := 0, locals := 21 }),
  (yX8_found, cX8_found, 4, (some .int), 8, 1, 0, { frames := 2, cells := 0, slots := 0, locals := 49 }),
  (yX8_setReach, cX8_setReach, 3, (some .int), 8, 1, 0, { frames := 5, cells := 0, slots := 0, locals := 114 }),
  (yX8_askedReach, cX8_askedReach, 3, (some .int), 8, 1, 1, { frames := 6, cells := 0, slots := 0, locals := 136 }),
  (yX8_reach, cX8_reach, 3, (some .int), 8, 1, 1, { frames := 7, cells := 0, slots := 0, locals := 158 }),
  (yX8_reached, cX8_reached, 5, (some .int), 8, 1, 3, { frames := 7, cells := 0, slots := 0, locals := 158 }),
  (yX8_roundOf, cX8_roundOf, 4, (some .int), 8, 1, 1, { frames := 0, cells := 0, slots := 0, locals := 0 })]
def mTab_10 : List mRow := [(yX8_cusps, cX8_cusps, 5, (some .int), 8, 1, 1, { frames := 7, cells := 0, slots := 0, locals := 158 }),
  (yX8_width, cX8_width, 7, (some .int), 8, 1, 2, { frames := 7, cells := 0, slots := 0, locals := 158 }),
  (yX8_allShares, cX8_allShares, 4, (some .long), 8, 1, 0, { frames := 0, cells := 0, slots := 0, locals := 0 }),
  (yX8_meanShare, cX8_meanShare, 3, (some .int), 8, 1, 1, { frames := 7, cells := 0, slots := 0, locals := 158 }),
  (yX8_twist, cX8_twist, 7, (some .int), 8, 1, 1, { frames := 6, cells := 0, slots := 0, locals := 136 }),
  (yX8_comes, cX8_comes, 7, (some .int), 8, 1, 2, { frames := 6, cells := 0, slots := 0, locals := 136 }),
  (yX8_upper, cX8_upper, 1, (some .long), 8, 1, 0, { frames := 0, cells := 0, slots := 0, locals := 0 }),
  (yX8_lower, cX8_lower, 1, (some .long), 8, 1, 0, { frames := 0, cells := 0, slots := 0, locals := 0 }),
  (yX8_count, cX8_count, 4, (some .int), 8, 1, 1, { frames := 1, cells := 0, slots := 0, locals := 22 }),
  (yX8_finding, cX8_finding, 1, (some .int), 8, 1, 0, { frames := 0, cells := 0, slots := 0, locals := 0 }),
  (yX8_findings, cX8_findings, 2, (some .int), 8, 1, 1, { frames := 1, cells := 0, slots := 0, locals := 22 }),
  (yX8_digest, cX8_digest, 5, (some .long), 8, 1, 0, { frames := 0, cells := 0, slots := 0, locals := 0 }),
  (yJ9_floorDiv_7cf53, cJ9_floorDiv_7cf53, 3, (some .int), 9, 0, 2, { frames := 0, cells := 0, slots := 0, locals := 0 }),
  (yJ9_abs_0f7a4, cJ9_abs_0f7a4, 1, (some .int), 9, 0, 1, { frames := 0, cells := 0, slots := 0, locals := 0 }),
  (yJ9_max_7cf53, cJ9_max_7cf53, 2, (some .int), 9, 0, 2, { frames := 0, cells := 0, slots := 0, locals := 0 }),
  (yJ9_min_7cf53, cJ9_min_7cf53, 2, (some .int), 9, 0, 2, { frames := 0, cells := 0, slots := 0, locals := 0 })]
def mTab_11 : List mRow := [(yL_law, cL_law, 4, (some .boolean), 11, 0, 1, { frames := 10, cells := 600000, slots := 7302250, locals := 370 })]
def mTabs : List (List mRow) := [mTab_0, mTab_1, mTab_2, mTab_3, mTab_4, mTab_5, mTab_6, mTab_7, mTab_8, mTab_9, mTab_10, mTab_11]
def mRow0 : mRow := (⟨"", "", ""⟩, ByteArray.empty, 0, none, 99, 99, 0, { frames := 0, cells := 0, slots := 0, locals := 0 })
def mAt (j : Nat) : mRow := ((mTabs.getD (j / 16) []).getD (j % 16) mRow0)
def mN : Nat := 177
def mLaw : Nat := 176
def mY (j : Nat) : MethodName := (mAt j).1
def mB (j : Nat) : ByteArray := (mAt j).2.1
def mL (j : Nat) : Nat := (mAt j).2.2.1
def mRt (j : Nat) : Option FieldType := (mAt j).2.2.2.1
def mO (j : Nat) : Nat := (mAt j).2.2.2.2.1
def mKd (j : Nat) : Nat := (mAt j).2.2.2.2.2.1
def mNp (j : Nat) : Nat := (mAt j).2.2.2.2.2.2.1
def mRm (j : Nat) : Room := (mAt j).2.2.2.2.2.2.2
def mRs : List String := [RX0, RX1, RX2, RX3, RX4, RX5, RX6, RX7, RX8, RJ9, RJ10, RL]
def mR (o : Nat) : String := mRs.getD o ""
/-! links: own class, pool number, target -/
def mFl : List (Nat × Nat × Nat × Nat) := [(0, 9, 0, 0), (0, 15, 0, 1), (0, 19, 0, 2), (0, 22, 0, 3), (0, 25, 0, 4), (0, 28, 0, 5), (0, 31, 0, 6), (0, 35, 3, 0), (1, 12, 1, 0), (1, 18, 1, 1), (1, 22, 1, 2), (1, 25, 1, 4), (1, 28, 1, 5), (1, 31, 1, 6), (1, 41, 3, 0), (1, 51, 3, 2), (1, 61, 3, 1), (1, 64, 0, 0), (1, 76, 1, 3), (2, 7, 2, 0), (2, 13, 2, 1), (3, 9, 3, 0), (3, 15, 3, 1), (3, 19, 3, 2), (3, 22, 3, 3), (3, 25, 3, 4), (3, 28, 3, 5), (3, 31, 6, 0), (3, 36, 6, 1), (4, 9, 4, 0), (4, 15, 4, 1), (4, 22, 4, 3), (4, 26, 4, 4), (4, 30, 3, 0), (4, 39, 4, 2), (4, 46, 3, 1), (4, 49, 3, 2), (5, 9, 5, 0), (5, 15, 5, 1), (5, 19, 5, 2), (5, 25, 5, 3), (5, 32, 5, 4), (5, 40, 5, 5), (5, 44, 3, 0), (5, 45, 5, 6), (5, 48, 4, 3), (5, 52, 5, 7), (6, 9, 6, 0), (6, 15, 6, 1), (7, 11, 7, 0), (7, 17, 7, 1), (7, 22, 7, 2), (7, 29, 7, 3), (7, 36, 7, 4), (7, 43, 7, 5), (7, 50, 7, 6), (7, 57, 7, 7), (7, 61, 7, 8), (7, 65, 7, 9), (7, 86, 6, 0), (7, 89, 6, 1), (7, 117, 3, 0), (7, 129, 4, 4), (7, 143, 0, 3), (7, 151, 3, 2), (7, 154, 3, 1), (7, 157, 0, 0), (7, 160, 4, 3), (7, 168, 0, 2), (7, 185, 1, 3), (7, 186, 1, 4), (7, 189, 1, 5), (7, 192, 1, 6), (7, 207, 5, 6), (7, 208, 5, 1), (7, 211, 5, 2), (7, 214, 5, 5), (7, 215, 5, 0), (7, 239, 0, 6), (7, 249, 2, 0), (7, 252, 2, 1), (7, 287, 5, 7), (8, 7, 8, 1), (8, 13, 8, 2), (8, 16, 8, 3), (8, 19, 8, 4), (8, 22, 8, 6), (8, 25, 8, 7), (8, 28, 8, 8), (8, 31, 8, 9), (8, 34, 8, 10), (8, 37, 8, 11), (8, 40, 8, 12), (8, 43, 8, 13), (8, 46, 8, 14), (8, 49, 8, 15), (8, 52, 8, 16), (8, 55, 8, 18), (8, 58, 8, 19), (8, 61, 8, 20), (8, 64, 8, 22), (8, 68, 8, 24), (8, 71, 8, 25), (8, 74, 8, 26), (8, 77, 8, 27), (8, 80, 8, 28), (8, 83, 8, 29), (8, 86, 8, 0), (8, 105, 8, 5), (8, 143, 8, 17), (8, 198, 8, 21), (8, 210, 8, 23)]
def mMl_0 : List (Nat × Nat × Nat × Nat × Nat × Nat) := [(0, 3, 1000, 0, 1, 65), (0, 40, 2, 0, 2, 125), (0, 44, 3, 0, 2, 133), (0, 48, 31, 0, 2, 129), (0, 52, 175, 0, 2, 137), (0, 58, 174, 0, 2, 140), (0, 64, 4, 0, 2, 149), (1, 3, 1000, 0, 1, 123), (1, 11, 0, 1, 1, 125), (1, 34, 1, 0, 3, 6), (1, 38, 9, 0, 3, 7), (1, 47, 10, 0, 3, 11), (1, 54, 11, 0, 3, 15), (1, 58, 12, 0, 3, 21), (1, 67, 175, 0, 3, 19), (1, 73, 174, 0, 3, 20)]
def mMl_1 : List (Nat × Nat × Nat × Nat × Nat × Nat) := [(1, 79, 30, 0, 3, 25), (1, 83, 13, 0, 3, 26), (2, 1, 1000, 0, 1, 199), (2, 16, 88, 1, 3, 48), (3, 3, 1000, 0, 1, 28), (3, 40, 24, 0, 2, 80), (3, 44, 89, 1, 3, 66), (3, 48, 26, 0, 2, 201), (3, 52, 172, 0, 2, 230), (3, 58, 25, 0, 2, 233), (3, 62, 28, 0, 2, 234), (4, 3, 1000, 0, 1, 98), (4, 35, 35, 0, 2, 113), (4, 42, 36, 0, 2, 117), (5, 3, 1000, 0, 1, 157), (5, 24, 17, 1, 1, 159)]
def mMl_2 : List (Nat × Nat × Nat × Nat × Nat × Nat) := [(5, 31, 33, 1, 1, 161), (5, 36, 34, 0, 3, 61), (5, 56, 22, 0, 3, 62), (5, 60, 25, 0, 3, 67), (5, 64, 39, 0, 3, 68), (5, 68, 27, 0, 3, 76), (5, 71, 40, 0, 3, 72), (5, 75, 43, 0, 3, 98), (6, 3, 1000, 0, 1, 213), (7, 1, 1000, 0, 1, 17), (7, 21, 17, 1, 1, 25), (7, 28, 0, 1, 1, 62), (7, 35, 33, 1, 1, 95), (7, 42, 7, 1, 1, 120), (7, 49, 37, 1, 1, 154), (7, 56, 15, 1, 1, 196)]
def mMl_3 : List (Nat × Nat × Nat × Nat × Nat × Nat) := [(7, 69, 44, 1, 1, 210), (7, 70, 85, 0, 2, 21), (7, 74, 92, 0, 2, 24), (7, 78, 47, 0, 2, 28), (7, 82, 45, 0, 2, 36), (7, 93, 46, 0, 2, 44), (7, 96, 48, 0, 2, 52), (7, 100, 1001, 0, 2, 56), (7, 106, 86, 0, 2, 63), (7, 109, 90, 0, 2, 66), (7, 113, 21, 0, 2, 76), (7, 120, 18, 0, 2, 88), (7, 121, 19, 0, 2, 92), (7, 122, 23, 0, 2, 100), (7, 126, 34, 0, 2, 108), (7, 132, 1, 0, 2, 121)]
def mMl_4 : List (Nat × Nat × Nat × Nat × Nat × Nat) := [(7, 133, 6, 0, 2, 145), (7, 136, 4, 0, 2, 157), (7, 140, 30, 0, 2, 158), (7, 146, 5, 0, 2, 162), (7, 149, 20, 0, 2, 170), (7, 164, 89, 0, 2, 182), (7, 171, 25, 0, 2, 197), (7, 174, 27, 0, 2, 209), (7, 177, 87, 0, 2, 217), (7, 180, 29, 0, 2, 226), (7, 184, 8, 0, 3, 2), (7, 194, 14, 0, 3, 38), (7, 200, 16, 0, 3, 44), (7, 204, 93, 0, 3, 53), (7, 219, 22, 0, 3, 81), (7, 223, 94, 0, 3, 82)]
def mMl_5 : List (Nat × Nat × Nat × Nat × Nat × Nat) := [(7, 227, 95, 0, 3, 86), (7, 230, 41, 0, 3, 94), (7, 233, 42, 0, 3, 106), (7, 236, 96, 0, 3, 114), (7, 245, 40, 0, 3, 128), (7, 255, 97, 0, 3, 141), (7, 258, 98, 0, 3, 145), (7, 264, 32, 0, 3, 162), (7, 268, 50, 0, 3, 167), (7, 269, 173, 0, 2, 220), (7, 274, 88, 0, 2, 223), (7, 278, 49, 0, 2, 69), (7, 281, 91, 0, 2, 73), (7, 284, 38, 0, 3, 57), (8, 1, 1000, 0, 3, 177), (8, 90, 100, 0, 4, 36)]
def mMl_6 : List (Nat × Nat × Nat × Nat × Nat × Nat) := [(8, 94, 102, 0, 4, 33), (8, 98, 101, 0, 4, 39), (8, 102, 103, 0, 4, 47), (8, 108, 109, 0, 4, 63), (8, 111, 111, 0, 4, 86), (8, 115, 108, 0, 4, 90), (8, 118, 113, 0, 4, 66), (8, 122, 114, 0, 4, 70), (8, 125, 112, 0, 4, 74), (8, 128, 110, 0, 4, 82), (8, 131, 118, 0, 4, 126), (8, 134, 120, 0, 4, 122), (8, 137, 119, 0, 4, 130), (8, 140, 121, 0, 4, 118), (8, 146, 124, 0, 4, 110), (8, 150, 123, 0, 4, 106)]
def mMl_7 : List (Nat × Nat × Nat × Nat × Nat × Nat) := [(8, 153, 122, 0, 4, 114), (8, 156, 125, 0, 4, 102), (8, 159, 127, 0, 4, 138), (8, 162, 132, 0, 4, 158), (8, 165, 133, 0, 4, 162), (8, 169, 136, 0, 4, 178), (8, 173, 137, 0, 4, 174), (8, 176, 138, 0, 4, 186), (8, 179, 141, 0, 4, 194), (8, 182, 142, 0, 4, 197), (8, 186, 145, 0, 4, 209), (8, 189, 146, 0, 4, 213), (8, 192, 144, 0, 4, 205), (8, 195, 147, 0, 4, 221), (8, 201, 150, 0, 4, 229), (8, 206, 151, 0, 4, 234)]
def mMl_8 : List (Nat × Nat × Nat × Nat × Nat × Nat) := [(8, 213, 154, 0, 5, 10), (8, 216, 153, 0, 5, 14), (8, 219, 155, 0, 5, 6), (8, 222, 156, 0, 5, 2), (8, 225, 159, 0, 5, 26), (8, 228, 162, 0, 5, 38), (11, 9, 51, 0, 1, 14), (11, 12, 99, 0, 3, 174), (11, 13, 52, 0, 2, 17), (11, 17, 104, 0, 4, 29), (11, 18, 53, 0, 2, 32), (11, 22, 105, 0, 4, 43), (11, 23, 54, 0, 2, 40), (11, 27, 106, 0, 4, 51), (11, 28, 55, 0, 2, 48), (11, 32, 107, 0, 4, 55)]
def mMl_9 : List (Nat × Nat × Nat × Nat × Nat × Nat) := [(11, 33, 56, 0, 2, 59), (11, 36, 115, 0, 4, 59), (11, 37, 57, 0, 2, 84), (11, 40, 116, 0, 4, 78), (11, 41, 58, 0, 2, 96), (11, 44, 117, 0, 4, 94), (11, 45, 59, 0, 2, 104), (11, 48, 126, 0, 4, 98), (11, 49, 60, 0, 2, 153), (11, 52, 128, 0, 4, 134), (11, 53, 61, 0, 2, 166), (11, 57, 129, 0, 4, 142), (11, 58, 62, 0, 2, 174), (11, 61, 130, 0, 4, 146), (11, 62, 63, 0, 2, 178), (11, 65, 131, 0, 4, 150)]
def mMl_10 : List (Nat × Nat × Nat × Nat × Nat × Nat) := [(11, 66, 64, 0, 2, 185), (11, 69, 134, 0, 4, 154), (11, 70, 65, 0, 2, 189), (11, 73, 135, 0, 4, 166), (11, 74, 66, 0, 2, 193), (11, 77, 139, 0, 4, 170), (11, 78, 67, 0, 2, 205), (11, 81, 140, 0, 4, 182), (11, 82, 68, 0, 2, 213), (11, 85, 143, 0, 4, 190), (11, 86, 69, 0, 2, 238), (11, 89, 148, 0, 4, 201), (11, 90, 70, 0, 3, 30), (11, 93, 149, 0, 4, 217), (11, 94, 71, 0, 3, 34), (11, 97, 152, 0, 4, 225)]
def mMl_11 : List (Nat × Nat × Nat × Nat × Nat × Nat) := [(11, 98, 72, 0, 3, 49), (11, 101, 157, 0, 4, 238), (11, 102, 73, 0, 3, 77), (11, 105, 158, 0, 5, 18), (11, 106, 74, 0, 3, 90), (11, 109, 160, 0, 5, 22), (11, 110, 75, 0, 3, 102), (11, 113, 161, 0, 5, 30), (11, 114, 76, 0, 3, 110), (11, 117, 163, 0, 5, 34), (11, 118, 77, 0, 3, 118), (11, 121, 164, 0, 5, 42), (11, 122, 78, 0, 3, 124), (11, 125, 165, 0, 5, 48), (11, 126, 79, 0, 3, 129), (11, 130, 166, 0, 5, 52)]
def mMl_12 : List (Nat × Nat × Nat × Nat × Nat × Nat) := [(11, 131, 80, 0, 3, 133), (11, 134, 167, 0, 5, 56), (11, 135, 81, 0, 3, 137), (11, 138, 168, 0, 5, 60), (11, 139, 82, 0, 3, 149), (11, 143, 169, 0, 5, 64), (11, 144, 83, 0, 3, 153), (11, 147, 170, 0, 5, 68), (11, 148, 84, 0, 3, 157), (11, 151, 171, 0, 5, 72)]
def mMl : List (Nat × Nat × Nat × Nat × Nat × Nat) := mMl_0 ++ mMl_1 ++ mMl_2 ++ mMl_3 ++ mMl_4 ++ mMl_5 ++ mMl_6 ++ mMl_7 ++ mMl_8 ++ mMl_9 ++ mMl_10 ++ mMl_11 ++ mMl_12
def mKl : List (Nat × Nat × Int64) := [(3, 65, 31), (4, 20, 9223372036854775807), (6, 19, 31), (7, 198, 840), (7, 241, 12), (7, 243, 10080), (7, 262, 17), (8, 204, 840), (8, 232, 12), (8, 234, 10080), (8, 236, 17), (8, 238, 31)]
def mCl : List (Nat × Nat × Nat) := [(1, 9, 0), (5, 22, 3), (5, 29, 4), (7, 9, 6), (7, 15, 3), (7, 26, 0), (7, 33, 4), (7, 40, 1), (7, 47, 5), (7, 54, 2), (11, 7, 7), (11, 10, 8)]
def mGl : List (Nat × Nat) := [(0, 61), (1, 86)]
def mF (o i : Nat) : Option (Nat × Nat) := (mFl.find? (fun e => e.1 == o && e.2.1 == i)).map (fun e => e.2.2)
def mM (o i : Nat) : Option (Nat × Nat) := (mMl.find? (fun e => e.1 == o && e.2.1 == i)).map (fun e => (e.2.2.1, e.2.2.2.1))
def mK (o i : Nat) : Option Int64 := (mKl.find? (fun e => e.1 == o && e.2.1 == i)).map (fun e => e.2.2)
def mC (o i : Nat) : Option Nat := (mCl.find? (fun e => e.1 == o && e.2.1 == i)).map (fun e => e.2.2)
def mTys : List (Nat → FieldType) := [tyX0, tyX1, tyX2, tyX3, tyX4, tyX5, tyX6, tyX7, tyX8]
def mTy (ci k : Nat) : FieldType := (mTys.getD ci (fun _ => .int)) k
/-- 0 int, 1 long, 2 reference, 3 boolean -/
def mKi (ci k : Nat) : Nat := match mTy ci k with
  | .int => 0
  | .long => 1
  | .boolean => 3
  | .object _ => 2
  | .array _ => 2
  | _ => 9
def mG : List Cond := lw_tbl.filter goodWord
def mNestQ : Cond → Bool
  | .fieldLinkNest .. => true
  | .methodLinkNest .. => true
  | _ => false
def mNest : List Cond := lw_tbl.filter mNestQ
def mChF (e : Nat × Nat × Nat × Nat) : Bool := match vwCl[e.2.2.1]? with
  | some (_, T, N) => decide (e.2.2.2 < N) && decide (Cond.fieldLink (mR e.1) e.2.1 (T e.2.2.2).1 (T e.2.2.2).2.1 (T e.2.2.2).2.2.1 ∈ mG)
  | none => false
theorem mChF_ok : mFl.all mChF = true := by decide +kernel
def mSub (t : Nat) : List Cond := match t with
  | 0 => k2_sels lw_privs
  | 1 => tables_1_1
  | 2 => tables_1_2
  | 3 => tables_1_3
  | 4 => tables_1_4
  | 5 => tables_1_5
  | _ => []
theorem mSub_in (t : Nat) {w : Cond} (h : w ∈ mSub t) : w ∈ lw_tbl := by
  unfold mSub at h
  unfold lw_tbl tables_1
  split at h
  · exact List.mem_append_left _ h
  · exact List.mem_append_right _ (List.mem_append_left _ h)
  · exact List.mem_append_right _ (List.mem_append_right _ (List.mem_append_left _ h))
  · exact List.mem_append_right _ (List.mem_append_right _ (List.mem_append_right _ (List.mem_append_left _ h)))
  · exact List.mem_append_right _ (List.mem_append_right _ (List.mem_append_right _ (List.mem_append_right _ (List.mem_append_left _ h))))
  · exact List.mem_append_right _ (List.mem_append_right _ (List.mem_append_right _ (List.mem_append_right _ (List.mem_append_right _ h))))
  · exact absurd h List.not_mem_nil
def mIs (t p : Nat) (w : Cond) : Bool := decide ((mSub t)[p]? = some w)
theorem mIs_in {t p : Nat} {w : Cond} (h : mIs t p w = true) : w ∈ lw_tbl := mSub_in t (List.mem_of_getElem? (of_decide_eq_true h))
theorem mIs_G {t p : Nat} {w : Cond} (h : mIs t p w = true) (g : goodWord w = true) : w ∈ mG := List.mem_filter.mpr ⟨mIs_in h, g⟩
def mChM (e : Nat × Nat × Nat × Nat × Nat × Nat) : Bool := if e.2.2.1 = 1000 then e.2.2.2.1 == 0 && mIs e.2.2.2.2.1 e.2.2.2.2.2 (Cond.methodLink (mR e.1) e.2.1 objectInit) else if e.2.2.1 = 1001 then e.2.2.2.1 == 0 && mIs e.2.2.2.2.1 e.2.2.2.2.2 (Cond.methodLink (mR e.1) e.2.1 arraycopyName) else decide (e.2.2.1 < mN) && (if e.2.2.2.1 = 0 then mIs e.2.2.2.2.1 e.2.2.2.2.2 (Cond.methodLink (mR e.1) e.2.1 (mY e.2.2.1)) else mIs e.2.2.2.2.1 e.2.2.2.2.2 (Cond.methodLinkNest (mR e.1) e.2.1 (mY e.2.2.1) "SquareGrounds"))
theorem mChM_0 : mMl_0.all mChM = true := by decide +kernel
theorem mChM_1 : mMl_1.all mChM = true := by decide +kernel
theorem mChM_2 : mMl_2.all mChM = true := by decide +kernel
theorem mChM_3 : mMl_3.all mChM = true := by decide +kernel
theorem mChM_4 : mMl_4.all mChM = true := by decide +kernel
theorem mChM_5 : mMl_5.all mChM = true := by decide +kernel
theorem mChM_6 : mMl_6.all mChM = true := by decide +kernel
theorem mChM_7 : mMl_7.all mChM = true := by decide +kernel
theorem mChM_8 : mMl_8.all mChM = true := by decide +kernel
theorem mChM_9 : mMl_9.all mChM = true := by decide +kernel
theorem mChM_10 : mMl_10.all mChM = true := by decide +kernel
theorem mChM_11 : mMl_11.all mChM = true := by decide +kernel
theorem mChM_12 : mMl_12.all mChM = true := by decide +kernel
theorem mChM_ok : mMl.all mChM = true := by
  unfold mMl
  simp only [List.all_append, Bool.and_eq_true]
  exact ⟨⟨⟨⟨⟨⟨⟨⟨⟨⟨⟨⟨mChM_0, mChM_1⟩, mChM_2⟩, mChM_3⟩, mChM_4⟩, mChM_5⟩, mChM_6⟩, mChM_7⟩, mChM_8⟩, mChM_9⟩, mChM_10⟩, mChM_11⟩, mChM_12⟩
theorem mChK_ok : mKl.all (fun e => decide (Cond.constantLong (mR e.1) e.2.1 e.2.2 ∈ mG)) = true := by decide +kernel
theorem mChC_ok : mCl.all (fun e => match vwCl[e.2.2]? with
  | some (C, _, N) => decide (Cond.classLink (mR e.1) e.2.1 C ∈ mG) && decide (Cond.instantiable C N ∈ mG) && decide (Cond.initialized C ∈ mG)
  | none => false) = true := by decide +kernel
theorem mChG_ok : mGl.all (fun e => decide (Cond.fieldLinkNest (mR e.1) e.2 "SquareGrounds" "PART_OF_WHOLE" "[I" "SquareGrounds" ∈ mNest)) = true := by decide +kernel
theorem mChU_0 : (u_ws RX0 TX0 7).all (fun w => decide (w ∈ mG)) = true := by decide +kernel
theorem mChU_1 : (u_ws RX1 TX1 7).all (fun w => decide (w ∈ mG)) = true := by decide +kernel
theorem mChU_2 : (u_ws RX2 TX2 2).all (fun w => decide (w ∈ mG)) = true := by decide +kernel
theorem mChU_3 : (u_ws RX3 TX3 6).all (fun w => decide (w ∈ mG)) = true := by decide +kernel
theorem mChU_4 : (u_ws RX4 TX4 5).all (fun w => decide (w ∈ mG)) = true := by decide +kernel
theorem mChU_5 : (u_ws RX5 TX5 8).all (fun w => decide (w ∈ mG)) = true := by decide +kernel
theorem mChU_6 : (u_ws RX6 TX6 2).all (fun w => decide (w ∈ mG)) = true := by decide +kernel
theorem mChU_7 : (u_ws RX7 TX7 10).all (fun w => decide (w ∈ mG)) = true := by decide +kernel
theorem mChU_8 : (u_ws RX8 TX8 30).all (fun w => decide (w ∈ mG)) = true := by decide +kernel
def mYp_0 : List (Nat × Nat × Nat × Nat × Nat × Nat) := [(1, 3, 1, 63, 9, 9), (1, 3, 2, 122, 2, 123), (1, 3, 2, 127, 0, 4), (1, 3, 2, 135, 0, 5), (1, 3, 2, 150, 2, 151), (1, 3, 2, 163, 2, 164), (1, 3, 2, 146, 2, 147), (1, 5, 1, 121, 9, 9), (1, 5, 3, 3, 3, 4), (1, 5, 3, 9, 0, 8), (1, 5, 3, 13, 0, 9), (1, 5, 3, 17, 0, 10), (1, 5, 3, 23, 0, 11), (1, 5, 3, 28, 0, 12), (1, 5, 3, 39, 3, 40), (1, 7, 1, 197, 9, 9)]
def mYp_1 : List (Nat × Nat × Nat × Nat × Nat × Nat) := [(1, 7, 3, 45, 3, 46), (1, 2, 1, 26, 9, 9), (1, 2, 2, 89, 2, 90), (1, 2, 2, 93, 2, 94), (1, 2, 2, 171, 2, 172), (1, 2, 2, 77, 2, 78), (1, 2, 3, 63, 3, 64), (1, 2, 2, 101, 2, 102), (1, 2, 2, 82, 0, 1), (1, 2, 2, 198, 2, 199), (1, 2, 2, 203, 0, 6), (1, 2, 2, 210, 2, 211), (1, 2, 2, 236, 0, 7), (1, 2, 2, 227, 2, 228), (1, 2, 2, 159, 2, 160), (1, 2, 2, 130, 2, 131)]
def mYp_2 : List (Nat × Nat × Nat × Nat × Nat × Nat) := [(1, 2, 3, 163, 3, 164), (1, 4, 1, 96, 9, 9), (1, 4, 2, 109, 2, 110), (1, 4, 2, 115, 0, 2), (1, 4, 2, 119, 0, 3), (1, 6, 1, 155, 9, 9), (1, 6, 3, 58, 3, 59), (1, 6, 3, 70, 0, 14), (1, 6, 3, 73, 3, 74), (1, 6, 3, 95, 3, 96), (1, 6, 3, 107, 3, 108), (1, 6, 3, 100, 0, 17), (1, 8, 1, 211, 9, 9), (1, 8, 2, 37, 2, 38), (1, 8, 2, 45, 2, 46), (1, 8, 2, 29, 2, 30)]
def mYp_3 : List (Nat × Nat × Nat × Nat × Nat × Nat) := [(1, 8, 2, 53, 2, 54), (1, 8, 2, 70, 2, 71), (1, 8, 3, 168, 3, 169), (1, 1, 1, 15, 9, 9), (1, 1, 2, 18, 2, 19), (1, 1, 2, 33, 2, 34), (1, 1, 2, 41, 2, 42), (1, 1, 2, 49, 2, 50), (1, 1, 2, 60, 2, 61), (1, 1, 2, 85, 2, 86), (1, 1, 2, 97, 2, 98), (1, 1, 2, 105, 2, 106), (1, 1, 2, 154, 2, 155), (1, 1, 2, 167, 2, 168), (1, 1, 2, 175, 2, 176), (1, 1, 2, 179, 2, 180)]
def mYp_4 : List (Nat × Nat × Nat × Nat × Nat × Nat) := [(1, 1, 2, 186, 2, 187), (1, 1, 2, 190, 2, 191), (1, 1, 2, 194, 2, 195), (1, 1, 2, 206, 2, 207), (1, 1, 2, 214, 2, 215), (1, 1, 2, 239, 3, 0), (1, 1, 3, 31, 3, 32), (1, 1, 3, 35, 3, 36), (1, 1, 3, 50, 3, 51), (1, 1, 3, 78, 3, 79), (1, 1, 3, 91, 3, 92), (1, 1, 3, 103, 3, 104), (1, 1, 3, 111, 3, 112), (1, 1, 3, 119, 3, 120), (1, 1, 3, 125, 3, 126), (1, 1, 3, 130, 3, 131)]
def mYp_5 : List (Nat × Nat × Nat × Nat × Nat × Nat) := [(1, 1, 3, 134, 3, 135), (1, 1, 3, 138, 3, 139), (1, 1, 3, 150, 3, 151), (1, 1, 3, 154, 3, 155), (1, 1, 3, 158, 3, 159), (1, 1, 2, 22, 9, 9), (1, 1, 2, 64, 9, 9), (1, 1, 2, 218, 9, 9), (1, 1, 2, 224, 9, 9), (1, 1, 2, 183, 9, 9), (1, 1, 2, 67, 9, 9), (1, 1, 2, 74, 9, 9), (1, 1, 2, 26, 0, 0), (1, 1, 3, 55, 0, 13), (1, 1, 3, 84, 0, 15), (1, 1, 3, 88, 0, 16)]
def mYp_6 : List (Nat × Nat × Nat × Nat × Nat × Nat) := [(1, 1, 3, 116, 0, 18), (1, 1, 3, 143, 0, 19), (1, 1, 3, 147, 0, 20), (1, 9, 3, 175, 9, 9), (1, 9, 4, 37, 9, 9), (1, 9, 4, 41, 0, 21), (1, 9, 4, 34, 9, 9), (1, 9, 4, 49, 0, 22), (1, 9, 4, 30, 4, 31), (1, 9, 4, 44, 4, 45), (1, 9, 4, 52, 4, 53), (1, 9, 4, 56, 4, 57), (1, 9, 4, 92, 0, 28), (1, 9, 4, 64, 9, 9), (1, 9, 4, 84, 0, 26), (1, 9, 4, 88, 0, 27)]
def mYp_7 : List (Nat × Nat × Nat × Nat × Nat × Nat) := [(1, 9, 4, 76, 0, 25), (1, 9, 4, 68, 0, 23), (1, 9, 4, 72, 0, 24), (1, 9, 4, 60, 4, 61), (1, 9, 4, 79, 4, 80), (1, 9, 4, 95, 4, 96), (1, 9, 4, 128, 0, 35), (1, 9, 4, 132, 0, 36), (1, 9, 4, 124, 0, 34), (1, 9, 4, 120, 0, 33), (1, 9, 4, 116, 0, 32), (1, 9, 4, 108, 0, 30), (1, 9, 4, 112, 0, 31), (1, 9, 4, 104, 0, 29), (1, 9, 4, 99, 4, 100), (1, 9, 4, 140, 0, 37)]
def mYp_8 : List (Nat × Nat × Nat × Nat × Nat × Nat) := [(1, 9, 4, 135, 4, 136), (1, 9, 4, 143, 4, 144), (1, 9, 4, 147, 4, 148), (1, 9, 4, 151, 4, 152), (1, 9, 4, 160, 0, 38), (1, 9, 4, 164, 0, 39), (1, 9, 4, 155, 4, 156), (1, 9, 4, 167, 4, 168), (1, 9, 4, 180, 0, 41), (1, 9, 4, 176, 0, 40), (1, 9, 4, 188, 0, 42), (1, 9, 4, 171, 4, 172), (1, 9, 4, 183, 4, 184), (1, 9, 4, 195, 9, 9), (1, 9, 4, 199, 0, 43), (1, 9, 4, 191, 4, 192)]
def mYp_9 : List (Nat × Nat × Nat × Nat × Nat × Nat) := [(1, 9, 4, 207, 0, 44), (1, 9, 4, 211, 0, 45), (1, 9, 4, 215, 0, 46), (1, 9, 4, 223, 0, 47), (1, 9, 4, 202, 4, 203), (1, 9, 4, 218, 4, 219), (1, 9, 4, 231, 0, 48), (1, 9, 4, 236, 0, 49), (1, 9, 4, 226, 4, 227), (1, 9, 5, 16, 0, 53), (1, 9, 5, 12, 0, 52), (1, 9, 5, 8, 0, 51), (1, 9, 5, 4, 0, 50), (1, 9, 4, 239, 5, 0), (1, 9, 5, 19, 5, 20), (1, 9, 5, 28, 0, 54)]
def mYp_10 : List (Nat × Nat × Nat × Nat × Nat × Nat) := [(1, 9, 5, 23, 5, 24), (1, 9, 5, 31, 5, 32), (1, 9, 5, 40, 0, 55), (1, 9, 5, 35, 5, 36), (1, 9, 5, 43, 5, 44), (1, 9, 5, 49, 5, 50), (1, 9, 5, 53, 5, 54), (1, 9, 5, 57, 5, 58), (1, 9, 5, 61, 5, 62), (1, 9, 5, 65, 5, 66), (1, 9, 5, 69, 5, 70), (1, 9, 5, 73, 5, 74), (1, 11, 2, 231, 9, 9), (1, 11, 2, 221, 9, 9), (1, 11, 2, 141, 9, 9), (1, 11, 2, 138, 9, 9)]
def mYp_11 : List (Nat × Nat × Nat × Nat × Nat × Nat) := [(9, 9, 9, 9, 9, 9)]
def mChY (j : Nat) (q : Nat × Nat × Nat × Nat × Nat × Nat) : Bool := plainFor (mY j) && decide ((mY j).cls ≠ "java/lang/invoke/MethodHandle") && decide ((mY j).cls ≠ "java/lang/invoke/VarHandle") && decide ((parseMethodDescriptor (mY j).desc).map (fun d => d.parameters.length) = some (mNp j)) && decide ((mY j).cls = mR (mO j)) && mIs q.1 q.2.1 (Cond.initialized (mY j).cls) && (match mKd j with
  | 0 => mIs q.2.2.1 q.2.2.2.1 (Cond.static (mY j))
  | 1 => mIs q.2.2.1 q.2.2.2.1 (Cond.instanceMethod (mY j)) && mIs q.2.2.2.2.1 q.2.2.2.2.2 (Cond.selects (mY j).cls (mY j) (mY j))
  | 2 => mIs q.2.2.1 q.2.2.2.1 (Cond.instanceMethod (mY j)) && decide ((mY j).name = "<init>") && decide (mRt j = none)
  | _ => false)
theorem mChY_0 : (mYp_0.zipIdx 0).all (fun e => e.2 == mLaw || mChY e.2 e.1) = true := by decide +kernel
theorem mChY_1 : (mYp_1.zipIdx 16).all (fun e => e.2 == mLaw || mChY e.2 e.1) = true := by decide +kernel
theorem mChY_2 : (mYp_2.zipIdx 32).all (fun e => e.2 == mLaw || mChY e.2 e.1) = true := by decide +kernel
theorem mChY_3 : (mYp_3.zipIdx 48).all (fun e => e.2 == mLaw || mChY e.2 e.1) = true := by decide +kernel
theorem mChY_4 : (mYp_4.zipIdx 64).all (fun e => e.2 == mLaw || mChY e.2 e.1) = true := by decide +kernel
theorem mChY_5 : (mYp_5.zipIdx 80).all (fun e => e.2 == mLaw || mChY e.2 e.1) = true := by decide +kernel
theorem mChY_6 : (mYp_6.zipIdx 96).all (fun e => e.2 == mLaw || mChY e.2 e.1) = true := by decide +kernel
theorem mChY_7 : (mYp_7.zipIdx 112).all (fun e => e.2 == mLaw || mChY e.2 e.1) = true := by decide +kernel
theorem mChY_8 : (mYp_8.zipIdx 128).all (fun e => e.2 == mLaw || mChY e.2 e.1) = true := by decide +kernel
theorem mChY_9 : (mYp_9.zipIdx 144).all (fun e => e.2 == mLaw || mChY e.2 e.1) = true := by decide +kernel
theorem mChY_10 : (mYp_10.zipIdx 160).all (fun e => e.2 == mLaw || mChY e.2 e.1) = true := by decide +kernel
theorem mChY_11 : (mYp_11.zipIdx 176).all (fun e => e.2 == mLaw || mChY e.2 e.1) = true := by decide +kernel
