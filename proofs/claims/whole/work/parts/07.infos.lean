abbrev iJ7_fill_53178 : xI := (yJ7_fill_53178, cJ7_fill_53178, 4, none, { frames := 0, cells := 0, slots := 0, locals := 0 }, none)
abbrev iX9_isDay : xI := (yX9_isDay, cX9_isDay, 1, (some .boolean), { frames := 0, cells := 0, slots := 0, locals := 0 }, none)
abbrev iX9_isPlace : xI := (yX9_isPlace, cX9_isPlace, 1, (some .boolean), { frames := 0, cells := 0, slots := 0, locals := 0 }, none)
abbrev iX0_doubtOf : xI := (yX0_doubtOf, cX0_doubtOf, 3, (some .int), { frames := 1, cells := 0, slots := 0, locals := 20 }, none)
abbrev iX0_trustedOf : xI := (yX0_trustedOf, cX0_trustedOf, 3, (some .int), { frames := 1, cells := 0, slots := 0, locals := 20 }, none)
abbrev iX0_toldOf : xI := (yX0_toldOf, cX0_toldOf, 3, (some .int), { frames := 1, cells := 0, slots := 0, locals := 20 }, none)
abbrev iX0_isTrustedThrough : xI := (yX0_isTrustedThrough, cX0_isTrustedThrough, 5, (some .boolean), { frames := 0, cells := 0, slots := 0, locals := 0 }, none)
abbrev iX9_squaredDistance : xI := (yX9_squaredDistance, cX9_squaredDistance, 3, (some .int), { frames := 0, cells := 0, slots := 0, locals := 0 }, none)
abbrev iX0_nearestTrusted : xI := (yX0_nearestTrusted, cX0_nearestTrusted, 9, (some .int), { frames := 1, cells := 0, slots := 0, locals := 24 }, none)
abbrev iX0_spreadRest : xI := (yX0_spreadRest, cX0_spreadRest, 8, none, { frames := 0, cells := 0, slots := 0, locals := 0 }, none)
abbrev iX0_sumTrusted : xI := (yX0_sumTrusted, cX0_sumTrusted, 6, (some .int), { frames := 0, cells := 0, slots := 0, locals := 0 }, none)
abbrev iX0_spread : xI := (yX0_spread, cX0_spread, 9, none, { frames := 2, cells := 0, slots := 0, locals := 52 }, none)
abbrev iX0_writeSpread : xI := (yX0_writeSpread, cX0_writeSpread, 6, none, { frames := 3, cells := 0, slots := 0, locals := 80 }, none)
abbrev iX6_rule : xI := (yX6_rule, cX6_rule, 2, (some .int), { frames := 0, cells := 0, slots := 0, locals := 0 }, none)
abbrev iX0_isDryAmongWet : xI := (yX0_isDryAmongWet, cX0_isDryAmongWet, 8, (some .boolean), { frames := 1, cells := 0, slots := 0, locals := 22 }, none)
abbrev iX7_isUnlike : xI := (yX7_isUnlike, cX7_isUnlike, 4, (some .boolean), { frames := 1, cells := 0, slots := 0, locals := 40 }, none)
abbrev iX0_doubtingRule : xI := (yX0_doubtingRule, cX0_doubtingRule, 4, (some .int), { frames := 2, cells := 0, slots := 0, locals := 63 }, none)
abbrev iX0_writeTrust : xI := (yX0_writeTrust, cX0_writeTrust, 5, none, { frames := 3, cells := 0, slots := 0, locals := 86 }, none)
abbrev iX6_daysBegun : xI := (yX6_daysBegun, cX6_daysBegun, 1, (some .int), { frames := 1, cells := 0, slots := 0, locals := 40 }, none)
abbrev iX3_latestUntil : xI := (yX3_latestUntil, cX3_latestUntil, 5, (some .int), { frames := 0, cells := 0, slots := 0, locals := 0 }, none)
abbrev iX7_numberTipped : xI := (yX7_numberTipped, cX7_numberTipped, 3, (some .int), { frames := 1, cells := 0, slots := 0, locals := 40 }, none)
abbrev iX7_numberTwinned : xI := (yX7_numberTwinned, cX7_numberTwinned, 2, (some .int), { frames := 1, cells := 0, slots := 0, locals := 20 }, none)
abbrev iX7_numberRead : xI := (yX7_numberRead, cX7_numberRead, 2, (some .int), { frames := 2, cells := 0, slots := 0, locals := 62 }, none)
abbrev iX6_numberKnown : xI := (yX6_numberKnown, cX6_numberKnown, 6, (some .int), { frames := 3, cells := 0, slots := 0, locals := 83 }, none)
abbrev iX0_rewrite : xI := (yX0_rewrite, cX0_rewrite, 4, none, { frames := 4, cells := 0, slots := 0, locals := 110 }, none)
abbrev iX2_offer : xI := (yX2_offer, cX2_offer, 5, none, { frames := 1, cells := 0, slots := 0, locals := 40 }, none)
abbrev iX7_isDailyGauge : xI := (yX7_isDailyGauge, cX7_isDailyGauge, 1, (some .boolean), { frames := 0, cells := 0, slots := 0, locals := 0 }, none)
abbrev iX1_gatherNeighbours : xI := (yX1_gatherNeighbours, cX1_gatherNeighbours, 4, none, { frames := 2, cells := 0, slots := 0, locals := 64 }, none)
abbrev iX2_placeAt : xI := (yX2_placeAt, cX2_placeAt, 2, (some .int), { frames := 0, cells := 0, slots := 0, locals := 0 }, none)
abbrev iX1_sumOfNeighbours : xI := (yX1_sumOfNeighbours, cX1_sumOfNeighbours, 6, (some .int), { frames := 2, cells := 0, slots := 0, locals := 42 }, none)
abbrev iX1_sumWeeks : xI := (yX1_sumWeeks, cX1_sumWeeks, 6, none, { frames := 3, cells := 0, slots := 0, locals := 87 }, none)
abbrev iX1_missesOfPart : xI := (yX1_missesOfPart, cX1_missesOfPart, 10, (some .long), { frames := 1, cells := 0, slots := 0, locals := 40 }, none)
abbrev iX1_missesAt : xI := (yX1_missesAt, cX1_missesAt, 3, (some .long), { frames := 2, cells := 0, slots := 0, locals := 69 }, none)
abbrev iX1_leastBreak : xI := (yX1_leastBreak, cX1_leastBreak, 8, (some .int), { frames := 3, cells := 0, slots := 0, locals := 91 }, none)
abbrev iX3_append : xI := (yX3_append, cX3_append, 4, (some .int), { frames := 0, cells := 0, slots := 0, locals := 0 }, none)
abbrev iX4_ownerOf : xI := (yX4_ownerOf, cX4_ownerOf, 9, (some .int), { frames := 2, cells := 0, slots := 0, locals := 42 }, none)
abbrev iX4_countOwned : xI := (yX4_countOwned, cX4_countOwned, 6, (some .int), { frames := 3, cells := 0, slots := 0, locals := 70 }, none)
abbrev iX4_rainOf : xI := (yX4_rainOf, cX4_rainOf, 7, (some .int), { frames := 3, cells := 0, slots := 0, locals := 70 }, none)
abbrev iX4_flowOf : xI := (yX4_flowOf, cX4_flowOf, 9, (some .long), { frames := 4, cells := 0, slots := 0, locals := 96 }, none)
abbrev iX5_gather : xI := (yX5_gather, cX5_gather, 6, (some .int), { frames := 2, cells := 0, slots := 0, locals := 64 }, none)
abbrev iX5_nearness : xI := (yX5_nearness, cX5_nearness, 1, (some .int), { frames := 1, cells := 0, slots := 0, locals := 40 }, none)
abbrev iX5_thousandthsBy : xI := (yX5_thousandthsBy, cX5_thousandthsBy, 12, (some .long), { frames := 2, cells := 0, slots := 0, locals := 42 }, none)
abbrev iX5_mend : xI := (yX5_mend, cX5_mend, 12, (some .int), { frames := 3, cells := 0, slots := 0, locals := 89 }, none)
abbrev iX6_lastWholeWeek : xI := (yX6_lastWholeWeek, cX6_lastWholeWeek, 1, (some .int), { frames := 0, cells := 0, slots := 0, locals := 0 }, none)
abbrev iX7_bring : xI := (yX7_bring, cX7_bring, 6, none, { frames := 0, cells := 0, slots := 0, locals := 0 }, none)
abbrev iX7_clear : xI := (yX7_clear, cX7_clear, 1, none, { frames := 1, cells := 0, slots := 0, locals := 23 }, none)
abbrev iX7_meltAway : xI := (yX7_meltAway, cX7_meltAway, 4, (some .int), { frames := 1, cells := 0, slots := 0, locals := 40 }, none)
abbrev iX8_change : xI := (yX8_change, cX8_change, 3, (some .int), { frames := 0, cells := 0, slots := 0, locals := 0 }, none)
abbrev iX9_hasSize : xI := (yX9_hasSize, cX9_hasSize, 1, (some .boolean), { frames := 0, cells := 0, slots := 0, locals := 0 }, none)
abbrev iX9_isSquare : xI := (yX9_isSquare, cX9_isSquare, 2, (some .boolean), { frames := 0, cells := 0, slots := 0, locals := 0 }, none)
abbrev iX9_put : xI := (yX9_put, cX9_put, 7, (some .int), { frames := 1, cells := 0, slots := 0, locals := 25 }, none)
abbrev iX9_lift : xI := (yX9_lift, cX9_lift, 3, (some .int), { frames := 2, cells := 0, slots := 0, locals := 43 }, none)
abbrev iX9_look : xI := (yX9_look, cX9_look, 4, (some .int), { frames := 1, cells := 0, slots := 0, locals := 20 }, none)
abbrev iX9_gaugeFault : xI := (yX9_gaugeFault, cX9_gaugeFault, 2, (some .int), { frames := 1, cells := 0, slots := 0, locals := 20 }, none)
abbrev iX9_read : xI := (yX9_read, cX9_read, 6, (some .int), { frames := 2, cells := 0, slots := 0, locals := 41 }, none)
abbrev iX9_kindFault : xI := (yX9_kindFault, cX9_kindFault, 4, (some .int), { frames := 2, cells := 0, slots := 0, locals := 41 }, none)
abbrev iX9_noteSecond : xI := (yX9_noteSecond, cX9_noteSecond, 4, (some .int), { frames := 1, cells := 0, slots := 0, locals := 20 }, none)
abbrev iX9_full : xI := (yX9_full, cX9_full, 4, (some .int), { frames := 3, cells := 0, slots := 0, locals := 64 }, none)
abbrev iX9_melt : xI := (yX9_melt, cX9_melt, 5, (some .int), { frames := 3, cells := 0, slots := 0, locals := 64 }, none)
abbrev iX9_other : xI := (yX9_other, cX9_other, 4, (some .int), { frames := 3, cells := 0, slots := 0, locals := 64 }, none)
abbrev iX9_dailyGaugeFault : xI := (yX9_dailyGaugeFault, cX9_dailyGaugeFault, 3, (some .int), { frames := 2, cells := 0, slots := 0, locals := 41 }, none)
abbrev iX9_hand : xI := (yX9_hand, cX9_hand, 7, (some .int), { frames := 3, cells := 0, slots := 0, locals := 63 }, none)
abbrev iX9_close : xI := (yX9_close, cX9_close, 1, (some .int), { frames := 0, cells := 0, slots := 0, locals := 0 }, none)
abbrev iX9_today : xI := (yX9_today, cX9_today, 1, (some .int), { frames := 0, cells := 0, slots := 0, locals := 0 }, none)
abbrev iX9_set : xI := (yX9_set, cX9_set, 3, (some .boolean), { frames := 0, cells := 0, slots := 0, locals := 0 }, none)
abbrev iX9_gaugeDayFault : xI := (yX9_gaugeDayFault, cX9_gaugeDayFault, 4, (some .int), { frames := 2, cells := 0, slots := 0, locals := 41 }, none)
abbrev iX9_raw : xI := (yX9_raw, cX9_raw, 4, (some .int), { frames := 4, cells := 0, slots := 0, locals := 108 }, none)
abbrev iX9_known : xI := (yX9_known, cX9_known, 5, (some .int), { frames := 4, cells := 0, slots := 0, locals := 108 }, none)
abbrev iX9_openBooks : xI := (yX9_openBooks, cX9_openBooks, 1, (some (.object "RainOffice$Books")), { frames := 5, cells := 0, slots := 0, locals := 133 }, none)
abbrev iX9_why : xI := (yX9_why, cX9_why, 4, (some .int), { frames := 6, cells := 0, slots := 0, locals := 153 }, none)
abbrev iX9_state : xI := (yX9_state, cX9_state, 5, (some .int), { frames := 6, cells := 0, slots := 0, locals := 153 }, none)
abbrev iX9_number : xI := (yX9_number, cX9_number, 7, (some .int), { frames := 6, cells := 0, slots := 0, locals := 153 }, none)
abbrev iX9_from : xI := (yX9_from, cX9_from, 5, (some .int), { frames := 6, cells := 0, slots := 0, locals := 153 }, none)
abbrev iX9_part : xI := (yX9_part, cX9_part, 4, (some .int), { frames := 6, cells := 0, slots := 0, locals := 153 }, none)
abbrev iX9_squares : xI := (yX9_squares, cX9_squares, 4, (some .int), { frames := 6, cells := 0, slots := 0, locals := 153 }, none)
abbrev iX9_isValley : xI := (yX9_isValley, cX9_isValley, 1, (some .boolean), { frames := 0, cells := 0, slots := 0, locals := 0 }, none)
abbrev iX9_valley : xI := (yX9_valley, cX9_valley, 5, (some .int), { frames := 1, cells := 0, slots := 0, locals := 22 }, none)
abbrev iX9_rain : xI := (yX9_rain, cX9_rain, 3, (some .int), { frames := 6, cells := 0, slots := 0, locals := 153 }, none)
abbrev iX9_mean : xI := (yX9_mean, cX9_mean, 5, (some .int), { frames := 6, cells := 0, slots := 0, locals := 153 }, none)
abbrev iX9_flow : xI := (yX9_flow, cX9_flow, 3, (some .long), { frames := 6, cells := 0, slots := 0, locals := 153 }, none)
abbrev iX9_ahead : xI := (yX9_ahead, cX9_ahead, 6, (some .int), { frames := 6, cells := 0, slots := 0, locals := 153 }, none)
abbrev iX9_week : xI := (yX9_week, cX9_week, 5, (some .int), { frames := 6, cells := 0, slots := 0, locals := 153 }, none)
abbrev iX9_cleft : xI := (yX9_cleft, cX9_cleft, 3, (some .int), { frames := 6, cells := 0, slots := 0, locals := 153 }, none)
abbrev iX9_misses : xI := (yX9_misses, cX9_misses, 4, (some .long), { frames := 6, cells := 0, slots := 0, locals := 153 }, none)
abbrev iX10_isIn : xI := (yX10_isIn, cX10_isIn, 3, (some .boolean), { frames := 0, cells := 0, slots := 0, locals := 0 }, none)
abbrev iX10_at : xI := (yX10_at, cX10_at, 2, (some .int), { frames := 0, cells := 0, slots := 0, locals := 0 }, none)
abbrev iX10_isGauge : xI := (yX10_isGauge, cX10_isGauge, 2, (some .boolean), { frames := 0, cells := 0, slots := 0, locals := 0 }, none)
abbrev iX10_fails : xI := (yX10_fails, cX10_fails, 4, (some .int), { frames := 1, cells := 0, slots := 0, locals := 22 }, none)
abbrev iX10_put : xI := (yX10_put, cX10_put, 8, (some .int), { frames := 1, cells := 0, slots := 0, locals := 22 }, none)
abbrev iX10_lift : xI := (yX10_lift, cX10_lift, 4, (some .int), { frames := 2, cells := 0, slots := 0, locals := 45 }, none)
abbrev iX10_look : xI := (yX10_look, cX10_look, 3, (some .int), { frames := 2, cells := 0, slots := 0, locals := 45 }, none)
abbrev iX10_read : xI := (yX10_read, cX10_read, 5, (some .int), { frames := 2, cells := 0, slots := 0, locals := 45 }, none)
abbrev iX10_full : xI := (yX10_full, cX10_full, 4, (some .int), { frames := 2, cells := 0, slots := 0, locals := 45 }, none)
abbrev iX10_melt : xI := (yX10_melt, cX10_melt, 5, (some .int), { frames := 2, cells := 0, slots := 0, locals := 45 }, none)
abbrev iX10_other : xI := (yX10_other, cX10_other, 4, (some .int), { frames := 2, cells := 0, slots := 0, locals := 45 }, none)
abbrev iX10_hand : xI := (yX10_hand, cX10_hand, 5, (some .int), { frames := 2, cells := 0, slots := 0, locals := 45 }, none)
abbrev iX10_close : xI := (yX10_close, cX10_close, 1, (some .int), { frames := 0, cells := 0, slots := 0, locals := 0 }, none)
abbrev iX10_today : xI := (yX10_today, cX10_today, 1, (some .int), { frames := 0, cells := 0, slots := 0, locals := 0 }, none)
abbrev iX10_set : xI := (yX10_set, cX10_set, 3, (some .boolean), { frames := 1, cells := 0, slots := 0, locals := 22 }, none)
abbrev iX10_byHand : xI := (yX10_byHand, cX10_byHand, 6, (some .int), { frames := 0, cells := 0, slots := 0, locals := 0 }, none)
abbrev iX10_tipped : xI := (yX10_tipped, cX10_tipped, 4, (some .int), { frames := 1, cells := 0, slots := 0, locals := 21 }, none)
abbrev iX10_rawAt : xI := (yX10_rawAt, cX10_rawAt, 7, (some .int), { frames := 2, cells := 0, slots := 0, locals := 44 }, none)
abbrev iX10_raw0 : xI := (yX10_raw0, cX10_raw0, 3, (some .int), { frames := 3, cells := 0, slots := 0, locals := 70 }, none)
abbrev iX10_raw : xI := (yX10_raw, cX10_raw, 4, (some .int), { frames := 4, cells := 0, slots := 0, locals := 92 }, none)
abbrev iX10_known : xI := (yX10_known, cX10_known, 5, (some .int), { frames := 3, cells := 0, slots := 0, locals := 70 }, none)
abbrev iX10_far : xI := (yX10_far, cX10_far, 4, (some .int), { frames := 0, cells := 0, slots := 0, locals := 0 }, none)
abbrev iX10_doubt : xI := (yX10_doubt, cX10_doubt, 10, (some .int), { frames := 4, cells := 0, slots := 0, locals := 92 }, none)
abbrev iX10_trusted : xI := (yX10_trusted, cX10_trusted, 3, (some .int), { frames := 5, cells := 0, slots := 0, locals := 121 }, none)
abbrev iX10_why : xI := (yX10_why, cX10_why, 4, (some .int), { frames := 5, cells := 0, slots := 0, locals := 121 }, none)
abbrev iX10_rows : xI := (yX10_rows, cX10_rows, 5, (some .int), { frames := 1, cells := 0, slots := 0, locals := 23 }, none)
abbrev iX10_bys : xI := (yX10_bys, cX10_bys, 6, (some .int), { frames := 6, cells := 0, slots := 0, locals := 143 }, none)
abbrev iX10_mayMend : xI := (yX10_mayMend, cX10_mayMend, 3, (some .boolean), { frames := 6, cells := 0, slots := 0, locals := 143 }, none)
abbrev iX10_mended : xI := (yX10_mended, cX10_mended, 17, (some .int), { frames := 7, cells := 0, slots := 0, locals := 168 }, none)
abbrev iX10_from : xI := (yX10_from, cX10_from, 5, (some .int), { frames := 7, cells := 0, slots := 0, locals := 168 }, none)
abbrev iX10_readOn : xI := (yX10_readOn, cX10_readOn, 4, (some .int), { frames := 1, cells := 0, slots := 0, locals := 22 }, none)
abbrev iX10_spread : xI := (yX10_spread, cX10_spread, 14, (some .int), { frames := 6, cells := 0, slots := 0, locals := 143 }, none)
abbrev iX10_tells : xI := (yX10_tells, cX10_tells, 3, (some .boolean), { frames := 6, cells := 0, slots := 0, locals := 143 }, none)
abbrev iX10_state : xI := (yX10_state, cX10_state, 4, (some .int), { frames := 8, cells := 0, slots := 0, locals := 204 }, none)
abbrev iX10_number0 : xI := (yX10_number0, cX10_number0, 4, (some .int), { frames := 8, cells := 0, slots := 0, locals := 204 }, none)
abbrev iX10_number : xI := (yX10_number, cX10_number, 4, (some .int), { frames := 9, cells := 0, slots := 0, locals := 227 }, none)
abbrev iX10_owner : xI := (yX10_owner, cX10_owner, 6, (some .int), { frames := 7, cells := 0, slots := 0, locals := 165 }, none)
abbrev iX10_part : xI := (yX10_part, cX10_part, 4, (some .int), { frames := 8, cells := 0, slots := 0, locals := 190 }, none)
abbrev iX10_squares : xI := (yX10_squares, cX10_squares, 6, (some .int), { frames := 8, cells := 0, slots := 0, locals := 190 }, none)
abbrev iX10_many : xI := (yX10_many, cX10_many, 4, (some .int), { frames := 0, cells := 0, slots := 0, locals := 0 }, none)
abbrev iX10_valley : xI := (yX10_valley, cX10_valley, 5, (some .int), { frames := 1, cells := 0, slots := 0, locals := 23 }, none)
abbrev iX10_isTold : xI := (yX10_isTold, cX10_isTold, 4, (some .boolean), { frames := 7, cells := 0, slots := 0, locals := 165 }, none)
abbrev iX10_rain0 : xI := (yX10_rain0, cX10_rain0, 5, (some .int), { frames := 9, cells := 0, slots := 0, locals := 227 }, none)
abbrev iX10_rain : xI := (yX10_rain, cX10_rain, 3, (some .int), { frames := 10, cells := 0, slots := 0, locals := 251 }, none)
abbrev iX10_mean : xI := (yX10_mean, cX10_mean, 3, (some .int), { frames := 10, cells := 0, slots := 0, locals := 251 }, none)
abbrev iX10_flow0 : xI := (yX10_flow0, cX10_flow0, 7, (some .long), { frames := 10, cells := 0, slots := 0, locals := 251 }, none)
abbrev iX10_flow : xI := (yX10_flow, cX10_flow, 3, (some .long), { frames := 11, cells := 0, slots := 0, locals := 277 }, none)
abbrev iX10_ahead : xI := (yX10_ahead, cX10_ahead, 5, (some .int), { frames := 11, cells := 0, slots := 0, locals := 277 }, none)
abbrev iX10_weekOf : xI := (yX10_weekOf, cX10_weekOf, 14, (some .long), { frames := 6, cells := 0, slots := 0, locals := 143 }, none)
abbrev iX10_failsStore : xI := (yX10_failsStore, cX10_failsStore, 3, (some .int), { frames := 2, cells := 0, slots := 0, locals := 45 }, none)
abbrev iX10_week : xI := (yX10_week, cX10_week, 5, (some .int), { frames := 7, cells := 0, slots := 0, locals := 176 }, none)
abbrev iX10_apart : xI := (yX10_apart, cX10_apart, 12, (some .long), { frames := 0, cells := 0, slots := 0, locals := 0 }, none)
abbrev iX10_weeks : xI := (yX10_weeks, cX10_weeks, 3, none, { frames := 7, cells := 0, slots := 0, locals := 176 }, none)
abbrev iX10_cleft : xI := (yX10_cleft, cX10_cleft, 6, (some .int), { frames := 8, cells := 0, slots := 0, locals := 198 }, none)
abbrev iX10_misses : xI := (yX10_misses, cX10_misses, 4, (some .long), { frames := 8, cells := 0, slots := 0, locals := 198 }, none)
theorem meJ7_fill_53178 : xMeS iJ7_fill_53178 := ⟨⟨xword 114 (by decide +kernel) rfl, xword 52 (by decide +kernel) rfl, by decide +kernel, by decide +kernel⟩, xword 113 (by decide +kernel) rfl⟩
theorem prJ7_fill_53178 : (parseMethodDescriptor yJ7_fill_53178.desc).map (fun d => d.parameters.length) = some 2 := by decide +kernel
theorem meX0_doubtOf : xMeV iX0_doubtOf := ⟨⟨xword 529 (by decide +kernel) rfl, xword 53 (by decide +kernel) rfl, by decide +kernel, by decide +kernel⟩, xword 527 (by decide +kernel) rfl, xword 528 (by decide +kernel) rfl⟩
theorem prX0_doubtOf : (parseMethodDescriptor yX0_doubtOf.desc).map (fun d => d.parameters.length) = some 2 := by decide +kernel
theorem meX0_doubtingRule : xMeV iX0_doubtingRule := ⟨⟨xword 483 (by decide +kernel) rfl, xword 53 (by decide +kernel) rfl, by decide +kernel, by decide +kernel⟩, xword 482 (by decide +kernel) rfl, xword 9 (by decide +kernel) rfl⟩
theorem prX0_doubtingRule : (parseMethodDescriptor yX0_doubtingRule.desc).map (fun d => d.parameters.length) = some 2 := by decide +kernel
theorem meX0_isDryAmongWet : xMeV iX0_isDryAmongWet := ⟨⟨xword 491 (by decide +kernel) rfl, xword 53 (by decide +kernel) rfl, by decide +kernel, by decide +kernel⟩, xword 490 (by decide +kernel) rfl, xword 10 (by decide +kernel) rfl⟩
theorem prX0_isDryAmongWet : (parseMethodDescriptor yX0_isDryAmongWet.desc).map (fun d => d.parameters.length) = some 2 := by decide +kernel
theorem meX0_isTrustedThrough : xMeV iX0_isTrustedThrough := ⟨⟨xword 517 (by decide +kernel) rfl, xword 53 (by decide +kernel) rfl, by decide +kernel, by decide +kernel⟩, xword 516 (by decide +kernel) rfl, xword 14 (by decide +kernel) rfl⟩
theorem prX0_isTrustedThrough : (parseMethodDescriptor yX0_isTrustedThrough.desc).map (fun d => d.parameters.length) = some 3 := by decide +kernel
theorem meX0_nearestTrusted : xMeV iX0_nearestTrusted := ⟨⟨xword 513 (by decide +kernel) rfl, xword 53 (by decide +kernel) rfl, by decide +kernel, by decide +kernel⟩, xword 512 (by decide +kernel) rfl, xword 13 (by decide +kernel) rfl⟩
theorem prX0_nearestTrusted : (parseMethodDescriptor yX0_nearestTrusted.desc).map (fun d => d.parameters.length) = some 3 := by decide +kernel
theorem meX0_rewrite : xMeV iX0_rewrite := ⟨⟨xword 467 (by decide +kernel) rfl, xword 53 (by decide +kernel) rfl, by decide +kernel, by decide +kernel⟩, xword 465 (by decide +kernel) rfl, xword 466 (by decide +kernel) rfl⟩
theorem prX0_rewrite : (parseMethodDescriptor yX0_rewrite.desc).map (fun d => d.parameters.length) = some 0 := by decide +kernel
theorem meX0_spread : xMeV iX0_spread := ⟨⟨xword 509 (by decide +kernel) rfl, xword 53 (by decide +kernel) rfl, by decide +kernel, by decide +kernel⟩, xword 508 (by decide +kernel) rfl, xword 12 (by decide +kernel) rfl⟩
theorem prX0_spread : (parseMethodDescriptor yX0_spread.desc).map (fun d => d.parameters.length) = some 3 := by decide +kernel
theorem meX0_spreadRest : xMeV iX0_spreadRest := ⟨⟨xword 525 (by decide +kernel) rfl, xword 53 (by decide +kernel) rfl, by decide +kernel, by decide +kernel⟩, xword 524 (by decide +kernel) rfl, xword 16 (by decide +kernel) rfl⟩
theorem prX0_spreadRest : (parseMethodDescriptor yX0_spreadRest.desc).map (fun d => d.parameters.length) = some 4 := by decide +kernel
theorem meX0_sumTrusted : xMeV iX0_sumTrusted := ⟨⟨xword 521 (by decide +kernel) rfl, xword 53 (by decide +kernel) rfl, by decide +kernel, by decide +kernel⟩, xword 520 (by decide +kernel) rfl, xword 15 (by decide +kernel) rfl⟩
theorem prX0_sumTrusted : (parseMethodDescriptor yX0_sumTrusted.desc).map (fun d => d.parameters.length) = some 3 := by decide +kernel
theorem meX0_toldOf : xMeV iX0_toldOf := ⟨⟨xword 539 (by decide +kernel) rfl, xword 53 (by decide +kernel) rfl, by decide +kernel, by decide +kernel⟩, xword 537 (by decide +kernel) rfl, xword 538 (by decide +kernel) rfl⟩
theorem prX0_toldOf : (parseMethodDescriptor yX0_toldOf.desc).map (fun d => d.parameters.length) = some 2 := by decide +kernel
theorem meX0_trustedOf : xMeV iX0_trustedOf := ⟨⟨xword 552 (by decide +kernel) rfl, xword 53 (by decide +kernel) rfl, by decide +kernel, by decide +kernel⟩, xword 550 (by decide +kernel) rfl, xword 551 (by decide +kernel) rfl⟩
theorem prX0_trustedOf : (parseMethodDescriptor yX0_trustedOf.desc).map (fun d => d.parameters.length) = some 2 := by decide +kernel
theorem meX0_writeSpread : xMeV iX0_writeSpread := ⟨⟨xword 505 (by decide +kernel) rfl, xword 53 (by decide +kernel) rfl, by decide +kernel, by decide +kernel⟩, xword 504 (by decide +kernel) rfl, xword 11 (by decide +kernel) rfl⟩
theorem prX0_writeSpread : (parseMethodDescriptor yX0_writeSpread.desc).map (fun d => d.parameters.length) = some 2 := by decide +kernel
theorem meX0_writeTrust : xMeV iX0_writeTrust := ⟨⟨xword 479 (by decide +kernel) rfl, xword 53 (by decide +kernel) rfl, by decide +kernel, by decide +kernel⟩, xword 478 (by decide +kernel) rfl, xword 8 (by decide +kernel) rfl⟩
theorem prX0_writeTrust : (parseMethodDescriptor yX0_writeTrust.desc).map (fun d => d.parameters.length) = some 2 := by decide +kernel
theorem meX10_apart : xMeV iX10_apart := ⟨⟨xword 997 (by decide +kernel) rfl, xword 59 (by decide +kernel) rfl, by decide +kernel, by decide +kernel⟩, xword 996 (by decide +kernel) rfl, xword 46 (by decide +kernel) rfl⟩
theorem prX10_apart : (parseMethodDescriptor yX10_apart.desc).map (fun d => d.parameters.length) = some 2 := by decide +kernel
theorem meX10_at : xMeS iX10_at := ⟨⟨xword 791 (by decide +kernel) rfl, xword 59 (by decide +kernel) rfl, by decide +kernel, by decide +kernel⟩, xword 790 (by decide +kernel) rfl⟩
theorem prX10_at : (parseMethodDescriptor yX10_at.desc).map (fun d => d.parameters.length) = some 2 := by decide +kernel
theorem meX10_byHand : xMeV iX10_byHand := ⟨⟨xword 855 (by decide +kernel) rfl, xword 59 (by decide +kernel) rfl, by decide +kernel, by decide +kernel⟩, xword 854 (by decide +kernel) rfl, xword 25 (by decide +kernel) rfl⟩
theorem prX10_byHand : (parseMethodDescriptor yX10_byHand.desc).map (fun d => d.parameters.length) = some 3 := by decide +kernel
theorem meX10_bys : xMeV iX10_bys := ⟨⟨xword 883 (by decide +kernel) rfl, xword 59 (by decide +kernel) rfl, by decide +kernel, by decide +kernel⟩, xword 882 (by decide +kernel) rfl, xword 29 (by decide +kernel) rfl⟩
theorem prX10_bys : (parseMethodDescriptor yX10_bys.desc).map (fun d => d.parameters.length) = some 2 := by decide +kernel
theorem meX10_doubt : xMeV iX10_doubt := ⟨⟨xword 871 (by decide +kernel) rfl, xword 59 (by decide +kernel) rfl, by decide +kernel, by decide +kernel⟩, xword 870 (by decide +kernel) rfl, xword 27 (by decide +kernel) rfl⟩
theorem prX10_doubt : (parseMethodDescriptor yX10_doubt.desc).map (fun d => d.parameters.length) = some 2 := by decide +kernel
theorem meX10_fails : xMeV iX10_fails := ⟨⟨xword 799 (by decide +kernel) rfl, xword 59 (by decide +kernel) rfl, by decide +kernel, by decide +kernel⟩, xword 798 (by decide +kernel) rfl, xword 21 (by decide +kernel) rfl⟩
theorem prX10_fails : (parseMethodDescriptor yX10_fails.desc).map (fun d => d.parameters.length) = some 3 := by decide +kernel
theorem meX10_failsStore : xMeV iX10_failsStore := ⟨⟨xword 981 (by decide +kernel) rfl, xword 59 (by decide +kernel) rfl, by decide +kernel, by decide +kernel⟩, xword 980 (by decide +kernel) rfl, xword 43 (by decide +kernel) rfl⟩
theorem prX10_failsStore : (parseMethodDescriptor yX10_failsStore.desc).map (fun d => d.parameters.length) = some 1 := by decide +kernel
theorem meX10_far : xMeV iX10_far := ⟨⟨xword 875 (by decide +kernel) rfl, xword 59 (by decide +kernel) rfl, by decide +kernel, by decide +kernel⟩, xword 874 (by decide +kernel) rfl, xword 28 (by decide +kernel) rfl⟩
theorem prX10_far : (parseMethodDescriptor yX10_far.desc).map (fun d => d.parameters.length) = some 3 := by decide +kernel
theorem meX10_flow0 : xMeV iX10_flow0 := ⟨⟨xword 968 (by decide +kernel) rfl, xword 59 (by decide +kernel) rfl, by decide +kernel, by decide +kernel⟩, xword 967 (by decide +kernel) rfl, xword 42 (by decide +kernel) rfl⟩
theorem prX10_flow0 : (parseMethodDescriptor yX10_flow0.desc).map (fun d => d.parameters.length) = some 2 := by decide +kernel
theorem meX10_isGauge : xMeV iX10_isGauge := ⟨⟨xword 851 (by decide +kernel) rfl, xword 59 (by decide +kernel) rfl, by decide +kernel, by decide +kernel⟩, xword 850 (by decide +kernel) rfl, xword 24 (by decide +kernel) rfl⟩
theorem prX10_isGauge : (parseMethodDescriptor yX10_isGauge.desc).map (fun d => d.parameters.length) = some 1 := by decide +kernel
theorem meX10_isIn : xMeS iX10_isIn := ⟨⟨xword 788 (by decide +kernel) rfl, xword 59 (by decide +kernel) rfl, by decide +kernel, by decide +kernel⟩, xword 787 (by decide +kernel) rfl⟩
theorem prX10_isIn : (parseMethodDescriptor yX10_isIn.desc).map (fun d => d.parameters.length) = some 3 := by decide +kernel
theorem meX10_isTold : xMeV iX10_isTold := ⟨⟨xword 956 (by decide +kernel) rfl, xword 59 (by decide +kernel) rfl, by decide +kernel, by decide +kernel⟩, xword 955 (by decide +kernel) rfl, xword 41 (by decide +kernel) rfl⟩
theorem prX10_isTold : (parseMethodDescriptor yX10_isTold.desc).map (fun d => d.parameters.length) = some 1 := by decide +kernel
theorem meX10_many : xMeV iX10_many := ⟨⟨xword 944 (by decide +kernel) rfl, xword 59 (by decide +kernel) rfl, by decide +kernel, by decide +kernel⟩, xword 943 (by decide +kernel) rfl, xword 39 (by decide +kernel) rfl⟩
theorem prX10_many : (parseMethodDescriptor yX10_many.desc).map (fun d => d.parameters.length) = some 1 := by decide +kernel
theorem meX10_mayMend : xMeV iX10_mayMend := ⟨⟨xword 907 (by decide +kernel) rfl, xword 59 (by decide +kernel) rfl, by decide +kernel, by decide +kernel⟩, xword 906 (by decide +kernel) rfl, xword 34 (by decide +kernel) rfl⟩
theorem prX10_mayMend : (parseMethodDescriptor yX10_mayMend.desc).map (fun d => d.parameters.length) = some 2 := by decide +kernel
theorem meX10_mended : xMeV iX10_mended := ⟨⟨xword 903 (by decide +kernel) rfl, xword 59 (by decide +kernel) rfl, by decide +kernel, by decide +kernel⟩, xword 902 (by decide +kernel) rfl, xword 33 (by decide +kernel) rfl⟩
theorem prX10_mended : (parseMethodDescriptor yX10_mended.desc).map (fun d => d.parameters.length) = some 2 := by decide +kernel
theorem meX10_number0 : xMeV iX10_number0 := ⟨⟨xword 916 (by decide +kernel) rfl, xword 59 (by decide +kernel) rfl, by decide +kernel, by decide +kernel⟩, xword 915 (by decide +kernel) rfl, xword 35 (by decide +kernel) rfl⟩
theorem prX10_number0 : (parseMethodDescriptor yX10_number0.desc).map (fun d => d.parameters.length) = some 2 := by decide +kernel
theorem meX10_owner : xMeV iX10_owner := ⟨⟨xword 928 (by decide +kernel) rfl, xword 59 (by decide +kernel) rfl, by decide +kernel, by decide +kernel⟩, xword 927 (by decide +kernel) rfl, xword 37 (by decide +kernel) rfl⟩
theorem prX10_owner : (parseMethodDescriptor yX10_owner.desc).map (fun d => d.parameters.length) = some 3 := by decide +kernel
theorem meX10_rain0 : xMeV iX10_rain0 := ⟨⟨xword 952 (by decide +kernel) rfl, xword 59 (by decide +kernel) rfl, by decide +kernel, by decide +kernel⟩, xword 951 (by decide +kernel) rfl, xword 40 (by decide +kernel) rfl⟩
theorem prX10_rain0 : (parseMethodDescriptor yX10_rain0.desc).map (fun d => d.parameters.length) = some 2 := by decide +kernel
theorem meX10_raw0 : xMeV iX10_raw0 := ⟨⟨xword 843 (by decide +kernel) rfl, xword 59 (by decide +kernel) rfl, by decide +kernel, by decide +kernel⟩, xword 842 (by decide +kernel) rfl, xword 22 (by decide +kernel) rfl⟩
theorem prX10_raw0 : (parseMethodDescriptor yX10_raw0.desc).map (fun d => d.parameters.length) = some 2 := by decide +kernel
theorem meX10_rawAt : xMeV iX10_rawAt := ⟨⟨xword 847 (by decide +kernel) rfl, xword 59 (by decide +kernel) rfl, by decide +kernel, by decide +kernel⟩, xword 846 (by decide +kernel) rfl, xword 23 (by decide +kernel) rfl⟩
theorem prX10_rawAt : (parseMethodDescriptor yX10_rawAt.desc).map (fun d => d.parameters.length) = some 3 := by decide +kernel
theorem meX10_readOn : xMeV iX10_readOn := ⟨⟨xword 899 (by decide +kernel) rfl, xword 59 (by decide +kernel) rfl, by decide +kernel, by decide +kernel⟩, xword 898 (by decide +kernel) rfl, xword 32 (by decide +kernel) rfl⟩
theorem prX10_readOn : (parseMethodDescriptor yX10_readOn.desc).map (fun d => d.parameters.length) = some 2 := by decide +kernel
theorem meX10_rows : xMeV iX10_rows := ⟨⟨xword 887 (by decide +kernel) rfl, xword 59 (by decide +kernel) rfl, by decide +kernel, by decide +kernel⟩, xword 886 (by decide +kernel) rfl, xword 30 (by decide +kernel) rfl⟩
theorem prX10_rows : (parseMethodDescriptor yX10_rows.desc).map (fun d => d.parameters.length) = some 1 := by decide +kernel
theorem meX10_spread : xMeV iX10_spread := ⟨⟨xword 920 (by decide +kernel) rfl, xword 59 (by decide +kernel) rfl, by decide +kernel, by decide +kernel⟩, xword 919 (by decide +kernel) rfl, xword 36 (by decide +kernel) rfl⟩
theorem prX10_spread : (parseMethodDescriptor yX10_spread.desc).map (fun d => d.parameters.length) = some 2 := by decide +kernel
theorem meX10_tells : xMeV iX10_tells := ⟨⟨xword 932 (by decide +kernel) rfl, xword 59 (by decide +kernel) rfl, by decide +kernel, by decide +kernel⟩, xword 931 (by decide +kernel) rfl, xword 38 (by decide +kernel) rfl⟩
theorem prX10_tells : (parseMethodDescriptor yX10_tells.desc).map (fun d => d.parameters.length) = some 2 := by decide +kernel
theorem meX10_tipped : xMeV iX10_tipped := ⟨⟨xword 859 (by decide +kernel) rfl, xword 59 (by decide +kernel) rfl, by decide +kernel, by decide +kernel⟩, xword 858 (by decide +kernel) rfl, xword 26 (by decide +kernel) rfl⟩
theorem prX10_tipped : (parseMethodDescriptor yX10_tipped.desc).map (fun d => d.parameters.length) = some 2 := by decide +kernel
theorem meX10_trusted : xMeV iX10_trusted := ⟨⟨xword 891 (by decide +kernel) rfl, xword 59 (by decide +kernel) rfl, by decide +kernel, by decide +kernel⟩, xword 890 (by decide +kernel) rfl, xword 31 (by decide +kernel) rfl⟩
theorem prX10_trusted : (parseMethodDescriptor yX10_trusted.desc).map (fun d => d.parameters.length) = some 2 := by decide +kernel
theorem meX10_weekOf : xMeV iX10_weekOf := ⟨⟨xword 985 (by decide +kernel) rfl, xword 59 (by decide +kernel) rfl, by decide +kernel, by decide +kernel⟩, xword 984 (by decide +kernel) rfl, xword 44 (by decide +kernel) rfl⟩
theorem prX10_weekOf : (parseMethodDescriptor yX10_weekOf.desc).map (fun d => d.parameters.length) = some 3 := by decide +kernel
theorem meX10_weeks : xMeV iX10_weeks := ⟨⟨xword 993 (by decide +kernel) rfl, xword 59 (by decide +kernel) rfl, by decide +kernel, by decide +kernel⟩, xword 992 (by decide +kernel) rfl, xword 45 (by decide +kernel) rfl⟩
theorem prX10_weeks : (parseMethodDescriptor yX10_weeks.desc).map (fun d => d.parameters.length) = some 1 := by decide +kernel
theorem meX1_gatherNeighbours : xMeV iX1_gatherNeighbours := ⟨⟨xword 654 (by decide +kernel) rfl, xword 58 (by decide +kernel) rfl, by decide +kernel, by decide +kernel⟩, xword 653 (by decide +kernel) rfl, xword 18 (by decide +kernel) rfl⟩
theorem prX1_gatherNeighbours : (parseMethodDescriptor yX1_gatherNeighbours.desc).map (fun d => d.parameters.length) = some 1 := by decide +kernel
theorem meX1_leastBreak : xMeV iX1_leastBreak := ⟨⟨xword 677 (by decide +kernel) rfl, xword 58 (by decide +kernel) rfl, by decide +kernel, by decide +kernel⟩, xword 675 (by decide +kernel) rfl, xword 676 (by decide +kernel) rfl⟩
theorem prX1_leastBreak : (parseMethodDescriptor yX1_leastBreak.desc).map (fun d => d.parameters.length) = some 1 := by decide +kernel
theorem meX1_missesAt : xMeV iX1_missesAt := ⟨⟨xword 681 (by decide +kernel) rfl, xword 58 (by decide +kernel) rfl, by decide +kernel, by decide +kernel⟩, xword 679 (by decide +kernel) rfl, xword 680 (by decide +kernel) rfl⟩
theorem prX1_missesAt : (parseMethodDescriptor yX1_missesAt.desc).map (fun d => d.parameters.length) = some 2 := by decide +kernel
theorem meX1_missesOfPart : xMeV iX1_missesOfPart := ⟨⟨xword 685 (by decide +kernel) rfl, xword 58 (by decide +kernel) rfl, by decide +kernel, by decide +kernel⟩, xword 684 (by decide +kernel) rfl, xword 20 (by decide +kernel) rfl⟩
theorem prX1_missesOfPart : (parseMethodDescriptor yX1_missesOfPart.desc).map (fun d => d.parameters.length) = some 2 := by decide +kernel
theorem meX1_sumOfNeighbours : xMeV iX1_sumOfNeighbours := ⟨⟨xword 664 (by decide +kernel) rfl, xword 58 (by decide +kernel) rfl, by decide +kernel, by decide +kernel⟩, xword 663 (by decide +kernel) rfl, xword 19 (by decide +kernel) rfl⟩
theorem prX1_sumOfNeighbours : (parseMethodDescriptor yX1_sumOfNeighbours.desc).map (fun d => d.parameters.length) = some 2 := by decide +kernel
theorem meX1_sumWeeks : xMeV iX1_sumWeeks := ⟨⟨xword 650 (by decide +kernel) rfl, xword 58 (by decide +kernel) rfl, by decide +kernel, by decide +kernel⟩, xword 648 (by decide +kernel) rfl, xword 649 (by decide +kernel) rfl⟩
theorem prX1_sumWeeks : (parseMethodDescriptor yX1_sumWeeks.desc).map (fun d => d.parameters.length) = some 2 := by decide +kernel
theorem meX2_offer : xMeV iX2_offer := ⟨⟨xword 557 (by decide +kernel) rfl, xword 55 (by decide +kernel) rfl, by decide +kernel, by decide +kernel⟩, xword 555 (by decide +kernel) rfl, xword 556 (by decide +kernel) rfl⟩
theorem prX2_offer : (parseMethodDescriptor yX2_offer.desc).map (fun d => d.parameters.length) = some 2 := by decide +kernel
theorem meX2_placeAt : xMeV iX2_placeAt := ⟨⟨xword 584 (by decide +kernel) rfl, xword 55 (by decide +kernel) rfl, by decide +kernel, by decide +kernel⟩, xword 582 (by decide +kernel) rfl, xword 583 (by decide +kernel) rfl⟩
theorem prX2_placeAt : (parseMethodDescriptor yX2_placeAt.desc).map (fun d => d.parameters.length) = some 1 := by decide +kernel
theorem meX3_append : xMeV iX3_append := ⟨⟨xword 405 (by decide +kernel) rfl, xword 50 (by decide +kernel) rfl, by decide +kernel, by decide +kernel⟩, xword 403 (by decide +kernel) rfl, xword 404 (by decide +kernel) rfl⟩
theorem prX3_append : (parseMethodDescriptor yX3_append.desc).map (fun d => d.parameters.length) = some 3 := by decide +kernel
theorem meX3_latestUntil : xMeV iX3_latestUntil := ⟨⟨xword 439 (by decide +kernel) rfl, xword 50 (by decide +kernel) rfl, by decide +kernel, by decide +kernel⟩, xword 437 (by decide +kernel) rfl, xword 438 (by decide +kernel) rfl⟩
theorem prX3_latestUntil : (parseMethodDescriptor yX3_latestUntil.desc).map (fun d => d.parameters.length) = some 2 := by decide +kernel
theorem meX4_countOwned : xMeV iX4_countOwned := ⟨⟨xword 602 (by decide +kernel) rfl, xword 56 (by decide +kernel) rfl, by decide +kernel, by decide +kernel⟩, xword 600 (by decide +kernel) rfl, xword 601 (by decide +kernel) rfl⟩
theorem prX4_countOwned : (parseMethodDescriptor yX4_countOwned.desc).map (fun d => d.parameters.length) = some 3 := by decide +kernel
theorem meX4_flowOf : xMeV iX4_flowOf := ⟨⟨xword 635 (by decide +kernel) rfl, xword 56 (by decide +kernel) rfl, by decide +kernel, by decide +kernel⟩, xword 633 (by decide +kernel) rfl, xword 634 (by decide +kernel) rfl⟩
theorem prX4_flowOf : (parseMethodDescriptor yX4_flowOf.desc).map (fun d => d.parameters.length) = some 3 := by decide +kernel
theorem meX4_ownerOf : xMeV iX4_ownerOf := ⟨⟨xword 592 (by decide +kernel) rfl, xword 56 (by decide +kernel) rfl, by decide +kernel, by decide +kernel⟩, xword 590 (by decide +kernel) rfl, xword 591 (by decide +kernel) rfl⟩
theorem prX4_ownerOf : (parseMethodDescriptor yX4_ownerOf.desc).map (fun d => d.parameters.length) = some 4 := by decide +kernel
theorem meX4_rainOf : xMeV iX4_rainOf := ⟨⟨xword 622 (by decide +kernel) rfl, xword 56 (by decide +kernel) rfl, by decide +kernel, by decide +kernel⟩, xword 620 (by decide +kernel) rfl, xword 621 (by decide +kernel) rfl⟩
theorem prX4_rainOf : (parseMethodDescriptor yX4_rainOf.desc).map (fun d => d.parameters.length) = some 3 := by decide +kernel
theorem meX5_gather : xMeV iX5_gather := ⟨⟨xword 543 (by decide +kernel) rfl, xword 54 (by decide +kernel) rfl, by decide +kernel, by decide +kernel⟩, xword 541 (by decide +kernel) rfl, xword 542 (by decide +kernel) rfl⟩
theorem prX5_gather : (parseMethodDescriptor yX5_gather.desc).map (fun d => d.parameters.length) = some 3 := by decide +kernel
theorem meX5_mend : xMeV iX5_mend := ⟨⟨xword 566 (by decide +kernel) rfl, xword 54 (by decide +kernel) rfl, by decide +kernel, by decide +kernel⟩, xword 564 (by decide +kernel) rfl, xword 565 (by decide +kernel) rfl⟩
theorem prX5_mend : (parseMethodDescriptor yX5_mend.desc).map (fun d => d.parameters.length) = some 3 := by decide +kernel
theorem meX5_nearness : xMeS iX5_nearness := ⟨⟨xword 570 (by decide +kernel) rfl, xword 54 (by decide +kernel) rfl, by decide +kernel, by decide +kernel⟩, xword 569 (by decide +kernel) rfl⟩
theorem prX5_nearness : (parseMethodDescriptor yX5_nearness.desc).map (fun d => d.parameters.length) = some 1 := by decide +kernel
theorem meX5_thousandthsBy : xMeV iX5_thousandthsBy := ⟨⟨xword 575 (by decide +kernel) rfl, xword 54 (by decide +kernel) rfl, by decide +kernel, by decide +kernel⟩, xword 574 (by decide +kernel) rfl, xword 17 (by decide +kernel) rfl⟩
theorem prX5_thousandthsBy : (parseMethodDescriptor yX5_thousandthsBy.desc).map (fun d => d.parameters.length) = some 4 := by decide +kernel
theorem meX6_daysBegun : xMeV iX6_daysBegun := ⟨⟨xword 471 (by decide +kernel) rfl, xword 49 (by decide +kernel) rfl, by decide +kernel, by decide +kernel⟩, xword 469 (by decide +kernel) rfl, xword 470 (by decide +kernel) rfl⟩
theorem prX6_daysBegun : (parseMethodDescriptor yX6_daysBegun.desc).map (fun d => d.parameters.length) = some 0 := by decide +kernel
theorem meX6_lastWholeWeek : xMeV iX6_lastWholeWeek := ⟨⟨xword 673 (by decide +kernel) rfl, xword 49 (by decide +kernel) rfl, by decide +kernel, by decide +kernel⟩, xword 671 (by decide +kernel) rfl, xword 672 (by decide +kernel) rfl⟩
theorem prX6_lastWholeWeek : (parseMethodDescriptor yX6_lastWholeWeek.desc).map (fun d => d.parameters.length) = some 0 := by decide +kernel
theorem meX6_numberKnown : xMeV iX6_numberKnown := ⟨⟨xword 433 (by decide +kernel) rfl, xword 49 (by decide +kernel) rfl, by decide +kernel, by decide +kernel⟩, xword 431 (by decide +kernel) rfl, xword 432 (by decide +kernel) rfl⟩
theorem prX6_numberKnown : (parseMethodDescriptor yX6_numberKnown.desc).map (fun d => d.parameters.length) = some 3 := by decide +kernel
theorem meX6_rule : xMeV iX6_rule := ⟨⟨xword 487 (by decide +kernel) rfl, xword 49 (by decide +kernel) rfl, by decide +kernel, by decide +kernel⟩, xword 485 (by decide +kernel) rfl, xword 486 (by decide +kernel) rfl⟩
theorem prX6_rule : (parseMethodDescriptor yX6_rule.desc).map (fun d => d.parameters.length) = some 1 := by decide +kernel
theorem meX7_bring : xMeV iX7_bring := ⟨⟨xword 342 (by decide +kernel) rfl, xword 51 (by decide +kernel) rfl, by decide +kernel, by decide +kernel⟩, xword 340 (by decide +kernel) rfl, xword 341 (by decide +kernel) rfl⟩
theorem prX7_bring : (parseMethodDescriptor yX7_bring.desc).map (fun d => d.parameters.length) = some 5 := by decide +kernel
theorem meX7_clear : xMeV iX7_clear := ⟨⟨xword 350 (by decide +kernel) rfl, xword 51 (by decide +kernel) rfl, by decide +kernel, by decide +kernel⟩, xword 348 (by decide +kernel) rfl, xword 349 (by decide +kernel) rfl⟩
theorem prX7_clear : (parseMethodDescriptor yX7_clear.desc).map (fun d => d.parameters.length) = some 0 := by decide +kernel
theorem meX7_isDailyGauge : xMeV iX7_isDailyGauge := ⟨⟨xword 548 (by decide +kernel) rfl, xword 51 (by decide +kernel) rfl, by decide +kernel, by decide +kernel⟩, xword 546 (by decide +kernel) rfl, xword 547 (by decide +kernel) rfl⟩
theorem prX7_isDailyGauge : (parseMethodDescriptor yX7_isDailyGauge.desc).map (fun d => d.parameters.length) = some 0 := by decide +kernel
theorem meX7_isUnlike : xMeV iX7_isUnlike := ⟨⟨xword 498 (by decide +kernel) rfl, xword 51 (by decide +kernel) rfl, by decide +kernel, by decide +kernel⟩, xword 496 (by decide +kernel) rfl, xword 497 (by decide +kernel) rfl⟩
theorem prX7_isUnlike : (parseMethodDescriptor yX7_isUnlike.desc).map (fun d => d.parameters.length) = some 2 := by decide +kernel
theorem meX7_meltAway : xMeV iX7_meltAway := ⟨⟨xword 385 (by decide +kernel) rfl, xword 51 (by decide +kernel) rfl, by decide +kernel, by decide +kernel⟩, xword 383 (by decide +kernel) rfl, xword 384 (by decide +kernel) rfl⟩
theorem prX7_meltAway : (parseMethodDescriptor yX7_meltAway.desc).map (fun d => d.parameters.length) = some 2 := by decide +kernel
theorem meX7_numberRead : xMeV iX7_numberRead := ⟨⟨xword 443 (by decide +kernel) rfl, xword 51 (by decide +kernel) rfl, by decide +kernel, by decide +kernel⟩, xword 441 (by decide +kernel) rfl, xword 442 (by decide +kernel) rfl⟩
theorem prX7_numberRead : (parseMethodDescriptor yX7_numberRead.desc).map (fun d => d.parameters.length) = some 1 := by decide +kernel
theorem meX7_numberTipped : xMeV iX7_numberTipped := ⟨⟨xword 447 (by decide +kernel) rfl, xword 51 (by decide +kernel) rfl, by decide +kernel, by decide +kernel⟩, xword 446 (by decide +kernel) rfl, xword 5 (by decide +kernel) rfl⟩
theorem prX7_numberTipped : (parseMethodDescriptor yX7_numberTipped.desc).map (fun d => d.parameters.length) = some 1 := by decide +kernel
theorem meX7_numberTwinned : xMeV iX7_numberTwinned := ⟨⟨xword 451 (by decide +kernel) rfl, xword 51 (by decide +kernel) rfl, by decide +kernel, by decide +kernel⟩, xword 450 (by decide +kernel) rfl, xword 6 (by decide +kernel) rfl⟩
theorem prX7_numberTwinned : (parseMethodDescriptor yX7_numberTwinned.desc).map (fun d => d.parameters.length) = some 1 := by decide +kernel
theorem meX8_change : xMeV iX8_change := ⟨⟨xword 614 (by decide +kernel) rfl, xword 57 (by decide +kernel) rfl, by decide +kernel, by decide +kernel⟩, xword 612 (by decide +kernel) rfl, xword 613 (by decide +kernel) rfl⟩
theorem prX8_change : (parseMethodDescriptor yX8_change.desc).map (fun d => d.parameters.length) = some 2 := by decide +kernel
theorem meX9_dailyGaugeFault : xMeV iX9_dailyGaugeFault := ⟨⟨xword 401 (by decide +kernel) rfl, xword 48 (by decide +kernel) rfl, by decide +kernel, by decide +kernel⟩, xword 400 (by decide +kernel) rfl, xword 3 (by decide +kernel) rfl⟩
theorem prX9_dailyGaugeFault : (parseMethodDescriptor yX9_dailyGaugeFault.desc).map (fun d => d.parameters.length) = some 1 := by decide +kernel
theorem meX9_gaugeDayFault : xMeV iX9_gaugeDayFault := ⟨⟨xword 429 (by decide +kernel) rfl, xword 48 (by decide +kernel) rfl, by decide +kernel, by decide +kernel⟩, xword 428 (by decide +kernel) rfl, xword 4 (by decide +kernel) rfl⟩
theorem prX9_gaugeDayFault : (parseMethodDescriptor yX9_gaugeDayFault.desc).map (fun d => d.parameters.length) = some 2 := by decide +kernel
theorem meX9_gaugeFault : xMeV iX9_gaugeFault := ⟨⟨xword 362 (by decide +kernel) rfl, xword 48 (by decide +kernel) rfl, by decide +kernel, by decide +kernel⟩, xword 361 (by decide +kernel) rfl, xword 0 (by decide +kernel) rfl⟩
theorem prX9_gaugeFault : (parseMethodDescriptor yX9_gaugeFault.desc).map (fun d => d.parameters.length) = some 1 := by decide +kernel
theorem meX9_hasSize : xMeS iX9_hasSize := ⟨⟨xword 338 (by decide +kernel) rfl, xword 48 (by decide +kernel) rfl, by decide +kernel, by decide +kernel⟩, xword 337 (by decide +kernel) rfl⟩
theorem prX9_hasSize : (parseMethodDescriptor yX9_hasSize.desc).map (fun d => d.parameters.length) = some 1 := by decide +kernel
theorem meX9_isDay : xMeS iX9_isDay := ⟨⟨xword 365 (by decide +kernel) rfl, xword 48 (by decide +kernel) rfl, by decide +kernel, by decide +kernel⟩, xword 364 (by decide +kernel) rfl⟩
theorem prX9_isDay : (parseMethodDescriptor yX9_isDay.desc).map (fun d => d.parameters.length) = some 1 := by decide +kernel
theorem meX9_isPlace : xMeS iX9_isPlace := ⟨⟨xword 332 (by decide +kernel) rfl, xword 48 (by decide +kernel) rfl, by decide +kernel, by decide +kernel⟩, xword 331 (by decide +kernel) rfl⟩
theorem prX9_isPlace : (parseMethodDescriptor yX9_isPlace.desc).map (fun d => d.parameters.length) = some 1 := by decide +kernel
theorem meX9_isSquare : xMeS iX9_isSquare := ⟨⟨xword 335 (by decide +kernel) rfl, xword 48 (by decide +kernel) rfl, by decide +kernel, by decide +kernel⟩, xword 334 (by decide +kernel) rfl⟩
theorem prX9_isSquare : (parseMethodDescriptor yX9_isSquare.desc).map (fun d => d.parameters.length) = some 2 := by decide +kernel
theorem meX9_isValley : xMeS iX9_isValley := ⟨⟨xword 610 (by decide +kernel) rfl, xword 48 (by decide +kernel) rfl, by decide +kernel, by decide +kernel⟩, xword 609 (by decide +kernel) rfl⟩
theorem prX9_isValley : (parseMethodDescriptor yX9_isValley.desc).map (fun d => d.parameters.length) = some 1 := by decide +kernel
theorem meX9_kindFault : xMeV iX9_kindFault := ⟨⟨xword 373 (by decide +kernel) rfl, xword 48 (by decide +kernel) rfl, by decide +kernel, by decide +kernel⟩, xword 372 (by decide +kernel) rfl, xword 1 (by decide +kernel) rfl⟩
theorem prX9_kindFault : (parseMethodDescriptor yX9_kindFault.desc).map (fun d => d.parameters.length) = some 2 := by decide +kernel
theorem meX9_noteSecond : xMeV iX9_noteSecond := ⟨⟨xword 377 (by decide +kernel) rfl, xword 48 (by decide +kernel) rfl, by decide +kernel, by decide +kernel⟩, xword 376 (by decide +kernel) rfl, xword 2 (by decide +kernel) rfl⟩
theorem prX9_noteSecond : (parseMethodDescriptor yX9_noteSecond.desc).map (fun d => d.parameters.length) = some 3 := by decide +kernel
theorem meX9_openBooks : xMeV iX9_openBooks := ⟨⟨xword 463 (by decide +kernel) rfl, xword 48 (by decide +kernel) rfl, by decide +kernel, by decide +kernel⟩, xword 462 (by decide +kernel) rfl, xword 7 (by decide +kernel) rfl⟩
theorem prX9_openBooks : (parseMethodDescriptor yX9_openBooks.desc).map (fun d => d.parameters.length) = some 0 := by decide +kernel
theorem meX9_squaredDistance : xMeS iX9_squaredDistance := ⟨⟨xword 494 (by decide +kernel) rfl, xword 48 (by decide +kernel) rfl, by decide +kernel, by decide +kernel⟩, xword 493 (by decide +kernel) rfl⟩
theorem prX9_squaredDistance : (parseMethodDescriptor yX9_squaredDistance.desc).map (fun d => d.parameters.length) = some 3 := by decide +kernel
